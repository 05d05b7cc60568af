theorem te_PA {t ca cn cx : Nat} {mb rc rs rt rl rv mem aS aT aC aP aN ns nt nc nv nN xs xt xc xv xN : Nat → Int32} {a b d e : Int32}
    (h : te_P t 1 ca cn cx mb rc rs rt rl rv mem aS aT aC aP aN ns nt nc nv nN xs xt xc xv xN)
    (hc : ca < 24) (ha : te_tn t a) (hb : te_sn t b) :
    te_P t 1 (ca + 1) cn cx mb (upd rc 3 (nI (ca + 1))) (upd rs (72 + ca) a) (upd rt (72 + ca) b) (upd rl (72 + ca) d) (upd rv (72 + ca) e) mem (upd aS (24 + ca) a) (upd aT (24 + ca) b) (upd aC (24 + ca) d) (upd aP (24 + ca) e) (upd aN 1 (nI (ca + 1))) ns nt nc nv nN xs xt xc xv xN := by
  obtain ⟨h1, ⟨q1, q2, q3⟩, ⟨h3, h4, h5⟩, ⟨h6, h7, h8⟩, h9, h10, h11⟩ := h
  exact ⟨h1, ⟨hc, q2, q3⟩, ⟨pk_us, (pk_un (by decide)).trans h4, (pk_un (by decide)).trans h5⟩, ⟨pk_us, h7, h8⟩, te_lstP h9 ha hb trivial, te_lstM h10 (te_eq4u fun i hi => by omega) te_eq4r, te_lstM h11 (te_eq4u fun i hi => by omega) te_eq4r⟩
theorem te_QA {t ca cn cx : Nat} {mb rc rs rt rl rv mem aS aT aC aP aN ns nt nc nv nN xs xt xc xv xN : Nat → Int32} {a b d e z z' : Int32} {m : Nat}
    (h : te_P t 0 ca cn cx mb rc rs rt rl rv mem aS aT aC aP aN ns nt nc nv nN xs xt xc xv xN) :
    te_P t 0 ca cn cx mb (upd rc 3 z) (upd rs (72 + m) a) (upd rt (72 + m) b) (upd rl (72 + m) d) (upd rv (72 + m) e) mem (upd aS (24 + m) a) (upd aT (24 + m) b) (upd aC (24 + m) d) (upd aP (24 + m) e) (upd aN 1 z') ns nt nc nv nN xs xt xc xv xN := by
  obtain ⟨q1, q2, q3⟩ := h.2.1
  exact te_PM h (fun _ _ => rfl) (fun _ _ => rfl) ⟨pk_un (by decide), pk_un (by decide), pk_un (by decide)⟩ ⟨pk_un (by decide), rfl, rfl⟩ (te_eq4u fun i hi => by omega) (te_eq4u fun i hi => by omega) (te_eq4u fun i hi => by omega) (te_eq4u fun i hi => by omega) te_eq4r te_eq4r
theorem te_PN {t ca cn cx : Nat} {mb rc rs rt rl rv mem aS aT aC aP aN ns nt nc nv nN xs xt xc xv xN : Nat → Int32} {a b d e : Int32}
    (h : te_P t 1 ca cn cx mb rc rs rt rl rv mem aS aT aC aP aN ns nt nc nv nN xs xt xc xv xN)
    (hc : cn < 6) (ha : te_tn t a) (hb : te_sn t b) :
    te_P t 1 ca (cn + 1) cx mb (upd rc 4 (nI (cn + 1))) (upd rs (96 + cn) a) (upd rt (96 + cn) b) (upd rl (96 + cn) d) (upd rv (96 + cn) e) mem aS aT aC aP aN (upd ns (6 + cn) a) (upd nt (6 + cn) b) (upd nc (6 + cn) d) (upd nv (6 + cn) e) (upd nN 1 (nI (cn + 1))) xs xt xc xv xN := by
  obtain ⟨h1, ⟨q1, q2, q3⟩, ⟨h3, h4, h5⟩, ⟨h6, h7, h8⟩, h9, h10, h11⟩ := h
  exact ⟨h1, ⟨q1, hc, q3⟩, ⟨(pk_un (by decide)).trans h3, pk_us, (pk_un (by decide)).trans h5⟩, ⟨h6, pk_us, h8⟩, te_lstM h9 (te_eq4u fun i hi => by omega) te_eq4r, te_lstP h10 ha hb trivial, te_lstM h11 (te_eq4u fun i hi => by omega) te_eq4r⟩
theorem te_QN {t ca cn cx : Nat} {mb rc rs rt rl rv mem aS aT aC aP aN ns nt nc nv nN xs xt xc xv xN : Nat → Int32} {a b d e z z' : Int32} {m : Nat}
    (h : te_P t 0 ca cn cx mb rc rs rt rl rv mem aS aT aC aP aN ns nt nc nv nN xs xt xc xv xN) :
    te_P t 0 ca cn cx mb (upd rc 4 z) (upd rs (96 + m) a) (upd rt (96 + m) b) (upd rl (96 + m) d) (upd rv (96 + m) e) mem aS aT aC aP aN (upd ns (6 + m) a) (upd nt (6 + m) b) (upd nc (6 + m) d) (upd nv (6 + m) e) (upd nN 1 z') xs xt xc xv xN := by
  obtain ⟨q1, q2, q3⟩ := h.2.1
  exact te_PM h (fun _ _ => rfl) (fun _ _ => rfl) ⟨pk_un (by decide), pk_un (by decide), pk_un (by decide)⟩ ⟨rfl, pk_un (by decide), rfl⟩ (te_eq4u fun i hi => by omega) (te_eq4u fun i hi => by omega) (te_eq4u fun i hi => by omega) te_eq4r (te_eq4u fun i hi => by omega) te_eq4r
theorem te_PX {t ca cn cx : Nat} {mb rc rs rt rl rv mem aS aT aC aP aN ns nt nc nv nN xs xt xc xv xN : Nat → Int32} {a b d e : Int32}
    (h : te_P t 1 ca cn cx mb rc rs rt rl rv mem aS aT aC aP aN ns nt nc nv nN xs xt xc xv xN)
    (hc : cx < 12) (ha : te_tn t a) (hb : te_sn t b) (he : te_ty t e) :
    te_P t 1 ca cn (cx + 1) mb (upd rc 5 (nI (cx + 1))) (upd rs (120 + cx) a) (upd rt (120 + cx) b) (upd rl (120 + cx) d) (upd rv (120 + cx) e) mem aS aT aC aP aN ns nt nc nv nN (upd xs (12 + cx) a) (upd xt (12 + cx) b) (upd xc (12 + cx) d) (upd xv (12 + cx) e) (upd xN 1 (nI (cx + 1))) := by
  obtain ⟨h1, ⟨q1, q2, q3⟩, ⟨h3, h4, h5⟩, ⟨h6, h7, h8⟩, h9, h10, h11⟩ := h
  exact ⟨h1, ⟨q1, q2, hc⟩, ⟨(pk_un (by decide)).trans h3, (pk_un (by decide)).trans h4, pk_us⟩, ⟨h6, h7, pk_us⟩, te_lstM h9 (te_eq4u fun i hi => by omega) te_eq4r, te_lstM h10 (te_eq4u fun i hi => by omega) te_eq4r, te_lstP h11 ha hb he⟩
theorem te_QX {t ca cn cx : Nat} {mb rc rs rt rl rv mem aS aT aC aP aN ns nt nc nv nN xs xt xc xv xN : Nat → Int32} {a b d e z z' : Int32} {m : Nat}
    (h : te_P t 0 ca cn cx mb rc rs rt rl rv mem aS aT aC aP aN ns nt nc nv nN xs xt xc xv xN) :
    te_P t 0 ca cn cx mb (upd rc 5 z) (upd rs (120 + m) a) (upd rt (120 + m) b) (upd rl (120 + m) d) (upd rv (120 + m) e) mem aS aT aC aP aN ns nt nc nv nN (upd xs (12 + m) a) (upd xt (12 + m) b) (upd xc (12 + m) d) (upd xv (12 + m) e) (upd xN 1 z') := by
  obtain ⟨q1, q2, q3⟩ := h.2.1
  exact te_PM h (fun _ _ => rfl) (fun _ _ => rfl) ⟨pk_un (by decide), pk_un (by decide), pk_un (by decide)⟩ ⟨rfl, rfl, pk_un (by decide)⟩ (te_eq4u fun i hi => by omega) (te_eq4u fun i hi => by omega) (te_eq4u fun i hi => by omega) te_eq4r te_eq4r (te_eq4u fun i hi => by omega)
theorem te_PS {t ca cn cx : Nat} {mb rc rs rt rl rv mem aS aT aC aP aN ns nt nc nv nN xs xt xc xv xN : Nat → Int32} {x a : Nat} {m : Int32}
    (h : te_P t 1 ca cn cx mb rc rs rt rl rv mem aS aT aC aP aN ns nt nc nv nN xs xt xc xv xN)
    (hx : x < 12) (ha : a < 8) (hm : m = mb (12 + x) ||| ((1 : Int32) <<< (nI a &&& 31))) :
    te_P t 1 ca cn cx (upd mb (12 + x) m) rc rs rt rl rv (upd mem (96 + x * 8 + a) 1) aS aT aC aP aN ns nt nc nv nN xs xt xc xv xN := by
  obtain ⟨h1, h2⟩ := h
  refine ⟨fun x' a' hx' ha' => ?_, h2⟩
  have h1' := h1 x' a' hx' ha'
  by_cases e : x' = x
  · subst e
    rw [show 1 * 12 + x' = 12 + x' from rfl, pk_us, hm, te_bvs _ ha ha']
    by_cases f : a' = a
    · subst f
      rw [if_pos rfl, show 1 * 96 + x' * 8 + a' = 96 + x' * 8 + a' from rfl, pk_us]
    · rw [if_neg f, pk_un (show 1 * 96 + x' * 8 + a' ≠ 96 + x' * 8 + a by omega)]
      exact h1'
  · rw [pk_un (show 1 * 12 + x' ≠ 12 + x by omega), pk_un (show 1 * 96 + x' * 8 + a' ≠ 96 + x * 8 + a by omega)]
    exact h1'
theorem te_QS {t ca cn cx : Nat} {mb rc rs rt rl rv mem aS aT aC aP aN ns nt nc nv nN xs xt xc xv xN : Nat → Int32} {x j : Nat} {m y : Int32}
    (h : te_P t 0 ca cn cx mb rc rs rt rl rv mem aS aT aC aP aN ns nt nc nv nN xs xt xc xv xN) :
    te_P t 0 ca cn cx (upd mb (12 + x) m) rc rs rt rl rv (upd mem (96 + j) y) aS aT aC aP aN ns nt nc nv nN xs xt xc xv xN :=
  te_PM h (fun _ _ => pk_un (by omega)) (fun _ _ => pk_un (by omega)) ⟨rfl, rfl, rfl⟩ ⟨rfl, rfl, rfl⟩ te_eq4r te_eq4r te_eq4r te_eq4r te_eq4r te_eq4r
theorem te_PC {t : Nat} {rs rt rl rv aS aT aC aP ns nt nc nv xs xt xc xv mb' rc' mem' aN' nN' xN' : Nat → Int32}
    (hm : ∀ x, x < 12 → mb' (12 + x) = 0) (hM : ∀ j, j < 96 → mem' (96 + j) = 0) (hr : rc' 3 = 0 ∧ rc' 4 = 0 ∧ rc' 5 = 0) (hN : aN' 1 = 0 ∧ nN' 1 = 0 ∧ xN' 1 = 0) :
    te_P t 1 0 0 0 mb' rc' rs rt rl rv mem' aS aT aC aP aN' ns nt nc nv nN' xs xt xc xv xN' := by
  refine ⟨fun x a hx ha => ?_, ⟨by omega, by omega, by omega⟩, ⟨hr.1, hr.2.1, hr.2.2⟩, ⟨hN.1, hN.2.1, hN.2.2⟩, te_lst0, te_lst0, te_lst0⟩
  have e := hM (x * 8 + a) (by omega)
  rw [show 1 * 96 + x * 8 + a = 96 + (x * 8 + a) by omega, e, show mb' (1 * 12 + x) = 0 from hm x hx, te_bv0]
theorem te_QC {t ca cn cx : Nat} {mb rc rs rt rl rv mem aS aT aC aP aN ns nt nc nv nN xs xt xc xv xN : Nat → Int32} {mb' rc' mem' aN' nN' xN' : Nat → Int32}
    (h : te_P t 0 ca cn cx mb rc rs rt rl rv mem aS aT aC aP aN ns nt nc nv nN xs xt xc xv xN)
    (hm : ∀ x, x < 12 → mb' x = mb x) (hM : ∀ j, j < 96 → mem' j = mem j) (hr : rc' 0 = rc 0 ∧ rc' 1 = rc 1 ∧ rc' 2 = rc 2) (hN : aN' 0 = aN 0 ∧ nN' 0 = nN 0 ∧ xN' 0 = xN 0) :
    te_P t 0 ca cn cx mb' rc' rs rt rl rv mem' aS aT aC aP aN' ns nt nc nv nN' xs xt xc xv xN' :=
  te_PM h (fun x hx => by rw [show 0 * 12 + x = x by omega]; exact hm x hx) (fun j hj => by rw [show 0 * 96 + j = j by omega]; exact hM j hj) hr hN te_eq4r te_eq4r te_eq4r te_eq4r te_eq4r te_eq4r
