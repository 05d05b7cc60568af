theorem te_PA {t ca cn cx : Nat} {mb rc rs rt rl rv mem aS aT aC aP aN ns nt nc nv nN xs xt xc xv xN : Nat → Int32} {a b d e : Int32}
    (h : te_P t 1 ca cn cx mb rc rs rt rl rv mem aS aT aC aP aN ns nt nc nv nN xs xt xc xv xN)
    (hc : ca < 24) (ha : te_tn t a) (hb : te_sn t b) :
    te_P t 1 (ca + 1) cn cx mb (upd rc 3 (nI (ca + 1))) (upd rs (72 + ca) a) (upd rt (72 + ca) b) (upd rl (72 + ca) d) (upd rv (72 + ca) e) mem (upd aS (24 + ca) a) (upd aT (24 + ca) b) (upd aC (24 + ca) d) (upd aP (24 + ca) e) (upd aN 1 (nI (ca + 1))) ns nt nc nv nN xs xt xc xv xN := by
  obtain ⟨h1, ⟨q1, q2, q3⟩, ⟨h3, h4, h5⟩, ⟨h6, h7, h8⟩, h9, h10, h11⟩ := h
  exact ⟨h1, ⟨hc, q2, q3⟩, ⟨pk_us, (pk_un (by decide)).trans h4, (pk_un (by decide)).trans h5⟩, ⟨pk_us, h7, h8⟩, te_lstP h9 ha hb trivial, te_lstM h10 (te_eq4u fun i hi => by omega) te_eq4r, te_lstM h11 (te_eq4u fun i hi => by omega) te_eq4r⟩
theorem te_PN {t ca cn cx : Nat} {mb rc rs rt rl rv mem aS aT aC aP aN ns nt nc nv nN xs xt xc xv xN : Nat → Int32} {a b d e : Int32}
    (h : te_P t 1 ca cn cx mb rc rs rt rl rv mem aS aT aC aP aN ns nt nc nv nN xs xt xc xv xN)
    (hc : cn < 6) (ha : te_tn t a) (hb : te_sn t b) :
    te_P t 1 ca (cn + 1) cx mb (upd rc 4 (nI (cn + 1))) (upd rs (96 + cn) a) (upd rt (96 + cn) b) (upd rl (96 + cn) d) (upd rv (96 + cn) e) mem aS aT aC aP aN (upd ns (6 + cn) a) (upd nt (6 + cn) b) (upd nc (6 + cn) d) (upd nv (6 + cn) e) (upd nN 1 (nI (cn + 1))) xs xt xc xv xN := by
  obtain ⟨h1, ⟨q1, q2, q3⟩, ⟨h3, h4, h5⟩, ⟨h6, h7, h8⟩, h9, h10, h11⟩ := h
  exact ⟨h1, ⟨q1, hc, q3⟩, ⟨(pk_un (by decide)).trans h3, pk_us, (pk_un (by decide)).trans h5⟩, ⟨h6, pk_us, h8⟩, te_lstM h9 (te_eq4u fun i hi => by omega) te_eq4r, te_lstP h10 ha hb trivial, te_lstM h11 (te_eq4u fun i hi => by omega) te_eq4r⟩
theorem te_PX {t ca cn cx : Nat} {mb rc rs rt rl rv mem aS aT aC aP aN ns nt nc nv nN xs xt xc xv xN : Nat → Int32} {a b d e : Int32}
    (h : te_P t 1 ca cn cx mb rc rs rt rl rv mem aS aT aC aP aN ns nt nc nv nN xs xt xc xv xN)
    (hc : cx < 12) (ha : te_tn t a) (hb : te_sn t b) (he : te_ty t e) :
    te_P t 1 ca cn (cx + 1) mb (upd rc 5 (nI (cx + 1))) (upd rs (120 + cx) a) (upd rt (120 + cx) b) (upd rl (120 + cx) d) (upd rv (120 + cx) e) mem aS aT aC aP aN ns nt nc nv nN (upd xs (12 + cx) a) (upd xt (12 + cx) b) (upd xc (12 + cx) d) (upd xv (12 + cx) e) (upd xN 1 (nI (cx + 1))) := by
  obtain ⟨h1, ⟨q1, q2, q3⟩, ⟨h3, h4, h5⟩, ⟨h6, h7, h8⟩, h9, h10, h11⟩ := h
  exact ⟨h1, ⟨q1, q2, hc⟩, ⟨(pk_un (by decide)).trans h3, (pk_un (by decide)).trans h4, pk_us⟩, ⟨h6, h7, pk_us⟩, te_lstM h9 (te_eq4u fun i hi => by omega) te_eq4r, te_lstM h10 (te_eq4u fun i hi => by omega) te_eq4r, te_lstP h11 ha hb he⟩
theorem te_PS {t ca cn cx : Nat} {mb rc rs rt rl rv mem aS aT aC aP aN ns nt nc nv nN xs xt xc xv xN : Nat → Int32} {x a : Nat} {m : Int32}
    (h : te_P t 1 ca cn cx mb rc rs rt rl rv mem aS aT aC aP aN ns nt nc nv nN xs xt xc xv xN)
    (hx : x < 12) (ha : a < 8) (hm : m = mb (12 + x) ||| ((1 : Int32) <<< (nI a &&& 31))) :
    te_P t 1 ca cn cx (upd mb (12 + x) m) rc rs rt rl rv (upd mem (96 + x * 8 + a) 1) aS aT aC aP aN ns nt nc nv nN xs xt xc xv xN := by
  obtain ⟨h1, h2⟩ := h
  refine ⟨fun x' a' hx' ha' => ?_, h2⟩
  have h1' := h1 x' a' hx' ha'
  by_cases e : x' = x
  · subst e
    rw [show 1 * 12 + x' = 12 + x' from rfl, pk_us, hm, te_bvs _ ha ha']
    by_cases f : a' = a
    · subst f
      rw [if_pos rfl, show 1 * 96 + x' * 8 + a' = 96 + x' * 8 + a' from rfl, pk_us]
    · rw [if_neg f, pk_un (show 1 * 96 + x' * 8 + a' ≠ 96 + x' * 8 + a by omega)]
      exact h1'
  · rw [pk_un (show 1 * 12 + x' ≠ 12 + x by omega), pk_un (show 1 * 96 + x' * 8 + a' ≠ 96 + x * 8 + a by omega)]
    exact h1'
theorem te_PC {t : Nat} {rs rt rl rv aS aT aC aP ns nt nc nv xs xt xc xv mb' rc' mem' aN' nN' xN' : Nat → Int32}
    (hm : ∀ x, x < 12 → mb' (12 + x) = 0) (hM : ∀ j, j < 96 → mem' (96 + j) = 0) (hr : rc' 3 = 0 ∧ rc' 4 = 0 ∧ rc' 5 = 0) (hN : aN' 1 = 0 ∧ nN' 1 = 0 ∧ xN' 1 = 0) :
    te_P t 1 0 0 0 mb' rc' rs rt rl rv mem' aS aT aC aP aN' ns nt nc nv nN' xs xt xc xv xN' := by
  refine ⟨fun x a hx ha => ?_, ⟨by omega, by omega, by omega⟩, ⟨hr.1, hr.2.1, hr.2.2⟩, ⟨hN.1, hN.2.1, hN.2.2⟩, te_lst0, te_lst0, te_lst0⟩
  have e := hM (x * 8 + a) (by omega)
  rw [show 1 * 96 + x * 8 + a = 96 + (x * 8 + a) by omega, e, show mb' (1 * 12 + x) = 0 from hm x hx, te_bv0]
theorem te_rmN1 {m : Nat → Int32} {w k s x : Nat} {cs ct cc : Nat → Int32} {c : Int32} (q : ¬ cc k = c) : te_rm m w cs ct cc k s x c = false := by
  unfold te_rm
  rw [decide_eq_false q, Bool.false_and]
theorem te_rmN2 {m : Nat → Int32} {w k s x : Nat} {cs ct cc : Nat → Int32} {c : Int32} (q : te_nm m w (cs k) s s = false) : te_rm m w cs ct cc k s x c = false := by
  unfold te_rm
  rw [q, Bool.false_and, Bool.and_false]
theorem te_rmN3 {m : Nat → Int32} {w k s x : Nat} {cs ct cc : Nat → Int32} {c : Int32} (q : te_nm m w (ct k) x s = false) : te_rm m w cs ct cc k s x c = false := by
  unfold te_rm
  rw [q, Bool.and_false, Bool.and_false]
theorem te_rmY {m : Nat → Int32} {w k s x : Nat} {cs ct cc : Nat → Int32} {c : Int32} (q : cc k = c) (q1 : te_nm m w (cs k) s s = true) (q2 : te_nm m w (ct k) x s = true) : te_rm m w cs ct cc k s x c = true := by
  unfold te_rm
  rw [decide_eq_true q, q1, q2]
  rfl
theorem te_P00 {t w : Nat} : te_P t w 0 0 0 (fun _ => 0) (fun _ => 0) (fun _ => 0) (fun _ => 0) (fun _ => 0) (fun _ => 0) (fun _ => 0) (fun _ => 0) (fun _ => 0) (fun _ => 0) (fun _ => 0) (fun _ => 0) (fun _ => 0) (fun _ => 0) (fun _ => 0) (fun _ => 0) (fun _ => 0) (fun _ => 0) (fun _ => 0) (fun _ => 0) (fun _ => 0) (fun _ => 0) := by
  refine ⟨fun x a _ _ => (te_bv0 a).symm, ⟨by omega, by omega, by omega⟩, ⟨rfl, rfl, rfl⟩, ⟨rfl, rfl, rfl⟩, te_lst0, te_lst0, te_lst0⟩
section
variable {t : Nat} {mem aS aT aC aP ns nt nc nv : Nat → Int32} {ca : Nat}
theorem te_bpY {n s x : Nat} (q1 : te_nm mem 1 (ns (6 + n)) s s = true) (q2 : te_nm mem 1 (nt (6 + n)) x s = true) : (te_bp mem ca aS aT aC aP ns nt nc nv) n s x = te_vec mem 1 24 ca aS aT aC aP s x (nc (6 + n)) &&& nv (6 + n) := by
  unfold te_bp
  rw [te_rmY rfl q1 q2]
  rfl
end
def te_dK (L : Nat) (zs : Nat → Int32) (j : Nat) : Nat := te_kn (te_mo (te_ce L zs (5 * j)) 10) (te_mo (te_ce L zs (5 * j + 1)) 4)
def te_dS (L : Nat) (zs : Nat → Int32) (j : Nat) : Int32 := te_sr (te_mo (te_ce L zs (5 * j + 1)) 8)
def te_dT (L : Nat) (zs : Nat → Int32) (j : Nat) : Int32 := te_tg (te_mo (te_ce L zs (5 * j + 2)) 9)
def te_dA (L : Nat) (zs : Nat → Int32) (j : Nat) : Nat := te_mo (te_ce L zs (5 * j + 3)) 4
def te_dC (L : Nat) (zs : Nat → Int32) (j : Nat) : Int32 := nI (te_mo (te_ce L zs (5 * j + 3)) 4)
def te_dM (L : Nat) (zs : Nat → Int32) (j : Nat) : Nat := te_mo (te_ce L zs (5 * j + 2)) 4
def te_dP (L : Nat) (zs : Nat → Int32) (j : Nat) : Int32 := 1 + nI (te_mo (te_ce L zs (5 * j + 4)) 15)
def te_dV (L : Nat) (zs : Nat → Int32) (j : Nat) : Int32 := (1 : Int32) <<< (nI (te_mo (te_ce L zs (5 * j + 4)) 5) &&& 31)
theorem te_mol (v : Int32) {m : Nat} (h0 : 0 < m) (hm : m < 2 ^ 30) : te_mo v m < m := (te_moE v h0 hm).2
def te_Sg (L : Nat) (zs : Nat → Int32) (a b : Nat) (mb rc rs rt rl rv : Nat → Int32) : Prop :=
  ∃ (ca cn cx : Nat) (mem aS aT aC aP aN ns nt nc nv nN xs xt xc xv xN : Nat → Int32), te_P 4 1 ca cn cx mb rc rs rt rl rv mem aS aT aC aP aN ns nt nc nv nN xs xt xc xv xN ∧ te_GM (te_dK L zs) (te_dM L zs) (te_dA L zs) a b 96 mem ∧ te_GR (te_dK L zs) 0 24 a b ca 24 (te_dS L zs) (te_dT L zs) (te_dC L zs) (te_dP L zs) aS aT aC aP ∧ te_GR (te_dK L zs) 2 6 a b cn 6 (te_dS L zs) (te_dT L zs) (te_dC L zs) (te_dV L zs) ns nt nc nv
def te_Ag (L : Nat) (zs : Nat → Int32) (a b : Nat) (mb rc rs rt rl rv : Nat → Int32) : Prop :=
  ∃ (ca cn cx : Nat) (mem aS aT aC aP aN ns nt nc nv nN xs xt xc xv xN : Nat → Int32), te_P 4 0 ca cn cx mb rc rs rt rl rv mem aS aT aC aP aN ns nt nc nv nN xs xt xc xv xN ∧ te_GM (te_dK L zs) (te_dM L zs) (te_dA L zs) a b 0 mem ∧ te_GR (te_dK L zs) 0 24 a b ca 0 (te_dS L zs) (te_dT L zs) (te_dC L zs) (te_dP L zs) aS aT aC aP ∧ te_GR (te_dK L zs) 2 6 a b cn 0 (te_dS L zs) (te_dT L zs) (te_dC L zs) (te_dV L zs) ns nt nc nv ∧ (∀ n s x, n < cn → s < 4 → x < 4 → te_nm mem 0 (ns n) s s = true → te_nm mem 0 (nt n) x s = true → te_vec mem 0 0 ca aS aT aC aP s x (nc n) &&& nv n = 0)
section
variable {L : Nat} {zs : Nat → Int32} {mb rc rs rt rl rv mb' rc' rs' rt' rl' rv' : Nat → Int32}
theorem te_AgM {a b : Nat} (q : te_Ag L zs a b mb rc rs rt rl rv) (hm : ∀ x, x < 12 → mb' x = mb x) (hr : ∀ m, m < 3 → rc' m = rc m) (he : te_eq4 72 0 0 rs' rt' rl' rv' rs rt rl rv) : te_Ag L zs a b mb' rc' rs' rt' rl' rv' := by
  obtain ⟨ca, cn, cx, mem, aS, aT, aC, aP, aN, ns, nt, nc, nv, nN, xs, xt, xc, xv, xN, hP, g⟩ := q
  obtain ⟨q1, q2, q3⟩ := hP.2.1
  refine ⟨ca, cn, cx, mem, aS, aT, aC, aP, aN, ns, nt, nc, nv, nN, xs, xt, xc, xv, xN, te_PM hP (fun x hx => ?_) (fun _ _ => rfl) ⟨hr 0 (by decide), hr 1 (by decide), hr 2 (by decide)⟩ ⟨rfl, rfl, rfl⟩ (fun i hi => ?_) (fun i hi => ?_) (fun i hi => ?_) te_eq4r te_eq4r te_eq4r, g⟩
  · rw [show 0 * 12 + x = x by omega]
    exact hm x hx
  · have e := he i (by omega)
    exact e
  · have e := he (24 + i) (by omega)
    rw [show 0 + (24 + i) = 0 * 72 + 24 + i by omega] at e
    exact e
  · have e := he (48 + i) (by omega)
    rw [show 0 + (48 + i) = 0 * 72 + 48 + i by omega] at e
    exact e
theorem te_eq4h {k : Nat} {a b d e : Int32} (hk : 72 ≤ k) : te_eq4 72 0 0 (upd rs k a) (upd rt k b) (upd rl k d) (upd rv k e) rs rt rl rv := te_eq4u fun i hi => by omega
theorem te_SgS {a b : Nat} (q : te_Sg L zs a b mb rc rs rt rl rv) (e0 : ¬ te_dK L zs b = 0) (e1 : ¬ te_dK L zs b = 1) (e2 : ¬ te_dK L zs b = 2) : te_Sg L zs a (b + 1) mb rc rs rt rl rv := by
  obtain ⟨ca, cn, cx, mem, aS, aT, aC, aP, aN, ns, nt, nc, nv, nN, xs, xt, xc, xv, xN, hP, g1, g2, g3⟩ := q
  exact ⟨ca, cn, cx, mem, aS, aT, aC, aP, aN, ns, nt, nc, nv, nN, xs, xt, xc, xv, xN, hP, te_GMs g1 e1, te_GRs g2 e0, te_GRs g3 e2⟩
theorem te_Sg0 {a : Nat} (hm : ∀ x, x < 12 → mb (12 + x) = 0) (hr : ∀ m, m < 3 → rc (3 + m) = 0) : te_Sg L zs a a mb rc rs rt rl rv :=
  ⟨0, 0, 0, fun _ => 0, fun _ => 0, fun _ => 0, fun _ => 0, fun _ => 0, fun _ => 0, fun _ => 0, fun _ => 0, fun _ => 0, fun _ => 0, fun _ => 0, fun _ => 0, fun _ => 0, fun _ => 0, fun _ => 0, fun _ => 0, te_PC hm (fun _ _ => rfl) ⟨hr 0 (by decide), hr 1 (by decide), hr 2 (by decide)⟩ ⟨rfl, rfl, rfl⟩, te_GM0 (fun _ _ => rfl), te_GR0, te_GR0⟩
theorem te_SgM {a b : Nat} (q : te_Sg L zs a b mb rc rs rt rl rv) (hm : ∀ x, 12 ≤ x → mb' x = mb x) (hr : ∀ m, 3 ≤ m → rc' m = rc m) (he : ∀ j, 72 ≤ j → rs' j = rs j ∧ rt' j = rt j ∧ rl' j = rl j ∧ rv' j = rv j) : te_Sg L zs a b mb' rc' rs' rt' rl' rv' := by
  obtain ⟨ca, cn, cx, mem, aS, aT, aC, aP, aN, ns, nt, nc, nv, nN, xs, xt, xc, xv, xN, hP, g⟩ := q
  exact ⟨ca, cn, cx, mem, aS, aT, aC, aP, aN, ns, nt, nc, nv, nN, xs, xt, xc, xv, xN, te_PM hP (fun x hx => hm _ (by omega)) (fun _ _ => rfl) ⟨hr 3 (by decide), hr 4 (by decide), hr 5 (by decide)⟩ ⟨rfl, rfl, rfl⟩ (fun i hi => he _ (by omega)) (fun i hi => he _ (by omega)) (fun i hi => he _ (by omega)) te_eq4r te_eq4r te_eq4r, g⟩
end
