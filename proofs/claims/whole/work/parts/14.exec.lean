section
variable {t cap np no h : Nat} {sq vi vs vt vp tot : Int32} {mb rc rs rt rl rv mem aS aT aC aP aN ns nt nc nv nN xs xt xc xv xN pd ot ol uS uT uC uP uK : Nat → Int32}

variable {ca cn cx : Nat}
theorem te_nx {s x d : Nat} {c : Int32} (hP : te_P t 0 ca cn cx mb rc rs rt rl rv mem aS aT aC aP aN ns nt nc nv nN xs xt xc xv xN) (hd : d < t) : ∃ nx, nx < t ∧ ((te_tr mem 0 0 cx xs xt xc xv s x c = -5 ∧ nx = d) ∨ (¬ te_tr mem 0 0 cx xs xt xc xv s x c = -5 ∧ te_tr mem 0 0 cx xs xt xc xv s x c = nI nx)) := by
  have l3 := hP.2.2.2.2.2.2
  by_cases e : te_tr mem 0 0 cx xs xt xc xv s x c = -5
  · exact ⟨d, hd, Or.inl ⟨e, rfl⟩⟩
  · have q : te_tr mem 0 0 cx xs xt xc xv s x c = -5 ∨ te_ty t (te_tr mem 0 0 cx xs xt xc xv s x c) := te_fstQ (Q := te_ty t) cx 0 (fun j hj => (l3 j (by omega)).2.2.2)
    obtain ⟨j, hj, ej⟩ := q.resolve_left e
    exact ⟨j, hj, Or.inr ⟨e, ej⟩⟩
theorem te_xTo2 {post : Int32 → Prop} {s x d nx : Nat} {c : Int32} (hP : te_P t 0 ca cn cx mb rc rs rt rl rv mem aS aT aC aP aN ns nt nc nv nN xs xt xc xv xN) (ht : t ≤ 12) (hs : s < t) (hx : x < t) (hn : ((te_tr mem 0 0 cx xs xt xc xv s x c = -5 ∧ nx = d) ∨ (¬ te_tr mem 0 0 cx xs xt xc xv s x c = -5 ∧ te_tr mem 0 0 cx xs xt xc xv s x c = nI nx))) (k : post (nI nx)) : wpX_transitionOr post (nI t, nI cap, sq, vi, vs, vt, vp, nI np, nI no, nI h, tot, mb, rc, rs, rt, rl, rv, pd, ot, ol, uS, uT, uC, uP, uK) (nI s) (nI x) c (nI d) := by
  rcases hn with ⟨e, rfl⟩ | ⟨e, e2⟩
  · exact te_xTo hP ht hs hx (fun _ => k) (fun z => absurd e z)
  · refine te_xTo hP ht hs hx (fun z => absurd z e) (fun _ => ?_)
    rw [e2]
    exact k
theorem te_yTo {K : Int32 → Prop} {s x d nx : Nat} {c : Int32} (hP : te_P t 0 ca cn cx mb rc rs rt rl rv mem aS aT aC aP aN ns nt nc nv nN xs xt xc xv xN) (ht : t ≤ 12) (hs : s < t) (hx : x < t) (hn : ((te_tr mem 0 0 cx xs xt xc xv s x c = -5 ∧ nx = d) ∨ (¬ te_tr mem 0 0 cx xs xt xc xv s x c = -5 ∧ te_tr mem 0 0 cx xs xt xc xv s x c = nI nx))) (k : K (nI nx)) : wpY_transOf (fun r => (r = -5 → K (nI d)) ∧ (¬ r = -5 → K r)) (nI t, nI cap, sq, vi, vs, vt, vp, nI np, nI no, nI h, tot, mem, aS, aT, aC, aP, aN, ns, nt, nc, nv, nN, xs, xt, xc, xv, xN, pd, ot, ol, uS, uT, uC, uP, uK) 0 (nI s) (nI x) c := by
  refine te_yTr (w := 0) hP (by decide) ht hs hx ?_
  rcases hn with ⟨e, rfl⟩ | ⟨e, e2⟩
  · exact br_t e k
  · refine br_f e ?_
    rw [show te_tr mem 0 (0 * 12) cx xs xt xc xv s x c = nI nx from e2]
    exact k
theorem te_xEx {post : Int32 → SX → Prop} {p j d f nx : Nat} (hP : te_P t 0 ca cn cx mb rc rs rt rl rv mem aS aT aC aP aN ns nt nc nv nN xs xt xc xv xN) (ht : t ≤ 12) (o1 : np ≤ 8) (o2 : no ≤ 16) (hp : p < np) (hj : j < no) (ej : ol j = 0) (ed : pd p = nI d) (ef : ot j = nI f) (hd : d < t) (hf : f < t) (hn : nx < t) (hnx : ((te_tr mem 0 0 cx xs xt xc xv d f 2 = -5 ∧ nx = d) ∨ (¬ te_tr mem 0 0 cx xs xt xc xv d f 2 = -5 ∧ te_tr mem 0 0 cx xs xt xc xv d f 2 = nI nx)))
    (l1 : te_vec mem 0 0 ca aS aT aC aP d f 0 &&& 4 = 0 → ∀ Q : SX → Prop, (∀ (h1 tot1 : Int32) (S1 T1 C1 P1 K1 : Nat → Int32), post (-4) (nI t, nI cap, sq, vi, vs, vt, vp, nI np, nI no, h1, tot1, mb, rc, rs, rt, rl, rv, pd, ot, ol, S1, T1, C1, P1, K1) → Q (nI t, nI cap, sq, vi, vs, vt, vp, nI np, nI no, h1, tot1, mb, rc, rs, rt, rl, rv, pd, ot, ol, S1, T1, C1, P1, K1)) → wpX_recordDenial Q (nI t, nI cap, sq, vi, vs, vt, vp, nI np, nI no, nI h, tot, mb, rc, rs, rt, rl, rv, pd, ot, ol, uS, uT, uC, uP, uK) (nI d) (nI f) 0 4)
    (l2 : ¬ te_vec mem 0 0 ca aS aT aC aP d f 0 &&& 4 = 0 → nx = d → post (nI nx) (nI t, nI cap, sq, vi, vs, vt, vp, nI np, nI no, nI h, tot, mb, rc, rs, rt, rl, rv, upd pd p (nI nx), ot, ol, uS, uT, uC, uP, uK))
    (l3 : ¬ te_vec mem 0 0 ca aS aT aC aP d f 0 &&& 4 = 0 → nx ≠ d → te_vec mem 0 0 ca aS aT aC aP d nx 2 &&& 16 = 0 → ∀ Q : SX → Prop, (∀ (h1 tot1 : Int32) (S1 T1 C1 P1 K1 : Nat → Int32), post (-4) (nI t, nI cap, sq, vi, vs, vt, vp, nI np, nI no, h1, tot1, mb, rc, rs, rt, rl, rv, pd, ot, ol, S1, T1, C1, P1, K1) → Q (nI t, nI cap, sq, vi, vs, vt, vp, nI np, nI no, h1, tot1, mb, rc, rs, rt, rl, rv, pd, ot, ol, S1, T1, C1, P1, K1)) → wpX_recordDenial Q (nI t, nI cap, sq, vi, vs, vt, vp, nI np, nI no, nI h, tot, mb, rc, rs, rt, rl, rv, pd, ot, ol, uS, uT, uC, uP, uK) (nI d) (nI nx) 2 16)
    (l4 : ¬ te_vec mem 0 0 ca aS aT aC aP d f 0 &&& 4 = 0 → nx ≠ d → ¬ te_vec mem 0 0 ca aS aT aC aP d nx 2 &&& 16 = 0 → te_vec mem 0 0 ca aS aT aC aP nx f 0 &&& 32 = 0 → ∀ Q : SX → Prop, (∀ (h1 tot1 : Int32) (S1 T1 C1 P1 K1 : Nat → Int32), post (-4) (nI t, nI cap, sq, vi, vs, vt, vp, nI np, nI no, h1, tot1, mb, rc, rs, rt, rl, rv, pd, ot, ol, S1, T1, C1, P1, K1) → Q (nI t, nI cap, sq, vi, vs, vt, vp, nI np, nI no, h1, tot1, mb, rc, rs, rt, rl, rv, pd, ot, ol, S1, T1, C1, P1, K1)) → wpX_recordDenial Q (nI t, nI cap, sq, vi, vs, vt, vp, nI np, nI no, nI h, tot, mb, rc, rs, rt, rl, rv, pd, ot, ol, uS, uT, uC, uP, uK) (nI nx) (nI f) 0 32)
    (l5 : ¬ te_vec mem 0 0 ca aS aT aC aP d f 0 &&& 4 = 0 → nx ≠ d → ¬ te_vec mem 0 0 ca aS aT aC aP d nx 2 &&& 16 = 0 → ¬ te_vec mem 0 0 ca aS aT aC aP nx f 0 &&& 32 = 0 → post (nI nx) (nI t, nI cap, sq, vi, vs, vt, vp, nI np, nI no, nI h, tot, mb, rc, rs, rt, rl, rv, upd pd p (nI nx), ot, ol, uS, uT, uC, uP, uK)) : wpX_exec post (nI t, nI cap, sq, vi, vs, vt, vp, nI np, nI no, nI h, tot, mb, rc, rs, rt, rl, rv, pd, ot, ol, uS, uT, uC, uP, uK) (nI p) (nI j) := by
  have vp' : vp_in (nI p) 8 := vp_in_nI (by omega) (by decide)
  have vj : vp_in (nI j) 16 := vp_in_nI (by omega) (by decide)
  unfold wpX_exec
  dsimp only
  refine te_xPc o1 (fun _ => br_f (by decide) ?_) (fun z => absurd ⟨p, hp, rfl⟩ z)
  refine te_xOc o2 (fun _ _ _ _ => br_f (by decide) ?_) (fun z => absurd ej (z j hj rfl))
  rw [nI_clamp (show p < 2 ^ 31 by omega), nI_clamp (show j < 2 ^ 31 by omega)]
  refine ⟨vp', nm_r ed ⟨vj, nm_r ef ?_⟩⟩
  refine te_xLk hP ht hd hf (fun c1 => br_f (by decide) ?_) (fun c1 => br_t rfl ?_)
  · unfold wpX_deny
    dsimp only
    exact l1 c1 _ (fun _ _ _ _ _ _ _ z => z)
  · refine te_xTo2 hP ht hd hf hnx (pk_eq nx d (fun e => ⟨vp', nm_e (l2 c1 e)⟩) (fun e => ?_))
    refine te_xLk hP ht hd hn (fun c2 => br_f (by decide) ?_) (fun c2 => br_t rfl ?_)
    · unfold wpX_deny
      dsimp only
      exact l3 c1 e c2 _ (fun _ _ _ _ _ _ _ z => z)
    · refine te_xLk hP ht hn hf (fun c3 => br_f (by decide) ?_) (fun c3 => br_t rfl ⟨vp', nm_e (l5 c1 e c2 c3)⟩)
      unfold wpX_deny
      dsimp only
      exact l4 c1 e c2 c3 _ (fun _ _ _ _ _ _ _ z => z)
theorem te_yEx {post : Int32 → SY → Prop} {p j d f nx : Nat} (hP : te_P t 0 ca cn cx mb rc rs rt rl rv mem aS aT aC aP aN ns nt nc nv nN xs xt xc xv xN) (ht : t ≤ 12) (o1 : np ≤ 8) (o2 : no ≤ 16) (hp : p < np) (hj : j < no) (ej : ol j = 0) (ed : pd p = nI d) (ef : ot j = nI f) (hd : d < t) (hf : f < t) (hn : nx < t) (hnx : ((te_tr mem 0 0 cx xs xt xc xv d f 2 = -5 ∧ nx = d) ∨ (¬ te_tr mem 0 0 cx xs xt xc xv d f 2 = -5 ∧ te_tr mem 0 0 cx xs xt xc xv d f 2 = nI nx)))
    (l1 : te_vec mem 0 0 ca aS aT aC aP d f 0 &&& 4 = 0 → ∀ Q : SY → Prop, (∀ (h1 tot1 : Int32) (S1 T1 C1 P1 K1 : Nat → Int32), post (-4) (nI t, nI cap, sq, vi, vs, vt, vp, nI np, nI no, h1, tot1, mem, aS, aT, aC, aP, aN, ns, nt, nc, nv, nN, xs, xt, xc, xv, xN, pd, ot, ol, S1, T1, C1, P1, K1) → Q (nI t, nI cap, sq, vi, vs, vt, vp, nI np, nI no, h1, tot1, mem, aS, aT, aC, aP, aN, ns, nt, nc, nv, nN, xs, xt, xc, xv, xN, pd, ot, ol, S1, T1, C1, P1, K1)) → wpY_auditAdd Q (nI t, nI cap, sq, vi, vs, vt, vp, nI np, nI no, nI h, tot, mem, aS, aT, aC, aP, aN, ns, nt, nc, nv, nN, xs, xt, xc, xv, xN, pd, ot, ol, uS, uT, uC, uP, uK) (nI d) (nI f) 0 4)
    (l2 : ¬ te_vec mem 0 0 ca aS aT aC aP d f 0 &&& 4 = 0 → nx = d → post (nI nx) (nI t, nI cap, sq, vi, vs, vt, vp, nI np, nI no, nI h, tot, mem, aS, aT, aC, aP, aN, ns, nt, nc, nv, nN, xs, xt, xc, xv, xN, upd pd p (nI nx), ot, ol, uS, uT, uC, uP, uK))
    (l3 : ¬ te_vec mem 0 0 ca aS aT aC aP d f 0 &&& 4 = 0 → nx ≠ d → te_vec mem 0 0 ca aS aT aC aP d nx 2 &&& 16 = 0 → ∀ Q : SY → Prop, (∀ (h1 tot1 : Int32) (S1 T1 C1 P1 K1 : Nat → Int32), post (-4) (nI t, nI cap, sq, vi, vs, vt, vp, nI np, nI no, h1, tot1, mem, aS, aT, aC, aP, aN, ns, nt, nc, nv, nN, xs, xt, xc, xv, xN, pd, ot, ol, S1, T1, C1, P1, K1) → Q (nI t, nI cap, sq, vi, vs, vt, vp, nI np, nI no, h1, tot1, mem, aS, aT, aC, aP, aN, ns, nt, nc, nv, nN, xs, xt, xc, xv, xN, pd, ot, ol, S1, T1, C1, P1, K1)) → wpY_auditAdd Q (nI t, nI cap, sq, vi, vs, vt, vp, nI np, nI no, nI h, tot, mem, aS, aT, aC, aP, aN, ns, nt, nc, nv, nN, xs, xt, xc, xv, xN, pd, ot, ol, uS, uT, uC, uP, uK) (nI d) (nI nx) 2 16)
    (l4 : ¬ te_vec mem 0 0 ca aS aT aC aP d f 0 &&& 4 = 0 → nx ≠ d → ¬ te_vec mem 0 0 ca aS aT aC aP d nx 2 &&& 16 = 0 → te_vec mem 0 0 ca aS aT aC aP nx f 0 &&& 32 = 0 → ∀ Q : SY → Prop, (∀ (h1 tot1 : Int32) (S1 T1 C1 P1 K1 : Nat → Int32), post (-4) (nI t, nI cap, sq, vi, vs, vt, vp, nI np, nI no, h1, tot1, mem, aS, aT, aC, aP, aN, ns, nt, nc, nv, nN, xs, xt, xc, xv, xN, pd, ot, ol, S1, T1, C1, P1, K1) → Q (nI t, nI cap, sq, vi, vs, vt, vp, nI np, nI no, h1, tot1, mem, aS, aT, aC, aP, aN, ns, nt, nc, nv, nN, xs, xt, xc, xv, xN, pd, ot, ol, S1, T1, C1, P1, K1)) → wpY_auditAdd Q (nI t, nI cap, sq, vi, vs, vt, vp, nI np, nI no, nI h, tot, mem, aS, aT, aC, aP, aN, ns, nt, nc, nv, nN, xs, xt, xc, xv, xN, pd, ot, ol, uS, uT, uC, uP, uK) (nI nx) (nI f) 0 32)
    (l5 : ¬ te_vec mem 0 0 ca aS aT aC aP d f 0 &&& 4 = 0 → nx ≠ d → ¬ te_vec mem 0 0 ca aS aT aC aP d nx 2 &&& 16 = 0 → ¬ te_vec mem 0 0 ca aS aT aC aP nx f 0 &&& 32 = 0 → post (nI nx) (nI t, nI cap, sq, vi, vs, vt, vp, nI np, nI no, nI h, tot, mem, aS, aT, aC, aP, aN, ns, nt, nc, nv, nN, xs, xt, xc, xv, xN, upd pd p (nI nx), ot, ol, uS, uT, uC, uP, uK)) : wpY_exec post (nI t, nI cap, sq, vi, vs, vt, vp, nI np, nI no, nI h, tot, mem, aS, aT, aC, aP, aN, ns, nt, nc, nv, nN, xs, xt, xc, xv, xN, pd, ot, ol, uS, uT, uC, uP, uK) (nI p) (nI j) := by
  have vp' : vp_in (nI p) 8 := vp_in_nI (by omega) (by decide)
  have vj : vp_in (nI j) 16 := vp_in_nI (by omega) (by decide)
  unfold wpY_exec
  dsimp only
  rw [nI_clamp (show p < 2 ^ 31 by omega), nI_clamp (show j < 2 ^ 31 by omega)]
  refine br_f (nI_pos (by omega)) (br_f (nI_ge hp (by omega)) (br_f (nI_pos (by omega)) (br_t (nI_lt hj (by omega)) ⟨vj, br_t ej ⟨vp', nm_r ed ⟨vj, nm_r ef ?_⟩⟩⟩)))
  refine te_yVe (w := 0) hP (by decide) ht hd hf (br_c (fun c1 => l1 c1 _ (fun _ _ _ _ _ _ _ z => z)) (fun c1 => ?_))
  refine te_yTo (K := fun z => wY_exec_99 post (nI p) (nI d) (nI f) z (nI t) (nI cap) sq vi vs vt vp (nI np) (nI no) (nI h) tot mem aS aT aC aP aN ns nt nc nv nN xs xt xc xv xN pd ot ol uS uT uC uP uK) hP ht hd hf hnx ?_
  unfold wY_exec_99
  rw [nI_clamp (show p < 2 ^ 31 by omega)]
  refine pk_eq nx d (fun e => ⟨vp', nm_e (l2 c1 e)⟩) (fun e => ?_)
  refine te_yVe (w := 0) hP (by decide) ht hd hn (br_c (fun c2 => l3 c1 e c2 _ (fun _ _ _ _ _ _ _ z => z)) (fun c2 => ?_))
  exact te_yVe (w := 0) hP (by decide) ht hn hf (br_c (fun c3 => l4 c1 e c2 c3 _ (fun _ _ _ _ _ _ _ z => z)) (fun c3 => ⟨vp', nm_e (l5 c1 e c2 c3)⟩))
theorem te_c3T {A B : Prop} {v : Int32} (q : te_ty 4 v) (q2 : ¬ v = 2) (a : A) : (v = 0 → A) ∧ (¬ v = 0 → ((v = 1 → A) ∧ (¬ v = 1 → ((v = 3 → A) ∧ (¬ v = 3 → B))))) := by
  refine br_c (fun _ => a) (fun z0 => br_c (fun _ => a) (fun z1 => br_c (fun _ => a) (fun z3 => ?_)))
  obtain ⟨i, hi, rfl⟩ := q
  have c4 : i = 0 ∨ i = 1 ∨ i = 2 ∨ i = 3 := by omega
  rcases c4 with rfl | rfl | rfl | rfl
  · exact absurd rfl z0
  · exact absurd rfl z1
  · exact absurd rfl q2
  · exact absurd rfl z3
theorem te_c3F {A B : Prop} {v : Int32} (q : ¬ (te_ty 4 v ∧ ¬ v = 2)) (b : B) : (v = 0 → A) ∧ (¬ v = 0 → ((v = 1 → A) ∧ (¬ v = 1 → ((v = 3 → A) ∧ (¬ v = 3 → B))))) := by
  refine br_c (fun z => absurd ⟨⟨0, by decide, z⟩, ?_⟩ q) (fun _ => br_c (fun z => absurd ⟨⟨1, by decide, z⟩, ?_⟩ q) (fun _ => br_c (fun z => absurd ⟨⟨3, by decide, z⟩, ?_⟩ q) (fun _ => b)))
  · subst z; decide
  · subst z; decide
  · subst z; decide
theorem te_xCt {post : Int32 → SX → Prop} {p j d f nx : Nat} {c : Int32} (hP : te_P t 0 ca cn cx mb rc rs rt rl rv mem aS aT aC aP aN ns nt nc nv nN xs xt xc xv xN) (ht : t ≤ 12) (o1 : np ≤ 8) (o2 : no ≤ 16) (hp : p < np) (hj : j < no) (ej : ol j = 1) (ed : pd p = nI d) (ef : ot j = nI f) (hd : d < t) (hf : f < t) (hn : nx < t) (hnx : ((te_tr mem 0 0 cx xs xt xc xv d f c = -5 ∧ nx = f) ∨ (¬ te_tr mem 0 0 cx xs xt xc xv d f c = -5 ∧ te_tr mem 0 0 cx xs xt xc xv d f c = nI nx))) (qc : te_ty 4 c) (qc2 : ¬ c = 2)
    (l0 : no = 16 → post (-2) (nI t, nI cap, sq, vi, vs, vt, vp, nI np, nI no, nI h, tot, mb, rc, rs, rt, rl, rv, pd, ot, ol, uS, uT, uC, uP, uK))
    (l1 : no < 16 → te_vec mem 0 0 ca aS aT aC aP d f 1 &&& 64 = 0 → ∀ Q : SX → Prop, (∀ (h1 tot1 : Int32) (S1 T1 C1 P1 K1 : Nat → Int32), post (-4) (nI t, nI cap, sq, vi, vs, vt, vp, nI np, nI no, h1, tot1, mb, rc, rs, rt, rl, rv, pd, ot, ol, S1, T1, C1, P1, K1) → Q (nI t, nI cap, sq, vi, vs, vt, vp, nI np, nI no, h1, tot1, mb, rc, rs, rt, rl, rv, pd, ot, ol, S1, T1, C1, P1, K1)) → wpX_recordDenial Q (nI t, nI cap, sq, vi, vs, vt, vp, nI np, nI no, nI h, tot, mb, rc, rs, rt, rl, rv, pd, ot, ol, uS, uT, uC, uP, uK) (nI d) (nI f) 1 64)
    (l2 : no < 16 → ¬ te_vec mem 0 0 ca aS aT aC aP d f 1 &&& 64 = 0 → te_vec mem 0 0 ca aS aT aC aP d nx c &&& 8 = 0 → ∀ Q : SX → Prop, (∀ (h1 tot1 : Int32) (S1 T1 C1 P1 K1 : Nat → Int32), post (-4) (nI t, nI cap, sq, vi, vs, vt, vp, nI np, nI no, h1, tot1, mb, rc, rs, rt, rl, rv, pd, ot, ol, S1, T1, C1, P1, K1) → Q (nI t, nI cap, sq, vi, vs, vt, vp, nI np, nI no, h1, tot1, mb, rc, rs, rt, rl, rv, pd, ot, ol, S1, T1, C1, P1, K1)) → wpX_recordDenial Q (nI t, nI cap, sq, vi, vs, vt, vp, nI np, nI no, nI h, tot, mb, rc, rs, rt, rl, rv, pd, ot, ol, uS, uT, uC, uP, uK) (nI d) (nI nx) c 8)
    (l3 : no < 16 → ¬ te_vec mem 0 0 ca aS aT aC aP d f 1 &&& 64 = 0 → ¬ te_vec mem 0 0 ca aS aT aC aP d nx c &&& 8 = 0 → post (nI no) (nI t, nI cap, sq, vi, vs, vt, vp, nI np, nI (no + 1), nI h, tot, mb, rc, rs, rt, rl, rv, pd, upd ot no (nI nx), upd ol no c, uS, uT, uC, uP, uK)) : wpX_create post (nI t, nI cap, sq, vi, vs, vt, vp, nI np, nI no, nI h, tot, mb, rc, rs, rt, rl, rv, pd, ot, ol, uS, uT, uC, uP, uK) (nI p) (nI j) c := by
  have vp' : vp_in (nI p) 8 := vp_in_nI (by omega) (by decide)
  have vj : vp_in (nI j) 16 := vp_in_nI (by omega) (by decide)
  unfold wpX_create
  dsimp only
  refine te_xPc o1 (fun _ => br_f (by decide) ?_) (fun z => absurd ⟨p, hp, rfl⟩ z)
  refine te_xOc o2 (fun _ _ _ _ => br_f (by decide) ?_) (fun z => absurd ej (z j hj rfl))
  refine te_xCl (fun _ => br_f (by decide) (br_f qc2 ?_)) (fun z => absurd qc z)
  rw [nI_clamp (show p < 2 ^ 31 by omega), nI_clamp (show j < 2 ^ 31 by omega)]
  refine pk_lt no 16 (fun q => ⟨vp', nm_r ed ⟨vj, nm_r ef ?_⟩⟩) (fun q => l0 (by omega))
  refine te_xLk hP ht hd hf (fun c1 => br_f (by decide) ?_) (fun c1 => br_t rfl ?_)
  · unfold wpX_deny
    dsimp only
    exact l1 q c1 _ (fun _ _ _ _ _ _ _ z => z)
  · refine te_xTo2 hP ht hd hf hnx ?_
    refine te_xLk hP ht hd hn (fun c2 => br_f (by decide) ?_) (fun c2 => br_t rfl (te_xAO q (l3 q c1 c2)))
    unfold wpX_deny
    dsimp only
    exact l2 q c1 c2 _ (fun _ _ _ _ _ _ _ z => z)
theorem te_yCt {post : Int32 → SY → Prop} {p j d f nx : Nat} {c : Int32} (hP : te_P t 0 ca cn cx mb rc rs rt rl rv mem aS aT aC aP aN ns nt nc nv nN xs xt xc xv xN) (ht : t ≤ 12) (o1 : np ≤ 8) (o2 : no ≤ 16) (hp : p < np) (hj : j < no) (ej : ol j = 1) (ed : pd p = nI d) (ef : ot j = nI f) (hd : d < t) (hf : f < t) (hn : nx < t) (hnx : ((te_tr mem 0 0 cx xs xt xc xv d f c = -5 ∧ nx = f) ∨ (¬ te_tr mem 0 0 cx xs xt xc xv d f c = -5 ∧ te_tr mem 0 0 cx xs xt xc xv d f c = nI nx))) (qc : te_ty 4 c) (qc2 : ¬ c = 2)
    (l0 : no = 16 → post (-2) (nI t, nI cap, sq, vi, vs, vt, vp, nI np, nI no, nI h, tot, mem, aS, aT, aC, aP, aN, ns, nt, nc, nv, nN, xs, xt, xc, xv, xN, pd, ot, ol, uS, uT, uC, uP, uK))
    (l1 : no < 16 → te_vec mem 0 0 ca aS aT aC aP d f 1 &&& 64 = 0 → ∀ Q : SY → Prop, (∀ (h1 tot1 : Int32) (S1 T1 C1 P1 K1 : Nat → Int32), post (-4) (nI t, nI cap, sq, vi, vs, vt, vp, nI np, nI no, h1, tot1, mem, aS, aT, aC, aP, aN, ns, nt, nc, nv, nN, xs, xt, xc, xv, xN, pd, ot, ol, S1, T1, C1, P1, K1) → Q (nI t, nI cap, sq, vi, vs, vt, vp, nI np, nI no, h1, tot1, mem, aS, aT, aC, aP, aN, ns, nt, nc, nv, nN, xs, xt, xc, xv, xN, pd, ot, ol, S1, T1, C1, P1, K1)) → wpY_auditAdd Q (nI t, nI cap, sq, vi, vs, vt, vp, nI np, nI no, nI h, tot, mem, aS, aT, aC, aP, aN, ns, nt, nc, nv, nN, xs, xt, xc, xv, xN, pd, ot, ol, uS, uT, uC, uP, uK) (nI d) (nI f) 1 64)
    (l2 : no < 16 → ¬ te_vec mem 0 0 ca aS aT aC aP d f 1 &&& 64 = 0 → te_vec mem 0 0 ca aS aT aC aP d nx c &&& 8 = 0 → ∀ Q : SY → Prop, (∀ (h1 tot1 : Int32) (S1 T1 C1 P1 K1 : Nat → Int32), post (-4) (nI t, nI cap, sq, vi, vs, vt, vp, nI np, nI no, h1, tot1, mem, aS, aT, aC, aP, aN, ns, nt, nc, nv, nN, xs, xt, xc, xv, xN, pd, ot, ol, S1, T1, C1, P1, K1) → Q (nI t, nI cap, sq, vi, vs, vt, vp, nI np, nI no, h1, tot1, mem, aS, aT, aC, aP, aN, ns, nt, nc, nv, nN, xs, xt, xc, xv, xN, pd, ot, ol, S1, T1, C1, P1, K1)) → wpY_auditAdd Q (nI t, nI cap, sq, vi, vs, vt, vp, nI np, nI no, nI h, tot, mem, aS, aT, aC, aP, aN, ns, nt, nc, nv, nN, xs, xt, xc, xv, xN, pd, ot, ol, uS, uT, uC, uP, uK) (nI d) (nI nx) c 8)
    (l3 : no < 16 → ¬ te_vec mem 0 0 ca aS aT aC aP d f 1 &&& 64 = 0 → ¬ te_vec mem 0 0 ca aS aT aC aP d nx c &&& 8 = 0 → post (nI (no + 1) - 1) (nI t, nI cap, sq, vi, vs, vt, vp, nI np, nI (no + 1), nI h, tot, mem, aS, aT, aC, aP, aN, ns, nt, nc, nv, nN, xs, xt, xc, xv, xN, pd, upd ot no (nI nx), upd ol no c, uS, uT, uC, uP, uK)) : wpY_create post (nI t, nI cap, sq, vi, vs, vt, vp, nI np, nI no, nI h, tot, mem, aS, aT, aC, aP, aN, ns, nt, nc, nv, nN, xs, xt, xc, xv, xN, pd, ot, ol, uS, uT, uC, uP, uK) (nI p) (nI j) c := by
  have vp' : vp_in (nI p) 8 := vp_in_nI (by omega) (by decide)
  have vj : vp_in (nI j) 16 := vp_in_nI (by omega) (by decide)
  have K : wY_create_56 post (nI p) (nI j) c (nI t) (nI cap) sq vi vs vt vp (nI np) (nI no) (nI h) tot mem aS aT aC aP aN ns nt nc nv nN xs xt xc xv xN pd ot ol uS uT uC uP uK := by
    unfold wY_create_56
    rw [nI_clamp (show p < 2 ^ 31 by omega), nI_clamp (show j < 2 ^ 31 by omega)]
    refine pk_eq no 16 (fun q => l0 q) (fun q => ⟨vp', nm_r ed ⟨vj, nm_r ef ?_⟩⟩)
    have q' : no < 16 := by omega
    have vn : vp_in (nI no) 16 := vp_in_nI q' (by decide)
    refine te_yVe (w := 0) hP (by decide) ht hd hf (br_c (fun c1 => l1 q' c1 _ (fun _ _ _ _ _ _ _ z => z)) (fun c1 => ?_))
    refine te_yTo (K := fun z => wY_create_137 post c (nI d) z (nI t) (nI cap) sq vi vs vt vp (nI np) (nI no) (nI h) tot mem aS aT aC aP aN ns nt nc nv nN xs xt xc xv xN pd ot ol uS uT uC uP uK) hP ht hd hf hnx ?_
    unfold wY_create_137
    rw [nI_clamp (show no < 2 ^ 31 by omega)]
    exact te_yVe (w := 0) hP (by decide) ht hd hn (br_c (fun c2 => l2 q' c1 c2 _ (fun _ _ _ _ _ _ _ z => z)) (fun c2 => ⟨vn, nm_e ⟨vn, nm_e (nm_r (nI_1 no) (l3 q' c1 c2))⟩⟩))
  unfold wpY_create
  dsimp only
  rw [nI_clamp (show j < 2 ^ 31 by omega)]
  exact br_f (nI_pos (by omega)) (br_t (nI_lt hp (by omega)) (br_f (nI_pos (by omega)) (br_t (nI_lt hj (by omega)) ⟨vj, br_t ej (te_c3T qc qc2 K)⟩)))
theorem te_xCk {post : Int32 → SX → Prop} {p j d f : Nat} {c q : Int32} (hP : te_P t 0 ca cn cx mb rc rs rt rl rv mem aS aT aC aP aN ns nt nc nv nN xs xt xc xv xN) (ht : t ≤ 12) (o1 : np ≤ 8) (o2 : no ≤ 16) (hp : p < np) (hj : j < no) (ed : pd p = nI d) (ef : ot j = nI f) (ec : ol j = c) (hd : d < t) (hf : f < t) (qq : te_pm q)
    (l1 : (q &&& (te_vec mem 0 0 ca aS aT aC aP d f c ^^^ (-1))) = 0 → post (q &&& (te_vec mem 0 0 ca aS aT aC aP d f c ^^^ (-1))) (nI t, nI cap, sq, vi, vs, vt, vp, nI np, nI no, nI h, tot, mb, rc, rs, rt, rl, rv, pd, ot, ol, uS, uT, uC, uP, uK))
    (l2 : ¬ (q &&& (te_vec mem 0 0 ca aS aT aC aP d f c ^^^ (-1))) = 0 → ∀ Q : SX → Prop, (∀ (h1 tot1 : Int32) (S1 T1 C1 P1 K1 : Nat → Int32), post (q &&& (te_vec mem 0 0 ca aS aT aC aP d f c ^^^ (-1))) (nI t, nI cap, sq, vi, vs, vt, vp, nI np, nI no, h1, tot1, mb, rc, rs, rt, rl, rv, pd, ot, ol, S1, T1, C1, P1, K1) → Q (nI t, nI cap, sq, vi, vs, vt, vp, nI np, nI no, h1, tot1, mb, rc, rs, rt, rl, rv, pd, ot, ol, S1, T1, C1, P1, K1)) → wpX_recordDenial Q (nI t, nI cap, sq, vi, vs, vt, vp, nI np, nI no, nI h, tot, mb, rc, rs, rt, rl, rv, pd, ot, ol, uS, uT, uC, uP, uK) (nI d) (nI f) c (q &&& (te_vec mem 0 0 ca aS aT aC aP d f c ^^^ (-1)))) : wpX_check post (nI t, nI cap, sq, vi, vs, vt, vp, nI np, nI no, nI h, tot, mb, rc, rs, rt, rl, rv, pd, ot, ol, uS, uT, uC, uP, uK) (nI p) (nI j) q := by
  have vp' : vp_in (nI p) 8 := vp_in_nI (by omega) (by decide)
  have vj : vp_in (nI j) 16 := vp_in_nI (by omega) (by decide)
  unfold wpX_check
  dsimp only
  refine te_xPc o1 (fun _ => br_f (by decide) ?_) (fun z => absurd ⟨p, hp, rfl⟩ z)
  refine te_xOb o2 (fun _ => br_f (by decide) ?_) (fun z => absurd ⟨j, hj, rfl⟩ z)
  refine te_xPm (fun _ => br_f (by decide) ?_) (fun z => absurd qq z)
  rw [nI_clamp (show p < 2 ^ 31 by omega), nI_clamp (show j < 2 ^ 31 by omega)]
  refine ⟨vp', nm_r ed ⟨vj, nm_r ef ⟨vj, nm_r ec ?_⟩⟩⟩
  exact te_xVe (w := 0) hP (by decide) ht hd hf (nm_e (br_c (fun z => l1 z) (fun z => l2 z _ (fun _ _ _ _ _ _ _ z => z))))
theorem te_yCk {post : Int32 → SY → Prop} {p j d f : Nat} {c q : Int32} (hP : te_P t 0 ca cn cx mb rc rs rt rl rv mem aS aT aC aP aN ns nt nc nv nN xs xt xc xv xN) (ht : t ≤ 12) (o1 : np ≤ 8) (o2 : no ≤ 16) (hp : p < np) (hj : j < no) (ed : pd p = nI d) (ef : ot j = nI f) (ec : ol j = c) (hd : d < t) (hf : f < t) (qq : te_pm q)
    (l1 : (q &&& (te_vec mem 0 0 ca aS aT aC aP d f c ^^^ (-1))) = 0 → post (q &&& (te_vec mem 0 0 ca aS aT aC aP d f c ^^^ (-1))) (nI t, nI cap, sq, vi, vs, vt, vp, nI np, nI no, nI h, tot, mem, aS, aT, aC, aP, aN, ns, nt, nc, nv, nN, xs, xt, xc, xv, xN, pd, ot, ol, uS, uT, uC, uP, uK))
    (l2 : ¬ (q &&& (te_vec mem 0 0 ca aS aT aC aP d f c ^^^ (-1))) = 0 → ∀ Q : SY → Prop, (∀ (h1 tot1 : Int32) (S1 T1 C1 P1 K1 : Nat → Int32), post (q &&& (te_vec mem 0 0 ca aS aT aC aP d f c ^^^ (-1))) (nI t, nI cap, sq, vi, vs, vt, vp, nI np, nI no, h1, tot1, mem, aS, aT, aC, aP, aN, ns, nt, nc, nv, nN, xs, xt, xc, xv, xN, pd, ot, ol, S1, T1, C1, P1, K1) → Q (nI t, nI cap, sq, vi, vs, vt, vp, nI np, nI no, h1, tot1, mem, aS, aT, aC, aP, aN, ns, nt, nc, nv, nN, xs, xt, xc, xv, xN, pd, ot, ol, S1, T1, C1, P1, K1)) → wpY_auditAdd Q (nI t, nI cap, sq, vi, vs, vt, vp, nI np, nI no, nI h, tot, mem, aS, aT, aC, aP, aN, ns, nt, nc, nv, nN, xs, xt, xc, xv, xN, pd, ot, ol, uS, uT, uC, uP, uK) (nI d) (nI f) c (q &&& (te_vec mem 0 0 ca aS aT aC aP d f c ^^^ (-1)))) : wpY_check post (nI t, nI cap, sq, vi, vs, vt, vp, nI np, nI no, nI h, tot, mem, aS, aT, aC, aP, aN, ns, nt, nc, nv, nN, xs, xt, xc, xv, xN, pd, ot, ol, uS, uT, uC, uP, uK) (nI p) (nI j) q := by
  have vp' : vp_in (nI p) 8 := vp_in_nI (by omega) (by decide)
  have vj : vp_in (nI j) 16 := vp_in_nI (by omega) (by decide)
  unfold wpY_check
  dsimp only
  rw [nI_clamp (show p < 2 ^ 31 by omega), nI_clamp (show j < 2 ^ 31 by omega)]
  refine br_f (nI_pos (by omega)) (br_f (nI_ge hp (by omega)) (br_f (nI_pos (by omega)) (br_t (nI_lt hj (by omega)) (te_pgT qq ⟨vp', nm_r ed ⟨vj, nm_r ef ⟨vj, nm_r ec ?_⟩⟩⟩))))
  exact te_yVe (w := 0) hP (by decide) ht hd hf (nm_e (br_c (fun z => l1 z) (fun z => l2 z _ (fun _ _ _ _ _ _ _ z => z))))
end
theorem i_vc_exec {k : Nat} {u : SX} {v : SY} (I : i_Rel k u v) (hk : k + 5 ≤ 2562) (v1 : Int32) (v2 : Int32) : wpX_exec (fun r u' => wpY_exec (fun r' v' => r' = r ∧ i_Rel (k + 5) u' v') v v1 v2) u v1 v2 := by
  have R : i_Rel (k + 5) u v := I
  obtain ⟨t, cap, np, no, h, sq, vi, vs, vt, vp, tot, mb, rc, rs, rt, rl, rv, mem, aS, aT, aC, aP, aN, ns, nt, nc, nv, nN, xs, xt, xc, xv, xN, pd, ot, ol, uS, uT, uC, uP, uK, rfl, rfl, ⟨ht4, ht, hc4, hc, hh⟩, ⟨ca0, cn0, cx0, P0⟩, ⟨ca1, cn1, cx1, P1⟩, O⟩ := I
  have O' := O
  obtain ⟨⟨o1, o2⟩, o3, o4⟩ := O'
  by_cases ok : te_ty np v1 ∧ ∃ j, j < no ∧ v2 = nI j ∧ ol j = 0
  · obtain ⟨⟨p, hp, rfl⟩, j, hj, rfl, ej⟩ := ok
    obtain ⟨d, hd, ed⟩ := o3 p hp
    obtain ⟨⟨f, hf, ef⟩, -⟩ := o4 j hj
    obtain ⟨nx, hn, hnx⟩ := te_nx (s := d) (x := f) (c := 2) P0 hd
    refine te_xEx P0 ht o1 o2 hp hj ej ed ef hd hf hn hnx (fun c1 Q hQ => ?_) (fun c1 e => ?_) (fun c1 e c2 Q hQ => ?_) (fun c1 e c2 c3 Q hQ => ?_) (fun c1 e c2 c3 => ?_)
    · obtain ⟨h1, S1, T1, C1, Q1, K1, hh1, HX, HY⟩ := te_aud (t := t) (cap := cap) (np := np) (no := no) (h := h) (sq := sq) (vi := vi) (vs := vs) (vt := vt) (vp := vp) (tot := tot) (mb := mb) (rc := rc) (rs := rs) (rt := rt) (rl := rl) (rv := rv) (mem := mem) (aS := aS) (aT := aT) (aC := aC) (aP := aP) (aN := aN) (ns := ns) (nt := nt) (nc := nc) (nv := nv) (nN := nN) (xs := xs) (xt := xt) (xc := xc) (xv := xv) (xN := xN) (pd := pd) (ot := ot) (ol := ol) (uS := uS) (uT := uT) (uC := uC) (uP := uP) (uK := uK) hc4 hc hh (nI d) (nI f) 0 4
      exact HX Q (hQ _ _ _ _ _ _ _ (te_yEx P0 ht o1 o2 hp hj ej ed ef hd hf hn hnx (fun _ Q' hQ' => HY Q' (hQ' _ _ _ _ _ _ _ ⟨rfl, te_mk ⟨⟨ht4, ht, hc4, hc, hh1⟩, ⟨_, _, _, P0⟩, ⟨_, _, _, P1⟩, O⟩⟩)) (fun z => absurd c1 z) (fun z => absurd c1 z) (fun z => absurd c1 z) (fun z => absurd c1 z)))
    · exact te_yEx P0 ht o1 o2 hp hj ej ed ef hd hf hn hnx (fun z => absurd z c1) (fun _ _ => ⟨rfl, te_mk ⟨⟨ht4, ht, hc4, hc, hh⟩, ⟨_, _, _, P0⟩, ⟨_, _, _, P1⟩, te_Opd O ⟨nx, hn, rfl⟩⟩⟩) (fun _ z => absurd e z) (fun _ z => absurd e z) (fun _ z => absurd e z)
    · obtain ⟨h1, S1, T1, C1, Q1, K1, hh1, HX, HY⟩ := te_aud (t := t) (cap := cap) (np := np) (no := no) (h := h) (sq := sq) (vi := vi) (vs := vs) (vt := vt) (vp := vp) (tot := tot) (mb := mb) (rc := rc) (rs := rs) (rt := rt) (rl := rl) (rv := rv) (mem := mem) (aS := aS) (aT := aT) (aC := aC) (aP := aP) (aN := aN) (ns := ns) (nt := nt) (nc := nc) (nv := nv) (nN := nN) (xs := xs) (xt := xt) (xc := xc) (xv := xv) (xN := xN) (pd := pd) (ot := ot) (ol := ol) (uS := uS) (uT := uT) (uC := uC) (uP := uP) (uK := uK) hc4 hc hh (nI d) (nI nx) 2 16
      exact HX Q (hQ _ _ _ _ _ _ _ (te_yEx P0 ht o1 o2 hp hj ej ed ef hd hf hn hnx (fun z => absurd z c1) (fun _ z => absurd z e) (fun _ _ _ Q' hQ' => HY Q' (hQ' _ _ _ _ _ _ _ ⟨rfl, te_mk ⟨⟨ht4, ht, hc4, hc, hh1⟩, ⟨_, _, _, P0⟩, ⟨_, _, _, P1⟩, O⟩⟩)) (fun _ _ z => absurd c2 z) (fun _ _ z => absurd c2 z)))
    · obtain ⟨h1, S1, T1, C1, Q1, K1, hh1, HX, HY⟩ := te_aud (t := t) (cap := cap) (np := np) (no := no) (h := h) (sq := sq) (vi := vi) (vs := vs) (vt := vt) (vp := vp) (tot := tot) (mb := mb) (rc := rc) (rs := rs) (rt := rt) (rl := rl) (rv := rv) (mem := mem) (aS := aS) (aT := aT) (aC := aC) (aP := aP) (aN := aN) (ns := ns) (nt := nt) (nc := nc) (nv := nv) (nN := nN) (xs := xs) (xt := xt) (xc := xc) (xv := xv) (xN := xN) (pd := pd) (ot := ot) (ol := ol) (uS := uS) (uT := uT) (uC := uC) (uP := uP) (uK := uK) hc4 hc hh (nI nx) (nI f) 0 32
      exact HX Q (hQ _ _ _ _ _ _ _ (te_yEx P0 ht o1 o2 hp hj ej ed ef hd hf hn hnx (fun z => absurd z c1) (fun _ z => absurd z e) (fun _ _ z => absurd z c2) (fun _ _ _ _ Q' hQ' => HY Q' (hQ' _ _ _ _ _ _ _ ⟨rfl, te_mk ⟨⟨ht4, ht, hc4, hc, hh1⟩, ⟨_, _, _, P0⟩, ⟨_, _, _, P1⟩, O⟩⟩)) (fun _ _ _ z => absurd c3 z)))
    · exact te_yEx P0 ht o1 o2 hp hj ej ed ef hd hf hn hnx (fun z => absurd z c1) (fun _ z => absurd z e) (fun _ _ z => absurd z c2) (fun _ _ _ z => absurd z c3) (fun _ _ _ _ => ⟨rfl, te_mk ⟨⟨ht4, ht, hc4, hc, hh⟩, ⟨_, _, _, P0⟩, ⟨_, _, _, P1⟩, te_Opd O ⟨nx, hn, rfl⟩⟩⟩)
  · have FY : wpY_exec (fun r' v' => r' = -1 ∧ i_Rel (k + 5) (nI t, nI cap, sq, vi, vs, vt, vp, nI np, nI no, nI h, tot, mb, rc, rs, rt, rl, rv, pd, ot, ol, uS, uT, uC, uP, uK) v') (nI t, nI cap, sq, vi, vs, vt, vp, nI np, nI no, nI h, tot, mem, aS, aT, aC, aP, aN, ns, nt, nc, nv, nN, xs, xt, xc, xv, xN, pd, ot, ol, uS, uT, uC, uP, uK) v1 v2 := by
      unfold wpY_exec
      dsimp only
      rcases te_neg v1 with a | ⟨p, hp, rfl⟩
      · exact br_t a ⟨rfl, R⟩
      refine br_f (nI_pos hp) (pk_le np p (fun _ => ⟨rfl, R⟩) (fun hp' => ?_))
      rcases te_neg v2 with a | ⟨j, hj, rfl⟩
      · exact br_t a ⟨rfl, R⟩
      refine br_f (nI_pos hj) (pk_lt j no (fun hj' => ⟨vp_in_nI (by omega) (by decide), ?_⟩) (fun _ => ⟨rfl, R⟩))
      rw [nI_clamp hj]
      exact br_c (fun e => absurd ⟨⟨p, hp', rfl⟩, j, hj', rfl, e⟩ ok) (fun _ => ⟨rfl, R⟩)
    unfold wpX_exec
    dsimp only
    exact te_xPc o1 (fun q1 => br_f (by decide) (te_xOc o2 (fun j hj e ec => absurd ⟨q1, j, hj, e, ec⟩ ok) (fun _ => br_t rfl FY))) (fun _ => br_t rfl FY)
theorem i_vc_create {k : Nat} {u : SX} {v : SY} (I : i_Rel k u v) (hk : k + 5 ≤ 2562) (v1 : Int32) (v2 : Int32) (v3 : Int32) : wpX_create (fun r u' => wpY_create (fun r' v' => r' = r ∧ i_Rel (k + 5) u' v') v v1 v2 v3) u v1 v2 v3 := by
  have R : i_Rel (k + 5) u v := I
  obtain ⟨t, cap, np, no, h, sq, vi, vs, vt, vp, tot, mb, rc, rs, rt, rl, rv, mem, aS, aT, aC, aP, aN, ns, nt, nc, nv, nN, xs, xt, xc, xv, xN, pd, ot, ol, uS, uT, uC, uP, uK, rfl, rfl, ⟨ht4, ht, hc4, hc, hh⟩, ⟨ca0, cn0, cx0, P0⟩, ⟨ca1, cn1, cx1, P1⟩, O⟩ := I
  have O' := O
  obtain ⟨⟨o1, o2⟩, o3, o4⟩ := O'
  by_cases ok : te_ty np v1 ∧ (∃ j, j < no ∧ v2 = nI j ∧ ol j = 1) ∧ te_ty 4 v3 ∧ ¬ v3 = 2
  · obtain ⟨⟨p, hp, rfl⟩, ⟨j, hj, rfl, ej⟩, q3, q4⟩ := ok
    obtain ⟨d, hd, ed⟩ := o3 p hp
    obtain ⟨⟨f, hf, ef⟩, -⟩ := o4 j hj
    obtain ⟨nx, hn, hnx⟩ := te_nx (s := d) (x := f) (c := v3) P0 hf
    refine te_xCt P0 ht o1 o2 hp hj ej ed ef hd hf hn hnx q3 q4 (fun q => ?_) (fun q c1 Q hQ => ?_) (fun q c1 c2 Q hQ => ?_) (fun q c1 c2 => ?_)
    · exact te_yCt P0 ht o1 o2 hp hj ej ed ef hd hf hn hnx q3 q4 (fun _ => ⟨rfl, R⟩) (fun z => absurd q (by omega)) (fun z => absurd q (by omega)) (fun z => absurd q (by omega))
    · obtain ⟨h1, S1, T1, C1, Q1, K1, hh1, HX, HY⟩ := te_aud (t := t) (cap := cap) (np := np) (no := no) (h := h) (sq := sq) (vi := vi) (vs := vs) (vt := vt) (vp := vp) (tot := tot) (mb := mb) (rc := rc) (rs := rs) (rt := rt) (rl := rl) (rv := rv) (mem := mem) (aS := aS) (aT := aT) (aC := aC) (aP := aP) (aN := aN) (ns := ns) (nt := nt) (nc := nc) (nv := nv) (nN := nN) (xs := xs) (xt := xt) (xc := xc) (xv := xv) (xN := xN) (pd := pd) (ot := ot) (ol := ol) (uS := uS) (uT := uT) (uC := uC) (uP := uP) (uK := uK) hc4 hc hh (nI d) (nI f) 1 64
      exact HX Q (hQ _ _ _ _ _ _ _ (te_yCt P0 ht o1 o2 hp hj ej ed ef hd hf hn hnx q3 q4 (fun z => absurd q (by omega)) (fun _ _ Q' hQ' => HY Q' (hQ' _ _ _ _ _ _ _ ⟨rfl, te_mk ⟨⟨ht4, ht, hc4, hc, hh1⟩, ⟨_, _, _, P0⟩, ⟨_, _, _, P1⟩, O⟩⟩)) (fun _ z => absurd c1 z) (fun _ z => absurd c1 z)))
    · obtain ⟨h1, S1, T1, C1, Q1, K1, hh1, HX, HY⟩ := te_aud (t := t) (cap := cap) (np := np) (no := no) (h := h) (sq := sq) (vi := vi) (vs := vs) (vt := vt) (vp := vp) (tot := tot) (mb := mb) (rc := rc) (rs := rs) (rt := rt) (rl := rl) (rv := rv) (mem := mem) (aS := aS) (aT := aT) (aC := aC) (aP := aP) (aN := aN) (ns := ns) (nt := nt) (nc := nc) (nv := nv) (nN := nN) (xs := xs) (xt := xt) (xc := xc) (xv := xv) (xN := xN) (pd := pd) (ot := ot) (ol := ol) (uS := uS) (uT := uT) (uC := uC) (uP := uP) (uK := uK) hc4 hc hh (nI d) (nI nx) v3 8
      exact HX Q (hQ _ _ _ _ _ _ _ (te_yCt P0 ht o1 o2 hp hj ej ed ef hd hf hn hnx q3 q4 (fun z => absurd q (by omega)) (fun _ z => absurd z c1) (fun _ _ _ Q' hQ' => HY Q' (hQ' _ _ _ _ _ _ _ ⟨rfl, te_mk ⟨⟨ht4, ht, hc4, hc, hh1⟩, ⟨_, _, _, P0⟩, ⟨_, _, _, P1⟩, O⟩⟩)) (fun _ _ z => absurd c2 z)))
    · exact te_yCt P0 ht o1 o2 hp hj ej ed ef hd hf hn hnx q3 q4 (fun z => absurd q (by omega)) (fun _ z => absurd z c1) (fun _ _ z => absurd z c2) (fun _ _ _ => ⟨nI_pred no, te_mk ⟨⟨ht4, ht, hc4, hc, hh⟩, ⟨_, _, _, P0⟩, ⟨_, _, _, P1⟩, te_Oon O q ⟨nx, hn, rfl⟩ q3⟩⟩)
  · have FY : wpY_create (fun r' v' => r' = -1 ∧ i_Rel (k + 5) (nI t, nI cap, sq, vi, vs, vt, vp, nI np, nI no, nI h, tot, mb, rc, rs, rt, rl, rv, pd, ot, ol, uS, uT, uC, uP, uK) v') (nI t, nI cap, sq, vi, vs, vt, vp, nI np, nI no, nI h, tot, mem, aS, aT, aC, aP, aN, ns, nt, nc, nv, nN, xs, xt, xc, xv, xN, pd, ot, ol, uS, uT, uC, uP, uK) v1 v2 v3 := by
      unfold wpY_create
      dsimp only
      rcases te_neg v1 with a | ⟨p, hp, rfl⟩
      · exact br_t a ⟨rfl, R⟩
      refine br_f (nI_pos hp) (pk_lt p np (fun hp' => ?_) (fun _ => ⟨rfl, R⟩))
      rcases te_neg v2 with a | ⟨j, hj, rfl⟩
      · exact br_t a ⟨rfl, R⟩
      refine br_f (nI_pos hj) (pk_lt j no (fun hj' => ⟨vp_in_nI (by omega) (by decide), ?_⟩) (fun _ => ⟨rfl, R⟩))
      rw [nI_clamp hj]
      exact br_c (fun e => te_c3F (fun z => ok ⟨⟨p, hp', rfl⟩, ⟨j, hj', rfl, e⟩, z.1, z.2⟩) ⟨rfl, R⟩) (fun _ => ⟨rfl, R⟩)
    unfold wpX_create
    dsimp only
    exact te_xPc o1 (fun q1 => br_f (by decide) (te_xOc o2 (fun j hj e ec => br_f (by decide) (te_xCl (fun q3 => br_f (by decide) (br_c (fun _ => FY) (fun z => absurd ⟨q1, ⟨j, hj, e, ec⟩, q3, z⟩ ok))) (fun _ => br_t rfl FY))) (fun _ => br_t rfl FY))) (fun _ => br_t rfl FY)
theorem i_vc_check {k : Nat} {u : SX} {v : SY} (I : i_Rel k u v) (hk : k + 5 ≤ 2562) (v1 : Int32) (v2 : Int32) (v3 : Int32) : wpX_check (fun r u' => wpY_check (fun r' v' => r' = r ∧ i_Rel (k + 5) u' v') v v1 v2 v3) u v1 v2 v3 := by
  have R : i_Rel (k + 5) u v := I
  obtain ⟨t, cap, np, no, h, sq, vi, vs, vt, vp, tot, mb, rc, rs, rt, rl, rv, mem, aS, aT, aC, aP, aN, ns, nt, nc, nv, nN, xs, xt, xc, xv, xN, pd, ot, ol, uS, uT, uC, uP, uK, rfl, rfl, ⟨ht4, ht, hc4, hc, hh⟩, ⟨ca0, cn0, cx0, P0⟩, ⟨ca1, cn1, cx1, P1⟩, O⟩ := I
  have O' := O
  obtain ⟨⟨o1, o2⟩, o3, o4⟩ := O'
  by_cases ok : te_ty np v1 ∧ te_ty no v2 ∧ te_pm v3
  · obtain ⟨⟨p, hp, rfl⟩, ⟨j, hj, rfl⟩, q3⟩ := ok
    obtain ⟨d, hd, ed⟩ := o3 p hp
    obtain ⟨⟨f, hf, ef⟩, -⟩ := o4 j hj
    refine te_xCk P0 ht o1 o2 hp hj ed ef rfl hd hf q3 (fun z => ?_) (fun z Q hQ => ?_)
    · exact te_yCk P0 ht o1 o2 hp hj ed ef rfl hd hf q3 (fun _ => ⟨rfl, R⟩) (fun y => absurd z y)
    · obtain ⟨h1, S1, T1, C1, Q1, K1, hh1, HX, HY⟩ := te_aud (t := t) (cap := cap) (np := np) (no := no) (h := h) (sq := sq) (vi := vi) (vs := vs) (vt := vt) (vp := vp) (tot := tot) (mb := mb) (rc := rc) (rs := rs) (rt := rt) (rl := rl) (rv := rv) (mem := mem) (aS := aS) (aT := aT) (aC := aC) (aP := aP) (aN := aN) (ns := ns) (nt := nt) (nc := nc) (nv := nv) (nN := nN) (xs := xs) (xt := xt) (xc := xc) (xv := xv) (xN := xN) (pd := pd) (ot := ot) (ol := ol) (uS := uS) (uT := uT) (uC := uC) (uP := uP) (uK := uK) hc4 hc hh (nI d) (nI f) (ol j) (v3 &&& (te_vec mem 0 0 ca0 aS aT aC aP d f (ol j) ^^^ (-1)))
      exact HX Q (hQ _ _ _ _ _ _ _ (te_yCk P0 ht o1 o2 hp hj ed ef rfl hd hf q3 (fun y => absurd y z) (fun _ Q' hQ' => HY Q' (hQ' _ _ _ _ _ _ _ ⟨rfl, te_mk ⟨⟨ht4, ht, hc4, hc, hh1⟩, ⟨_, _, _, P0⟩, ⟨_, _, _, P1⟩, O⟩⟩))))
  · have FY : wpY_check (fun r' v' => r' = -1 ∧ i_Rel (k + 5) (nI t, nI cap, sq, vi, vs, vt, vp, nI np, nI no, nI h, tot, mb, rc, rs, rt, rl, rv, pd, ot, ol, uS, uT, uC, uP, uK) v') (nI t, nI cap, sq, vi, vs, vt, vp, nI np, nI no, nI h, tot, mem, aS, aT, aC, aP, aN, ns, nt, nc, nv, nN, xs, xt, xc, xv, xN, pd, ot, ol, uS, uT, uC, uP, uK) v1 v2 v3 := by
      unfold wpY_check
      dsimp only
      rcases te_neg v1 with a | ⟨p, hp, rfl⟩
      · exact br_t a ⟨rfl, R⟩
      refine br_f (nI_pos hp) (pk_le np p (fun _ => ⟨rfl, R⟩) (fun hp' => ?_))
      rcases te_neg v2 with a | ⟨j, hj, rfl⟩
      · exact br_t a ⟨rfl, R⟩
      exact br_f (nI_pos hj) (pk_lt j no (fun hj' => te_pgF (fun z => ok ⟨⟨p, hp', rfl⟩, ⟨j, hj', rfl⟩, z⟩) ⟨rfl, R⟩) (fun _ => ⟨rfl, R⟩))
    unfold wpX_check
    dsimp only
    exact te_xPc o1 (fun q1 => br_f (by decide) (te_xOb o2 (fun q2 => br_f (by decide) (te_xPm (fun q3 => absurd ⟨q1, q2, q3⟩ ok) (fun _ => br_t rfl FY))) (fun _ => br_t rfl FY))) (fun _ => br_t rfl FY)
