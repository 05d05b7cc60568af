section
variable {t cap np no h : Nat} {sq vi vs vt vp tot : Int32} {mb rc rs rt rl rv mem aS aT aC aP aN ns nt nc nv nN xs xt xc xv xN pd ot ol uS uT uC uP uK : Nat → Int32}

theorem te_xQM {post : Int32 → Prop} {w ca cn cx : Nat} {va vb : Int32} (hP : te_P t w ca cn cx mb rc rs rt rl rv mem aS aT aC aP aN ns nt nc nv nN xs xt xc xv xN) (hw : w < 2) (ht : t ≤ 12)
    (f : ∀ x a, x < t → a < 8 → va = nI x → vb = nI a → post (mem (w * 96 + x * 8 + a))) (g : ¬ (te_ty t va ∧ te_ty 8 vb) → post (-1)) : wpX_queryMember post (nI t, nI cap, sq, vi, vs, vt, vp, nI np, nI no, nI h, tot, mb, rc, rs, rt, rl, rv, pd, ot, ol, uS, uT, uC, uP, uK) (nI w) va vb := by
  unfold wpX_queryMember
  dsimp only
  refine te_xTy ht (fun q1 => br_f (by decide) ?_) (fun q1 => br_t rfl (g fun z => q1 z.1))
  refine te_xAt (fun q2 => br_f (by decide) ?_) (fun q2 => br_t rfl (g fun z => q2 z.2))
  obtain ⟨x, hx, rfl⟩ := q1
  obtain ⟨a, ha, rfl⟩ := q2
  have k := f x a hx ha rfl rfl
  rw [hP.1 x a (by omega) ha] at k
  refine te_xIs hw (by omega) ha ?_
  rcases te_bv01 (mb (w * 12 + x)) a with e | e
  · rw [e] at k ⊢
    exact br_t rfl k
  · rw [e] at k ⊢
    exact br_f (by decide) k
theorem te_ix2 (w x a : Nat) : nI w * 96 + nI x * 8 + nI a = nI (w * 96 + x * 8 + a) := by
  rw [show nI w * 96 = nI (w * 96) from pk_mul w 96, show nI x * 8 = nI (x * 8) from pk_mul x 8, nI_add, nI_add]
theorem te_yQ38 {post : Int32 → Prop} {w ca cn cx x a : Nat} (hP : te_P t w ca cn cx mb rc rs rt rl rv mem aS aT aC aP aN ns nt nc nv nN xs xt xc xv xN) (hw : w < 2) (ht : t ≤ 12) (hx : x < t) (ha : a < 8) (k : post (mem (w * 96 + x * 8 + a))) : wY_policyQuery_38 post (nI x) (nI a) (nI w) (nI t) (nI cap) sq vi vs vt vp (nI np) (nI no) (nI h) tot mem aS aT aC aP aN ns nt nc nv nN xs xt xc xv xN pd ot ol uS uT uC uP uK := by
  unfold wY_policyQuery_38
  rw [te_ix2, nI_clamp (show w * 96 + x * 8 + a < 2 ^ 31 by omega)]
  refine ⟨vp_in_nI (by omega) (by decide), ?_⟩
  rw [hP.1 x a (by omega) ha] at k ⊢
  rcases te_bv01 (mb (w * 12 + x)) a with e | e
  · rw [e] at k ⊢
    exact br_t rfl k
  · rw [e] at k ⊢
    exact br_f (by decide) k
theorem te_yQMT {post : Int32 → Prop} {w ca cn cx x a : Nat} {x1 : Int32} (hP : te_P t w ca cn cx mb rc rs rt rl rv mem aS aT aC aP aN ns nt nc nv nN xs xt xc xv xN) (hw : w < 2) (ht : t ≤ 12) (hx : x < t) (ha : a < 8) (hk : (x1 = 0 ∧ w = 0) ∨ (¬ x1 = 0 ∧ w = 1))
    (k : post (mem (w * 96 + x * 8 + a))) : wY_policyQuery_9 post x1 (nI x) (nI a) (nI t) (nI cap) sq vi vs vt vp (nI np) (nI no) (nI h) tot mem aS aT aC aP aN ns nt nc nv nN xs xt xc xv xN pd ot ol uS uT uC uP uK := by
  have K := te_yQ38 (cap := cap) (np := np) (no := no) (h := h) (sq := sq) (vi := vi) (vs := vs) (vt := vt) (vp := vp) (tot := tot) (pd := pd) (ot := ot) (ol := ol) (uS := uS) (uT := uT) (uC := uC) (uP := uP) (uK := uK) hP hw ht hx ha k
  unfold wY_policyQuery_9
  refine te_yTy ht (fun _ => br_f (by decide) (te_rgT (m := 7) (by decide) rfl ⟨a, ha, rfl⟩ ?_)) (fun z => absurd ⟨x, hx, rfl⟩ z)
  rcases hk with ⟨e, rfl⟩ | ⟨e, rfl⟩
  · exact br_t e K
  · exact br_f e K
theorem te_yQMF {post : Int32 → Prop} {va vb x1 : Int32} (ht : t ≤ 12) (q : ¬ (te_ty t va ∧ te_ty 8 vb)) (k : post (-1)) : wY_policyQuery_9 post x1 va vb (nI t) (nI cap) sq vi vs vt vp (nI np) (nI no) (nI h) tot mem aS aT aC aP aN ns nt nc nv nN xs xt xc xv xN pd ot ol uS uT uC uP uK := by
  unfold wY_policyQuery_9
  refine te_yTy ht (fun q1 => br_f (by decide) (te_rgF (m := 7) (by decide) rfl (fun z => q ⟨q1, z⟩) k)) (fun _ => br_t rfl k)
theorem te_xQT {post : Int32 → Prop} {w ca cn cx : Nat} {va vb vc : Int32} (hP : te_P t w ca cn cx mb rc rs rt rl rv mem aS aT aC aP aN ns nt nc nv nN xs xt xc xv xN) (hw : w < 2) (ht : t ≤ 12)
    (f : ∀ s x, s < t → x < t → va = nI s → vb = nI x → te_ty 4 vc → post (te_tr mem w (w * 12) cx xs xt xc xv s x vc)) (g : ¬ (te_ty t va ∧ te_ty t vb ∧ te_ty 4 vc) → post (-1)) : wpX_queryTransition post (nI t, nI cap, sq, vi, vs, vt, vp, nI np, nI no, nI h, tot, mb, rc, rs, rt, rl, rv, pd, ot, ol, uS, uT, uC, uP, uK) (nI w) va vb vc := by
  unfold wpX_queryTransition
  dsimp only
  refine te_xTy ht (fun q1 => br_f (by decide) ?_) (fun q1 => br_t rfl (g fun z => q1 z.1))
  refine te_xTy ht (fun q2 => br_f (by decide) ?_) (fun q2 => br_t rfl (g fun z => q2 z.2.1))
  refine te_xCl (fun q3 => br_f (by decide) ?_) (fun q3 => br_t rfl (g fun z => q3 z.2.2))
  obtain ⟨s, hs, rfl⟩ := q1
  obtain ⟨x, hx, rfl⟩ := q2
  exact te_xTr hP hw ht hs hx (f s x hs hx rfl rfl q3)
theorem te_yQTT {post : Int32 → Prop} {w ca cn cx s x : Nat} {vc x1 : Int32} (hP : te_P t w ca cn cx mb rc rs rt rl rv mem aS aT aC aP aN ns nt nc nv nN xs xt xc xv xN) (hw : w < 2) (ht : t ≤ 12) (hs : s < t) (hx : x < t) (q3 : te_ty 4 vc) (hk : (x1 = 2 ∧ w = 0) ∨ (¬ x1 = 2 ∧ w = 1))
    (k : post (te_tr mem w (w * 12) cx xs xt xc xv s x vc)) : wY_policyQuery_76 post x1 (nI s) (nI x) vc (nI t) (nI cap) sq vi vs vt vp (nI np) (nI no) (nI h) tot mem aS aT aC aP aN ns nt nc nv nN xs xt xc xv xN pd ot ol uS uT uC uP uK := by
  have K : wY_policyQuery_115 post (nI s) (nI x) vc (nI w) (nI t) (nI cap) sq vi vs vt vp (nI np) (nI no) (nI h) tot mem aS aT aC aP aN ns nt nc nv nN xs xt xc xv xN pd ot ol uS uT uC uP uK := te_yTr hP hw ht hs hx k
  unfold wY_policyQuery_76
  refine te_yTy ht (fun _ => br_f (by decide) (te_yTy ht (fun _ => br_f (by decide) (te_rgT (m := 3) (by decide) rfl q3 ?_)) (fun z => absurd ⟨x, hx, rfl⟩ z))) (fun z => absurd ⟨s, hs, rfl⟩ z)
  rcases hk with ⟨e, rfl⟩ | ⟨e, rfl⟩
  · exact br_t e K
  · exact br_f e K
theorem te_yQTF {post : Int32 → Prop} {va vb vc x1 : Int32} (ht : t ≤ 12) (q : ¬ (te_ty t va ∧ te_ty t vb ∧ te_ty 4 vc)) (k : post (-1)) : wY_policyQuery_76 post x1 va vb vc (nI t) (nI cap) sq vi vs vt vp (nI np) (nI no) (nI h) tot mem aS aT aC aP aN ns nt nc nv nN xs xt xc xv xN pd ot ol uS uT uC uP uK := by
  unfold wY_policyQuery_76
  refine te_yTy ht (fun q1 => br_f (by decide) (te_yTy ht (fun q2 => br_f (by decide) (te_rgF (m := 3) (by decide) rfl (fun z => q ⟨q1, q2, z⟩) k)) (fun _ => br_t rfl k))) (fun _ => br_t rfl k)
end
theorem i_vc_policyQuery {k : Nat} {u : SX} {v : SY} (I : i_Rel k u v) (hk : k + 5 ≤ 2562) (v1 : Int32) (v2 : Int32) (v3 : Int32) (v4 : Int32) : wpX_policyQuery (fun r => wpY_policyQuery (fun r' => r' = r ∧ i_Rel (k + 5) u v) v v1 v2 v3 v4) u v1 v2 v3 v4 := by
  have R : i_Rel (k + 5) u v := I
  obtain ⟨t, cap, np, no, h, sq, vi, vs, vt, vp, tot, mb, rc, rs, rt, rl, rv, mem, aS, aT, aC, aP, aN, ns, nt, nc, nv, nN, xs, xt, xc, xv, xN, pd, ot, ol, uS, uT, uC, uP, uK, rfl, rfl, ⟨ht4, ht, hc4, hc, hh⟩, ⟨ca0, cn0, cx0, P0⟩, ⟨ca1, cn1, cx1, P1⟩, O⟩ := I
  unfold wpX_policyQuery
  dsimp only
  by_cases a : v1 < 0
  · refine br_t a ?_
    unfold wpY_policyQuery
    dsimp only
    exact br_f (te_ne (a := 0) a (by decide)) (br_f (te_ne (a := 1) a (by decide)) (br_f (te_ne (a := 2) a (by decide)) (br_f (te_ne (a := 3) a (by decide)) ⟨rfl, R⟩)))
  refine br_f a ?_
  by_cases b : 3 < v1
  · refine br_t b ?_
    unfold wpY_policyQuery
    dsimp only
    exact br_f (te_gt (b := 0) b (by decide)) (br_f (te_gt (b := 1) b (by decide)) (br_f (te_gt (b := 2) b (by decide)) (br_f (te_gt (b := 3) b (by decide)) ⟨rfl, R⟩)))
  refine br_f b ?_
  by_cases e0 : v1 = 0
  · refine br_t e0 (te_xQM (w := 0) P0 (by decide) ht (fun x a hx ha e1 e2 => ?_) (fun q => ?_))
    · subst e1 e2
      unfold wpY_policyQuery
      dsimp only
      exact (br_t e0 (te_yQMT (w := 0) P0 (by decide) ht hx ha (Or.inl ⟨e0, rfl⟩) ⟨rfl, R⟩))
    · unfold wpY_policyQuery
      dsimp only
      exact (br_t e0 (te_yQMF ht q ⟨rfl, R⟩))
  refine br_f e0 ?_
  by_cases e1 : v1 = 1
  · refine br_t e1 (te_xQM (w := 1) P1 (by decide) ht (fun x a hx ha e1 e2 => ?_) (fun q => ?_))
    · subst e1 e2
      unfold wpY_policyQuery
      dsimp only
      exact (br_f e0 (br_t e1 (te_yQMT (w := 1) P1 (by decide) ht hx ha (Or.inr ⟨e0, rfl⟩) ⟨rfl, R⟩)))
    · unfold wpY_policyQuery
      dsimp only
      exact (br_f e0 (br_t e1 (te_yQMF ht q ⟨rfl, R⟩)))
  refine br_f e1 ?_
  by_cases e2 : v1 = 2
  · refine br_t e2 (te_xQT (w := 0) P0 (by decide) ht (fun s x hs hx e1 e2 q3 => ?_) (fun q => ?_))
    · subst e1 e2
      unfold wpY_policyQuery
      dsimp only
      exact (br_f e0 (br_f e1 (br_t e2 (te_yQTT (w := 0) P0 (by decide) ht hs hx q3 (Or.inl ⟨e2, rfl⟩) ⟨rfl, R⟩))))
    · unfold wpY_policyQuery
      dsimp only
      exact (br_f e0 (br_f e1 (br_t e2 (te_yQTF ht q ⟨rfl, R⟩))))
  refine br_f e2 ?_
  by_cases e3 : v1 = 3
  · refine br_t e3 (te_xQT (w := 1) P1 (by decide) ht (fun s x hs hx e1 e2 q3 => ?_) (fun q => ?_))
    · subst e1 e2
      unfold wpY_policyQuery
      dsimp only
      exact (br_f e0 (br_f e1 (br_f e2 (br_t e3 (te_yQTT (w := 1) P1 (by decide) ht hs hx q3 (Or.inr ⟨e2, rfl⟩) ⟨rfl, R⟩)))))
    · unfold wpY_policyQuery
      dsimp only
      exact (br_f e0 (br_f e1 (br_f e2 (br_t e3 (te_yQTF ht q ⟨rfl, R⟩)))))
  refine br_f e3 ?_
  trivial
theorem i_vc_decide {k : Nat} {u : SX} {v : SY} (I : i_Rel k u v) (hk : k + 5 ≤ 2562) (v1 : Int32) (v2 : Int32) (v3 : Int32) (v4 : Int32) : wpX_decide (fun r => wpY_decide (fun r' => r' = r ∧ i_Rel (k + 5) u v) v v1 v2 v3 v4) u v1 v2 v3 v4 := by
  have R : i_Rel (k + 5) u v := I
  obtain ⟨t, cap, np, no, h, sq, vi, vs, vt, vp, tot, mb, rc, rs, rt, rl, rv, mem, aS, aT, aC, aP, aN, ns, nt, nc, nv, nN, xs, xt, xc, xv, xN, pd, ot, ol, uS, uT, uC, uP, uK, rfl, rfl, ⟨ht4, ht, hc4, hc, hh⟩, ⟨ca0, cn0, cx0, P0⟩, ⟨ca1, cn1, cx1, P1⟩, O⟩ := I
  have F : ∀ {r : Int32}, r = -1 → ¬ (te_ty t v1 ∧ te_ty t v2 ∧ te_ty 4 v3 ∧ (v4 = 0 ∨ v4 = 1)) → wpY_decide (fun r' => r' = r ∧ i_Rel (k + 5) (nI t, nI cap, sq, vi, vs, vt, vp, nI np, nI no, nI h, tot, mb, rc, rs, rt, rl, rv, pd, ot, ol, uS, uT, uC, uP, uK) (nI t, nI cap, sq, vi, vs, vt, vp, nI np, nI no, nI h, tot, mem, aS, aT, aC, aP, aN, ns, nt, nc, nv, nN, xs, xt, xc, xv, xN, pd, ot, ol, uS, uT, uC, uP, uK)) (nI t, nI cap, sq, vi, vs, vt, vp, nI np, nI no, nI h, tot, mem, aS, aT, aC, aP, aN, ns, nt, nc, nv, nN, xs, xt, xc, xv, xN, pd, ot, ol, uS, uT, uC, uP, uK) v1 v2 v3 v4 := by
    intro r er q
    subst er
    unfold wpY_decide
    dsimp only
    refine te_yTy ht (fun q1 => br_f (by decide) ?_) (fun _ => br_t rfl ⟨rfl, R⟩)
    refine te_yTy ht (fun q2 => br_f (by decide) ?_) (fun _ => br_t rfl ⟨rfl, R⟩)
    by_cases q3 : te_ty 4 v3
    · exact te_rgT (m := 3) (by decide) rfl q3 (br_c (fun e => absurd ⟨q1, q2, q3, Or.inl e⟩ q) (fun _ => br_c (fun e => absurd ⟨q1, q2, q3, Or.inr e⟩ q) (fun _ => ⟨rfl, R⟩)))
    · exact te_rgF (m := 3) (by decide) rfl q3 ⟨rfl, R⟩
  unfold wpX_decide
  dsimp only
  refine te_xTy ht (fun q1 => br_f (by decide) ?_) (fun q1 => br_t rfl (F rfl fun z => q1 z.1))
  refine te_xTy ht (fun q2 => br_f (by decide) ?_) (fun q2 => br_t rfl (F rfl fun z => q2 z.2.1))
  refine te_xCl (fun q3 => br_f (by decide) ?_) (fun q3 => br_t rfl (F rfl fun z => q3 z.2.2.1))
  by_cases e0 : v4 = 0
  · refine br_t e0 ?_
    obtain ⟨s, hs, rfl⟩ := q1
    obtain ⟨x, hx, rfl⟩ := q2
    subst e0
    unfold wX_decide_38
    refine te_xVe (w := 0) P0 (by decide) ht hs hx ?_
    unfold wpY_decide
    dsimp only
    refine te_yTy ht (fun _ => br_f (by decide) ?_) (fun z => absurd ⟨s, hs, rfl⟩ z)
    refine te_yTy ht (fun _ => br_f (by decide) ?_) (fun z => absurd ⟨x, hx, rfl⟩ z)
    refine te_rgT (m := 3) (by decide) rfl q3 (br_t rfl ?_)
    unfold wY_decide_40
    exact te_yVe (w := 0) P0 (by decide) ht hs hx ⟨rfl, R⟩
  refine br_f e0 ?_
  by_cases e1 : v4 = 1
  · refine br_t e1 ?_
    obtain ⟨s, hs, rfl⟩ := q1
    obtain ⟨x, hx, rfl⟩ := q2
    subst e1
    unfold wX_decide_38
    refine te_xVe (w := 1) P1 (by decide) ht hs hx ?_
    unfold wpY_decide
    dsimp only
    refine te_yTy ht (fun _ => br_f (by decide) ?_) (fun z => absurd ⟨s, hs, rfl⟩ z)
    refine te_yTy ht (fun _ => br_f (by decide) ?_) (fun z => absurd ⟨x, hx, rfl⟩ z)
    refine te_rgT (m := 3) (by decide) rfl q3 (br_f e0 (br_t rfl ?_))
    unfold wY_decide_40
    exact te_yVe (w := 1) P1 (by decide) ht hs hx ⟨rfl, R⟩
  refine br_f e1 (F rfl fun z => z.2.2.2.elim e0 e1)
theorem i_vc_spawn {k : Nat} {u : SX} {v : SY} (I : i_Rel k u v) (hk : k + 5 ≤ 2562) (v1 : Int32) : wpX_spawn (fun r u' => wpY_spawn (fun r' v' => r' = r ∧ i_Rel (k + 5) u' v') v v1) u v1 := by
  have R : i_Rel (k + 5) u v := I
  obtain ⟨t, cap, np, no, h, sq, vi, vs, vt, vp, tot, mb, rc, rs, rt, rl, rv, mem, aS, aT, aC, aP, aN, ns, nt, nc, nv, nN, xs, xt, xc, xv, xN, pd, ot, ol, uS, uT, uC, uP, uK, rfl, rfl, ⟨ht4, ht, hc4, hc, hh⟩, ⟨ca0, cn0, cx0, P0⟩, ⟨ca1, cn1, cx1, P1⟩, O⟩ := I
  have o1 : np ≤ 8 := O.1.1
  unfold wpX_spawn
  dsimp only
  refine te_xTy ht (fun q1 => br_f (by decide) ?_) (fun q1 => br_t rfl ?_)
  · refine pk_lt np 8 (fun q => ?_) (fun q => ?_)
    · have vin : vp_in (nI np) 8 := vp_in_nI q (by decide)
      rw [nI_clamp (show np < 2 ^ 31 by omega)]
      refine ⟨vin, nm_e (nm_r (nI_1 np) ?_)⟩
      unfold wpY_spawn
      dsimp only
      refine te_yTy ht (fun _ => br_f (by decide) (pk_eq np 8 (fun e => absurd e (by omega)) (fun _ => ?_))) (fun z => absurd q1 z)
      rw [nI_clamp (show np < 2 ^ 31 by omega)]
      exact ⟨vin, nm_e (nm_r (nI_1 np) ⟨nI_pred np, te_mk ⟨⟨ht4, ht, hc4, hc, hh⟩, ⟨_, _, _, P0⟩, ⟨_, _, _, P1⟩, te_Opn O q q1⟩⟩)⟩
    · unfold wpY_spawn
      dsimp only
      exact te_yTy ht (fun _ => br_f (by decide) (pk_eq np 8 (fun _ => ⟨rfl, R⟩) (fun e => absurd (show np = 8 by omega) e))) (fun z => absurd q1 z)
  · unfold wpY_spawn
    dsimp only
    exact te_yTy ht (fun z => absurd z q1) (fun _ => br_t rfl ⟨rfl, R⟩)
section
variable {t cap np no h : Nat} {sq vi vs vt vp tot : Int32} {mb rc rs rt rl rv mem aS aT aC aP aN ns nt nc nv nN xs xt xc xv xN pd ot ol uS uT uC uP uK : Nat → Int32}
theorem te_xAO {post : Int32 → SX → Prop} {a c : Int32} (hn : no < 16) (k : post (nI no) (nI t, nI cap, sq, vi, vs, vt, vp, nI np, nI (no + 1), nI h, tot, mb, rc, rs, rt, rl, rv, pd, upd ot no a, upd ol no c, uS, uT, uC, uP, uK)) : wpX_addObject post (nI t, nI cap, sq, vi, vs, vt, vp, nI np, nI no, nI h, tot, mb, rc, rs, rt, rl, rv, pd, ot, ol, uS, uT, uC, uP, uK) a c := by
  have vin : vp_in (nI no) 16 := vp_in_nI hn (by decide)
  unfold wpX_addObject
  dsimp only
  rw [nI_clamp (show no < 2 ^ 31 by omega)]
  exact ⟨vin, nm_e ⟨vin, nm_e (nm_r (nI_1 no) k)⟩⟩
end
theorem i_vc_makeObject {k : Nat} {u : SX} {v : SY} (I : i_Rel k u v) (hk : k + 5 ≤ 2562) (v1 : Int32) (v2 : Int32) : wpX_makeObject (fun r u' => wpY_makeObject (fun r' v' => r' = r ∧ i_Rel (k + 5) u' v') v v1 v2) u v1 v2 := by
  have R : i_Rel (k + 5) u v := I
  obtain ⟨t, cap, np, no, h, sq, vi, vs, vt, vp, tot, mb, rc, rs, rt, rl, rv, mem, aS, aT, aC, aP, aN, ns, nt, nc, nv, nN, xs, xt, xc, xv, xN, pd, ot, ol, uS, uT, uC, uP, uK, rfl, rfl, ⟨ht4, ht, hc4, hc, hh⟩, ⟨ca0, cn0, cx0, P0⟩, ⟨ca1, cn1, cx1, P1⟩, O⟩ := I
  have o2 : no ≤ 16 := O.1.2
  unfold wpX_makeObject
  dsimp only
  refine te_xTy ht (fun q1 => br_f (by decide) ?_) (fun q1 => br_t rfl ?_)
  · refine te_xCl (fun q2 => br_f (by decide) ?_) (fun q2 => br_t rfl ?_)
    · refine pk_lt no 16 (fun q => ?_) (fun q => ?_)
      · have vin : vp_in (nI no) 16 := vp_in_nI q (by decide)
        refine te_xAO q ?_
        dsimp only
        unfold wpY_makeObject
        dsimp only
        refine te_yTy ht (fun _ => br_f (by decide) (te_rgT (m := 3) (by decide) rfl q2 (pk_eq no 16 (fun e => absurd e (by omega)) (fun _ => ?_)))) (fun z => absurd q1 z)
        rw [nI_clamp (show no < 2 ^ 31 by omega)]
        exact ⟨vin, nm_e ⟨vin, nm_e (nm_r (nI_1 no) ⟨nI_pred no, te_mk ⟨⟨ht4, ht, hc4, hc, hh⟩, ⟨_, _, _, P0⟩, ⟨_, _, _, P1⟩, te_Oon O q q1 q2⟩⟩)⟩⟩
      · unfold wpY_makeObject
        dsimp only
        exact te_yTy ht (fun _ => br_f (by decide) (te_rgT (m := 3) (by decide) rfl q2 (pk_eq no 16 (fun _ => ⟨rfl, R⟩) (fun e => absurd (show no = 16 by omega) e)))) (fun z => absurd q1 z)
    · unfold wpY_makeObject
      dsimp only
      exact te_yTy ht (fun _ => br_f (by decide) (te_rgF (m := 3) (by decide) rfl q2 ⟨rfl, R⟩)) (fun z => absurd q1 z)
  · unfold wpY_makeObject
    dsimp only
    exact te_yTy ht (fun z => absurd z q1) (fun _ => br_t rfl ⟨rfl, R⟩)
