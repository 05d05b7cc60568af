theorem te_rgT {A B : Prop} {m : Nat} {v M : Int32} (hm : m < 2 ^ 30) (hM : M = nI m) (q : te_ty (m + 1) v) (a : A) : (v < 0 → B) ∧ (¬ v < 0 → ((v ≤ M → A) ∧ (¬ v ≤ M → B))) := by
  subst hM
  exact br_f (te_rt hm q).1 (br_t (te_rt hm q).2 a)
theorem te_rgF {A B : Prop} {m : Nat} {v M : Int32} (hm : m < 2 ^ 30) (hM : M = nI m) (q : ¬ te_ty (m + 1) v) (b : B) : (v < 0 → B) ∧ (¬ v < 0 → ((v ≤ M → A) ∧ (¬ v ≤ M → B))) := by
  subst hM
  exact br_c (fun _ => b) (fun z => br_f (te_rf hm q z) b)
theorem te_pgT {A B : Prop} {v : Int32} (q : te_pm v) (a : A) : (v < 1 → B) ∧ (¬ v < 1 → ((v ≤ 255 → A) ∧ (¬ v ≤ 255 → B))) := br_f (te_pmt q).1 (br_t (te_pmt q).2 a)
theorem te_pgF {A B : Prop} {v : Int32} (q : ¬ te_pm v) (b : B) : (v < 1 → B) ∧ (¬ v < 1 → ((v ≤ 255 → A) ∧ (¬ v ≤ 255 → B))) := br_c (fun _ => b) (fun z => br_f (te_pmf q z) b)
section
variable {t cap np no h : Nat} {sq vi vs vt vp tot : Int32} {mb rc rs rt rl rv mem aS aT aC aP aN ns nt nc nv nN xs xt xc xv xN pd ot ol uS uT uC uP uK : Nat → Int32}

theorem te_QM {ca cn cx x j : Nat} {m y : Int32} (q : te_P t 0 ca cn cx mb rc rs rt rl rv mem aS aT aC aP aN ns nt nc nv nN xs xt xc xv xN) (hj : 96 ≤ j) : te_P t 0 ca cn cx (upd mb (12 + x) m) rc rs rt rl rv (upd mem j y) aS aT aC aP aN ns nt nc nv nN xs xt xc xv xN :=
  te_PM q (fun _ _ => pk_un (by omega)) (fun _ _ => pk_un (by omega)) ⟨rfl, rfl, rfl⟩ ⟨rfl, rfl, rfl⟩ te_eq4r te_eq4r te_eq4r te_eq4r te_eq4r te_eq4r
theorem te_xAs {post : Int32 → SX → Prop} {l c C : Nat} {a b d e : Int32} (hl : l < 3) (hc : rc (3 + l) = nI c) (hC : C ≤ 24) (hcC : c ≤ C)
    (f : c < C → post (nI c) (nI t, nI cap, sq, vi, vs, vt, vp, nI np, nI no, nI h, tot, mb, upd rc (3 + l) (nI (c + 1)), upd rs (72 + l * 24 + c) a, upd rt (72 + l * 24 + c) b, upd rl (72 + l * 24 + c) d, upd rv (72 + l * 24 + c) e, pd, ot, ol, uS, uT, uC, uP, uK))
    (g : c = C → post (-2) (nI t, nI cap, sq, vi, vs, vt, vp, nI np, nI no, nI h, tot, mb, rc, rs, rt, rl, rv, pd, ot, ol, uS, uT, uC, uP, uK)) : wpX_appendStaged post (nI t, nI cap, sq, vi, vs, vt, vp, nI np, nI no, nI h, tot, mb, rc, rs, rt, rl, rv, pd, ot, ol, uS, uT, uC, uP, uK) (nI l) (nI C) a b d e := by
  have hi : vp_in (nI (72 + l * 24 + c)) 144 ∨ ¬ c < C := by
    by_cases q : c < C
    · exact Or.inl (vp_in_nI (by omega) (by decide))
    · exact Or.inr q
  unfold wpX_appendStaged
  dsimp only
  refine te_xCR (w := 1) (by decide) hl ?_
  rw [show rc (1 * 3 + l) = nI c from hc]
  refine pk_lt c C (fun q => ?_) (fun q => g (by omega))
  have hi := hi.resolve_right (fun z => z q)
  refine te_xFR (w := 1) ?_
  rw [show (1 * 3 + l) * 24 = 72 + l * 24 by omega]
  refine nm_r (nI_add (72 + l * 24) c) ?_
  rw [nI_clamp (show 72 + l * 24 + c < 2 ^ 31 by omega)]
  refine ⟨hi, nm_e ⟨hi, nm_e ⟨hi, nm_e ⟨hi, nm_e (te_xLP (w := 1) ?_)⟩⟩⟩⟩
  refine ⟨vp_in_nI (by omega) (by decide), ?_⟩
  rw [nI_clamp (show 1 * 3 + l < 2 ^ 31 by omega), nI_1 c]
  exact nm_e (f q)
theorem te_xClr {post : SX → Prop} (k : ∀ y z : Nat → Int32, (∀ x, x < 12 → y (12 + x) = 0) → (∀ x, x < 12 → y x = mb x) → (∀ m, m < 3 → z (3 + m) = 0) → (∀ m, m < 3 → z m = rc m) → post (nI t, nI cap, sq, vi, vs, vt, vp, nI np, nI no, nI h, tot, y, z, rs, rt, rl, rv, pd, ot, ol, uS, uT, uC, uP, uK)) : wpX_stageClear post (nI t, nI cap, sq, vi, vs, vt, vp, nI np, nI no, nI h, tot, mb, rc, rs, rt, rl, rv, pd, ot, ol, uS, uT, uC, uP, uK) := by
  refine loop_0 (fun n i s => wX_stageClear_2 post (nI t) (nI cap) sq vi vs vt vp (nI np) (nI no) (nI h) tot n (nI i) s rc rs rt rl rv pd ot ol uS uT uC uP uK) (fun i s => (∀ x, x < i → s (12 + x) = 0) ∧ (∀ x, x < 12 → s x = mb x)) 12 mb ⟨fun i hi => absurd hi (Nat.not_lt_zero _), fun _ _ => rfl⟩ ?_ ?_
  · intro n y hy
    refine br_t (nI_le (a := 12) (Nat.le_refl _) (by decide)) ?_
    refine loop_0 (fun n i s => wX_stageClear_26 post (nI t) (nI cap) sq vi vs vt vp (nI np) (nI no) (nI h) tot n (nI i) y s rs rt rl rv pd ot ol uS uT uC uP uK) (fun i s => (∀ m, m < i → s (3 + m) = 0) ∧ (∀ m, m < 3 → s m = rc m)) 3 rc ⟨fun i hi => absurd hi (Nat.not_lt_zero _), fun _ _ => rfl⟩ ?_ ?_
    · intro n z hz
      exact br_t (nI_le (a := 3) (Nat.le_refl _) (by decide)) (k y z hy.1 hy.2 hz.1 hz.2)
    · intro n i z hi hz ih
      refine br_f (nI_ge (b := 3) hi (by decide)) (te_xLP (w := 1) ⟨vp_in_nI (by omega) (by decide), ?_⟩)
      rw [nI_clamp (show 1 * 3 + i < 2 ^ 31 by omega)]
      refine nm_e (nm_r (nI_1 i) (ih _ ⟨fun m hm => ?_, fun m hm => ?_⟩))
      · by_cases q : m = i
        · subst q
          exact pk_us
        · rw [pk_un (by omega)]
          exact hz.1 m (by omega)
      · rw [pk_un (by omega)]
        exact hz.2 m hm
  · intro n i y hi hy ih
    refine br_f (nI_ge (b := 12) hi (by decide)) ?_
    rw [show (12 : Int32) + nI i = nI (12 + i) from nI_add 12 i, nI_clamp (show 12 + i < 2 ^ 31 by omega)]
    refine ⟨vp_in_nI (by omega) (by decide), nm_e (nm_r (nI_1 i) (ih _ ⟨fun m hm => ?_, fun m hm => ?_⟩))⟩
    · by_cases q : m = i
      · subst q
        exact pk_us
      · rw [pk_un (by omega)]
        exact hy.1 m (by omega)
    · rw [pk_un (by omega)]
      exact hy.2 m hm
theorem te_yClr {post : SY → Prop} (k : ∀ y : Nat → Int32, (∀ j, j < 96 → y (96 + j) = 0) → (∀ j, j < 96 → y j = mem j) → post (nI t, nI cap, sq, vi, vs, vt, vp, nI np, nI no, nI h, tot, y, aS, aT, aC, aP, upd aN 1 0, ns, nt, nc, nv, upd nN 1 0, xs, xt, xc, xv, upd xN 1 0, pd, ot, ol, uS, uT, uC, uP, uK)) : wpY_stageClear post (nI t, nI cap, sq, vi, vs, vt, vp, nI np, nI no, nI h, tot, mem, aS, aT, aC, aP, aN, ns, nt, nc, nv, nN, xs, xt, xc, xv, xN, pd, ot, ol, uS, uT, uC, uP, uK) := by
  refine loop_0 (fun n i s => wY_stageClear_3 post (nI t) (nI cap) sq vi vs vt vp (nI np) (nI no) (nI h) tot n (nI (96 + i)) s aS aT aC aP aN ns nt nc nv nN xs xt xc xv xN pd ot ol uS uT uC uP uK) (fun i s => (∀ x, x < i → s (96 + x) = 0) ∧ (∀ x, x < 96 → s x = mem x)) 96 mem ⟨fun i hi => absurd hi (Nat.not_lt_zero _), fun _ _ => rfl⟩ ?_ ?_
  · intro n y hy
    exact br_t (nI_le (a := 192) (Nat.le_refl _) (by decide)) (nm_e (nm_e (nm_e (k y hy.1 hy.2))))
  · intro n i y hi hy ih
    refine br_f (nI_ge (b := 192) (by omega) (by decide)) ?_
    rw [nI_clamp (show 96 + i < 2 ^ 31 by omega), te_vb0]
    refine ⟨vp_in_nI (by omega) (by decide), nm_e (nm_r (nI_1 (96 + i)) (ih _ ⟨fun m hm => ?_, fun m hm => ?_⟩))⟩
    · by_cases q : m = i
      · subst q
        exact pk_us
      · rw [pk_un (by omega)]
        exact hy.1 m (by omega)
    · rw [pk_un (by omega)]
      exact hy.2 m hm
end
theorem i_vc_stageMember {k : Nat} {u : SX} {v : SY} (I : i_Rel k u v) (hk : k + 5 ≤ 2562) (v1 : Int32) (v2 : Int32) : wpX_stageMember (fun r u' => wpY_stageMember (fun r' v' => r' = r ∧ i_Rel (k + 5) u' v') v v1 v2) u v1 v2 := by
  have R : i_Rel (k + 5) u v := I
  obtain ⟨t, cap, np, no, h, sq, vi, vs, vt, vp, tot, mb, rc, rs, rt, rl, rv, mem, aS, aT, aC, aP, aN, ns, nt, nc, nv, nN, xs, xt, xc, xv, xN, pd, ot, ol, uS, uT, uC, uP, uK, rfl, rfl, ⟨ht4, ht, hc4, hc, hh⟩, ⟨ca0, cn0, cx0, P0⟩, ⟨ca1, cn1, cx1, P1⟩, O⟩ := I
  unfold wpX_stageMember
  dsimp only
  refine te_xTy ht (fun q1 => br_f (by decide) ?_) (fun q1 => br_t rfl ?_)
  · obtain ⟨x, hx, rfl⟩ := q1
    refine te_xAt (fun q2 => br_f (by decide) ?_) (fun q2 => br_t rfl ?_)
    · obtain ⟨a, ha, rfl⟩ := q2
      have hX : x < 12 := by omega
      have em : mem (96 + x * 8 + a) = te_bv (mb (12 + x)) a := P1.1 x a hX ha
      have i1 : vp_in (nI (96 + x * 8 + a)) 192 := vp_in_nI (by omega) (by decide)
      have i2 : vp_in (nI (12 + x)) 24 := vp_in_nI (by omega) (by decide)
      have e12 : (12 : Int32) + nI x = nI (12 + x) := nI_add 12 x
      have e96 : (96 : Int32) + nI x * 8 + nI a = nI (96 + x * 8 + a) := by
        rw [show nI x * 8 = nI (x * 8) from pk_mul x 8, show (96 : Int32) + nI (x * 8) = nI (96 + x * 8) from nI_add 96 _, nI_add]
      refine te_xIs (w := 1) (by decide) hX ha ?_
      rcases te_bv01 (mb (12 + x)) a with e | e
      · refine br_t e ?_
        rw [e12, nI_clamp (show 12 + x < 2 ^ 31 by omega)]
        refine ⟨i2, i2, nm_e ?_⟩
        unfold wpY_stageMember
        dsimp only
        refine te_yTy ht (fun _ => br_f (by decide) (br_f (nI_pos (by omega)) (br_t (nI_le (b := 7) (by omega) (by decide)) (nm_r e96 ⟨i1, ?_⟩)))) (fun z => absurd ⟨x, hx, rfl⟩ z)
        rw [nI_clamp (show 96 + x * 8 + a < 2 ^ 31 by omega), te_vb1]
        exact br_t (em.trans e) ⟨i1, nm_e ⟨rfl, te_mk ⟨⟨ht4, ht, hc4, hc, hh⟩, ⟨_, _, _, te_QM P0 (by omega)⟩, ⟨_, _, _, te_PS P1 hX ha rfl⟩, O⟩⟩⟩
      · refine br_f (fun z => absurd (e.symm.trans z) (by decide)) ?_
        unfold wpY_stageMember
        dsimp only
        refine te_yTy ht (fun _ => br_f (by decide) (br_f (nI_pos (by omega)) (br_t (nI_le (b := 7) (by omega) (by decide)) (nm_r e96 ⟨i1, ?_⟩)))) (fun z => absurd ⟨x, hx, rfl⟩ z)
        rw [nI_clamp (show 96 + x * 8 + a < 2 ^ 31 by omega)]
        exact br_f (fun z => absurd ((em.trans e).symm.trans z) (by decide)) ⟨rfl, R⟩
    · unfold wpY_stageMember
      dsimp only
      exact te_yTy ht (fun _ => br_f (by decide) (te_rgF (m := 7) (by decide) rfl q2 ⟨rfl, R⟩)) (fun z => absurd ⟨x, hx, rfl⟩ z)
  · unfold wpY_stageMember
    dsimp only
    exact te_yTy ht (fun z => absurd z q1) (fun _ => br_t rfl ⟨rfl, R⟩)
theorem i_vc_stageAllow {k : Nat} {u : SX} {v : SY} (I : i_Rel k u v) (hk : k + 5 ≤ 2562) (v1 : Int32) (v2 : Int32) (v3 : Int32) (v4 : Int32) : wpX_stageAllow (fun r u' => wpY_stageAllow (fun r' v' => r' = r ∧ i_Rel (k + 5) u' v') v v1 v2 v3 v4) u v1 v2 v3 v4 := by
  have R : i_Rel (k + 5) u v := I
  obtain ⟨t, cap, np, no, h, sq, vi, vs, vt, vp, tot, mb, rc, rs, rt, rl, rv, mem, aS, aT, aC, aP, aN, ns, nt, nc, nv, nN, xs, xt, xc, xv, xN, pd, ot, ol, uS, uT, uC, uP, uK, rfl, rfl, ⟨ht4, ht, hc4, hc, hh⟩, ⟨ca0, cn0, cx0, P0⟩, ⟨ca1, cn1, cx1, P1⟩, O⟩ := I
  have hr : rc (3 + 0) = nI ca1 := P1.2.2.1.1
  have hN : aN 1 = nI ca1 := P1.2.2.2.1.1
  have hcn : ca1 ≤ 24 := P1.2.1.1
  unfold wpX_stageAllow
  dsimp only
  refine te_xPr ht (fun q => br_f (by decide) ?_) (fun q => br_t rfl ?_)
  · obtain ⟨qa, qb, qc, qd⟩ := q
    refine te_xAs (l := 0) (c := ca1) (C := 24) (by decide) hr (by decide) hcn (fun q => ?_) (fun q => ?_)
    · have hi : vp_in (nI (24 + ca1)) 48 := vp_in_nI (by omega) (by decide)
      dsimp only
      have K : wY_stageAllow_42 (fun r' v' => r' = nI ca1 ∧ i_Rel (k + 5) (nI t, nI cap, sq, vi, vs, vt, vp, nI np, nI no, nI h, tot, mb, upd rc (3 + 0) (nI (ca1 + 1)), upd rs (72 + 0 * 24 + ca1) v1, upd rt (72 + 0 * 24 + ca1) v2, upd rl (72 + 0 * 24 + ca1) v3, upd rv (72 + 0 * 24 + ca1) v4, pd, ot, ol, uS, uT, uC, uP, uK) v') v1 v2 v3 v4 (nI t) (nI cap) sq vi vs vt vp (nI np) (nI no) (nI h) tot mem aS aT aC aP aN ns nt nc nv nN xs xt xc xv xN pd ot ol uS uT uC uP uK := by
        unfold wY_stageAllow_42
        rw [hN]
        refine te_rgT (m := 3) (by decide) rfl qc (te_pgT qd (pk_eq ca1 24 (fun e => absurd e (by omega)) (fun _ => nm_e (nm_r (nI_add 24 ca1) ?_))))
        rw [nI_clamp (show 24 + ca1 < 2 ^ 31 by omega), nI_1 ca1]
        exact ⟨hi, nm_e ⟨hi, nm_e ⟨hi, nm_e ⟨hi, nm_e (nm_e ⟨rfl, te_mk ⟨⟨ht4, ht, hc4, hc, hh⟩, ⟨_, _, _, te_QA P0⟩, ⟨_, _, _, te_PA P1 q qa qb⟩, O⟩⟩)⟩⟩⟩⟩
      unfold wpY_stageAllow
      dsimp only
      refine te_yTA ht (fun _ => ?_) (fun z => absurd qa z)
      unfold wY_stageAllow_18
      exact te_yTA ht (fun _ => K) (fun z => br_t (qb.resolve_left z) K)
    · dsimp only
      have K : wY_stageAllow_42 (fun r' v' => r' = -2 ∧ i_Rel (k + 5) (nI t, nI cap, sq, vi, vs, vt, vp, nI np, nI no, nI h, tot, mb, rc, rs, rt, rl, rv, pd, ot, ol, uS, uT, uC, uP, uK) v') v1 v2 v3 v4 (nI t) (nI cap) sq vi vs vt vp (nI np) (nI no) (nI h) tot mem aS aT aC aP aN ns nt nc nv nN xs xt xc xv xN pd ot ol uS uT uC uP uK := by
        unfold wY_stageAllow_42
        rw [hN]
        exact te_rgT (m := 3) (by decide) rfl qc (te_pgT qd (pk_eq ca1 24 (fun _ => ⟨rfl, R⟩) (fun e => absurd q e)))
      unfold wpY_stageAllow
      dsimp only
      refine te_yTA ht (fun _ => ?_) (fun z => absurd qa z)
      unfold wY_stageAllow_18
      exact te_yTA ht (fun _ => K) (fun z => br_t (qb.resolve_left z) K)
  · have K : te_tn t v1 → te_sn t v2 → wY_stageAllow_42 (fun r' v' => r' = -1 ∧ i_Rel (k + 5) (nI t, nI cap, sq, vi, vs, vt, vp, nI np, nI no, nI h, tot, mb, rc, rs, rt, rl, rv, pd, ot, ol, uS, uT, uC, uP, uK) v') v1 v2 v3 v4 (nI t) (nI cap) sq vi vs vt vp (nI np) (nI no) (nI h) tot mem aS aT aC aP aN ns nt nc nv nN xs xt xc xv xN pd ot ol uS uT uC uP uK := by
      intro qa qb
      unfold wY_stageAllow_42
      by_cases qc : te_ty 4 v3
      · refine te_rgT (m := 3) (by decide) rfl qc ?_
        by_cases qd : te_pm v4
        · exact absurd ⟨qa, qb, qc, qd⟩ q
        · exact te_pgF qd ⟨rfl, R⟩
      · exact te_rgF (m := 3) (by decide) rfl qc ⟨rfl, R⟩
    unfold wpY_stageAllow
    dsimp only
    refine te_yTA ht (fun qa => ?_) (fun _ => ⟨rfl, R⟩)
    unfold wY_stageAllow_18
    exact te_yTA ht (fun qb => K qa (Or.inl qb)) (fun _ => br_c (fun e => K qa (Or.inr e)) (fun _ => ⟨rfl, R⟩))
theorem i_vc_stageNeverallow {k : Nat} {u : SX} {v : SY} (I : i_Rel k u v) (hk : k + 5 ≤ 2562) (v1 : Int32) (v2 : Int32) (v3 : Int32) (v4 : Int32) : wpX_stageNeverallow (fun r u' => wpY_stageNeverallow (fun r' v' => r' = r ∧ i_Rel (k + 5) u' v') v v1 v2 v3 v4) u v1 v2 v3 v4 := by
  have R : i_Rel (k + 5) u v := I
  obtain ⟨t, cap, np, no, h, sq, vi, vs, vt, vp, tot, mb, rc, rs, rt, rl, rv, mem, aS, aT, aC, aP, aN, ns, nt, nc, nv, nN, xs, xt, xc, xv, xN, pd, ot, ol, uS, uT, uC, uP, uK, rfl, rfl, ⟨ht4, ht, hc4, hc, hh⟩, ⟨ca0, cn0, cx0, P0⟩, ⟨ca1, cn1, cx1, P1⟩, O⟩ := I
  have hr : rc (3 + 1) = nI cn1 := P1.2.2.1.2.1
  have hN : nN 1 = nI cn1 := P1.2.2.2.1.2.1
  have hcn : cn1 ≤ 6 := P1.2.1.2.1
  unfold wpX_stageNeverallow
  dsimp only
  refine te_xPr ht (fun q => br_f (by decide) ?_) (fun q => br_t rfl ?_)
  · obtain ⟨qa, qb, qc, qd⟩ := q
    refine te_xAs (l := 1) (c := cn1) (C := 6) (by decide) hr (by decide) hcn (fun q => ?_) (fun q => ?_)
    · have hi : vp_in (nI (6 + cn1)) 12 := vp_in_nI (by omega) (by decide)
      dsimp only
      have K : wY_stageNeverallow_42 (fun r' v' => r' = nI cn1 ∧ i_Rel (k + 5) (nI t, nI cap, sq, vi, vs, vt, vp, nI np, nI no, nI h, tot, mb, upd rc (3 + 1) (nI (cn1 + 1)), upd rs (72 + 1 * 24 + cn1) v1, upd rt (72 + 1 * 24 + cn1) v2, upd rl (72 + 1 * 24 + cn1) v3, upd rv (72 + 1 * 24 + cn1) v4, pd, ot, ol, uS, uT, uC, uP, uK) v') v1 v2 v3 v4 (nI t) (nI cap) sq vi vs vt vp (nI np) (nI no) (nI h) tot mem aS aT aC aP aN ns nt nc nv nN xs xt xc xv xN pd ot ol uS uT uC uP uK := by
        unfold wY_stageNeverallow_42
        rw [hN]
        refine te_rgT (m := 3) (by decide) rfl qc (te_pgT qd (pk_eq cn1 6 (fun e => absurd e (by omega)) (fun _ => nm_e (nm_r (nI_add 6 cn1) ?_))))
        rw [nI_clamp (show 6 + cn1 < 2 ^ 31 by omega), nI_1 cn1]
        exact ⟨hi, nm_e ⟨hi, nm_e ⟨hi, nm_e ⟨hi, nm_e (nm_e ⟨rfl, te_mk ⟨⟨ht4, ht, hc4, hc, hh⟩, ⟨_, _, _, te_QN P0⟩, ⟨_, _, _, te_PN P1 q qa qb⟩, O⟩⟩)⟩⟩⟩⟩
      unfold wpY_stageNeverallow
      dsimp only
      refine te_yTA ht (fun _ => ?_) (fun z => absurd qa z)
      unfold wY_stageNeverallow_18
      exact te_yTA ht (fun _ => K) (fun z => br_t (qb.resolve_left z) K)
    · dsimp only
      have K : wY_stageNeverallow_42 (fun r' v' => r' = -2 ∧ i_Rel (k + 5) (nI t, nI cap, sq, vi, vs, vt, vp, nI np, nI no, nI h, tot, mb, rc, rs, rt, rl, rv, pd, ot, ol, uS, uT, uC, uP, uK) v') v1 v2 v3 v4 (nI t) (nI cap) sq vi vs vt vp (nI np) (nI no) (nI h) tot mem aS aT aC aP aN ns nt nc nv nN xs xt xc xv xN pd ot ol uS uT uC uP uK := by
        unfold wY_stageNeverallow_42
        rw [hN]
        exact te_rgT (m := 3) (by decide) rfl qc (te_pgT qd (pk_eq cn1 6 (fun _ => ⟨rfl, R⟩) (fun e => absurd q e)))
      unfold wpY_stageNeverallow
      dsimp only
      refine te_yTA ht (fun _ => ?_) (fun z => absurd qa z)
      unfold wY_stageNeverallow_18
      exact te_yTA ht (fun _ => K) (fun z => br_t (qb.resolve_left z) K)
  · have K : te_tn t v1 → te_sn t v2 → wY_stageNeverallow_42 (fun r' v' => r' = -1 ∧ i_Rel (k + 5) (nI t, nI cap, sq, vi, vs, vt, vp, nI np, nI no, nI h, tot, mb, rc, rs, rt, rl, rv, pd, ot, ol, uS, uT, uC, uP, uK) v') v1 v2 v3 v4 (nI t) (nI cap) sq vi vs vt vp (nI np) (nI no) (nI h) tot mem aS aT aC aP aN ns nt nc nv nN xs xt xc xv xN pd ot ol uS uT uC uP uK := by
      intro qa qb
      unfold wY_stageNeverallow_42
      by_cases qc : te_ty 4 v3
      · refine te_rgT (m := 3) (by decide) rfl qc ?_
        by_cases qd : te_pm v4
        · exact absurd ⟨qa, qb, qc, qd⟩ q
        · exact te_pgF qd ⟨rfl, R⟩
      · exact te_rgF (m := 3) (by decide) rfl qc ⟨rfl, R⟩
    unfold wpY_stageNeverallow
    dsimp only
    refine te_yTA ht (fun qa => ?_) (fun _ => ⟨rfl, R⟩)
    unfold wY_stageNeverallow_18
    exact te_yTA ht (fun qb => K qa (Or.inl qb)) (fun _ => br_c (fun e => K qa (Or.inr e)) (fun _ => ⟨rfl, R⟩))
theorem i_vc_stageTransition {k : Nat} {u : SX} {v : SY} (I : i_Rel k u v) (hk : k + 5 ≤ 2562) (v1 : Int32) (v2 : Int32) (v3 : Int32) (v4 : Int32) : wpX_stageTransition (fun r u' => wpY_stageTransition (fun r' v' => r' = r ∧ i_Rel (k + 5) u' v') v v1 v2 v3 v4) u v1 v2 v3 v4 := by
  have R : i_Rel (k + 5) u v := I
  obtain ⟨t, cap, np, no, h, sq, vi, vs, vt, vp, tot, mb, rc, rs, rt, rl, rv, mem, aS, aT, aC, aP, aN, ns, nt, nc, nv, nN, xs, xt, xc, xv, xN, pd, ot, ol, uS, uT, uC, uP, uK, rfl, rfl, ⟨ht4, ht, hc4, hc, hh⟩, ⟨ca0, cn0, cx0, P0⟩, ⟨ca1, cn1, cx1, P1⟩, O⟩ := I
  have hr : rc (3 + 2) = nI cx1 := P1.2.2.1.2.2
  have hN : xN 1 = nI cx1 := P1.2.2.2.1.2.2
  have hcn : cx1 ≤ 12 := P1.2.1.2.2
  unfold wpX_stageTransition
  dsimp only
  have F : ∀ {r : Int32}, r = -1 → (¬ (te_tn t v1 ∧ te_tn t v2 ∧ te_ty 4 v3 ∧ te_ty t v4)) → wpY_stageTransition (fun r' v' => r' = r ∧ i_Rel (k + 5) (nI t, nI cap, sq, vi, vs, vt, vp, nI np, nI no, nI h, tot, mb, rc, rs, rt, rl, rv, pd, ot, ol, uS, uT, uC, uP, uK) v') (nI t, nI cap, sq, vi, vs, vt, vp, nI np, nI no, nI h, tot, mem, aS, aT, aC, aP, aN, ns, nt, nc, nv, nN, xs, xt, xc, xv, xN, pd, ot, ol, uS, uT, uC, uP, uK) v1 v2 v3 v4 := by
    intro r er q
    subst er
    unfold wpY_stageTransition
    dsimp only
    refine te_yTA ht (fun qa => ?_) (fun _ => ⟨rfl, R⟩)
    unfold wY_stageTransition_18
    refine te_yTA ht (fun qb => ?_) (fun _ => ⟨rfl, R⟩)
    unfold wY_stageTransition_36
    by_cases qc : te_ty 4 v3
    · refine te_rgT (m := 3) (by decide) rfl qc ?_
      exact te_yTy ht (fun qd => absurd ⟨qa, qb, qc, qd⟩ q) (fun _ => br_t rfl ⟨rfl, R⟩)
    · exact te_rgF (m := 3) (by decide) rfl qc ⟨rfl, R⟩
  refine te_xTn ht (fun qa => br_f (by decide) ?_) (fun qa => br_t rfl (F rfl fun z => qa z.1))
  refine te_xTn ht (fun qb => br_f (by decide) ?_) (fun qb => br_t rfl (F rfl fun z => qb z.2.1))
  refine te_xCl (fun qc => br_f (by decide) ?_) (fun qc => br_t rfl (F rfl fun z => qc z.2.2.1))
  refine te_xTy ht (fun qd => br_f (by decide) ?_) (fun qd => br_t rfl (F rfl fun z => qd z.2.2.2))
  refine te_xAs (l := 2) (c := cx1) (C := 12) (by decide) hr (by decide) hcn (fun q => ?_) (fun q => ?_)
  · have hi : vp_in (nI (12 + cx1)) 24 := vp_in_nI (by omega) (by decide)
    dsimp only
    unfold wpY_stageTransition
    dsimp only
    refine te_yTA ht (fun _ => ?_) (fun z => absurd qa z)
    unfold wY_stageTransition_18
    refine te_yTA ht (fun _ => ?_) (fun z => absurd qb z)
    unfold wY_stageTransition_36
    rw [hN]
    refine te_rgT (m := 3) (by decide) rfl qc (te_yTy ht (fun _ => br_f (by decide) (pk_eq cx1 12 (fun e => absurd e (by omega)) (fun _ => nm_e (nm_r (nI_add 12 cx1) ?_)))) (fun z => absurd qd z))
    rw [nI_clamp (show 12 + cx1 < 2 ^ 31 by omega), nI_1 cx1]
    exact ⟨hi, nm_e ⟨hi, nm_e ⟨hi, nm_e ⟨hi, nm_e (nm_e ⟨rfl, te_mk ⟨⟨ht4, ht, hc4, hc, hh⟩, ⟨_, _, _, te_QX P0⟩, ⟨_, _, _, te_PX P1 q qa (Or.inl qb) qd⟩, O⟩⟩)⟩⟩⟩⟩
  · dsimp only
    unfold wpY_stageTransition
    dsimp only
    refine te_yTA ht (fun _ => ?_) (fun z => absurd qa z)
    unfold wY_stageTransition_18
    refine te_yTA ht (fun _ => ?_) (fun z => absurd qb z)
    unfold wY_stageTransition_36
    rw [hN]
    exact te_rgT (m := 3) (by decide) rfl qc (te_yTy ht (fun _ => br_f (by decide) (pk_eq cx1 12 (fun _ => ⟨rfl, R⟩) (fun e => absurd q e))) (fun z => absurd qd z))
theorem i_vc_stageClear {k : Nat} {u : SX} {v : SY} (I : i_Rel k u v) (hk : k + 5 ≤ 2562) : wpX_stageClear (fun u' => wpY_stageClear (fun v' => i_Rel (k + 5) u' v') v) u := by
  have R : i_Rel (k + 5) u v := I
  obtain ⟨t, cap, np, no, h, sq, vi, vs, vt, vp, tot, mb, rc, rs, rt, rl, rv, mem, aS, aT, aC, aP, aN, ns, nt, nc, nv, nN, xs, xt, xc, xv, xN, pd, ot, ol, uS, uT, uC, uP, uK, rfl, rfl, ⟨ht4, ht, hc4, hc, hh⟩, ⟨ca0, cn0, cx0, P0⟩, ⟨ca1, cn1, cx1, P1⟩, O⟩ := I
  refine te_xClr (fun y z g1 g2 g3 g4 => te_yClr (fun y' f1 f2 => te_mk ⟨⟨ht4, ht, hc4, hc, hh⟩, ⟨ca0, cn0, cx0, ?_⟩, ⟨0, 0, 0, ?_⟩, O⟩))
  · exact te_QC P0 g2 f2 ⟨g4 0 (by decide), g4 1 (by decide), g4 2 (by decide)⟩ ⟨pk_un (by decide), pk_un (by decide), pk_un (by decide)⟩
  · exact te_PC g1 f1 ⟨g3 0 (by decide), g3 1 (by decide), g3 2 (by decide)⟩ ⟨pk_us, pk_us, pk_us⟩
theorem i_vc_commit {k : Nat} {u : SX} {v : SY} (I : i_Rel k u v) (hk : k + 5 ≤ 2562) : wpX_commit (fun r u' => wpY_commit (fun r' v' => r' = r ∧ i_Rel (k + 5) u' v') v) u := by
  have R : i_Rel (k + 5) u v := I
  obtain ⟨t, cap, np, no, h, sq, vi, vs, vt, vp, tot, mb, rc, rs, rt, rl, rv, mem, aS, aT, aC, aP, aN, ns, nt, nc, nv, nN, xs, xt, xc, xv, xN, pd, ot, ol, uS, uT, uC, uP, uK, rfl, rfl, ⟨ht4, ht, hc4, hc, hh⟩, ⟨ca0, cn0, cx0, P0⟩, ⟨ca1, cn1, cx1, P1⟩, O⟩ := I
  rcases te_rows cn1 t (te_bp mem ca1 aS aT aC aP ns nt nc nv) with hz | ⟨n, s, x, hn, ho, hl⟩
  · refine te_xCoN P1 ht hz (fun y z a b d e hy hz3 hz' e1 e2 e3 hj => te_yCoN P1 ht hz (fun y' a1 b1 d1 e1' a2 b2 d2 e2' a3 b3 d3 e3' hy' p1 p2 p3 => ⟨rfl, te_mk ⟨⟨ht4, ht, hc4, hc, hh⟩, ⟨ca1, cn1, cx1, ?_⟩, ⟨ca1, cn1, cx1, ?_⟩, O⟩⟩))
    · have P1' := P1
      obtain ⟨-, ⟨q1, q2, q3⟩, ⟨r1, r2, r3⟩, -⟩ := P1'
      refine te_PM P1 (fun x hx => ?_) (fun j hj => ?_) ⟨hz3.1.trans r1.symm, hz3.2.1.trans r2.symm, hz3.2.2.trans r3.symm⟩ ⟨pk_us, pk_us, pk_us⟩ e1 e2 e3 (fun i hi => ?_) (fun i hi => ?_) (fun i hi => ?_)
      · rw [show 0 * 12 + x = x by omega]
        exact hy.1 x hx
      · rw [show 0 * 96 + j = j by omega]
        exact hy'.1 j hj
      · rw [show 0 * 24 + i = i by omega]
        exact ⟨p1.1.1 i (by omega), p1.2.1.1 i (by omega), p1.2.2.1.1 i (by omega), p1.2.2.2.1 i (by omega)⟩
      · rw [show 0 * 6 + i = i by omega]
        exact ⟨p2.1.1 i (by omega), p2.2.1.1 i (by omega), p2.2.2.1.1 i (by omega), p2.2.2.2.1 i (by omega)⟩
      · rw [show 0 * 12 + i = i by omega]
        exact ⟨p3.1.1 i (by omega), p3.2.1.1 i (by omega), p3.2.2.1.1 i (by omega), p3.2.2.2.1 i (by omega)⟩
    · exact te_PM P1 (fun x hx => hy.2 _ (by omega)) (fun j hj => hy'.2 _ (by omega)) ⟨hz' 3 (by decide), hz' 4 (by decide), hz' 5 (by decide)⟩ ⟨pk_un (by decide), pk_un (by decide), pk_un (by decide)⟩ (fun i hi => hj _ (by omega)) (fun i hi => hj _ (by omega)) (fun i hi => hj _ (by omega)) (fun i hi => ⟨p1.1.2 _ (by omega), p1.2.1.2 _ (by omega), p1.2.2.1.2 _ (by omega), p1.2.2.2.2 _ (by omega)⟩) (fun i hi => ⟨p2.1.2 _ (by omega), p2.2.1.2 _ (by omega), p2.2.2.1.2 _ (by omega), p2.2.2.2.2 _ (by omega)⟩) (fun i hi => ⟨p3.1.2 _ (by omega), p3.2.1.2 _ (by omega), p3.2.2.1.2 _ (by omega), p3.2.2.2.2 _ (by omega)⟩)
  · exact te_xCoV P1 ht hn hl ho (te_yCoV P1 ht4 ht hn hl ho ⟨rfl, te_mk ⟨⟨ht4, ht, hc4, hc, hh⟩, ⟨_, _, _, P0⟩, ⟨_, _, _, P1⟩, O⟩⟩)
