def te_I (t cap np no h : Nat) (mb rc rs rt rl rv mem aS aT aC aP aN ns nt nc nv nN xs xt xc xv xN pd ot ol : Nat → Int32) : Prop :=
  (4 ≤ t ∧ t ≤ 12 ∧ 4 ≤ cap ∧ cap ≤ 16 ∧ h ≤ cap) ∧ (∃ ca cn cx, te_P t 0 ca cn cx mb rc rs rt rl rv mem aS aT aC aP aN ns nt nc nv nN xs xt xc xv xN) ∧ (∃ ca cn cx, te_P t 1 ca cn cx mb rc rs rt rl rv mem aS aT aC aP aN ns nt nc nv nN xs xt xc xv xN) ∧ te_O t np no pd ot ol
def i_Rel (_ : Nat) (u : SX) (v : SY) : Prop :=
  ∃ (t cap np no h : Nat) (sq vi vs vt vp tot : Int32) (mb rc rs rt rl rv mem aS aT aC aP aN ns nt nc nv nN xs xt xc xv xN pd ot ol uS uT uC uP uK : Nat → Int32),
    u = (nI t, nI cap, sq, vi, vs, vt, vp, nI np, nI no, nI h, tot, mb, rc, rs, rt, rl, rv, pd, ot, ol, uS, uT, uC, uP, uK) ∧ v = (nI t, nI cap, sq, vi, vs, vt, vp, nI np, nI no, nI h, tot, mem, aS, aT, aC, aP, aN, ns, nt, nc, nv, nN, xs, xt, xc, xv, xN, pd, ot, ol, uS, uT, uC, uP, uK) ∧ te_I t cap np no h mb rc rs rt rl rv mem aS aT aC aP aN ns nt nc nv nN xs xt xc xv xN pd ot ol
theorem i_up {k : Nat} {u : SX} {v : SY} (h : i_Rel k u v) : i_Rel (k + 5) u v := h
section
variable {t cap np no h : Nat} {sq vi vs vt vp tot : Int32} {mb rc rs rt rl rv mem aS aT aC aP aN ns nt nc nv nN xs xt xc xv xN pd ot ol uS uT uC uP uK : Nat → Int32}

theorem te_mk {k : Nat} (q : te_I t cap np no h mb rc rs rt rl rv mem aS aT aC aP aN ns nt nc nv nN xs xt xc xv xN pd ot ol) : i_Rel k (nI t, nI cap, sq, vi, vs, vt, vp, nI np, nI no, nI h, tot, mb, rc, rs, rt, rl, rv, pd, ot, ol, uS, uT, uC, uP, uK) (nI t, nI cap, sq, vi, vs, vt, vp, nI np, nI no, nI h, tot, mem, aS, aT, aC, aP, aN, ns, nt, nc, nv, nN, xs, xt, xc, xv, xN, pd, ot, ol, uS, uT, uC, uP, uK) :=
  ⟨t, cap, np, no, h, sq, vi, vs, vt, vp, tot, mb, rc, rs, rt, rl, rv, mem, aS, aT, aC, aP, aN, ns, nt, nc, nv, nN, xs, xt, xc, xv, xN, pd, ot, ol, uS, uT, uC, uP, uK, rfl, rfl, q⟩
end
theorem te_gt {v a b : Int32} (h : a < v) (hab : ¬ a < b) : ¬ v = b := fun e => hab (e ▸ h)
/-! the constructors -/
def te_cl (v : Int32) (hi m : Nat) : Prop := (¬ 4 ≤ v ∧ m = 4) ∨ (4 ≤ v ∧ ¬ v ≤ nI hi ∧ m = hi) ∨ (4 ≤ v ∧ v ≤ nI hi ∧ v = nI m)
theorem te_clE (v : Int32) {hi : Nat} (h4 : 4 ≤ hi) (hh : hi < 2 ^ 31) : ∃ m, te_cl v hi m ∧ 4 ≤ m ∧ m ≤ hi := by
  rcases te_neg v with h0 | ⟨j, hj, rfl⟩
  · exact ⟨4, Or.inl ⟨te_nle (a := 4) h0 (by decide), rfl⟩, by omega, h4⟩
  · rcases Nat.lt_or_ge j 4 with a | a
    · exact ⟨4, Or.inl ⟨nI_ge (b := 4) a (by decide), rfl⟩, by omega, h4⟩
    · have a' : (4 : Int32) ≤ nI j := nI_le (a := 4) a hj
      rcases Nat.lt_or_ge hi j with b | b
      · exact ⟨hi, Or.inr (Or.inl ⟨a', nI_ge b hj, rfl⟩), h4, Nat.le_refl _⟩
      · exact ⟨j, Or.inr (Or.inr ⟨a', nI_le b hh, rfl⟩), a, b⟩
theorem te_clB {A : Int32 → Prop} {v H : Int32} {hi m : Nat} (c : te_cl v hi m) (k : A (nI m)) (hH : H = nI hi) : (4 ≤ v → (v ≤ H → A v) ∧ (¬ v ≤ H → A H)) ∧ (¬ 4 ≤ v → A 4) := by
  subst hH
  rcases c with ⟨a, rfl⟩ | ⟨a, b, rfl⟩ | ⟨a, b, rfl⟩
  · exact br_f a k
  · exact br_t a (br_f b k)
  · exact br_t a (br_t b k)
theorem te_xCp {post : Int32 → Prop} {v H : Int32} {hi m : Nat} (c : te_cl v hi m) (k : post (nI m)) (hH : H = nI hi) : wpX_clamp post v 4 H := te_clB (A := post) c k hH
theorem te_P00 {t w : Nat} : te_P t w 0 0 0 (fun _ => 0) (fun _ => 0) (fun _ => 0) (fun _ => 0) (fun _ => 0) (fun _ => 0) (fun _ => 0) (fun _ => 0) (fun _ => 0) (fun _ => 0) (fun _ => 0) (fun _ => 0) (fun _ => 0) (fun _ => 0) (fun _ => 0) (fun _ => 0) (fun _ => 0) (fun _ => 0) (fun _ => 0) (fun _ => 0) (fun _ => 0) (fun _ => 0) := by
  refine ⟨fun x a _ _ => (te_bv0 a).symm, ⟨by omega, by omega, by omega⟩, ⟨rfl, rfl, rfl⟩, ⟨rfl, rfl, rfl⟩, te_lst0, te_lst0, te_lst0⟩
theorem i_vc0 (k0 : Int32) (k1 : Int32) : wpX_init (fun u => wpY_init (fun v => i_Rel 2 u v) k0 k1) k0 k1 := by
  obtain ⟨m0, c0, l0, h0⟩ := te_clE k0 (hi := 12) (by decide) (by decide)
  obtain ⟨m1, c1, l1, h1⟩ := te_clE k1 (hi := 16) (by decide) (by decide)
  have F : i_Rel 2 (nI m0, nI m1, 0, -5, -5, -5, -5, 0, 0, 0, 0, fun _ => 0, fun _ => 0, fun _ => 0, fun _ => 0, fun _ => 0, fun _ => 0, fun _ => 0, fun _ => 0, fun _ => 0, fun _ => 0, fun _ => 0, fun _ => 0, fun _ => 0, fun _ => 0) (nI m0, nI m1, 0, -5, -5, -5, -5, 0, 0, 0, 0, fun _ => 0, fun _ => 0, fun _ => 0, fun _ => 0, fun _ => 0, fun _ => 0, fun _ => 0, fun _ => 0, fun _ => 0, fun _ => 0, fun _ => 0, fun _ => 0, fun _ => 0, fun _ => 0, fun _ => 0, fun _ => 0, fun _ => 0, fun _ => 0, fun _ => 0, fun _ => 0, fun _ => 0, fun _ => 0, fun _ => 0, fun _ => 0) :=
    te_mk (t := m0) (cap := m1) (np := 0) (no := 0) (h := 0) ⟨⟨l0, h0, l1, h1, by omega⟩, ⟨0, 0, 0, te_P00⟩, ⟨0, 0, 0, te_P00⟩, ⟨by omega, by omega⟩, fun i hi => absurd hi (Nat.not_lt_zero _), fun i hi => absurd hi (Nat.not_lt_zero _)⟩
  unfold wpX_init
  refine te_xCp (hi := 12) c0 ?_ rfl
  refine te_xCp (hi := 16) c1 ?_ rfl
  unfold wpY_init
  refine te_clB (A := fun z => wY_init_240 _ k1 z 0 0 0 (-5) (-5) (-5) (-5) 0 0 0 0 (fun _ => 0) (fun _ => 0) (fun _ => 0) (fun _ => 0) (fun _ => 0) (fun _ => 0) (fun _ => 0) (fun _ => 0) (fun _ => 0) (fun _ => 0) (fun _ => 0) (fun _ => 0) (fun _ => 0) (fun _ => 0) (fun _ => 0) (fun _ => 0) (fun _ => 0) (fun _ => 0) (fun _ => 0) (fun _ => 0) (fun _ => 0) (fun _ => 0) (fun _ => 0) (fun _ => 0)) (hi := 12) c0 ?_ rfl
  unfold wY_init_240
  exact te_clB (A := fun z => i_Rel 2 (nI m0, nI m1, 0, -5, -5, -5, -5, 0, 0, 0, 0, fun _ => 0, fun _ => 0, fun _ => 0, fun _ => 0, fun _ => 0, fun _ => 0, fun _ => 0, fun _ => 0, fun _ => 0, fun _ => 0, fun _ => 0, fun _ => 0, fun _ => 0, fun _ => 0) (nI m0, z, 0, -5, -5, -5, -5, 0, 0, 0, 0, fun _ => 0, fun _ => 0, fun _ => 0, fun _ => 0, fun _ => 0, fun _ => 0, fun _ => 0, fun _ => 0, fun _ => 0, fun _ => 0, fun _ => 0, fun _ => 0, fun _ => 0, fun _ => 0, fun _ => 0, fun _ => 0, fun _ => 0, fun _ => 0, fun _ => 0, fun _ => 0, fun _ => 0, fun _ => 0, fun _ => 0, fun _ => 0)) (hi := 16) c1 F rfl
theorem i_vc_policyInfo {k : Nat} {u : SX} {v : SY} (I : i_Rel k u v) (hk : k + 5 ≤ 2562) (v1 : Int32) : wpX_policyInfo (fun r => wpY_policyInfo (fun r' => r' = r ∧ i_Rel (k + 5) u v) v v1) u v1 := by
  have R : i_Rel (k + 5) u v := I
  obtain ⟨t, cap, np, no, h, sq, vi, vs, vt, vp, tot, mb, rc, rs, rt, rl, rv, mem, aS, aT, aC, aP, aN, ns, nt, nc, nv, nN, xs, xt, xc, xv, xN, pd, ot, ol, uS, uT, uC, uP, uK, rfl, rfl, ⟨ht4, ht, hc4, hc, hh⟩, ⟨ca0, cn0, cx0, P0⟩, ⟨ca1, cn1, cx1, P1⟩, O⟩ := I
  obtain ⟨-, -, ⟨r1, r2, r3⟩, ⟨n1, n2, n3⟩, -⟩ := P1
  obtain ⟨-, -, ⟨r4, r5, r6⟩, ⟨n4, n5, n6⟩, -⟩ := P0
  unfold wpX_policyInfo
  dsimp only
  by_cases a : v1 < 0
  · refine br_t a ?_
    unfold wpY_policyInfo
    dsimp only
    exact br_f (te_ne (a := 0) a (by decide)) (br_f (te_ne (a := 1) a (by decide)) (br_f (te_ne (a := 2) a (by decide)) (br_f (te_ne (a := 3) a (by decide)) (br_f (te_ne (a := 4) a (by decide)) (br_f (te_ne (a := 5) a (by decide)) (br_f (te_ne (a := 6) a (by decide)) (br_f (te_ne (a := 7) a (by decide)) (br_f (te_ne (a := 8) a (by decide)) (br_f (te_ne (a := 9) a (by decide)) (br_f (te_ne (a := 10) a (by decide)) (br_f (te_ne (a := 11) a (by decide)) (br_f (te_ne (a := 12) a (by decide)) (br_f (te_ne (a := 13) a (by decide)) (⟨rfl, R⟩))))))))))))))
  · refine br_f a ?_
    by_cases b : 13 < v1
    · refine br_t b ?_
      unfold wpY_policyInfo
      dsimp only
      exact br_f (te_gt (b := 0) b (by decide)) (br_f (te_gt (b := 1) b (by decide)) (br_f (te_gt (b := 2) b (by decide)) (br_f (te_gt (b := 3) b (by decide)) (br_f (te_gt (b := 4) b (by decide)) (br_f (te_gt (b := 5) b (by decide)) (br_f (te_gt (b := 6) b (by decide)) (br_f (te_gt (b := 7) b (by decide)) (br_f (te_gt (b := 8) b (by decide)) (br_f (te_gt (b := 9) b (by decide)) (br_f (te_gt (b := 10) b (by decide)) (br_f (te_gt (b := 11) b (by decide)) (br_f (te_gt (b := 12) b (by decide)) (br_f (te_gt (b := 13) b (by decide)) (⟨rfl, R⟩))))))))))))))
    · refine br_f b ?_
      by_cases e0 : v1 = 0
      · refine br_t e0 ?_
        unfold wpY_policyInfo
        dsimp only
        exact br_t e0 ⟨rfl, R⟩
      refine br_f e0 ?_
      by_cases e1 : v1 = 1
      · refine br_t e1 ?_
        unfold wpY_policyInfo
        dsimp only
        exact br_f e0 (br_t e1 ⟨rfl, R⟩)
      refine br_f e1 ?_
      by_cases e2 : v1 = 2
      · refine br_t e2 ?_
        unfold wpY_policyInfo
        dsimp only
        exact br_f e0 (br_f e1 (br_t e2 ⟨rfl, R⟩))
      refine br_f e2 ?_
      by_cases e3 : v1 = 3
      · refine br_t e3 ?_
        unfold wpY_policyInfo
        dsimp only
        exact br_f e0 (br_f e1 (br_f e2 (br_t e3 ⟨rfl, R⟩)))
      refine br_f e3 ?_
      by_cases e4 : v1 = 4
      · refine br_t e4 ?_
        unfold wpY_policyInfo
        dsimp only
        exact br_f e0 (br_f e1 (br_f e2 (br_f e3 (br_t e4 ⟨rfl, R⟩))))
      refine br_f e4 ?_
      by_cases e5 : v1 = 5
      · refine br_t e5 (te_xCR (w := 1) (l := 0) (by decide) (by decide) ?_)
        unfold wpY_policyInfo
        dsimp only
        exact br_f e0 (br_f e1 (br_f e2 (br_f e3 (br_f e4 (br_t e5 ⟨n1.trans (Eq.symm r1), R⟩)))))
      refine br_f e5 ?_
      by_cases e6 : v1 = 6
      · refine br_t e6 (te_xCR (w := 1) (l := 1) (by decide) (by decide) ?_)
        unfold wpY_policyInfo
        dsimp only
        exact br_f e0 (br_f e1 (br_f e2 (br_f e3 (br_f e4 (br_f e5 (br_t e6 ⟨n2.trans (Eq.symm r2), R⟩))))))
      refine br_f e6 ?_
      by_cases e7 : v1 = 7
      · refine br_t e7 (te_xCR (w := 1) (l := 2) (by decide) (by decide) ?_)
        unfold wpY_policyInfo
        dsimp only
        exact br_f e0 (br_f e1 (br_f e2 (br_f e3 (br_f e4 (br_f e5 (br_f e6 (br_t e7 ⟨n3.trans (Eq.symm r3), R⟩)))))))
      refine br_f e7 ?_
      by_cases e8 : v1 = 8
      · refine br_t e8 (te_xCR (w := 0) (l := 0) (by decide) (by decide) ?_)
        unfold wpY_policyInfo
        dsimp only
        exact br_f e0 (br_f e1 (br_f e2 (br_f e3 (br_f e4 (br_f e5 (br_f e6 (br_f e7 (br_t e8 ⟨n4.trans (Eq.symm r4), R⟩))))))))
      refine br_f e8 ?_
      by_cases e9 : v1 = 9
      · refine br_t e9 (te_xCR (w := 0) (l := 1) (by decide) (by decide) ?_)
        unfold wpY_policyInfo
        dsimp only
        exact br_f e0 (br_f e1 (br_f e2 (br_f e3 (br_f e4 (br_f e5 (br_f e6 (br_f e7 (br_f e8 (br_t e9 ⟨n5.trans (Eq.symm r5), R⟩)))))))))
      refine br_f e9 ?_
      by_cases e10 : v1 = 10
      · refine br_t e10 (te_xCR (w := 0) (l := 2) (by decide) (by decide) ?_)
        unfold wpY_policyInfo
        dsimp only
        exact br_f e0 (br_f e1 (br_f e2 (br_f e3 (br_f e4 (br_f e5 (br_f e6 (br_f e7 (br_f e8 (br_f e9 (br_t e10 ⟨n6.trans (Eq.symm r6), R⟩))))))))))
      refine br_f e10 ?_
      by_cases e11 : v1 = 11
      · refine br_t e11 ?_
        unfold wpY_policyInfo
        dsimp only
        exact br_f e0 (br_f e1 (br_f e2 (br_f e3 (br_f e4 (br_f e5 (br_f e6 (br_f e7 (br_f e8 (br_f e9 (br_f e10 (br_t e11 ⟨rfl, R⟩)))))))))))
      refine br_f e11 ?_
      by_cases e12 : v1 = 12
      · refine br_t e12 ?_
        unfold wpY_policyInfo
        dsimp only
        exact br_f e0 (br_f e1 (br_f e2 (br_f e3 (br_f e4 (br_f e5 (br_f e6 (br_f e7 (br_f e8 (br_f e9 (br_f e10 (br_f e11 (br_t e12 ⟨rfl, R⟩))))))))))))
      refine br_f e12 ?_
      by_cases e13 : v1 = 13
      · refine br_t e13 ?_
        unfold wpY_policyInfo
        dsimp only
        exact br_f e0 (br_f e1 (br_f e2 (br_f e3 (br_f e4 (br_f e5 (br_f e6 (br_f e7 (br_f e8 (br_f e9 (br_f e10 (br_f e11 (br_f e12 (br_t e13 ⟨rfl, R⟩)))))))))))))
      refine br_f e13 ?_
      trivial
theorem i_vc_label {k : Nat} {u : SX} {v : SY} (I : i_Rel k u v) (hk : k + 5 ≤ 2562) (v1 : Int32) (v2 : Int32) : wpX_label (fun r => wpY_label (fun r' => r' = r ∧ i_Rel (k + 5) u v) v v1 v2) u v1 v2 := by
  have R : i_Rel (k + 5) u v := I
  obtain ⟨t, cap, np, no, h, sq, vi, vs, vt, vp, tot, mb, rc, rs, rt, rl, rv, mem, aS, aT, aC, aP, aN, ns, nt, nc, nv, nN, xs, xt, xc, xv, xN, pd, ot, ol, uS, uT, uC, uP, uK, rfl, rfl, ⟨ht4, ht, hc4, hc, hh⟩, ⟨ca0, cn0, cx0, P0⟩, ⟨ca1, cn1, cx1, P1⟩, O⟩ := I
  obtain ⟨⟨o1, o2⟩, -⟩ := O
  unfold wpX_label
  dsimp only
  by_cases a : v1 < 0
  · refine br_t a ?_
    unfold wpY_label
    dsimp only
    exact br_f (te_ne (a := 0) a (by decide)) (br_f (te_ne (a := 1) a (by decide)) (br_f (te_ne (a := 2) a (by decide)) ⟨rfl, R⟩))
  · refine br_f a ?_
    by_cases b : 2 < v1
    · refine br_t b ?_
      unfold wpY_label
      dsimp only
      exact br_f (te_gt (b := 0) b (by decide)) (br_f (te_gt (b := 1) b (by decide)) (br_f (te_gt (b := 2) b (by decide)) ⟨rfl, R⟩))
    · refine br_f b ?_
      by_cases e0 : v1 = 0
      · refine br_t e0 (te_xPc o1 (fun q => br_f (by decide) ?_) (fun q => br_t rfl ?_))
        · obtain ⟨j, hj, rfl⟩ := q
          refine ⟨vp_in_nI (by omega) (by decide), ?_⟩
          unfold wpY_label
          dsimp only
          rw [nI_clamp (show j < 2 ^ 31 by omega)]
          exact br_t e0 (br_f (nI_pos (by omega)) (br_t (nI_lt hj (by omega)) ⟨vp_in_nI (by omega) (by decide), rfl, R⟩))
        · unfold wpY_label
          dsimp only
          refine br_t e0 ?_
          rcases te_neg v2 with z | ⟨j, hj, rfl⟩
          · exact br_t z ⟨rfl, R⟩
          · exact br_f (nI_pos hj) (pk_lt j np (fun w => absurd ⟨j, w, rfl⟩ q) (fun _ => ⟨rfl, R⟩))
      refine br_f e0 ?_
      by_cases e1 : v1 = 1
      · refine br_t e1 (te_xOb o2 (fun q => br_f (by decide) ?_) (fun q => br_t rfl ?_))
        · obtain ⟨j, hj, rfl⟩ := q
          refine ⟨vp_in_nI (by omega) (by decide), ?_⟩
          unfold wpY_label wY_label_35
          dsimp only
          rw [nI_clamp (show j < 2 ^ 31 by omega)]
          exact br_f e0 (br_t e1 (br_f (nI_pos (by omega)) (br_t (nI_lt hj (by omega)) (br_t e1 ⟨vp_in_nI (by omega) (by decide), rfl, R⟩))))
        · unfold wpY_label wY_label_35
          dsimp only
          refine br_f e0 (br_t e1 ?_)
          rcases te_neg v2 with z | ⟨j, hj, rfl⟩
          · exact br_t z ⟨rfl, R⟩
          · exact br_f (nI_pos hj) (pk_lt j no (fun w => absurd ⟨j, w, rfl⟩ q) (fun _ => ⟨rfl, R⟩))
      refine br_f e1 ?_
      by_cases e2 : v1 = 2
      · refine br_t e2 (te_xOb o2 (fun q => br_f (by decide) ?_) (fun q => br_t rfl ?_))
        · obtain ⟨j, hj, rfl⟩ := q
          refine ⟨vp_in_nI (by omega) (by decide), ?_⟩
          unfold wpY_label wY_label_35
          dsimp only
          rw [nI_clamp (show j < 2 ^ 31 by omega)]
          exact br_f e0 (br_f e1 (br_t e2 (br_f (nI_pos (by omega)) (br_t (nI_lt hj (by omega)) (br_f e1 ⟨vp_in_nI (by omega) (by decide), rfl, R⟩)))))
        · unfold wpY_label wY_label_35
          dsimp only
          refine br_f e0 (br_f e1 (br_t e2 ?_))
          rcases te_neg v2 with z | ⟨j, hj, rfl⟩
          · exact br_t z ⟨rfl, R⟩
          · exact br_f (nI_pos hj) (pk_lt j no (fun w => absurd ⟨j, w, rfl⟩ q) (fun _ => ⟨rfl, R⟩))
      exact br_f e2 trivial
theorem i_vc_audit {k : Nat} {u : SX} {v : SY} (I : i_Rel k u v) (hk : k + 5 ≤ 2562) (v1 : Int32) (v2 : Int32) : wpX_audit (fun r => wpY_audit (fun r' => r' = r ∧ i_Rel (k + 5) u v) v v1 v2) u v1 v2 := by
  have R : i_Rel (k + 5) u v := I
  obtain ⟨t, cap, np, no, h, sq, vi, vs, vt, vp, tot, mb, rc, rs, rt, rl, rv, mem, aS, aT, aC, aP, aN, ns, nt, nc, nv, nN, xs, xt, xc, xv, xN, pd, ot, ol, uS, uT, uC, uP, uK, rfl, rfl, ⟨ht4, ht, hc4, hc, hh⟩, ⟨ca0, cn0, cx0, P0⟩, ⟨ca1, cn1, cx1, P1⟩, O⟩ := I
  unfold wpX_audit
  dsimp only
  by_cases e5 : v2 = 5
  · refine br_t e5 ?_
    unfold wpY_audit
    dsimp only
    exact br_t e5 ⟨rfl, R⟩
  refine br_f e5 ?_
  by_cases e6 : v2 = 6
  · refine br_t e6 ?_
    unfold wpY_audit
    dsimp only
    exact br_f e5 (br_t e6 ⟨rfl, R⟩)
  refine br_f e6 ?_
  have YF : (v1 < 0 ∨ ¬ v1 < nI h) → wpY_audit (fun r' => r' = -1 ∧ i_Rel (k + 5) (nI t, nI cap, sq, vi, vs, vt, vp, nI np, nI no, nI h, tot, mb, rc, rs, rt, rl, rv, pd, ot, ol, uS, uT, uC, uP, uK) (nI t, nI cap, sq, vi, vs, vt, vp, nI np, nI no, nI h, tot, mem, aS, aT, aC, aP, aN, ns, nt, nc, nv, nN, xs, xt, xc, xv, xN, pd, ot, ol, uS, uT, uC, uP, uK)) (nI t, nI cap, sq, vi, vs, vt, vp, nI np, nI no, nI h, tot, mem, aS, aT, aC, aP, aN, ns, nt, nc, nv, nN, xs, xt, xc, xv, xN, pd, ot, ol, uS, uT, uC, uP, uK) v1 v2 := by
    intro q
    unfold wpY_audit
    dsimp only
    refine br_f e5 (br_f e6 (br_c (fun _ => ⟨rfl, R⟩) (fun _ => br_c (fun _ => ?_) (fun _ => ⟨rfl, R⟩))))
    by_cases z : v1 < 0
    · exact br_t z ⟨rfl, R⟩
    · exact br_f z (br_f (q.resolve_left z) ⟨rfl, R⟩)
  rcases te_neg v1 with a | ⟨i, hi, rfl⟩
  · exact br_t a (YF (Or.inl a))
  refine br_f (nI_pos hi) ?_
  by_cases b : nI i < nI h
  · have hi' : i < h := (nI_ltI hi (by omega)).mp b
    have vin : vp_in (nI i) 16 := vp_in_nI (by omega) (by decide)
    have nn := nI_pos hi
    refine br_t b ?_
    rw [nI_clamp hi]
    by_cases c : v2 < 0
    · refine br_t c ?_
      unfold wpY_audit
      dsimp only
      exact br_f e5 (br_f e6 (br_t c ⟨rfl, R⟩))
    refine br_f c ?_
    by_cases d : 4 < v2
    · refine br_t d ?_
      unfold wpY_audit
      dsimp only
      exact br_f e5 (br_f e6 (br_f c (br_f (fun z => Int32.not_lt.mpr z d) ⟨rfl, R⟩)))
    have d' : v2 ≤ 4 := Int32.not_lt.mp d
    refine br_f d ?_
    by_cases e0x : v2 = 0
    · refine br_t e0x ⟨vin, ?_⟩
      unfold wpY_audit
      dsimp only
      rw [nI_clamp hi]
      exact br_f e5 (br_f e6 (br_f c (br_t d' (br_f nn (br_t b (br_t e0x ⟨vin, rfl, R⟩))))))
    refine br_f e0x ?_
    by_cases e1x : v2 = 1
    · refine br_t e1x ⟨vin, ?_⟩
      unfold wpY_audit
      dsimp only
      rw [nI_clamp hi]
      exact br_f e5 (br_f e6 (br_f c (br_t d' (br_f nn (br_t b (br_f e0x (br_t e1x ⟨vin, rfl, R⟩)))))))
    refine br_f e1x ?_
    by_cases e2x : v2 = 2
    · refine br_t e2x ⟨vin, ?_⟩
      unfold wpY_audit
      dsimp only
      rw [nI_clamp hi]
      exact br_f e5 (br_f e6 (br_f c (br_t d' (br_f nn (br_t b (br_f e0x (br_f e1x (br_t e2x ⟨vin, rfl, R⟩))))))))
    refine br_f e2x ?_
    by_cases e3x : v2 = 3
    · refine br_t e3x ⟨vin, ?_⟩
      unfold wpY_audit
      dsimp only
      rw [nI_clamp hi]
      exact br_f e5 (br_f e6 (br_f c (br_t d' (br_f nn (br_t b (br_f e0x (br_f e1x (br_f e2x (br_t e3x ⟨vin, rfl, R⟩)))))))))
    refine br_f e3x ?_
    by_cases e4x : v2 = 4
    · refine br_t e4x ⟨vin, ?_⟩
      unfold wpY_audit
      dsimp only
      rw [nI_clamp hi]
      exact br_f e5 (br_f e6 (br_f c (br_t d' (br_f nn (br_t b (br_f e0x (br_f e1x (br_f e2x (br_f e3x (⟨vin, rfl, R⟩))))))))))
    refine br_f e4x ?_
    trivial
  · exact br_f b (YF (Or.inr b))
