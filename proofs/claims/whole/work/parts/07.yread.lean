section
variable {t cap np no h : Nat} {sq vi vs vt vp tot : Int32} {mb rc rs rt rl rv mem aS aT aC aP aN ns nt nc nv nN xs xt xc xv xN pd ot ol uS uT uC uP uK : Nat → Int32}

theorem te_rmN1 {m : Nat → Int32} {w k s x : Nat} {cs ct cc : Nat → Int32} {c : Int32} (q : ¬ cc k = c) : te_rm m w cs ct cc k s x c = false := by
  unfold te_rm
  rw [decide_eq_false q, Bool.false_and]
theorem te_rmN2 {m : Nat → Int32} {w k s x : Nat} {cs ct cc : Nat → Int32} {c : Int32} (q : te_nm m w (cs k) s s = false) : te_rm m w cs ct cc k s x c = false := by
  unfold te_rm
  rw [q, Bool.false_and, Bool.and_false]
theorem te_rmN3 {m : Nat → Int32} {w k s x : Nat} {cs ct cc : Nat → Int32} {c : Int32} (q : te_nm m w (ct k) x s = false) : te_rm m w cs ct cc k s x c = false := by
  unfold te_rm
  rw [q, Bool.and_false, Bool.and_false]
theorem te_rmY {m : Nat → Int32} {w k s x : Nat} {cs ct cc : Nat → Int32} {c : Int32} (q : cc k = c) (q1 : te_nm m w (cs k) s s = true) (q2 : te_nm m w (ct k) x s = true) : te_rm m w cs ct cc k s x c = true := by
  unfold te_rm
  rw [decide_eq_true q, q1, q2]
  rfl
theorem te_yTy {post : Int32 → Prop} {v : Int32} (ht : t ≤ 12) (f : te_ty t v → post 1) (g : ¬ te_ty t v → post 0) : wpY_isType post (nI t, nI cap, sq, vi, vs, vt, vp, nI np, nI no, nI h, tot, mem, aS, aT, aC, aP, aN, ns, nt, nc, nv, nN, xs, xt, xc, xv, xN, pd, ot, ol, uS, uT, uC, uP, uK) v := by
  rcases te_neg v with h0 | ⟨j, hj, rfl⟩
  · exact br_t h0 (g (te_tyN h0 (by omega)))
  · exact br_f (nI_pos hj) (pk_le t j (fun q => g (te_tyI hj (by omega) q)) (fun q => f ⟨j, q, rfl⟩))
theorem te_yAt {post : Int32 → Prop} {v : Int32} (f : te_at v → post 1) (g : ¬ te_at v → post 0) : wpY_isAttr post (nI t, nI cap, sq, vi, vs, vt, vp, nI np, nI no, nI h, tot, mem, aS, aT, aC, aP, aN, ns, nt, nc, nv, nN, xs, xt, xc, xv, xN, pd, ot, ol, uS, uT, uC, uP, uK) v := by
  rcases te_neg v with h0 | ⟨j, hj, rfl⟩
  · exact br_t (te_lt (a := 64) h0 (by decide)) (g (te_atN h0))
  · exact pk_lt j 64 (fun q1 => g (te_atI hj (Or.inl q1))) (fun q1 => pk_le 72 j (fun q2 => g (te_atI hj (Or.inr q2))) (fun q2 => f ⟨j - 64, by omega, congrArg nI (by omega)⟩))
theorem te_yTA {A B : Prop} {v : Int32} (ht : t ≤ 12) (f : te_tn t v → A) (g : ¬ te_tn t v → B) :
    wpY_isType (fun r => (r = 0 → wpY_isAttr (fun r' => (r' = 0 → B) ∧ (¬ r' = 0 → A)) (nI t, nI cap, sq, vi, vs, vt, vp, nI np, nI no, nI h, tot, mem, aS, aT, aC, aP, aN, ns, nt, nc, nv, nN, xs, xt, xc, xv, xN, pd, ot, ol, uS, uT, uC, uP, uK) v) ∧ (¬ r = 0 → A)) (nI t, nI cap, sq, vi, vs, vt, vp, nI np, nI no, nI h, tot, mem, aS, aT, aC, aP, aN, ns, nt, nc, nv, nN, xs, xt, xc, xv, xN, pd, ot, ol, uS, uT, uC, uP, uK) v :=
  te_yTy ht (fun q => br_f (by decide) (f (Or.inl q))) (fun q => br_t rfl (te_yAt (fun q2 => br_f (by decide) (f (Or.inr q2))) (fun q2 => br_t rfl (g (te_tnF q q2)))))
theorem te_ix (w x a : Nat) : nI w * 96 + nI x * 8 + nI (64 + a) - 64 = nI (w * 96 + x * 8 + a) := by
  rw [show nI w * 96 = nI (w * 96) from pk_mul w 96, show nI x * 8 = nI (x * 8) from pk_mul x 8, nI_add, nI_add]
  exact (pk_sub (b := 64) (by omega)).trans (congrArg nI (by omega))
theorem te_yNm {post : Int32 → Prop} {w x s : Nat} {nm : Int32} (hm : ∀ x a, x < 12 → a < 8 → mem (w * 96 + x * 8 + a) = te_bv (mb (w * 12 + x)) a) (hw : w < 2) (ht : t ≤ 12) (hn : te_sn t nm) (hx : x < t) (hs : s < t)
    (hp : post (te_b (te_nm mem w nm x s))) : wpY_matches post (nI t, nI cap, sq, vi, vs, vt, vp, nI np, nI no, nI h, tot, mem, aS, aT, aC, aP, aN, ns, nt, nc, nv, nN, xs, xt, xc, xv, xN, pd, ot, ol, uS, uT, uC, uP, uK) (nI w) nm (nI x) (nI s) := by
  unfold wpY_matches
  dsimp only
  rcases hn with (⟨j, hj, rfl⟩ | ⟨a, ha, rfl⟩) | rfl
  · rw [te_nmT mem w x s (show j < 64 by omega) (show x < 64 by omega)] at hp
    refine br_f (nI_pos (by omega)) (br_f (nI_ge hj (by omega)) (pk_eq j x (fun q => ?_) (fun q => ?_)))
    · rw [decide_eq_true q] at hp; exact hp
    · rw [decide_eq_false q] at hp; exact hp
  · rw [te_nmA mem w x s ha] at hp
    refine br_f (nI_pos (by omega)) (br_t (nI_le (by omega) (by omega)) ?_)
    unfold wY_matches_23
    refine te_yAt (fun _ => br_f (by decide) ?_) (fun z => absurd ⟨a, ha, rfl⟩ z)
    rw [te_ix w x a, nI_clamp (show w * 96 + x * 8 + a < 2 ^ 31 by omega)]
    have e := hm x a (by omega) ha
    rw [e] at hp ⊢
    rw [te_bd (te_bv01 _ _)] at hp
    exact ⟨vp_in_nI (by omega) (by decide), te_nb (te_bv01 _ _), hp⟩
  · rw [te_nmS] at hp
    refine br_f (by decide) (br_t (nI_le (b := 99) (by omega) (by decide)) ?_)
    unfold wY_matches_23
    refine te_yAt (fun z => absurd z (te_atI (j := 99) (by decide) (Or.inr (by decide)))) (fun _ => br_t rfl (br_t rfl (pk_eq x s (fun q => ?_) (fun q => ?_))))
    · rw [decide_eq_true q] at hp; exact hp
    · rw [decide_eq_false q] at hp; exact hp
theorem te_yVL {post : Int32 → Prop} {Q : Int32 → Prop} {w x s xb n : Nat} {c : Int32} (hm : ∀ x a, x < 12 → a < 8 → mem (w * 96 + x * 8 + a) = te_bv (mb (w * 12 + x)) a) (hw : w < 2) (ht : t ≤ 12) (hs : s < t) (hx : x < t)
    (hN : aN w = nI n) (hL : te_lst Q t n xb (w * 24) rs rt rl rv aS aT aC aP) (hb : n ≤ 24) (hp : post (te_vec mem w (w * 24) n aS aT aC aP s x c)) :
    ∀ d i, i + d = n → wY_vec_6 post (nI w) (nI s) (nI x) c (nI t) (nI cap) sq vi vs vt vp (nI np) (nI no) (nI h) tot mem aS aT aC aP aN ns nt nc nv nN xs xt xc xv xN pd ot ol uS uT uC uP uK (d + 1) (te_or (fun i => te_rm mem w aS aT aC (w * 24 + i) s x c) (fun i => aP (w * 24 + i)) i) (nI i) := by
  intro d
  induction d with
  | zero =>
    intro i hi
    have e : i = n := by omega
    subst e
    refine ⟨vp_in_nI hw (by decide), ?_⟩
    rw [nI_clamp (show w < 2 ^ 31 by omega), hN]
    exact br_t (nI_le (Nat.le_refl _) (by omega)) hp
  | succ d ih =>
    intro i hi'
    obtain ⟨-, n1, n2, -⟩ := hL i (by omega)
    have hi : vp_in (nI (w * 24 + i)) 48 := vp_in_nI (by omega) (by decide)
    refine ⟨vp_in_nI hw (by decide), ?_⟩
    rw [nI_clamp (show w < 2 ^ 31 by omega), hN]
    refine br_f (nI_ge (by omega) (by omega)) (nm_r (te_ml w 24 i rfl) ⟨hi, ?_⟩)
    rw [nI_clamp (show w * 24 + i < 2 ^ 31 by omega)]
    have k := ih (i + 1) (by omega)
    by_cases hc : aC (w * 24 + i) = c
    · refine br_t hc ⟨hi, te_yNm hm hw ht (Or.inl n1) hs hs ?_⟩
      cases q1 : te_nm mem w (aS (w * 24 + i)) s s
      · rw [te_orF (M := fun i => te_rm mem w aS aT aC (w * 24 + i) s x c) (i := i) (te_rmN2 q1)] at k
        exact br_t rfl (nm_r (nI_1 i) k)
      · refine br_f (by decide) ⟨hi, te_yNm hm hw ht n2 hx hs ?_⟩
        cases q2 : te_nm mem w (aT (w * 24 + i)) x s
        · rw [te_orF (M := fun i => te_rm mem w aS aT aC (w * 24 + i) s x c) (i := i) (te_rmN3 q2)] at k
          exact br_t rfl (nm_r (nI_1 i) k)
        · rw [te_orT (M := fun i => te_rm mem w aS aT aC (w * 24 + i) s x c) (i := i) (te_rmY hc q1 q2)] at k
          exact br_f (by decide) ⟨hi, nm_e (nm_r (nI_1 i) k)⟩
    · rw [te_orF (M := fun i => te_rm mem w aS aT aC (w * 24 + i) s x c) (i := i) (te_rmN1 hc)] at k
      exact br_f hc (nm_r (nI_1 i) k)
theorem te_yTL {post : Int32 → Prop} {Q : Int32 → Prop} {w x s xb n : Nat} {c : Int32} (hm : ∀ x a, x < 12 → a < 8 → mem (w * 96 + x * 8 + a) = te_bv (mb (w * 12 + x)) a) (hw : w < 2) (ht : t ≤ 12) (hs : s < t) (hx : x < t)
    (hN : xN w = nI n) (hL : te_lst Q t n xb (w * 12) rs rt rl rv xs xt xc xv) (hb : n ≤ 12) :
    ∀ d i, i + d = n → post (te_fst (fun i => te_rm mem w xs xt xc (w * 12 + i) s x c) (fun i => xv (w * 12 + i)) d i) → wY_transOf_3 post (nI w) (nI s) (nI x) c (nI t) (nI cap) sq vi vs vt vp (nI np) (nI no) (nI h) tot mem aS aT aC aP aN ns nt nc nv nN xs xt xc xv xN pd ot ol uS uT uC uP uK (d + 1) (nI i) := by
  intro d
  induction d with
  | zero =>
    intro i hi hp
    have e : i = n := by omega
    subst e
    refine ⟨vp_in_nI hw (by decide), ?_⟩
    rw [nI_clamp (show w < 2 ^ 31 by omega), hN]
    exact br_t (nI_le (Nat.le_refl _) (by omega)) hp
  | succ d ih =>
    intro i hi' hp
    obtain ⟨-, n1, n2, -⟩ := hL i (by omega)
    have hi : vp_in (nI (w * 12 + i)) 24 := vp_in_nI (by omega) (by decide)
    refine ⟨vp_in_nI hw (by decide), ?_⟩
    rw [nI_clamp (show w < 2 ^ 31 by omega), hN]
    refine br_f (nI_ge (by omega) (by omega)) (nm_r (te_ml w 12 i rfl) ⟨hi, ?_⟩)
    rw [nI_clamp (show w * 12 + i < 2 ^ 31 by omega)]
    
    by_cases hc : xc (w * 12 + i) = c
    · refine br_t hc ⟨hi, te_yNm hm hw ht (Or.inl n1) hs hs ?_⟩
      cases q1 : te_nm mem w (xs (w * 12 + i)) s s
      · rw [te_fsF (M := fun i => te_rm mem w xs xt xc (w * 12 + i) s x c) (i := i) (te_rmN2 q1)] at hp
        exact br_t rfl (nm_r (nI_1 i) (ih (i + 1) (by omega) hp))
      · refine br_f (by decide) ⟨hi, te_yNm hm hw ht n2 hx hs ?_⟩
        cases q2 : te_nm mem w (xt (w * 12 + i)) x s
        · rw [te_fsF (M := fun i => te_rm mem w xs xt xc (w * 12 + i) s x c) (i := i) (te_rmN3 q2)] at hp
          exact br_t rfl (nm_r (nI_1 i) (ih (i + 1) (by omega) hp))
        · rw [te_fsT (M := fun i => te_rm mem w xs xt xc (w * 12 + i) s x c) (i := i) (te_rmY hc q1 q2)] at hp
          exact br_f (by decide) ⟨hi, hp⟩
    · rw [te_fsF (M := fun i => te_rm mem w xs xt xc (w * 12 + i) s x c) (i := i) (te_rmN1 hc)] at hp
      exact br_f hc (nm_r (nI_1 i) (ih (i + 1) (by omega) hp))

theorem te_yVe {post : Int32 → Prop} {w x s ca cn cx : Nat} {c : Int32} (hP : te_P t w ca cn cx mb rc rs rt rl rv mem aS aT aC aP aN ns nt nc nv nN xs xt xc xv xN) (hw : w < 2) (ht : t ≤ 12) (hs : s < t) (hx : x < t)
    (hp : post (te_vec mem w (w * 24) ca aS aT aC aP s x c)) : wpY_vec post (nI t, nI cap, sq, vi, vs, vt, vp, nI np, nI no, nI h, tot, mem, aS, aT, aC, aP, aN, ns, nt, nc, nv, nN, xs, xt, xc, xv, xN, pd, ot, ol, uS, uT, uC, uP, uK) (nI w) (nI s) (nI x) c := by
  obtain ⟨hm, ⟨q1, q2, q3⟩, ⟨r1, r2, r3⟩, ⟨n1, n2, n3⟩, l1, l2, l3⟩ := hP
  exact ⟨_, te_yVL hm hw ht hs hx n1 l1 q1 hp ca 0 (by omega)⟩
theorem te_yTr {post : Int32 → Prop} {w x s ca cn cx : Nat} {c : Int32} (hP : te_P t w ca cn cx mb rc rs rt rl rv mem aS aT aC aP aN ns nt nc nv nN xs xt xc xv xN) (hw : w < 2) (ht : t ≤ 12) (hs : s < t) (hx : x < t)
    (hp : post (te_tr mem w (w * 12) cx xs xt xc xv s x c)) : wpY_transOf post (nI t, nI cap, sq, vi, vs, vt, vp, nI np, nI no, nI h, tot, mem, aS, aT, aC, aP, aN, ns, nt, nc, nv, nN, xs, xt, xc, xv, xN, pd, ot, ol, uS, uT, uC, uP, uK) (nI w) (nI s) (nI x) c := by
  obtain ⟨hm, ⟨q1, q2, q3⟩, ⟨r1, r2, r3⟩, ⟨n1, n2, n3⟩, l1, l2, l3⟩ := hP
  exact ⟨_, te_yTL hm hw ht hs hx n3 l3 q3 cx 0 (by omega) hp⟩
end
