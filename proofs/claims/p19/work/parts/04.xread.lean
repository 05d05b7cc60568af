section
variable {t cap np no h : Nat} {sq vi vs vt vp tot : Int32} {mb rc rs rt rl rv mem aS aT aC aP aN ns nt nc nv nN xs xt xc xv xN pd ot ol uS uT uC uP uK : Nat → Int32}

theorem te_tnF {v : Int32} (a : ¬ te_ty t v) (b : ¬ te_at v) : ¬ te_tn t v := fun z => z.elim a b
theorem te_bd {z : Int32} (q : z = 0 ∨ z = 1) : te_b (decide (z = 1)) = z := by rcases q with rfl | rfl <;> decide
theorem te_xTy {post : Int32 → Prop} {v : Int32} (ht : t ≤ 12) (f : te_ty t v → post 1) (g : ¬ te_ty t v → post 0) : wpX_isType post (nI t, nI cap, sq, vi, vs, vt, vp, nI np, nI no, nI h, tot, mb, rc, rs, rt, rl, rv, pd, ot, ol, uS, uT, uC, uP, uK) v := by
  rcases te_neg v with h0 | ⟨j, hj, rfl⟩
  · exact br_t h0 (g (te_tyN h0 (by omega)))
  · exact br_f (nI_pos hj) (pk_le t j (fun q => g (te_tyI hj (by omega) q)) (fun q => f ⟨j, q, rfl⟩))
theorem te_xPc {post : Int32 → Prop} {v : Int32} (hn : np ≤ 8) (f : te_ty np v → post 1) (g : ¬ te_ty np v → post 0) : wpX_isProcess post (nI t, nI cap, sq, vi, vs, vt, vp, nI np, nI no, nI h, tot, mb, rc, rs, rt, rl, rv, pd, ot, ol, uS, uT, uC, uP, uK) v := by
  rcases te_neg v with h0 | ⟨j, hj, rfl⟩
  · exact br_t h0 (g (te_tyN h0 (by omega)))
  · exact br_f (nI_pos hj) (pk_le np j (fun q => g (te_tyI hj (by omega) q)) (fun q => f ⟨j, q, rfl⟩))
theorem te_xOb {post : Int32 → Prop} {v : Int32} (hn : no ≤ 16) (f : te_ty no v → post 1) (g : ¬ te_ty no v → post 0) : wpX_isObject post (nI t, nI cap, sq, vi, vs, vt, vp, nI np, nI no, nI h, tot, mb, rc, rs, rt, rl, rv, pd, ot, ol, uS, uT, uC, uP, uK) v := by
  rcases te_neg v with h0 | ⟨j, hj, rfl⟩
  · exact br_t h0 (g (te_tyN h0 (by omega)))
  · exact br_f (nI_pos hj) (pk_le no j (fun q => g (te_tyI hj (by omega) q)) (fun q => f ⟨j, q, rfl⟩))
theorem te_xAt {post : Int32 → Prop} {v : Int32} (f : te_ty 8 v → post 1) (g : ¬ te_ty 8 v → post 0) : wpX_isAttribute post () v := by
  rcases te_neg v with h0 | ⟨j, hj, rfl⟩
  · exact br_t h0 (g (te_tyN h0 (by omega)))
  · exact br_f (nI_pos hj) (pk_le 8 j (fun q => g (te_tyI hj (by omega) q)) (fun q => f ⟨j, q, rfl⟩))
theorem te_xCl {post : Int32 → Prop} {v : Int32} (f : te_ty 4 v → post 1) (g : ¬ te_ty 4 v → post 0) : wpX_isClass post () v := by
  rcases te_neg v with h0 | ⟨j, hj, rfl⟩
  · exact br_t h0 (g (te_tyN h0 (by omega)))
  · exact br_f (nI_pos hj) (pk_le 4 j (fun q => g (te_tyI hj (by omega) q)) (fun q => f ⟨j, q, rfl⟩))
theorem te_xPm {post : Int32 → Prop} {v : Int32} (f : te_pm v → post 1) (g : ¬ te_pm v → post 0) : wpX_isPerms post () v := by
  rcases te_neg v with h0 | ⟨j, hj, rfl⟩
  · exact br_t (te_lt (a := 1) h0 (by decide)) (g (te_pmN h0))
  · exact pk_lt j 1 (fun q => g (te_pmI hj (Or.inl q))) (fun q => pk_lt 255 j (fun q2 => g (te_pmI hj (Or.inr q2))) (fun q2 => f ⟨j, q, q2, rfl⟩))
theorem te_xTn {post : Int32 → Prop} {v : Int32} (ht : t ≤ 12) (f : te_tn t v → post 1) (g : ¬ te_tn t v → post 0) : wpX_isTypeName post (nI t, nI cap, sq, vi, vs, vt, vp, nI np, nI no, nI h, tot, mb, rc, rs, rt, rl, rv, pd, ot, ol, uS, uT, uC, uP, uK) v := by
  unfold wpX_isTypeName
  dsimp only
  refine te_xTy ht (fun q => br_f (by decide) (f (Or.inl q))) (fun q => br_t rfl ?_)
  rcases te_neg v with h0 | ⟨j, hj, rfl⟩
  · exact br_t (te_lt (a := 64) h0 (by decide)) (g (te_tnF q (te_atN h0)))
  · exact pk_lt j 64 (fun q1 => g (te_tnF q (te_atI hj (Or.inl q1)))) (fun q1 => pk_le 72 j (fun q2 => g (te_tnF q (te_atI hj (Or.inr q2)))) (fun q2 => f (Or.inr ⟨j - 64, by omega, congrArg nI (by omega)⟩)))
def te_pr (t : Nat) (a b c d : Int32) : Prop := te_tn t a ∧ te_sn t b ∧ te_ty 4 c ∧ te_pm d
theorem te_xPr {post : Int32 → Prop} {a b c d : Int32} (ht : t ≤ 12) (f : te_pr t a b c d → post 1) (g : ¬ te_pr t a b c d → post 0) : wpX_isPermRule post (nI t, nI cap, sq, vi, vs, vt, vp, nI np, nI no, nI h, tot, mb, rc, rs, rt, rl, rv, pd, ot, ol, uS, uT, uC, uP, uK) a b c d := by
  have K : te_tn t a → te_sn t b → wX_isPermRule_22 post c d (nI t) (nI cap) sq vi vs vt vp (nI np) (nI no) (nI h) tot mb rc rs rt rl rv pd ot ol uS uT uC uP uK := by
    intro ha hb
    unfold wX_isPermRule_22
    exact te_xCl (fun hc => br_f (by decide) (te_xPm (fun hd => br_f (by decide) (f ⟨ha, hb, hc, hd⟩)) (fun hd => br_t rfl (g fun z => hd z.2.2.2)))) (fun hc => br_t rfl (g fun z => hc z.2.2.1))
  unfold wpX_isPermRule
  dsimp only
  refine te_xTn ht (fun ha => br_f (by decide) ?_) (fun ha => br_t rfl (g fun z => ha z.1))
  by_cases e : b = 99
  · exact br_t e (K ha (Or.inr e))
  · refine br_f e ?_
    exact te_xTn ht (fun hb => br_f (by decide) (K ha (Or.inl hb))) (fun hb => br_t rfl (g fun z => z.2.1.elim hb e))
theorem te_xFR {post : Int32 → Prop} {w l : Nat} (hp : post (nI ((w * 3 + l) * 24))) : wpX_firstRule post () (nI w) (nI l) := by
  unfold wpX_firstRule wpX_listPlace
  rw [te_ml (K := 3) w 3 l rfl]
  show post (nI (w * 3 + l) * 24)
  rw [show nI (w * 3 + l) * 24 = nI ((w * 3 + l) * 24) from pk_mul _ 24]
  exact hp
theorem te_xLP {post : Int32 → Prop} {w l : Nat} (hp : post (nI (w * 3 + l))) : wpX_listPlace post () (nI w) (nI l) := by
  unfold wpX_listPlace
  rw [te_ml (K := 3) w 3 l rfl]
  exact hp
theorem te_xCR {post : Int32 → Prop} {w l : Nat} (hw : w < 2) (hl : l < 3) (hp : post (rc (w * 3 + l))) : wpX_countRules post (nI t, nI cap, sq, vi, vs, vt, vp, nI np, nI no, nI h, tot, mb, rc, rs, rt, rl, rv, pd, ot, ol, uS, uT, uC, uP, uK) (nI w) (nI l) := by
  unfold wpX_countRules
  dsimp only
  refine te_xLP ⟨vp_in_nI (by omega) (by decide), ?_⟩
  rw [nI_clamp (show w * 3 + l < 2 ^ 31 by omega)]
  exact hp
theorem te_xIs {post : Int32 → Prop} {w x a : Nat} (hw : w < 2) (hx : x < 12) (ha : a < 8) (hp : post (te_bv (mb (w * 12 + x)) a)) : wpX_isMember post (nI t, nI cap, sq, vi, vs, vt, vp, nI np, nI no, nI h, tot, mb, rc, rs, rt, rl, rv, pd, ot, ol, uS, uT, uC, uP, uK) (nI w) (nI x) (nI a) := by
  unfold wpX_isMember
  dsimp only
  rw [te_ml (K := 12) w 12 x rfl]
  refine ⟨vp_in_nI (by omega) (by decide), ?_⟩
  rw [nI_clamp (show w * 12 + x < 2 ^ 31 by omega), te_bit _ (show a < 32 by omega)]
  rcases te_bv01 (mb (w * 12 + x)) a with e | e
  · rw [e] at hp ⊢
    exact br_f (by decide) hp
  · rw [e] at hp ⊢
    exact br_t rfl hp
theorem te_xNm {post : Int32 → Prop} {w x s : Nat} {nm : Int32} (hm : ∀ x a, x < 12 → a < 8 → mem (w * 96 + x * 8 + a) = te_bv (mb (w * 12 + x)) a) (hw : w < 2) (ht : t ≤ 12) (hn : te_sn t nm) (hx : x < t) (hs : s < t)
    (hp : post (te_b (te_nm mem w nm x s))) : wpX_nameMatches post (nI t, nI cap, sq, vi, vs, vt, vp, nI np, nI no, nI h, tot, mb, rc, rs, rt, rl, rv, pd, ot, ol, uS, uT, uC, uP, uK) (nI w) nm (nI x) (nI s) := by
  unfold wpX_nameMatches
  dsimp only
  rcases hn with (⟨j, hj, rfl⟩ | ⟨a, ha, rfl⟩) | rfl
  · rw [te_nmT mem w x s (show j < 64 by omega) (show x < 64 by omega)] at hp
    refine br_f (te_n99 (by omega)) (br_t (nI_lt (b := 64) (by omega) (by decide)) (pk_eq j x (fun q => ?_) (fun q => ?_)))
    · rw [decide_eq_true q] at hp; exact hp
    · rw [decide_eq_false q] at hp; exact hp
  · rw [te_nmA mem w x s ha] at hp
    refine br_f (te_n99 (by omega)) (br_f (nI_nlt (b := 64) (by omega) (by omega)) ?_)
    rw [show nI (64 + a) - 64 = nI a from (pk_sub (b := 64) (by omega)).trans (congrArg nI (by omega))]
    refine te_xIs hw (by omega) ha ⟨te_nb (te_bv01 _ _), ?_⟩
    rw [hm x a (by omega) ha, te_bd (te_bv01 _ _)] at hp
    exact hp
  · rw [te_nmS] at hp
    refine br_t rfl (pk_eq x s (fun q => ?_) (fun q => ?_))
    · rw [decide_eq_true q] at hp; exact hp
    · rw [decide_eq_false q] at hp; exact hp
theorem te_xRm {post : Int32 → Prop} {w x s k k' : Nat} {c : Int32} {cs ct cc : Nat → Int32} (hm : ∀ x a, x < 12 → a < 8 → mem (w * 96 + x * 8 + a) = te_bv (mb (w * 12 + x)) a) (hw : w < 2) (ht : t ≤ 12) (hs : s < t) (hx : x < t) (hk : k < 144)
    (e1 : rs k = cs k') (e2 : rt k = ct k') (e3 : rl k = cc k') (n1 : te_tn t (cs k')) (n2 : te_sn t (ct k'))
    (hp : post (te_b (te_rm mem w cs ct cc k' s x c))) : wpX_ruleMatches post (nI t, nI cap, sq, vi, vs, vt, vp, nI np, nI no, nI h, tot, mb, rc, rs, rt, rl, rv, pd, ot, ol, uS, uT, uC, uP, uK) (nI w) (nI k) (nI s) (nI x) c := by
  unfold wpX_ruleMatches
  dsimp only
  rw [nI_clamp (show k < 2 ^ 31 by omega), e1, e2, e3]
  have hi : vp_in (nI k) 144 := vp_in_nI hk (by decide)
  unfold te_rm at hp
  refine ⟨hi, ?_⟩
  by_cases hc : cc k' = c
  · rw [decide_eq_true hc, Bool.true_and] at hp
    refine br_t hc ⟨hi, ?_⟩
    refine te_xNm hm hw ht (Or.inl n1) hs hs ?_
    cases q1 : te_nm mem w (cs k') s s
    · rw [q1, Bool.false_and] at hp
      exact br_t rfl hp
    · rw [q1, Bool.true_and] at hp
      refine br_f (by decide) ⟨hi, ?_⟩
      refine te_xNm hm hw ht n2 hx hs ?_
      cases q2 : te_nm mem w (ct k') x s
      · rw [q2] at hp
        exact br_t rfl hp
      · rw [q2] at hp
        exact br_f (by decide) hp
  · rw [decide_eq_false hc, Bool.false_and] at hp
    exact br_f hc hp
theorem te_orF {M : Nat → Bool} {V : Nat → Int32} {i : Nat} (q : M i = false) : te_or M V (i + 1) = te_or M V i := by
  show (if M i = true then _ else _) = _
  rw [q]
  rfl
theorem te_orT {M : Nat → Bool} {V : Nat → Int32} {i : Nat} (q : M i = true) : te_or M V (i + 1) = te_or M V i ||| V i := if_pos q
theorem te_fsF {M : Nat → Bool} {V : Nat → Int32} {n i : Nat} (q : M i = false) : te_fst M V (n + 1) i = te_fst M V n (i + 1) := by
  show (if M i = true then _ else _) = _
  rw [q]
  rfl
theorem te_fsT {M : Nat → Bool} {V : Nat → Int32} {n i : Nat} (q : M i = true) : te_fst M V (n + 1) i = V i := if_pos q
theorem te_xVL {post : Int32 → Prop} {Q : Int32 → Prop} {w x s xb yb n : Nat} {c : Int32} {cs ct cc cv : Nat → Int32} (hm : ∀ x a, x < 12 → a < 8 → mem (w * 96 + x * 8 + a) = te_bv (mb (w * 12 + x)) a) (hw : w < 2) (ht : t ≤ 12) (hs : s < t) (hx : x < t)
    (hL : te_lst Q t n xb yb rs rt rl rv cs ct cc cv) (hb : xb + n ≤ 144) (hp : post (te_vec mem w yb n cs ct cc cv s x c)) :
    ∀ d i, i + d = n → wX_allowedPerms_21 post (nI w) (nI s) (nI x) c (nI xb) (nI n) (nI t) (nI cap) sq vi vs vt vp (nI np) (nI no) (nI h) tot mb rc rs rt rl rv pd ot ol uS uT uC uP uK (d + 1) (te_or (fun i => te_rm mem w cs ct cc (yb + i) s x c) (fun i => cv (yb + i)) i) (nI i) := by
  intro d
  induction d with
  | zero =>
    intro i hi
    have e : i = n := by omega
    subst e
    exact br_t (nI_le (Nat.le_refl _) (by omega)) hp
  | succ d ih =>
    intro i hi
    obtain ⟨⟨e1, e2, e3, e4⟩, n1, n2, -⟩ := hL i (by omega)
    refine br_f (nI_ge (by omega) (by omega)) ?_
    rw [nI_add xb i]
    refine te_xRm hm hw ht hs hx (by omega) e1 e2 e3 n1 n2 ?_
    have k := ih (i + 1) (by omega)
    cases q : te_rm mem w cs ct cc (yb + i) s x c
    · rw [te_orF q] at k
      exact br_t rfl (nm_r (nI_1 i) k)
    · rw [te_orT q] at k
      refine br_f (by decide) ⟨vp_in_nI (by omega) (by decide), ?_⟩
      rw [nI_clamp (show xb + i < 2 ^ 31 by omega), e4]
      exact nm_e (nm_r (nI_1 i) k)
theorem te_xVe {post : Int32 → Prop} {w x s ca cn cx : Nat} {c : Int32} (hP : te_P t w ca cn cx mb rc rs rt rl rv mem aS aT aC aP aN ns nt nc nv nN xs xt xc xv xN) (hw : w < 2) (ht : t ≤ 12) (hs : s < t) (hx : x < t)
    (hp : post (te_vec mem w (w * 24) ca aS aT aC aP s x c)) : wpX_allowedPerms post (nI t, nI cap, sq, vi, vs, vt, vp, nI np, nI no, nI h, tot, mb, rc, rs, rt, rl, rv, pd, ot, ol, uS, uT, uC, uP, uK) (nI w) (nI s) (nI x) c := by
  obtain ⟨hm, ⟨q1, q2, q3⟩, ⟨r1, r2, r3⟩, ⟨n1, n2, n3⟩, l1, l2, l3⟩ := hP
  unfold wpX_allowedPerms
  dsimp only
  refine te_xFR (l := 0) (te_xCR (l := 0) hw (by decide) ?_)
  rw [show rc (w * 3 + 0) = nI ca from r1, show (w * 3 + 0) * 24 = w * 72 by omega]
  exact ⟨_, te_xVL hm hw ht hs hx l1 (by omega) hp ca 0 (by omega)⟩
theorem te_xBr {post : Int32 → Prop} {x s n ca cn cx : Nat} (hP : te_P t 1 ca cn cx mb rc rs rt rl rv mem aS aT aC aP aN ns nt nc nv nN xs xt xc xv xN) (ht : t ≤ 12) (hn : n < cn) (hs : s < t) (hx : x < t)
    (hp : post (te_bp mem ca aS aT aC aP ns nt nc nv n s x)) : wpX_brokenPerms post (nI t, nI cap, sq, vi, vs, vt, vp, nI np, nI no, nI h, tot, mb, rc, rs, rt, rl, rv, pd, ot, ol, uS, uT, uC, uP, uK) (nI n) (nI s) (nI x) := by
  have hP' := hP
  obtain ⟨hm, ⟨q1, q2, q3⟩, ⟨r1, r2, r3⟩, ⟨n1, n2, n3⟩, l1, l2, l3⟩ := hP
  obtain ⟨⟨e1, e2, e3, e4⟩, m1, m2, -⟩ := l2 n hn
  have hi : vp_in (nI (96 + n)) 144 := vp_in_nI (by omega) (by decide)
  unfold wpX_brokenPerms
  dsimp only
  refine te_xFR (w := 1) (l := 1) (nm_r (nI_add 96 n) ⟨hi, ?_⟩)
  rw [nI_clamp (show 96 + n < 2 ^ 31 by omega)]
  refine nm_r (e3 : rl (96 + n) = nc (6 + n)) ?_
  refine te_xRm (w := 1) (k' := 6 + n) (cs := ns) (ct := nt) (cc := nc) hm (by decide) ht hs hx (by omega) e1 e2 e3 m1 m2 ?_
  unfold te_bp at hp
  cases q : te_rm mem 1 ns nt nc (6 + n) s x (nc (6 + n))
  · rw [q] at hp
    exact br_t rfl hp
  · rw [q] at hp
    refine br_f (by decide) (te_xVe (w := 1) hP' (by decide) ht hs hx ⟨hi, ?_⟩)
    rw [show rv (96 + n) = nv (6 + n) from e4]
    exact hp
end
