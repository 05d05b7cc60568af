section
variable {t cap np no h : Nat} {sq vi vs vt vp tot : Int32} {mb rc rs rt rl rv mem aS aT aC aP aN ns nt nc nv nN xs xt xc xv xN pd ot ol uS uT uC uP uK : Nat → Int32}
theorem te_xAs {post : Int32 → St2 → Prop} {l c C : Nat} {a b d e : Int32} (hl : l < 3) (hc : rc (3 + l) = nI c) (hC : C ≤ 24) (hcC : c ≤ C)
    (f : c < C → post (nI c) (nI t, nI cap, sq, vi, vs, vt, vp, nI np, nI no, nI h, tot, mb, upd rc (3 + l) (nI (c + 1)), upd rs (72 + l * 24 + c) a, upd rt (72 + l * 24 + c) b, upd rl (72 + l * 24 + c) d, upd rv (72 + l * 24 + c) e, pd, ot, ol, uS, uT, uC, uP, uK))
    (g : c = C → post (-2) (nI t, nI cap, sq, vi, vs, vt, vp, nI np, nI no, nI h, tot, mb, rc, rs, rt, rl, rv, pd, ot, ol, uS, uT, uC, uP, uK)) : wpX_appendStaged post (nI t, nI cap, sq, vi, vs, vt, vp, nI np, nI no, nI h, tot, mb, rc, rs, rt, rl, rv, pd, ot, ol, uS, uT, uC, uP, uK) (nI l) (nI C) a b d e := by
  have hi : vp_in (nI (72 + l * 24 + c)) 144 ∨ ¬ c < C := by
    by_cases q : c < C
    · exact Or.inl (vp_in_nI (by omega) (by decide))
    · exact Or.inr q
  unfold wpX_appendStaged
  dsimp only
  refine te_xCR (w := 1) (by decide) hl ?_
  rw [show rc (1 * 3 + l) = nI c from hc]
  refine pk_lt c C (fun q => ?_) (fun q => g (by omega))
  have hi := hi.resolve_right (fun z => z q)
  refine te_xFR (w := 1) ?_
  rw [show (1 * 3 + l) * 24 = 72 + l * 24 by omega]
  refine nm_r (nI_add (72 + l * 24) c) ?_
  rw [nI_clamp (show 72 + l * 24 + c < 2 ^ 31 by omega)]
  refine ⟨hi, nm_e ⟨hi, nm_e ⟨hi, nm_e ⟨hi, nm_e (te_xLP (w := 1) ?_)⟩⟩⟩⟩
  refine ⟨vp_in_nI (by omega) (by decide), ?_⟩
  rw [nI_clamp (show 1 * 3 + l < 2 ^ 31 by omega), nI_1 c]
  exact nm_e (f q)
theorem te_xClr {post : St2 → Prop} (k : ∀ y z : Nat → Int32, (∀ x, x < 12 → y (12 + x) = 0) → (∀ x, x < 12 → y x = mb x) → (∀ m, m < 3 → z (3 + m) = 0) → (∀ m, m < 3 → z m = rc m) → post (nI t, nI cap, sq, vi, vs, vt, vp, nI np, nI no, nI h, tot, y, z, rs, rt, rl, rv, pd, ot, ol, uS, uT, uC, uP, uK)) : wpX_stageClear post (nI t, nI cap, sq, vi, vs, vt, vp, nI np, nI no, nI h, tot, mb, rc, rs, rt, rl, rv, pd, ot, ol, uS, uT, uC, uP, uK) := by
  refine loop_0 (fun n i s => wX_stageClear_2 post (nI t) (nI cap) sq vi vs vt vp (nI np) (nI no) (nI h) tot n (nI i) s rc rs rt rl rv pd ot ol uS uT uC uP uK) (fun i s => (∀ x, x < i → s (12 + x) = 0) ∧ (∀ x, x < 12 → s x = mb x)) 12 mb ⟨fun i hi => absurd hi (Nat.not_lt_zero _), fun _ _ => rfl⟩ ?_ ?_
  · intro n y hy
    refine br_t (nI_le (a := 12) (Nat.le_refl _) (by decide)) ?_
    refine loop_0 (fun n i s => wX_stageClear_26 post (nI t) (nI cap) sq vi vs vt vp (nI np) (nI no) (nI h) tot n (nI i) y s rs rt rl rv pd ot ol uS uT uC uP uK) (fun i s => (∀ m, m < i → s (3 + m) = 0) ∧ (∀ m, m < 3 → s m = rc m)) 3 rc ⟨fun i hi => absurd hi (Nat.not_lt_zero _), fun _ _ => rfl⟩ ?_ ?_
    · intro n z hz
      exact br_t (nI_le (a := 3) (Nat.le_refl _) (by decide)) (k y z hy.1 hy.2 hz.1 hz.2)
    · intro n i z hi hz ih
      refine br_f (nI_ge (b := 3) hi (by decide)) (te_xLP (w := 1) ⟨vp_in_nI (by omega) (by decide), ?_⟩)
      rw [nI_clamp (show 1 * 3 + i < 2 ^ 31 by omega)]
      refine nm_e (nm_r (nI_1 i) (ih _ ⟨fun m hm => ?_, fun m hm => ?_⟩))
      · by_cases q : m = i
        · subst q
          exact pk_us
        · rw [pk_un (by omega)]
          exact hz.1 m (by omega)
      · rw [pk_un (by omega)]
        exact hz.2 m hm
  · intro n i y hi hy ih
    refine br_f (nI_ge (b := 12) hi (by decide)) ?_
    rw [show (12 : Int32) + nI i = nI (12 + i) from nI_add 12 i, nI_clamp (show 12 + i < 2 ^ 31 by omega)]
    refine ⟨vp_in_nI (by omega) (by decide), nm_e (nm_r (nI_1 i) (ih _ ⟨fun m hm => ?_, fun m hm => ?_⟩))⟩
    · by_cases q : m = i
      · subst q
        exact pk_us
      · rw [pk_un (by omega)]
        exact hy.1 m (by omega)
    · rw [pk_un (by omega)]
      exact hy.2 m hm
theorem te_xAO {post : Int32 → St2 → Prop} {a c : Int32} (hn : no < 16) (k : post (nI no) (nI t, nI cap, sq, vi, vs, vt, vp, nI np, nI (no + 1), nI h, tot, mb, rc, rs, rt, rl, rv, pd, upd ot no a, upd ol no c, uS, uT, uC, uP, uK)) : wpX_addObject post (nI t, nI cap, sq, vi, vs, vt, vp, nI np, nI no, nI h, tot, mb, rc, rs, rt, rl, rv, pd, ot, ol, uS, uT, uC, uP, uK) a c := by
  have vin : vp_in (nI no) 16 := vp_in_nI hn (by decide)
  unfold wpX_addObject
  dsimp only
  rw [nI_clamp (show no < 2 ^ 31 by omega)]
  exact ⟨vin, nm_e ⟨vin, nm_e (nm_r (nI_1 no) k)⟩⟩
variable {ca cn cx : Nat}
theorem te_oA {post : Int32 → St2 → Prop} {a b c d : Int32} (hP : te_P t 1 ca cn cx mb rc rs rt rl rv mem aS aT aC aP aN ns nt nc nv nN xs xt xc xv xN) (ht : t ≤ 12) (q : te_pr t a b c d)
    (f : ca < 24 → post (nI ca) (nI t, nI cap, sq, vi, vs, vt, vp, nI np, nI no, nI h, tot, mb, upd rc 3 (nI (ca + 1)), upd rs (72 + ca) a, upd rt (72 + ca) b, upd rl (72 + ca) c, upd rv (72 + ca) d, pd, ot, ol, uS, uT, uC, uP, uK))
    (g : ca = 24 → post (-2) (nI t, nI cap, sq, vi, vs, vt, vp, nI np, nI no, nI h, tot, mb, rc, rs, rt, rl, rv, pd, ot, ol, uS, uT, uC, uP, uK)) : wpX_stageAllow post (nI t, nI cap, sq, vi, vs, vt, vp, nI np, nI no, nI h, tot, mb, rc, rs, rt, rl, rv, pd, ot, ol, uS, uT, uC, uP, uK) a b c d := by
  unfold wpX_stageAllow
  dsimp only
  exact te_xPr ht (fun _ => br_f (by decide) (te_xAs (l := 0) (c := ca) (C := 24) (by decide) hP.2.2.1.1 (by decide) hP.2.1.1 f g)) (fun z => absurd q z)
theorem te_oN {post : Int32 → St2 → Prop} {a b c d : Int32} (hP : te_P t 1 ca cn cx mb rc rs rt rl rv mem aS aT aC aP aN ns nt nc nv nN xs xt xc xv xN) (ht : t ≤ 12) (q : te_pr t a b c d)
    (f : cn < 6 → post (nI cn) (nI t, nI cap, sq, vi, vs, vt, vp, nI np, nI no, nI h, tot, mb, upd rc 4 (nI (cn + 1)), upd rs (96 + cn) a, upd rt (96 + cn) b, upd rl (96 + cn) c, upd rv (96 + cn) d, pd, ot, ol, uS, uT, uC, uP, uK))
    (g : cn = 6 → post (-2) (nI t, nI cap, sq, vi, vs, vt, vp, nI np, nI no, nI h, tot, mb, rc, rs, rt, rl, rv, pd, ot, ol, uS, uT, uC, uP, uK)) : wpX_stageNeverallow post (nI t, nI cap, sq, vi, vs, vt, vp, nI np, nI no, nI h, tot, mb, rc, rs, rt, rl, rv, pd, ot, ol, uS, uT, uC, uP, uK) a b c d := by
  unfold wpX_stageNeverallow
  dsimp only
  exact te_xPr ht (fun _ => br_f (by decide) (te_xAs (l := 1) (c := cn) (C := 6) (by decide) hP.2.2.1.2.1 (by decide) hP.2.1.2.1 f g)) (fun z => absurd q z)
theorem te_oX {post : Int32 → St2 → Prop} {a b c d : Int32} (hP : te_P t 1 ca cn cx mb rc rs rt rl rv mem aS aT aC aP aN ns nt nc nv nN xs xt xc xv xN) (ht : t ≤ 12) (qa : te_tn t a) (qb : te_tn t b) (qc : te_ty 4 c) (qd : te_ty t d)
    (f : cx < 12 → post (nI cx) (nI t, nI cap, sq, vi, vs, vt, vp, nI np, nI no, nI h, tot, mb, upd rc 5 (nI (cx + 1)), upd rs (120 + cx) a, upd rt (120 + cx) b, upd rl (120 + cx) c, upd rv (120 + cx) d, pd, ot, ol, uS, uT, uC, uP, uK))
    (g : cx = 12 → post (-2) (nI t, nI cap, sq, vi, vs, vt, vp, nI np, nI no, nI h, tot, mb, rc, rs, rt, rl, rv, pd, ot, ol, uS, uT, uC, uP, uK)) : wpX_stageTransition post (nI t, nI cap, sq, vi, vs, vt, vp, nI np, nI no, nI h, tot, mb, rc, rs, rt, rl, rv, pd, ot, ol, uS, uT, uC, uP, uK) a b c d := by
  unfold wpX_stageTransition
  dsimp only
  refine te_xTn ht (fun _ => br_f (by decide) ?_) (fun z => absurd qa z)
  refine te_xTn ht (fun _ => br_f (by decide) ?_) (fun z => absurd qb z)
  refine te_xCl (fun _ => br_f (by decide) ?_) (fun z => absurd qc z)
  refine te_xTy ht (fun _ => br_f (by decide) ?_) (fun z => absurd qd z)
  exact te_xAs (l := 2) (c := cx) (C := 12) (by decide) hP.2.2.1.2.2 (by decide) hP.2.1.2.2 f g
theorem te_oM {post : Int32 → St2 → Prop} {x a : Nat} (ht : t ≤ 12) (hx : x < t) (ha : a < 8)
    (f : te_bv (mb (12 + x)) a = 0 → post 1 (nI t, nI cap, sq, vi, vs, vt, vp, nI np, nI no, nI h, tot, upd mb (12 + x) (mb (12 + x) ||| ((1 : Int32) <<< (nI a &&& 31))), rc, rs, rt, rl, rv, pd, ot, ol, uS, uT, uC, uP, uK))
    (g : te_bv (mb (12 + x)) a = 1 → post 0 (nI t, nI cap, sq, vi, vs, vt, vp, nI np, nI no, nI h, tot, mb, rc, rs, rt, rl, rv, pd, ot, ol, uS, uT, uC, uP, uK)) : wpX_stageMember post (nI t, nI cap, sq, vi, vs, vt, vp, nI np, nI no, nI h, tot, mb, rc, rs, rt, rl, rv, pd, ot, ol, uS, uT, uC, uP, uK) (nI x) (nI a) := by
  have i2 : vp_in (nI (12 + x)) 24 := vp_in_nI (by omega) (by decide)
  have e12 : (12 : Int32) + nI x = nI (12 + x) := nI_add 12 x
  unfold wpX_stageMember
  dsimp only
  refine te_xTy ht (fun _ => br_f (by decide) ?_) (fun z => absurd ⟨x, hx, rfl⟩ z)
  refine te_xAt (fun _ => br_f (by decide) ?_) (fun z => absurd ⟨a, ha, rfl⟩ z)
  refine te_xIs (w := 1) (by decide) (by omega) ha ?_
  rcases te_bv01 (mb (12 + x)) a with e | e
  · refine br_t e ?_
    rw [e12, nI_clamp (show 12 + x < 2 ^ 31 by omega)]
    exact ⟨i2, i2, nm_e (f e)⟩
  · exact br_f (fun z => absurd (e.symm.trans z) (by decide)) (g e)
theorem te_oD {post : Int32 → Prop} {s x c : Nat} (hP : te_P t 0 ca cn cx mb rc rs rt rl rv mem aS aT aC aP aN ns nt nc nv nN xs xt xc xv xN) (ht : t ≤ 12) (hs : s < t) (hx : x < t) (hc : c < 4)
    (k : post (te_vec mem 0 0 ca aS aT aC aP s x (nI c))) : wpX_decide post (nI t, nI cap, sq, vi, vs, vt, vp, nI np, nI no, nI h, tot, mb, rc, rs, rt, rl, rv, pd, ot, ol, uS, uT, uC, uP, uK) (nI s) (nI x) (nI c) 0 := by
  unfold wpX_decide
  dsimp only
  refine te_xTy ht (fun _ => br_f (by decide) ?_) (fun z => absurd ⟨s, hs, rfl⟩ z)
  refine te_xTy ht (fun _ => br_f (by decide) ?_) (fun z => absurd ⟨x, hx, rfl⟩ z)
  refine te_xCl (fun _ => br_f (by decide) (br_t rfl ?_)) (fun z => absurd ⟨c, hc, rfl⟩ z)
  unfold wX_decide_38
  exact te_xVe (w := 0) hP (by decide) ht hs hx k
theorem te_audX (hc4 : 4 ≤ cap) (hc : cap ≤ 16) (hh : h ≤ cap) (s x c p : Int32) {post : St2 → Prop}
    (k : ∀ (h1 : Nat) (tot1 : Int32) (S1 T1 C1 P1 K1 : Nat → Int32), h1 ≤ cap → post (nI t, nI cap, sq, vi, vs, vt, vp, nI np, nI no, nI h1, tot1, mb, rc, rs, rt, rl, rv, pd, ot, ol, S1, T1, C1, P1, K1)) : wpX_recordDenial post (nI t, nI cap, sq, vi, vs, vt, vp, nI np, nI no, nI h, tot, mb, rc, rs, rt, rl, rv, pd, ot, ol, uS, uT, uC, uP, uK) s x c p := by
  rcases te_fnd h (te_hit uS uT uC uP s x c p) with nl | ⟨i, hi, nh, nl⟩
  · rcases Nat.lt_or_ge h cap with q | q
    · exact te_xR2 hc q nl (k _ _ _ _ _ _ _ (by omega))
    · exact te_xR3 hc4 hc (by omega) nl (k _ _ _ _ _ _ _ hh)
  · exact te_xR1 hc hh hi nh nl (k _ _ _ _ _ _ _ hh)
theorem te_oK {post : Int32 → St2 → Prop} {p j d f : Nat} {c : Int32} (hP : te_P t 0 ca cn cx mb rc rs rt rl rv mem aS aT aC aP aN ns nt nc nv nN xs xt xc xv xN) (ht : t ≤ 12) (hc4 : 4 ≤ cap) (hc : cap ≤ 16) (hh : h ≤ cap) (o1 : np ≤ 8) (o2 : no ≤ 16) (hp : p < np) (hj : j < no)
    (ed : pd p = nI d) (ef : ot j = nI f) (ec : ol j = c) (hd : d < t) (hf : f < t)
    (k : ∀ (h1 : Nat) (tot1 : Int32) (S1 T1 C1 P1 K1 : Nat → Int32), h1 ≤ cap → post (255 &&& (te_vec mem 0 0 ca aS aT aC aP d f c ^^^ (-1))) (nI t, nI cap, sq, vi, vs, vt, vp, nI np, nI no, nI h1, tot1, mb, rc, rs, rt, rl, rv, pd, ot, ol, S1, T1, C1, P1, K1)) : wpX_check post (nI t, nI cap, sq, vi, vs, vt, vp, nI np, nI no, nI h, tot, mb, rc, rs, rt, rl, rv, pd, ot, ol, uS, uT, uC, uP, uK) (nI p) (nI j) 255 := by
  have vp' : vp_in (nI p) 8 := vp_in_nI (by omega) (by decide)
  have vj : vp_in (nI j) 16 := vp_in_nI (by omega) (by decide)
  unfold wpX_check
  dsimp only
  refine te_xPc o1 (fun _ => br_f (by decide) ?_) (fun z => absurd ⟨p, hp, rfl⟩ z)
  refine te_xOb o2 (fun _ => br_f (by decide) ?_) (fun z => absurd ⟨j, hj, rfl⟩ z)
  refine te_xPm (fun _ => br_f (by decide) ?_) (fun z => absurd ⟨255, by decide, by decide, rfl⟩ z)
  rw [nI_clamp (show p < 2 ^ 31 by omega), nI_clamp (show j < 2 ^ 31 by omega)]
  refine ⟨vp', nm_r ed ⟨vj, nm_r ef ⟨vj, nm_r ec ?_⟩⟩⟩
  refine te_xVe (w := 0) hP (by decide) ht hd hf (nm_e (br_c (fun z => k h tot uS uT uC uP uK hh) (fun z => te_audX hc4 hc hh _ _ _ _ (fun h1 tot1 S1 T1 C1 P1 K1 q => k h1 tot1 S1 T1 C1 P1 K1 q))))
theorem te_oS {post : Int32 → St2 → Prop} {x : Nat} (ht : t ≤ 12) (hn : np < 8) (hx : x < t) (k : post (nI np) (nI t, nI cap, sq, vi, vs, vt, vp, nI (np + 1), nI no, nI h, tot, mb, rc, rs, rt, rl, rv, upd pd np (nI x), ot, ol, uS, uT, uC, uP, uK)) : wpX_spawn post (nI t, nI cap, sq, vi, vs, vt, vp, nI np, nI no, nI h, tot, mb, rc, rs, rt, rl, rv, pd, ot, ol, uS, uT, uC, uP, uK) (nI x) := by
  unfold wpX_spawn
  dsimp only
  refine te_xTy ht (fun _ => br_f (by decide) (pk_lt np 8 (fun _ => ?_) (fun z => absurd hn (by omega)))) (fun z => absurd ⟨x, hx, rfl⟩ z)
  rw [nI_clamp (show np < 2 ^ 31 by omega)]
  exact ⟨vp_in_nI hn (by decide), nm_e (nm_r (nI_1 np) k)⟩
theorem te_oO {post : Int32 → St2 → Prop} {x c : Nat} (ht : t ≤ 12) (hn : no < 16) (hx : x < t) (hc : c < 4) (k : post (nI no) (nI t, nI cap, sq, vi, vs, vt, vp, nI np, nI (no + 1), nI h, tot, mb, rc, rs, rt, rl, rv, pd, upd ot no (nI x), upd ol no (nI c), uS, uT, uC, uP, uK)) : wpX_makeObject post (nI t, nI cap, sq, vi, vs, vt, vp, nI np, nI no, nI h, tot, mb, rc, rs, rt, rl, rv, pd, ot, ol, uS, uT, uC, uP, uK) (nI x) (nI c) := by
  unfold wpX_makeObject
  dsimp only
  refine te_xTy ht (fun _ => br_f (by decide) ?_) (fun z => absurd ⟨x, hx, rfl⟩ z)
  refine te_xCl (fun _ => br_f (by decide) (pk_lt no 16 (fun _ => ?_) (fun z => absurd hn (by omega)))) (fun z => absurd ⟨c, hc, rfl⟩ z)
  exact te_xAO hn k
end
