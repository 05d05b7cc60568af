section
variable {t cap np no h : Nat} {sq vi vs vt vp tot : Int32} {mb rc rs rt rl rv mem aS aT aC aP aN ns nt nc nv nN xs xt xc xv xN pd ot ol uS uT uC uP uK : Nat → Int32}

theorem te_xFs {post : Int32 → Prop} {s x c p : Int32} {j m : Nat} (hh : h ≤ 16) (hj : j < h) (nh : ¬ te_hit uS uT uC uP s x c p j)
    (k : wX_findEntry_3 post s x c p (nI t) (nI cap) sq vi vs vt vp (nI np) (nI no) (nI h) tot mb rc rs rt rl rv pd ot ol uS uT uC uP uK m (nI (j + 1))) : wX_findEntry_3 post s x c p (nI t) (nI cap) sq vi vs vt vp (nI np) (nI no) (nI h) tot mb rc rs rt rl rv pd ot ol uS uT uC uP uK (m + 1) (nI j) := by
  have hi : vp_in (nI j) 16 := vp_in_nI (by omega) (by decide)
  refine br_f (nI_ge hj (by omega)) ?_
  rw [nI_clamp (show j < 2 ^ 31 by omega)]
  refine ⟨hi, ?_⟩
  by_cases a : uS j = s
  · refine br_t a ⟨hi, ?_⟩
    by_cases b : uT j = x
    · refine br_t b ⟨hi, ?_⟩
      by_cases d : uC j = c
      · refine br_t d ⟨hi, ?_⟩
        by_cases e : uP j = p
        · exact absurd ⟨a, b, d, e⟩ nh
        · exact br_f e (nm_r (nI_1 j) k)
      · exact br_f d (nm_r (nI_1 j) k)
    · exact br_f b (nm_r (nI_1 j) k)
  · exact br_f a (nm_r (nI_1 j) k)
theorem te_xFh {post : Int32 → Prop} {s x c p : Int32} {j m : Nat} (hh : h ≤ 16) (hj : j < h) (nh : te_hit uS uT uC uP s x c p j)
    (k : post (nI j)) : wX_findEntry_3 post s x c p (nI t) (nI cap) sq vi vs vt vp (nI np) (nI no) (nI h) tot mb rc rs rt rl rv pd ot ol uS uT uC uP uK (m + 1) (nI j) := by
  have hi : vp_in (nI j) 16 := vp_in_nI (by omega) (by decide)
  obtain ⟨a, b, d, e⟩ := nh
  refine br_f (nI_ge hj (by omega)) ?_
  rw [nI_clamp (show j < 2 ^ 31 by omega)]
  exact ⟨hi, br_t a ⟨hi, br_t b ⟨hi, br_t d ⟨hi, br_t e k⟩⟩⟩⟩
theorem te_xFiH {post : Int32 → Prop} {s x c p : Int32} {i : Nat} (hh : h ≤ 16) (hi : i < h) (nh : te_hit uS uT uC uP s x c p i) (nl : ∀ j, j < i → ¬ te_hit uS uT uC uP s x c p j)
    (k : post (nI i)) : wpX_findEntry post (nI t, nI cap, sq, vi, vs, vt, vp, nI np, nI no, nI h, tot, mb, rc, rs, rt, rl, rv, pd, ot, ol, uS, uT, uC, uP, uK) s x c p := by
  have L : ∀ d j, j + d = i → wX_findEntry_3 post s x c p (nI t) (nI cap) sq vi vs vt vp (nI np) (nI no) (nI h) tot mb rc rs rt rl rv pd ot ol uS uT uC uP uK (d + 1) (nI j) := by
    intro d
    induction d with
    | zero =>
      intro j hj
      have e : j = i := by omega
      subst e
      exact te_xFh hh hi nh k
    | succ d ih => exact fun j hj => te_xFs hh (by omega) (nl j (by omega)) (ih (j + 1) (by omega))
  exact ⟨_, L i 0 (by omega)⟩
theorem te_xFiN {post : Int32 → Prop} {s x c p : Int32} (hh : h ≤ 16) (nl : ∀ j, j < h → ¬ te_hit uS uT uC uP s x c p j)
    (k : post (-5)) : wpX_findEntry post (nI t, nI cap, sq, vi, vs, vt, vp, nI np, nI no, nI h, tot, mb, rc, rs, rt, rl, rv, pd, ot, ol, uS, uT, uC, uP, uK) s x c p := by
  have L : ∀ d j, j + d = h → wX_findEntry_3 post s x c p (nI t) (nI cap) sq vi vs vt vp (nI np) (nI no) (nI h) tot mb rc rs rt rl rv pd ot ol uS uT uC uP uK (d + 1) (nI j) := by
    intro d
    induction d with
    | zero =>
      intro j hj
      have e : j = h := by omega
      subst e
      exact br_t (nI_le (Nat.le_refl _) (by omega)) k
    | succ d ih => exact fun j hj => te_xFs hh (by omega) (nl j (by omega)) (ih (j + 1) (by omega))
  exact ⟨_, L h 0 (by omega)⟩
theorem te_xDL {post : St2 → Prop} (hh : h ≤ 16) (k : post (nI t, nI cap, sq, vi, vs, vt, vp, nI np, nI no, nI (h - 1), tot, mb, rc, rs, rt, rl, rv, pd, ot, ol, te_sh uS (h - 1), te_sh uT (h - 1), te_sh uC (h - 1), te_sh uP (h - 1), te_sh uK (h - 1))) :
    ∀ d i, i + 1 + d = h → wX_dropOldestEntry_2 post (nI t) (nI cap) sq vi vs vt vp (nI np) (nI no) (nI h) tot (d + 1) (nI (i + 1)) mb rc rs rt rl rv pd ot ol (te_sh uS i) (te_sh uT i) (te_sh uC i) (te_sh uP i) (te_sh uK i) := by
  intro d
  induction d with
  | zero =>
    intro i hi
    have e : h = i + 1 := by omega
    subst e
    exact br_t (nI_le (Nat.le_refl _) (by omega)) (nm_r (nI_pred i) k)
  | succ d ih =>
    intro i hi
    have q := ih (i + 1) (by omega)
    have h1 : vp_in (nI (i + 1)) 16 := vp_in_nI (by omega) (by decide)
    have h2 : vp_in (nI i) 16 := vp_in_nI (by omega) (by decide)
    refine br_f (nI_ge (by omega) (by omega)) ?_
    rw [nI_pred i, nI_clamp (show i < 2 ^ 31 by omega), nI_clamp (show i + 1 < 2 ^ 31 by omega), te_shR, te_shR, te_shR, te_shR, te_shR]
    exact ⟨h1, h2, nm_r (te_shS uS i) ⟨h1, h2, nm_r (te_shS uT i) ⟨h1, h2, nm_r (te_shS uC i) ⟨h1, h2, nm_r (te_shS uP i) ⟨h1, h2, nm_r (te_shS uK i) (nm_r (nI_1 (i + 1)) q)⟩⟩⟩⟩⟩
theorem te_xDr {post : St2 → Prop} (hh : h ≤ 16) (h0 : 0 < h) (k : post (nI t, nI cap, sq, vi, vs, vt, vp, nI np, nI no, nI (h - 1), tot, mb, rc, rs, rt, rl, rv, pd, ot, ol, te_sh uS (h - 1), te_sh uT (h - 1), te_sh uC (h - 1), te_sh uP (h - 1), te_sh uK (h - 1))) :
    wpX_dropOldestEntry post (nI t, nI cap, sq, vi, vs, vt, vp, nI np, nI no, nI h, tot, mb, rc, rs, rt, rl, rv, pd, ot, ol, uS, uT, uC, uP, uK) := by
  have q := te_xDL hh k (h - 1) 0 (by omega)
  rw [te_sh0, te_sh0, te_sh0, te_sh0, te_sh0] at q
  exact ⟨_, q⟩
theorem te_xAp {post : St2 → Prop} {s x c p : Int32} (hh : h < 16) (k : post (nI t, nI cap, sq, vi, vs, vt, vp, nI np, nI no, nI (h + 1), tot, mb, rc, rs, rt, rl, rv, pd, ot, ol, upd uS h s, upd uT h x, upd uC h c, upd uP h p, upd uK h 1)) :
    wX_recordDenial_55 post s x c p (nI t) (nI cap) sq vi vs vt vp (nI np) (nI no) (nI h) tot mb rc rs rt rl rv pd ot ol uS uT uC uP uK := by
  have hi : vp_in (nI h) 16 := vp_in_nI hh (by decide)
  unfold wX_recordDenial_55
  rw [nI_clamp (show h < 2 ^ 31 by omega)]
  exact ⟨hi, nm_e ⟨hi, nm_e ⟨hi, nm_e ⟨hi, nm_e ⟨hi, nm_e (nm_r (nI_1 h) k)⟩⟩⟩⟩⟩
theorem te_xR1 {post : St2 → Prop} {s x c p : Int32} {i : Nat} (hc : cap ≤ 16) (hh : h ≤ cap) (hi : i < h) (nh : te_hit uS uT uC uP s x c p i) (nl : ∀ j, j < i → ¬ te_hit uS uT uC uP s x c p j)
    (k : post (nI t, nI cap, sq, vi, vs, vt, vp, nI np, nI no, nI h, tot + 1, mb, rc, rs, rt, rl, rv, pd, ot, ol, uS, uT, uC, uP, upd uK i (uK i + 1))) : wpX_recordDenial post (nI t, nI cap, sq, vi, vs, vt, vp, nI np, nI no, nI h, tot, mb, rc, rs, rt, rl, rv, pd, ot, ol, uS, uT, uC, uP, uK) s x c p := by
  have hv : vp_in (nI i) 16 := vp_in_nI (by omega) (by decide)
  unfold wpX_recordDenial
  dsimp only
  refine nm_e (te_xFiH (by omega) hi nh nl (br_f ?_ ?_))
  · intro e
    have e2 : (nI i).toInt = (-5 : Int32).toInt := congrArg Int32.toInt e
    rw [nI_toInt (by omega), show (-5 : Int32).toInt = -5 by decide] at e2
    omega
  · rw [nI_clamp (show i < 2 ^ 31 by omega)]
    exact ⟨hv, hv, nm_e k⟩
theorem te_xR2 {post : St2 → Prop} {s x c p : Int32} (hc : cap ≤ 16) (hh : h < cap) (nl : ∀ j, j < h → ¬ te_hit uS uT uC uP s x c p j)
    (k : post (nI t, nI cap, sq, vi, vs, vt, vp, nI np, nI no, nI (h + 1), tot + 1, mb, rc, rs, rt, rl, rv, pd, ot, ol, upd uS h s, upd uT h x, upd uC h c, upd uP h p, upd uK h 1)) : wpX_recordDenial post (nI t, nI cap, sq, vi, vs, vt, vp, nI np, nI no, nI h, tot, mb, rc, rs, rt, rl, rv, pd, ot, ol, uS, uT, uC, uP, uK) s x c p := by
  unfold wpX_recordDenial
  dsimp only
  exact nm_e (te_xFiN (by omega) nl (br_t rfl (br_t (nI_lt hh (by omega)) (te_xAp (by omega) k))))
theorem te_xR3 {post : St2 → Prop} {s x c p : Int32} (hc4 : 4 ≤ cap) (hc : cap ≤ 16) (hh : h = cap) (nl : ∀ j, j < h → ¬ te_hit uS uT uC uP s x c p j)
    (k : post (nI t, nI cap, sq, vi, vs, vt, vp, nI np, nI no, nI h, tot + 1, mb, rc, rs, rt, rl, rv, pd, ot, ol, upd (te_sh uS (h - 1)) (h - 1) s, upd (te_sh uT (h - 1)) (h - 1) x, upd (te_sh uC (h - 1)) (h - 1) c, upd (te_sh uP (h - 1)) (h - 1) p, upd (te_sh uK (h - 1)) (h - 1) 1)) : wpX_recordDenial post (nI t, nI cap, sq, vi, vs, vt, vp, nI np, nI no, nI h, tot, mb, rc, rs, rt, rl, rv, pd, ot, ol, uS, uT, uC, uP, uK) s x c p := by
  unfold wpX_recordDenial
  dsimp only
  refine nm_e (te_xFiN (by omega) nl (br_t rfl (br_f (nI_nlt (by omega) (by omega)) (te_xDr (by omega) (by omega) ?_))))
  dsimp only
  refine te_xAp (by omega) ?_
  rw [show h - 1 + 1 = h by omega]
  exact k
end
