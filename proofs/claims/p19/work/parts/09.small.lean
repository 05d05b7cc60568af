def te_ce (L : Nat) (xs : Nat → Int32) (k : Nat) : Int32 := if k < L then xs k else 0
def te_mo (v : Int32) (m : Nat) : Nat := (fmv v (nI m)).toNatClampNeg
theorem te_moE (v : Int32) {m : Nat} (h0 : 0 < m) (hm : m < 2 ^ 30) : fmv v (nI m) = nI (te_mo v m) ∧ te_mo v m < m := by
  have e := nI_toInt (show m < 2 ^ 31 by omega)
  have b := fmv_bounds (a := v) (m := nI m) (by rw [e]; omega)
  rw [e] at b
  have hn : ¬ fmv v (nI m) < 0 := by
    rw [Int32.lt_iff_toInt_lt, te_z]
    omega
  obtain ⟨j, hj, ej⟩ := nI_of hn
  have e2 : te_mo v m = j := by
    unfold te_mo
    rw [ej]
    exact nI_clamp hj
  rw [ej, nI_toInt hj] at b
  rw [e2]
  exact ⟨ej, by omega⟩
theorem te_lMd {post : Int32 → Prop} {v M : Int32} (m : Nat) (h0 : 0 < m) (hm : m < 2 ^ 30) (k : te_mo v m < m → post (nI (te_mo v m))) (hM : M = nI m := by rfl) : wpL_md post () v M := by
  subst hM
  obtain ⟨e, hl⟩ := te_moE v h0 hm
  have k' := k hl
  rw [← e] at k'
  refine ⟨nI_ne0 h0 (by omega), nm_e (br_c (fun z => ?_) (fun z => ?_))⟩
  · have e3 : fmv v (nI m) = v - v / nI m * nI m := if_pos z
    rw [e3] at k'
    exact k'
  · have e3 : fmv v (nI m) = v - v / nI m * nI m + nI m := if_neg z
    rw [e3] at k'
    exact k'
theorem te_lCe {post : Int32 → Prop} {L : Nat} {xs : Nat → Int32} {P : Int32} (k : Nat) (hL : L ≤ 260) (hk : k < 2 ^ 30) (hp : post (te_ce L xs k)) (hP : P = nI k) : wpL_cell post L xs () P := by
  subst hP
  unfold te_ce at hp
  refine pk_le L k (fun q => ?_) (fun q => ⟨vp_in_nI q (by omega), ?_⟩)
  · rw [if_neg (by omega)] at hp
    exact hp
  · rw [if_pos q] at hp
    rw [nI_clamp (show k < 2 ^ 31 by omega)]
    exact hp
def te_kn (o a : Nat) : Nat := if 2 < o then (if o = 3 then 1 else if o = 9 then 1 else if o = 4 then 2 else if o = 5 then 3 else if 7 < o then (if a = 0 then 5 else 1) else 4) else 0
theorem te_lKd {post : Int32 → Prop} {p q : Int32} (k : post (nI (te_kn (te_mo p 10) (te_mo q 4)))) : wpL_kind post () p q := by
  unfold wpL_kind
  refine te_lMd 10 (by decide) (by decide) (fun ho => ?_)
  generalize te_mo p 10 = o at k ho
  unfold te_kn at k
  refine pk_lt 2 o (fun c => ?_) (fun c => ?_)
  · rw [if_pos c] at k
    refine pk_eq o 3 (fun c1 => ?_) (fun c1 => ?_)
    · rw [if_pos c1] at k; exact k
    rw [if_neg c1] at k
    refine pk_eq o 9 (fun c2 => ?_) (fun c2 => ?_)
    · rw [if_pos c2] at k; exact k
    rw [if_neg c2] at k
    refine pk_eq o 4 (fun c3 => ?_) (fun c3 => ?_)
    · rw [if_pos c3] at k; exact k
    rw [if_neg c3] at k
    refine pk_eq o 5 (fun c4 => ?_) (fun c4 => ?_)
    · rw [if_pos c4] at k; exact k
    rw [if_neg c4] at k
    refine pk_lt 7 o (fun c5 => ?_) (fun c5 => ?_)
    · rw [if_pos c5] at k
      refine te_lMd 4 (by decide) (by decide) (fun ha => ?_)
      generalize te_mo q 4 = a at k ha
      refine pk_eq a 0 (fun c6 => ?_) (fun c6 => ?_)
      · rw [if_pos c6] at k; exact k
      · rw [if_neg c6] at k; exact k
    · rw [if_neg (by omega)] at k; exact k
  · rw [if_neg (by omega)] at k; exact k
def te_sr (j : Nat) : Int32 := if 4 ≤ j then nI (60 + j) else nI j
def te_tg (j : Nat) : Int32 := if j = 8 then 99 else te_sr j
theorem te_lSr {post : Int32 → Prop} {j : Nat} (hj : j < 8) (k : post (te_sr j)) : wpL_srcName post () (nI j) := by
  unfold te_sr at k
  refine pk_le 4 j (fun q => ?_) (fun q => ?_)
  · rw [if_pos q] at k
    rw [show (64 : Int32) + nI j = nI (64 + j) from nI_add 64 j, show nI (64 + j) - 4 = nI (60 + j) from (pk_sub (b := 4) (by omega)).trans (congrArg nI (by omega))]
    exact k
  · rw [if_neg (by omega)] at k
    exact k
theorem te_lTg {post : Int32 → Prop} {j : Nat} (hj : j < 9) (k : post (te_tg j)) : wpL_tgtName post () (nI j) := by
  unfold te_tg at k
  refine pk_eq j 8 (fun q => ?_) (fun q => ?_)
  · rw [if_pos q] at k
    exact k
  · rw [if_neg q] at k
    exact te_lSr (by omega) k
/-- the law's names -/
def te_ln (nm : Int32) : Prop := (∃ j, j < 4 ∧ nm = nI j) ∨ (∃ q, q < 4 ∧ nm = nI (64 + q)) ∨ nm = 99
theorem te_srL {j : Nat} (hj : j < 8) : te_ln (te_sr j) := by
  unfold te_sr
  by_cases q : 4 ≤ j
  · rw [if_pos q]; exact Or.inr (Or.inl ⟨j - 4, by omega, congrArg nI (by omega)⟩)
  · rw [if_neg q]; exact Or.inl ⟨j, by omega, rfl⟩
theorem te_srT {j : Nat} (hj : j < 8) : te_tn 4 (te_sr j) := by
  unfold te_sr
  by_cases q : 4 ≤ j
  · rw [if_pos q]; exact Or.inr ⟨j - 4, by omega, congrArg nI (by omega)⟩
  · rw [if_neg q]; exact Or.inl ⟨j, by omega, rfl⟩
theorem te_tgL {j : Nat} (hj : j < 9) : te_ln (te_tg j) := by
  unfold te_tg
  by_cases q : j = 8
  · rw [if_pos q]; exact Or.inr (Or.inr rfl)
  · rw [if_neg q]; exact te_srL (by omega)
theorem te_tgS {j : Nat} (hj : j < 9) : te_sn 4 (te_tg j) := by
  unfold te_tg
  by_cases q : j = 8
  · rw [if_pos q]; exact Or.inr rfl
  · rw [if_neg q]; exact Or.inl (te_srT (by omega))
/-- the law's mask against the active membership -/
def te_MK (M : Int32) (mem : Nat → Int32) : Prop := ∀ x q, x < 4 → q < 4 → (bt M (q * 4 + x) = true ↔ mem (0 + x * 8 + q) = 1)
theorem te_lMt {post : Int32 → Prop} {M nm : Int32} {mem : Nat → Int32} {x s : Nat} (hM : te_MK M mem) (hn : te_ln nm) (hx : x < 4) (hs : s < 4) (k : post (te_b (te_nm mem 0 nm x s))) : wpL_matches post () nm (nI x) (nI s) M := by
  unfold wpL_matches
  rcases hn with ⟨j, hj, rfl⟩ | ⟨q, hq, rfl⟩ | rfl
  · rw [te_nmT mem 0 x s (show j < 64 by omega) (show x < 64 by omega)] at k
    refine br_f (te_n99 (by omega)) (br_f (nI_ge (b := 4) hj (by decide)) (pk_eq j x (fun z => ?_) (fun z => ?_)))
    · rw [decide_eq_true z] at k; exact k
    · rw [decide_eq_false z] at k; exact k
  · rw [te_nmA mem 0 x s (show q < 8 by omega)] at k
    refine br_f (te_n99 (by omega)) (br_t (nI_le (a := 4) (by omega) (by omega)) (nm_r (show nI (64 + q) - 64 = nI q from (pk_sub (b := 64) (by omega)).trans (congrArg nI (by omega))) ?_))
    rw [te_ml (K := 4) q 4 x rfl, te_bit M (show q * 4 + x < 32 by omega)]
    have e := hM x q hx hq
    have e0 : mem (0 * 96 + x * 8 + q) = mem (0 + x * 8 + q) := rfl
    rw [e0] at k
    by_cases z : mem (0 + x * 8 + q) = 1
    · rw [decide_eq_true z] at k
      have e2 : te_bv M (q * 4 + x) = 1 := if_pos (e.mpr z)
      rw [e2]
      exact br_f (by decide) k
    · rw [decide_eq_false z] at k
      have e2 : te_bv M (q * 4 + x) = 0 := if_neg (fun y => z (e.mp y))
      rw [e2]
      exact br_t rfl k
  · rw [te_nmS] at k
    refine br_t rfl (pk_eq x s (fun z => ?_) (fun z => ?_))
    · rw [decide_eq_true z] at k; exact k
    · rw [decide_eq_false z] at k; exact k
