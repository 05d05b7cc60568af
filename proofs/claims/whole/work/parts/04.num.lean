/-! arguments: negative, or a natural -/
theorem te_neg (v : Int32) : v < 0 ∨ ∃ j : Nat, j < 2 ^ 31 ∧ v = nI j := by
  by_cases h : v < 0
  · exact Or.inl h
  · exact Or.inr (nI_of h)
theorem te_z : (0 : Int32).toInt = 0 := by decide
theorem te_nle {v : Int32} {a : Nat} (h : v < 0) (ha : a < 2 ^ 31) : ¬ nI a ≤ v := by
  intro q
  rw [Int32.lt_iff_toInt_lt, te_z] at h
  rw [Int32.le_iff_toInt_le, nI_toInt ha] at q
  omega
theorem te_lt {v : Int32} {a : Nat} (h : v < 0) (ha : a < 2 ^ 31) : v < nI a := by
  rw [Int32.lt_iff_toInt_lt, te_z] at h
  rw [Int32.lt_iff_toInt_lt, nI_toInt ha]
  omega
theorem te_le {v : Int32} {a : Nat} (h : v < 0) (ha : a < 2 ^ 31) : v ≤ nI a := by
  rw [Int32.lt_iff_toInt_lt, te_z] at h
  rw [Int32.le_iff_toInt_le, nI_toInt ha]
  omega
theorem te_ne {v : Int32} {a : Nat} (h : v < 0) (ha : a < 2 ^ 31) : ¬ v = nI a := by
  intro e
  subst e
  exact nI_pos ha h
theorem te_tyN {n : Nat} {v : Int32} (h : v < 0) (hn : n < 2 ^ 31) : ¬ te_ty n v := by
  intro ⟨j, hj, e⟩
  exact te_ne h (show j < 2 ^ 31 by omega) e
theorem te_tyI {n j : Nat} (hj : j < 2 ^ 31) (hn : n < 2 ^ 31) (h : n ≤ j) : ¬ te_ty n (nI j) := by
  intro ⟨i, hi, e⟩
  have := (nI_eq hj (by omega)).mp e
  omega
theorem te_atN {v : Int32} (h : v < 0) : ¬ te_at v := by
  intro ⟨j, hj, e⟩
  exact te_ne h (show 64 + j < 2 ^ 31 by omega) e
theorem te_atI {j : Nat} (hj : j < 2 ^ 31) (h : j < 64 ∨ 72 ≤ j) : ¬ te_at (nI j) := by
  intro ⟨i, hi, e⟩
  have := (nI_eq hj (show 64 + i < 2 ^ 31 by omega)).mp e
  omega
/-- v within 0 .. m -/
theorem te_rt {m : Nat} {v : Int32} (hm : m < 2 ^ 30) (h : te_ty (m + 1) v) : ¬ v < 0 ∧ v ≤ nI m := by
  obtain ⟨j, hj, rfl⟩ := h
  exact ⟨nI_pos (by omega), nI_le (by omega) (by omega)⟩
theorem te_rf {m : Nat} {v : Int32} (hm : m < 2 ^ 30) (h : ¬ te_ty (m + 1) v) (h0 : ¬ v < 0) : ¬ v ≤ nI m := by
  obtain ⟨j, hj, rfl⟩ := nI_of h0
  intro q
  have := (nI_leI hj (by omega)).mp q
  exact h ⟨j, by omega, rfl⟩
/-- perms: 1 .. 255 -/
def te_pm (v : Int32) : Prop := ∃ j, 1 ≤ j ∧ j ≤ 255 ∧ v = nI j
theorem te_pmN {v : Int32} (h : v < 0) : ¬ te_pm v := by
  intro ⟨j, _, hj, e⟩
  exact te_ne h (show j < 2 ^ 31 by omega) e
theorem te_pmI {j : Nat} (hj : j < 2 ^ 31) (h : j < 1 ∨ 255 < j) : ¬ te_pm (nI j) := by
  intro ⟨i, h1, h2, e⟩
  have := (nI_eq hj (show i < 2 ^ 31 by omega)).mp e
  omega
theorem te_pmt {v : Int32} (h : te_pm v) : ¬ v < 1 ∧ v ≤ 255 := by
  obtain ⟨j, h1, h2, rfl⟩ := h
  exact ⟨nI_nlt (b := 1) h1 (by omega), nI_le (b := 255) h2 (by decide)⟩
theorem te_pmf {v : Int32} (h : ¬ te_pm v) (h1 : ¬ v < 1) : ¬ v ≤ 255 := by
  intro q
  rcases te_neg v with n | ⟨j, hj, rfl⟩
  · exact h1 (te_lt (a := 1) n (by decide))
  · have a := (nI_leI (b := 255) hj (by decide)).mp q
    have b : 1 ≤ j := by
      rcases Nat.lt_or_ge j 1 with z | z
      · exact absurd (nI_lt (b := 1) z (by decide)) h1
      · exact z
    exact h ⟨j, b, a, rfl⟩
theorem te_vb0 : vp_nar .boolean 0 = 0 := rfl
theorem te_vb1 : vp_nar .boolean 1 = 1 := rfl
theorem te_vb {z : Int32} (h : z = 0 ∨ z = 1) : vp_nar .boolean z = z := by rcases h with rfl | rfl <;> rfl
theorem te_nb {z : Int32} (h : z = 0 ∨ z = 1) : narrow .boolean (.int z) = .int z := by rcases h with rfl | rfl <;> rfl
theorem te_nbb (b : Bool) : narrow .boolean (.int (te_b b)) = .int (te_b b) := by cases b <;> rfl
/-- places -/
theorem te_ml (w k x : Nat) {K : Int32} (hK : K = nI k) : nI w * K + nI x = nI (w * k + x) := by rw [hK, pk_mul, nI_add]
theorem te_dv {s x t : Nat} (hx : x < t) : (s * t + x) / t = s := by
  rw [Nat.add_comm, Nat.add_mul_div_right _ _ (by omega), Nat.div_eq_of_lt hx, Nat.zero_add]
theorem te_md {s x t : Nat} (hx : x < t) : (s * t + x) % t = x := by
  rw [Nat.add_comm, Nat.add_mul_mod_self_right, Nat.mod_eq_of_lt hx]
