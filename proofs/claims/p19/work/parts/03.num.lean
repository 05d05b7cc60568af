/-! arguments: negative, or a natural -/
theorem te_neg (v : Int32) : v < 0 ∨ ∃ j : Nat, j < 2 ^ 31 ∧ v = nI j := by
  by_cases h : v < 0
  · exact Or.inl h
  · exact Or.inr (nI_of h)
theorem te_z : (0 : Int32).toInt = 0 := by decide
theorem te_nle {v : Int32} {a : Nat} (h : v < 0) (ha : a < 2 ^ 31) : ¬ nI a ≤ v := by
  intro q
  rw [Int32.lt_iff_toInt_lt, te_z] at h
  rw [Int32.le_iff_toInt_le, nI_toInt ha] at q
  omega
theorem te_lt {v : Int32} {a : Nat} (h : v < 0) (ha : a < 2 ^ 31) : v < nI a := by
  rw [Int32.lt_iff_toInt_lt, te_z] at h
  rw [Int32.lt_iff_toInt_lt, nI_toInt ha]
  omega
theorem te_le {v : Int32} {a : Nat} (h : v < 0) (ha : a < 2 ^ 31) : v ≤ nI a := by
  rw [Int32.lt_iff_toInt_lt, te_z] at h
  rw [Int32.le_iff_toInt_le, nI_toInt ha]
  omega
theorem te_ne {v : Int32} {a : Nat} (h : v < 0) (ha : a < 2 ^ 31) : ¬ v = nI a := by
  intro e
  subst e
  exact nI_pos ha h
theorem te_tyN {n : Nat} {v : Int32} (h : v < 0) (hn : n < 2 ^ 31) : ¬ te_ty n v := by
  intro ⟨j, hj, e⟩
  exact te_ne h (show j < 2 ^ 31 by omega) e
theorem te_tyI {n j : Nat} (hj : j < 2 ^ 31) (hn : n < 2 ^ 31) (h : n ≤ j) : ¬ te_ty n (nI j) := by
  intro ⟨i, hi, e⟩
  have := (nI_eq hj (by omega)).mp e
  omega
theorem te_atN {v : Int32} (h : v < 0) : ¬ te_at v := by
  intro ⟨j, hj, e⟩
  exact te_ne h (show 64 + j < 2 ^ 31 by omega) e
theorem te_atI {j : Nat} (hj : j < 2 ^ 31) (h : j < 64 ∨ 72 ≤ j) : ¬ te_at (nI j) := by
  intro ⟨i, hi, e⟩
  have := (nI_eq hj (show 64 + i < 2 ^ 31 by omega)).mp e
  omega
/-- v within 0 .. m -/
theorem te_rt {m : Nat} {v : Int32} (hm : m < 2 ^ 30) (h : te_ty (m + 1) v) : ¬ v < 0 ∧ v ≤ nI m := by
  obtain ⟨j, hj, rfl⟩ := h
  exact ⟨nI_pos (by omega), nI_le (by omega) (by omega)⟩
theorem te_rf {m : Nat} {v : Int32} (hm : m < 2 ^ 30) (h : ¬ te_ty (m + 1) v) (h0 : ¬ v < 0) : ¬ v ≤ nI m := by
  obtain ⟨j, hj, rfl⟩ := nI_of h0
  intro q
  have := (nI_leI hj (by omega)).mp q
  exact h ⟨j, by omega, rfl⟩
/-- perms: 1 .. 255 -/
def te_pm (v : Int32) : Prop := ∃ j, 1 ≤ j ∧ j ≤ 255 ∧ v = nI j
theorem te_pmN {v : Int32} (h : v < 0) : ¬ te_pm v := by
  intro ⟨j, _, hj, e⟩
  exact te_ne h (show j < 2 ^ 31 by omega) e
theorem te_pmI {j : Nat} (hj : j < 2 ^ 31) (h : j < 1 ∨ 255 < j) : ¬ te_pm (nI j) := by
  intro ⟨i, h1, h2, e⟩
  have := (nI_eq hj (show i < 2 ^ 31 by omega)).mp e
  omega
theorem te_pmt {v : Int32} (h : te_pm v) : ¬ v < 1 ∧ v ≤ 255 := by
  obtain ⟨j, h1, h2, rfl⟩ := h
  exact ⟨nI_nlt (b := 1) h1 (by omega), nI_le (b := 255) h2 (by decide)⟩
theorem te_pmf {v : Int32} (h : ¬ te_pm v) (h1 : ¬ v < 1) : ¬ v ≤ 255 := by
  intro q
  rcases te_neg v with n | ⟨j, hj, rfl⟩
  · exact h1 (te_lt (a := 1) n (by decide))
  · have a := (nI_leI (b := 255) hj (by decide)).mp q
    have b : 1 ≤ j := by
      rcases Nat.lt_or_ge j 1 with z | z
      · exact absurd (nI_lt (b := 1) z (by decide)) h1
      · exact z
    exact h ⟨j, b, a, rfl⟩
theorem te_vb0 : vp_nar .boolean 0 = 0 := rfl
theorem te_vb1 : vp_nar .boolean 1 = 1 := rfl
theorem te_vb {z : Int32} (h : z = 0 ∨ z = 1) : vp_nar .boolean z = z := by rcases h with rfl | rfl <;> rfl
theorem te_nb {z : Int32} (h : z = 0 ∨ z = 1) : narrow .boolean (.int z) = .int z := by rcases h with rfl | rfl <;> rfl
theorem te_nbb (b : Bool) : narrow .boolean (.int (te_b b)) = .int (te_b b) := by cases b <;> rfl
/-- places -/
theorem te_ml (w k x : Nat) {K : Int32} (hK : K = nI k) : nI w * K + nI x = nI (w * k + x) := by rw [hK, pk_mul, nI_add]
theorem te_dv {s x t : Nat} (hx : x < t) : (s * t + x) / t = s := by
  rw [Nat.add_comm, Nat.add_mul_div_right _ _ (by omega), Nat.div_eq_of_lt hx, Nat.zero_add]
theorem te_md {s x t : Nat} (hx : x < t) : (s * t + x) % t = x := by
  rw [Nat.add_comm, Nat.add_mul_mod_self_right, Nat.mod_eq_of_lt hx]
/-! the first violated pair, the first held entry -/
def te_none (t : Nat) (B : Nat → Nat → Int32) : Prop := ∀ s x, s < t → x < t → B s x = 0
def te_one (t : Nat) (B : Nat → Nat → Int32) (s x : Nat) : Prop :=
  (s < t ∧ x < t) ∧ ¬ B s x = 0 ∧ (∀ s' x', s' < s → x' < t → B s' x' = 0) ∧ (∀ x', x' < x → B s x' = 0)
theorem te_fnd (h : Nat) (M : Nat → Prop) : (∀ i, i < h → ¬ M i) ∨ ∃ i, i < h ∧ M i ∧ ∀ j, j < i → ¬ M j := by
  by_cases c : ∃ i, i < h ∧ M i
  · obtain ⟨i, ⟨h1, h2⟩, h3⟩ := pk_least (fun i => i < h ∧ M i) c
    exact Or.inr ⟨i, h1, h2, fun j hj m => h3 j hj ⟨by omega, m⟩⟩
  · exact Or.inl fun i hi m => c ⟨i, hi, m⟩
theorem te_pair (t : Nat) (B : Nat → Nat → Int32) : te_none t B ∨ ∃ s x, te_one t B s x := by
  rcases te_fnd t (fun s => ∃ x, x < t ∧ ¬ B s x = 0) with h | ⟨s, hs, ⟨x, hx, hb⟩, hl⟩
  · refine Or.inl fun s x hs hx => ?_
    exact Classical.byContradiction fun z => h s hs ⟨x, hx, z⟩
  · rcases te_fnd t (fun x => ¬ B s x = 0) with k | ⟨y, hy, hb', hl'⟩
    · exact absurd hb (k x hx)
    · refine Or.inr ⟨s, y, ⟨hs, hy⟩, hb', fun s' x' h1 h2 => ?_, fun x' h1 => ?_⟩
      · exact Classical.byContradiction fun z => hl s' h1 ⟨x', h2, z⟩
      · exact Classical.byContradiction fun z => hl' x' h1 z
theorem te_rows (c t : Nat) (B : Nat → Nat → Nat → Int32) : (∀ n, n < c → te_none t (B n)) ∨ ∃ n s x, n < c ∧ te_one t (B n) s x ∧ ∀ m, m < n → te_none t (B m) := by
  rcases te_fnd c (fun n => ∃ s x, te_one t (B n) s x) with h | ⟨n, hn, ⟨s, x, ho⟩, hl⟩
  · refine Or.inl fun n hn => ?_
    rcases te_pair t (B n) with z | z
    · exact z
    · exact absurd z (h n hn)
  · refine Or.inr ⟨n, s, x, hn, ho, fun m hm => ?_⟩
    rcases te_pair t (B m) with z | z
    · exact z
    · exact absurd z (hl m hm)
/-- the perms that break neverallow n at s, x -/
def te_bp (m : Nat → Int32) (na : Nat) (aS aT aC aP ns nt nc nv : Nat → Int32) (n s x : Nat) : Int32 :=
  if te_rm m 1 ns nt nc (6 + n) s x (nc (6 + n)) = true then te_vec m 1 24 na aS aT aC aP s x (nc (6 + n)) &&& nv (6 + n) else 0
theorem te_rmc (m : Nat → Int32) (w : Nat) (cs ct cc : Nat → Int32) (k s x : Nat) : te_rm m w cs ct cc k s x (cc k) = (te_nm m w (cs k) s s && te_nm m w (ct k) x s) := by
  unfold te_rm
  rw [decide_eq_true rfl, Bool.true_and]
def te_hit (S T C P : Nat → Int32) (s x c p : Int32) (i : Nat) : Prop := S i = s ∧ T i = x ∧ C i = c ∧ P i = p
