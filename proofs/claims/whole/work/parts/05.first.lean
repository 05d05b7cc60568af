/-! the first violated pair, the first held entry -/
def te_none (t : Nat) (B : Nat → Nat → Int32) : Prop := ∀ s x, s < t → x < t → B s x = 0
def te_one (t : Nat) (B : Nat → Nat → Int32) (s x : Nat) : Prop :=
  (s < t ∧ x < t) ∧ ¬ B s x = 0 ∧ (∀ s' x', s' < s → x' < t → B s' x' = 0) ∧ (∀ x', x' < x → B s x' = 0)
theorem te_fnd (h : Nat) (M : Nat → Prop) : (∀ i, i < h → ¬ M i) ∨ ∃ i, i < h ∧ M i ∧ ∀ j, j < i → ¬ M j := by
  by_cases c : ∃ i, i < h ∧ M i
  · obtain ⟨i, ⟨h1, h2⟩, h3⟩ := pk_least (fun i => i < h ∧ M i) c
    exact Or.inr ⟨i, h1, h2, fun j hj m => h3 j hj ⟨by omega, m⟩⟩
  · exact Or.inl fun i hi m => c ⟨i, hi, m⟩
theorem te_pair (t : Nat) (B : Nat → Nat → Int32) : te_none t B ∨ ∃ s x, te_one t B s x := by
  rcases te_fnd t (fun s => ∃ x, x < t ∧ ¬ B s x = 0) with h | ⟨s, hs, ⟨x, hx, hb⟩, hl⟩
  · refine Or.inl fun s x hs hx => ?_
    exact Classical.byContradiction fun z => h s hs ⟨x, hx, z⟩
  · rcases te_fnd t (fun x => ¬ B s x = 0) with k | ⟨y, hy, hb', hl'⟩
    · exact absurd hb (k x hx)
    · refine Or.inr ⟨s, y, ⟨hs, hy⟩, hb', fun s' x' h1 h2 => ?_, fun x' h1 => ?_⟩
      · exact Classical.byContradiction fun z => hl s' h1 ⟨x', h2, z⟩
      · exact Classical.byContradiction fun z => hl' x' h1 z
theorem te_rows (c t : Nat) (B : Nat → Nat → Nat → Int32) : (∀ n, n < c → te_none t (B n)) ∨ ∃ n s x, n < c ∧ te_one t (B n) s x ∧ ∀ m, m < n → te_none t (B m) := by
  rcases te_fnd c (fun n => ∃ s x, te_one t (B n) s x) with h | ⟨n, hn, ⟨s, x, ho⟩, hl⟩
  · refine Or.inl fun n hn => ?_
    rcases te_pair t (B n) with z | z
    · exact z
    · exact absurd z (h n hn)
  · refine Or.inr ⟨n, s, x, hn, ho, fun m hm => ?_⟩
    rcases te_pair t (B m) with z | z
    · exact z
    · exact absurd z (hl m hm)
/-- the perms that break neverallow n at s, x -/
def te_bp (m : Nat → Int32) (na : Nat) (aS aT aC aP ns nt nc nv : Nat → Int32) (n s x : Nat) : Int32 :=
  if te_rm m 1 ns nt nc (6 + n) s x (nc (6 + n)) = true then te_vec m 1 24 na aS aT aC aP s x (nc (6 + n)) &&& nv (6 + n) else 0
theorem te_rmc (m : Nat → Int32) (w : Nat) (cs ct cc : Nat → Int32) (k s x : Nat) : te_rm m w cs ct cc k s x (cc k) = (te_nm m w (cs k) s s && te_nm m w (ct k) x s) := by
  unfold te_rm
  rw [decide_eq_true rfl, Bool.true_and]
def te_hit (S T C P : Nat → Int32) (s x c p : Int32) (i : Nat) : Prop := S i = s ∧ T i = x ∧ C i = c ∧ P i = p
