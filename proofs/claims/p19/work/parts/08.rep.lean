def te_ct (K : Nat → Nat) (k a : Nat) : Nat → Nat
  | 0 => 0
  | b + 1 => te_ct K k a b + (if a ≤ b ∧ K b = k then 1 else 0)
theorem te_ctY {K : Nat → Nat} {k a b : Nat} (q : a ≤ b) (e : K b = k) : te_ct K k a (b + 1) = te_ct K k a b + 1 := by
  show te_ct K k a b + (if a ≤ b ∧ K b = k then 1 else 0) = _
  rw [if_pos ⟨q, e⟩]
theorem te_ctN {K : Nat → Nat} {k a b : Nat} (e : ¬ K b = k) : te_ct K k a (b + 1) = te_ct K k a b := by
  show te_ct K k a b + (if a ≤ b ∧ K b = k then 1 else 0) = _
  rw [if_neg (fun z => e z.2)]
  rfl
theorem te_ctm {K : Nat → Nat} {k a : Nat} (b : Nat) : ∀ c, te_ct K k a b ≤ te_ct K k a (b + c)
  | 0 => Nat.le_refl _
  | c + 1 => Nat.le_trans (te_ctm b c) (Nat.le_add_right _ _)
theorem te_ctl {K : Nat → Nat} {k a j b : Nat} (q : a ≤ j) (hj : j < b) (e : K j = k) : te_ct K k a j < te_ct K k a b := by
  have h1 := te_ctY (K := K) q e
  have h2 := te_ctm (K := K) (k := k) (a := a) (j + 1) (b - (j + 1))
  rw [show j + 1 + (b - (j + 1)) = b by omega] at h2
  omega
theorem te_ctz {K : Nat → Nat} {k a : Nat} : ∀ b, b ≤ a → te_ct K k a b = 0
  | 0, _ => rfl
  | b + 1, q => by
    show te_ct K k a b + (if a ≤ b ∧ K b = k then 1 else 0) = 0
    rw [te_ctz b (by omega), if_neg (fun z => absurd z.1 (by omega))]
theorem te_ctle {K : Nat → Nat} {k a : Nat} : ∀ b, te_ct K k a b ≤ b
  | 0 => Nat.le_refl _
  | b + 1 => by
    show te_ct K k a b + (if a ≤ b ∧ K b = k then 1 else 0) ≤ b + 1
    have := te_ctle (K := K) (k := k) (a := a) b
    by_cases q : a ≤ b ∧ K b = k
    · rw [if_pos q]; omega
    · rw [if_neg q]; omega
/-- a rule list out of the steps a .. b - 1 of kind k, the first N of them -/
def te_GR (K : Nat → Nat) (k N a b c yb : Nat) (sN tN cN vN cs ct cc cv : Nat → Int32) : Prop :=
  c = min N (te_ct K k a b) ∧ ∀ j, a ≤ j → j < b → K j = k → te_ct K k a j < N →
    cs (yb + te_ct K k a j) = sN j ∧ ct (yb + te_ct K k a j) = tN j ∧ cc (yb + te_ct K k a j) = cN j ∧ cv (yb + te_ct K k a j) = vN j
theorem te_GRs {K : Nat → Nat} {k N a b c yb : Nat} {sN tN cN vN cs ct cc cv : Nat → Int32} (g : te_GR K k N a b c yb sN tN cN vN cs ct cc cv) (e : ¬ K b = k) : te_GR K k N a (b + 1) c yb sN tN cN vN cs ct cc cv := by
  refine ⟨by rw [te_ctN e]; exact g.1, fun j h1 h2 h3 h4 => ?_⟩
  by_cases q : j = b
  · subst q; exact absurd h3 e
  · exact g.2 j h1 (by omega) h3 h4
theorem te_GRf {K : Nat → Nat} {k N a b yb : Nat} {sN tN cN vN cs ct cc cv : Nat → Int32} (g : te_GR K k N a b N yb sN tN cN vN cs ct cc cv) : te_GR K k N a (b + 1) N yb sN tN cN vN cs ct cc cv := by
  have h0 := g.1
  have h1 := te_ctm (K := K) (k := k) (a := a) b 1
  refine ⟨by omega, fun j h1 h2 h3 h4 => ?_⟩
  by_cases q : j = b
  · subst q; exact absurd h4 (by omega)
  · exact g.2 j h1 (by omega) h3 h4
theorem te_GRp {K : Nat → Nat} {k N a b c yb : Nat} {sN tN cN vN cs ct cc cv : Nat → Int32} (g : te_GR K k N a b c yb sN tN cN vN cs ct cc cv) (hc : c < N) (q : a ≤ b) (e : K b = k) :
    te_GR K k N a (b + 1) (c + 1) yb sN tN cN vN (upd cs (yb + c) (sN b)) (upd ct (yb + c) (tN b)) (upd cc (yb + c) (cN b)) (upd cv (yb + c) (vN b)) := by
  have h0 := g.1
  have hcb : te_ct K k a b = c := by omega
  refine ⟨by rw [te_ctY q e]; omega, fun j h1 h2 h3 h4 => ?_⟩
  by_cases z : j = b
  · subst z
    rw [hcb, pk_us, pk_us, pk_us, pk_us]
    exact ⟨rfl, rfl, rfl, rfl⟩
  · have h5 := te_ctl h1 (show j < b by omega) h3
    have h6 : yb + te_ct K k a j ≠ yb + c := by omega
    rw [pk_un h6, pk_un h6, pk_un h6, pk_un h6]
    exact g.2 j h1 (by omega) h3 h4
theorem te_GR0 {K : Nat → Nat} {k N a yb : Nat} {sN tN cN vN cs ct cc cv : Nat → Int32} : te_GR K k N a a 0 yb sN tN cN vN cs ct cc cv := by
  refine ⟨by rw [te_ctz a (Nat.le_refl _)]; omega, fun j h1 h2 => absurd h1 (by omega)⟩
theorem te_GRm {K : Nat → Nat} {k N a b c yb yb' : Nat} {sN tN cN vN cs ct cc cv cs' ct' cc' cv' : Nat → Int32} (g : te_GR K k N a b c yb sN tN cN vN cs ct cc cv) (q : te_eq4 N yb' yb cs' ct' cc' cv' cs ct cc cv) : te_GR K k N a b c yb' sN tN cN vN cs' ct' cc' cv' := by
  refine ⟨g.1, fun j h1 h2 h3 h4 => ?_⟩
  obtain ⟨q1, q2, q3, q4⟩ := q _ h4
  rw [q1, q2, q3, q4]
  exact g.2 j h1 h2 h3 h4
/-- membership out of the steps a .. b - 1 of kind 1 -/
def te_GE (K mT mA : Nat → Nat) (a b x q : Nat) : Prop := ∃ j, a ≤ j ∧ j < b ∧ K j = 1 ∧ mT j = x ∧ mA j = q
def te_GM (K mT mA : Nat → Nat) (a b yb : Nat) (mem : Nat → Int32) : Prop := ∀ x q, x < 4 → q < 4 → (mem (yb + x * 8 + q) = 1 ↔ te_GE K mT mA a b x q)
theorem te_GEs {K mT mA : Nat → Nat} {a b x q : Nat} (e : ¬ (K b = 1 ∧ mT b = x ∧ mA b = q)) : te_GE K mT mA a (b + 1) x q ↔ te_GE K mT mA a b x q := by
  constructor
  · intro ⟨j, h1, h2, h3, h4, h5⟩
    by_cases z : j = b
    · subst z; exact absurd ⟨h3, h4, h5⟩ e
    · exact ⟨j, h1, by omega, h3, h4, h5⟩
  · intro ⟨j, h1, h2, h3, h4, h5⟩
    exact ⟨j, h1, by omega, h3, h4, h5⟩
theorem te_GE0 {K mT mA : Nat → Nat} {a x q : Nat} : ¬ te_GE K mT mA a a x q := fun ⟨j, h1, h2, _⟩ => absurd h1 (by omega)
theorem te_GMs {K mT mA : Nat → Nat} {a b yb : Nat} {mem : Nat → Int32} (g : te_GM K mT mA a b yb mem) (e : ¬ K b = 1) : te_GM K mT mA a (b + 1) yb mem :=
  fun x q hx hq => (g x q hx hq).trans (te_GEs (fun z => e z.1)).symm
theorem te_GMp {K mT mA : Nat → Nat} {a b yb : Nat} {mem mem' : Nat → Int32} (g : te_GM K mT mA a b yb mem) (hab : a ≤ b) (e : K b = 1)
    (h1 : mem' (yb + mT b * 8 + mA b) = 1) (h2 : ∀ x q, q < 4 → ¬ (mT b = x ∧ mA b = q) → mem' (yb + x * 8 + q) = mem (yb + x * 8 + q)) : te_GM K mT mA a (b + 1) yb mem' := by
  intro x q hx hq
  by_cases z : mT b = x ∧ mA b = q
  · obtain ⟨rfl, rfl⟩ := z
    exact ⟨fun _ => ⟨b, hab, by omega, e, rfl, rfl⟩, fun _ => h1⟩
  · rw [h2 x q hq z]
    exact (g x q hx hq).trans (te_GEs (fun y => z y.2)).symm
theorem te_GM0 {K mT mA : Nat → Nat} {a yb : Nat} {mem : Nat → Int32} (g : ∀ j, j < 96 → mem (yb + j) = 0) : te_GM K mT mA a a yb mem := by
  intro x q hx hq
  have e := g (x * 8 + q) (by omega)
  rw [← Nat.add_assoc] at e
  rw [e]
  exact ⟨fun z => absurd z (by decide), fun z => absurd z te_GE0⟩
theorem te_GMm {K mT mA : Nat → Nat} {a b yb yb' : Nat} {mem mem' : Nat → Int32} (g : te_GM K mT mA a b yb mem) (q : ∀ j, j < 96 → mem' (yb' + j) = mem (yb + j)) : te_GM K mT mA a b yb' mem' := by
  intro x p hx hp
  have e := q (x * 8 + p) (by omega)
  rw [← Nat.add_assoc, ← Nat.add_assoc] at e
  rw [e]
  exact g x p hx hp
/-! a policy read from another place -/
theorem te_nmM {m : Nat → Int32} {nm : Int32} {x s : Nat} : te_nm (fun j => m (96 + j)) 0 nm x s = te_nm m 1 nm x s := by
  have e : 96 + (0 * 96 + x * 8 + (nm.toNatClampNeg - 64)) = 1 * 96 + x * 8 + (nm.toNatClampNeg - 64) := by omega
  unfold te_nm
  by_cases h1 : nm = 99
  · rw [if_pos h1, if_pos h1]
  · rw [if_neg h1, if_neg h1]
    by_cases h2 : 64 ≤ nm
    · rw [if_pos h2, if_pos h2]
      apply decide_eq_decide.mpr
      dsimp only
      rw [e]
    · rw [if_neg h2, if_neg h2]
theorem te_rmM {m cs ct cc : Nat → Int32} {d k s x : Nat} {c : Int32} : te_rm (fun j => m (96 + j)) 0 (fun j => cs (d + j)) (fun j => ct (d + j)) (fun j => cc (d + j)) k s x c = te_rm m 1 cs ct cc (d + k) s x c := by
  unfold te_rm
  rw [te_nmM, te_nmM]
theorem te_vecM {m cs ct cc cv : Nat → Int32} {n s x : Nat} {c : Int32} : te_vec (fun j => m (96 + j)) 0 0 n (fun j => cs (24 + j)) (fun j => ct (24 + j)) (fun j => cc (24 + j)) (fun j => cv (24 + j)) s x c = te_vec m 1 24 n cs ct cc cv s x c := by
  unfold te_vec
  have e1 : (fun i => te_rm (fun j => m (96 + j)) 0 (fun j => cs (24 + j)) (fun j => ct (24 + j)) (fun j => cc (24 + j)) (0 + i) s x c) = (fun i => te_rm m 1 cs ct cc (24 + i) s x c) := by
    funext i
    rw [te_rmM, Nat.zero_add]
  have e2 : (fun i => (fun j => cv (24 + j)) (0 + i)) = (fun i => cv (24 + i)) := by
    funext i
    dsimp only
    rw [Nat.zero_add]
  rw [e1, e2]
