/-! bits of a membership word -/
theorem te_1b : ∀ i, i < 32 → bt 1 i = decide (i = 0) := by decide +kernel
def te_bv (x : Int32) (a : Nat) : Int32 := if bt x a = true then 1 else 0
theorem te_bv01 (x : Int32) (a : Nat) : te_bv x a = 0 ∨ te_bv x a = 1 := by
  unfold te_bv
  by_cases h : bt x a = true
  · rw [if_pos h]; exact Or.inr rfl
  · rw [if_neg h]; exact Or.inl rfl
theorem te_bit (x : Int32) {a : Nat} (ha : a < 32) : (x >>> (nI a &&& 31)) &&& 1 = te_bv x a := by
  apply b_ext
  intro i hi
  rw [b_and, te_1b i hi, b_sshr a (by omega) x hi]
  unfold te_bv
  by_cases h0 : i = 0
  · subst h0
    rw [if_pos (by omega), Nat.add_zero]
    cases hb : bt x a
    · rw [if_neg (by decide), b_0]; rfl
    · rw [if_pos rfl, te_1b 0 (by omega)]; rfl
  · rw [decide_eq_false h0, Bool.and_false]
    by_cases hb : bt x a = true
    · rw [if_pos hb, te_1b i hi, decide_eq_false h0]
    · rw [if_neg hb, b_0]
theorem te_bv0 (a : Nat) : te_bv 0 a = 0 := by
  unfold te_bv
  rw [b_0]
  exact if_neg (by decide)
theorem te_bvs (m : Int32) {a b : Nat} (ha : a < 8) (hb : b < 8) : te_bv (m ||| ((1 : Int32) <<< (nI a &&& 31))) b = if b = a then 1 else te_bv m b := by
  unfold te_bv
  rw [b_or, b_shl a (by omega) 1 (show b < 32 by omega), te_1b (b - a) (by omega)]
  by_cases e : b = a
  · subst e
    rw [if_pos rfl, if_pos (by simp)]
  · rw [if_neg e]
    have h : (decide (a ≤ b) && decide (b - a = 0)) = false := by
      by_cases h1 : a ≤ b
      · rw [decide_eq_false (show ¬ b - a = 0 by omega), Bool.and_false]
      · rw [decide_eq_false h1, Bool.false_and]
    rw [h, Bool.or_false]
/-! names -/
def te_b (b : Bool) : Int32 := if b = true then 1 else 0
def te_ty (t : Nat) (x : Int32) : Prop := ∃ j, j < t ∧ x = nI j
def te_at (x : Int32) : Prop := ∃ a, a < 8 ∧ x = nI (64 + a)
def te_tn (t : Nat) (x : Int32) : Prop := te_ty t x ∨ te_at x
def te_sn (t : Nat) (x : Int32) : Prop := te_tn t x ∨ x = 99
def te_nm (m : Nat → Int32) (w : Nat) (nm : Int32) (x s : Nat) : Bool :=
  if nm = 99 then decide (x = s) else if 64 ≤ nm then decide (m (w * 96 + x * 8 + (nm.toNatClampNeg - 64)) = 1) else decide (nm = nI x)
theorem te_nmS (m : Nat → Int32) (w x s : Nat) : te_nm m w 99 x s = decide (x = s) := if_pos rfl
theorem te_n99 {j : Nat} (h : j < 99) : ¬ nI j = 99 := by
  intro e
  have := (nI_eq (b := 99) (show j < 2 ^ 31 by omega) (by decide)).mp e
  omega
theorem te_nmA (m : Nat → Int32) (w x s : Nat) {a : Nat} (ha : a < 8) : te_nm m w (nI (64 + a)) x s = decide (m (w * 96 + x * 8 + a) = 1) := by
  unfold te_nm
  rw [if_neg (te_n99 (by omega)), if_pos (show (64 : Int32) ≤ nI (64 + a) from nI_le (a := 64) (by omega) (by omega)), nI_clamp (show 64 + a < 2 ^ 31 by omega), Nat.add_sub_cancel_left]
theorem te_nmT (m : Nat → Int32) (w x s : Nat) {j : Nat} (hj : j < 64) (hx : x < 64) : te_nm m w (nI j) x s = decide (j = x) := by
  unfold te_nm
  rw [if_neg (te_n99 (by omega)), if_neg (show ¬ (64 : Int32) ≤ nI j from nI_ge (b := 64) hj (by decide))]
  exact decide_eq_decide.mpr (nI_eq (by omega) (by omega))
def te_rm (m : Nat → Int32) (w : Nat) (cs ct cc : Nat → Int32) (k s x : Nat) (c : Int32) : Bool :=
  decide (cc k = c) && (te_nm m w (cs k) s s && te_nm m w (ct k) x s)
def te_or (M : Nat → Bool) (V : Nat → Int32) : Nat → Int32
  | 0 => 0
  | n + 1 => if M n = true then te_or M V n ||| V n else te_or M V n
def te_fst (M : Nat → Bool) (V : Nat → Int32) : Nat → Nat → Int32
  | 0, _ => -5
  | n + 1, i => if M i = true then V i else te_fst M V n (i + 1)
theorem te_fstQ {M : Nat → Bool} {V : Nat → Int32} {Q : Int32 → Prop} : ∀ (n i : Nat), (∀ j, j < i + n → Q (V j)) → te_fst M V n i = -5 ∨ Q (te_fst M V n i)
  | 0, _, _ => Or.inl rfl
  | n + 1, i, h => by
    unfold te_fst
    by_cases c : M i = true
    · rw [if_pos c]; exact Or.inr (h i (by omega))
    · rw [if_neg c]; exact te_fstQ n (i + 1) (fun j hj => h j (by omega))
def te_vec (m : Nat → Int32) (w yb n : Nat) (cs ct cc cv : Nat → Int32) (s x : Nat) (c : Int32) : Int32 :=
  te_or (fun i => te_rm m w cs ct cc (yb + i) s x c) (fun i => cv (yb + i)) n
def te_tr (m : Nat → Int32) (w yb n : Nat) (cs ct cc cv : Nat → Int32) (s x : Nat) (c : Int32) : Int32 :=
  te_fst (fun i => te_rm m w cs ct cc (yb + i) s x c) (fun i => cv (yb + i)) n 0
/-! one rule list on both sides, from place xb of the class's arrays and yb of the reference's -/
def te_lst (Q : Int32 → Prop) (t c xb yb : Nat) (rs rt rl rv cs ct cc cv : Nat → Int32) : Prop :=
  ∀ i, i < c → (rs (xb + i) = cs (yb + i) ∧ rt (xb + i) = ct (yb + i) ∧ rl (xb + i) = cc (yb + i) ∧ rv (xb + i) = cv (yb + i)) ∧ te_tn t (cs (yb + i)) ∧ te_sn t (ct (yb + i)) ∧ Q (cv (yb + i))
def te_eq4 (c xb' xb : Nat) (rs' rt' rl' rv' rs rt rl rv : Nat → Int32) : Prop :=
  ∀ i, i < c → rs' (xb' + i) = rs (xb + i) ∧ rt' (xb' + i) = rt (xb + i) ∧ rl' (xb' + i) = rl (xb + i) ∧ rv' (xb' + i) = rv (xb + i)
theorem te_eq4r {c xb : Nat} {rs rt rl rv : Nat → Int32} : te_eq4 c xb xb rs rt rl rv rs rt rl rv := fun _ _ => ⟨rfl, rfl, rfl, rfl⟩
theorem te_eq4u {c xb k : Nat} {rs rt rl rv : Nat → Int32} {a b d e : Int32} (h : ∀ i, i < c → xb + i ≠ k) : te_eq4 c xb xb (upd rs k a) (upd rt k b) (upd rl k d) (upd rv k e) rs rt rl rv :=
  fun i hi => ⟨pk_un (h i hi), pk_un (h i hi), pk_un (h i hi), pk_un (h i hi)⟩
theorem te_lst0 {Q : Int32 → Prop} {t xb yb : Nat} {rs rt rl rv cs ct cc cv : Nat → Int32} : te_lst Q t 0 xb yb rs rt rl rv cs ct cc cv := fun _ hi => absurd hi (Nat.not_lt_zero _)
theorem te_lstM {Q : Int32 → Prop} {t c xb yb xb' yb' : Nat} {rs rt rl rv cs ct cc cv rs' rt' rl' rv' cs' ct' cc' cv' : Nat → Int32}
    (h : te_lst Q t c xb yb rs rt rl rv cs ct cc cv) (e : te_eq4 c xb' xb rs' rt' rl' rv' rs rt rl rv) (f : te_eq4 c yb' yb cs' ct' cc' cv' cs ct cc cv) :
    te_lst Q t c xb' yb' rs' rt' rl' rv' cs' ct' cc' cv' := by
  intro i hi
  obtain ⟨⟨h1, h2, h3, h4⟩, h5, h6, h7⟩ := h i hi
  obtain ⟨e1, e2, e3, e4⟩ := e i hi
  obtain ⟨f1, f2, f3, f4⟩ := f i hi
  rw [e1, e2, e3, e4, f1, f2, f3, f4]
  exact ⟨⟨h1, h2, h3, h4⟩, h5, h6, h7⟩
theorem te_lstP {Q : Int32 → Prop} {t c xb yb : Nat} {rs rt rl rv cs ct cc cv : Nat → Int32} {a b d e : Int32}
    (h : te_lst Q t c xb yb rs rt rl rv cs ct cc cv) (ha : te_tn t a) (hb : te_sn t b) (he : Q e) :
    te_lst Q t (c + 1) xb yb (upd rs (xb + c) a) (upd rt (xb + c) b) (upd rl (xb + c) d) (upd rv (xb + c) e) (upd cs (yb + c) a) (upd ct (yb + c) b) (upd cc (yb + c) d) (upd cv (yb + c) e) := by
  intro i hi
  by_cases q : i = c
  · subst q
    rw [pk_us, pk_us, pk_us, pk_us, pk_us, pk_us, pk_us, pk_us]
    exact ⟨⟨rfl, rfl, rfl, rfl⟩, ha, hb, he⟩
  · have h1 : xb + i ≠ xb + c := by omega
    have h2 : yb + i ≠ yb + c := by omega
    rw [pk_un h1, pk_un h1, pk_un h1, pk_un h1, pk_un h2, pk_un h2, pk_un h2, pk_un h2]
    exact h i (by omega)
/-! one policy on both sides -/
def te_P (t w ca cn cx : Nat) (mb rc rs rt rl rv mem aS aT aC aP aN ns nt nc nv nN xs xt xc xv xN : Nat → Int32) : Prop :=
  (∀ x a, x < 12 → a < 8 → mem (w * 96 + x * 8 + a) = te_bv (mb (w * 12 + x)) a) ∧
  (ca ≤ 24 ∧ cn ≤ 6 ∧ cx ≤ 12) ∧
  (rc (w * 3) = nI ca ∧ rc (w * 3 + 1) = nI cn ∧ rc (w * 3 + 2) = nI cx) ∧
  (aN w = nI ca ∧ nN w = nI cn ∧ xN w = nI cx) ∧
  te_lst (fun _ => True) t ca (w * 72) (w * 24) rs rt rl rv aS aT aC aP ∧
  te_lst (fun _ => True) t cn (w * 72 + 24) (w * 6) rs rt rl rv ns nt nc nv ∧
  te_lst (te_ty t) t cx (w * 72 + 48) (w * 12) rs rt rl rv xs xt xc xv
theorem te_PM {t w w' ca cn cx : Nat} {mb rc rs rt rl rv mem aS aT aC aP aN ns nt nc nv nN xs xt xc xv xN mb' rc' rs' rt' rl' rv' mem' aS' aT' aC' aP' aN' ns' nt' nc' nv' nN' xs' xt' xc' xv' xN' : Nat → Int32}
    (h : te_P t w ca cn cx mb rc rs rt rl rv mem aS aT aC aP aN ns nt nc nv nN xs xt xc xv xN)
    (hm : ∀ x, x < 12 → mb' (w' * 12 + x) = mb (w * 12 + x))
    (hM : ∀ j, j < 96 → mem' (w' * 96 + j) = mem (w * 96 + j))
    (hr : rc' (w' * 3) = rc (w * 3) ∧ rc' (w' * 3 + 1) = rc (w * 3 + 1) ∧ rc' (w' * 3 + 2) = rc (w * 3 + 2))
    (hN : aN' w' = aN w ∧ nN' w' = nN w ∧ xN' w' = xN w)
    (e1 : te_eq4 ca (w' * 72) (w * 72) rs' rt' rl' rv' rs rt rl rv)
    (e2 : te_eq4 cn (w' * 72 + 24) (w * 72 + 24) rs' rt' rl' rv' rs rt rl rv)
    (e3 : te_eq4 cx (w' * 72 + 48) (w * 72 + 48) rs' rt' rl' rv' rs rt rl rv)
    (f1 : te_eq4 ca (w' * 24) (w * 24) aS' aT' aC' aP' aS aT aC aP)
    (f2 : te_eq4 cn (w' * 6) (w * 6) ns' nt' nc' nv' ns nt nc nv)
    (f3 : te_eq4 cx (w' * 12) (w * 12) xs' xt' xc' xv' xs xt xc xv) :
    te_P t w' ca cn cx mb' rc' rs' rt' rl' rv' mem' aS' aT' aC' aP' aN' ns' nt' nc' nv' nN' xs' xt' xc' xv' xN' := by
  obtain ⟨h1, h2, ⟨h3, h4, h5⟩, ⟨h6, h7, h8⟩, h9, h10, h11⟩ := h
  obtain ⟨r1, r2, r3⟩ := hr
  obtain ⟨n1, n2, n3⟩ := hN
  refine ⟨fun x a hx ha => ?_, h2, ⟨r1.trans h3, r2.trans h4, r3.trans h5⟩, ⟨n1.trans h6, n2.trans h7, n3.trans h8⟩, te_lstM h9 e1 f1, te_lstM h10 e2 f2, te_lstM h11 e3 f3⟩
  have e := hM (x * 8 + a) (by omega)
  rw [hm x hx, Nat.add_assoc, e, ← Nat.add_assoc]
  exact h1 x a hx ha
/-! processes and objects -/
def te_O (t np no : Nat) (pd ot ol : Nat → Int32) : Prop :=
  (np ≤ 8 ∧ no ≤ 16) ∧ (∀ i, i < np → te_ty t (pd i)) ∧ (∀ i, i < no → te_ty t (ot i) ∧ te_ty 4 (ol i))
theorem te_Opd {t np no : Nat} {pd ot ol : Nat → Int32} {p : Nat} {v : Int32} (h : te_O t np no pd ot ol) (hv : te_ty t v) : te_O t np no (upd pd p v) ot ol := by
  obtain ⟨h1, h2, h3⟩ := h
  refine ⟨h1, fun i hi => ?_, h3⟩
  by_cases q : i = p
  · subst q; rw [pk_us]; exact hv
  · rw [pk_un q]; exact h2 i hi
theorem te_Opn {t np no : Nat} {pd ot ol : Nat → Int32} {v : Int32} (h : te_O t np no pd ot ol) (hn : np < 8) (hv : te_ty t v) : te_O t (np + 1) no (upd pd np v) ot ol := by
  obtain ⟨⟨h0, h1⟩, h2, h3⟩ := h
  refine ⟨⟨hn, h1⟩, fun i hi => ?_, h3⟩
  by_cases q : i = np
  · subst q; rw [pk_us]; exact hv
  · rw [pk_un q]; exact h2 i (by omega)
theorem te_Oon {t np no : Nat} {pd ot ol : Nat → Int32} {v c : Int32} (h : te_O t np no pd ot ol) (hn : no < 16) (hv : te_ty t v) (hc : te_ty 4 c) : te_O t np (no + 1) pd (upd ot no v) (upd ol no c) := by
  obtain ⟨⟨h0, h1⟩, h2, h3⟩ := h
  refine ⟨⟨h0, hn⟩, h2, fun i hi => ?_⟩
  by_cases q : i = no
  · subst q; rw [pk_us, pk_us]; exact ⟨hv, hc⟩
  · rw [pk_un q, pk_un q]; exact h3 i (by omega)
/-! a shift down by one place -/
def te_sh (a : Nat → Int32) (i : Nat) : Nat → Int32 := fun j => if j < i then a (j + 1) else a j
theorem te_sh0 (a : Nat → Int32) : te_sh a 0 = a := funext fun j => if_neg (Nat.not_lt_zero j)
theorem te_shR (a : Nat → Int32) (i : Nat) : te_sh a i (i + 1) = a (i + 1) := if_neg (by omega)
theorem te_shS (a : Nat → Int32) (i : Nat) : upd (te_sh a i) i (a (i + 1)) = te_sh a (i + 1) := by
  funext j
  unfold upd te_sh
  by_cases h : j = i
  · subst h; rw [if_pos rfl, if_pos (by omega)]
  · rw [if_neg h]
    by_cases h2 : j < i
    · rw [if_pos h2, if_pos (by omega)]
    · rw [if_neg h2, if_neg (by omega)]
