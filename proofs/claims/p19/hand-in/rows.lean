section
def bt (x : Int32) (i : Nat) : Bool := x.toBitVec.getLsbD i
theorem b_ext {x y : Int32} (h : ∀ i, i < 32 → bt x i = bt y i) : x = y := Int32.toBitVec_inj.mp (BitVec.eq_of_getLsbD_eq (fun i hi => h i hi))
theorem b_or (x y : Int32) (i : Nat) : bt (x ||| y) i = (bt x i || bt y i) := by unfold bt; rw [Int32.toBitVec_or, BitVec.getLsbD_or]
theorem b_and (x y : Int32) (i : Nat) : bt (x &&& y) i = (bt x i && bt y i) := by unfold bt; rw [Int32.toBitVec_and, BitVec.getLsbD_and]
theorem b_big {x : Int32} {i : Nat} (h : 32 ≤ i) : bt x i = false := BitVec.getLsbD_of_ge _ _ h
theorem b_0 (i : Nat) : bt 0 i = false := BitVec.getLsbD_zero
theorem s_l : ∀ n, n < 32 → ((nI n &&& 31).toBitVec.smod 32).toNat = n := by decide +kernel
theorem b_shl (n : Nat) (hn : n < 32) (x : Int32) {i : Nat} (hi : i < 32) : bt (x <<< (nI n &&& 31)) i = (decide (n ≤ i) && bt x (i - n)) := by
  unfold bt
  rw [Int32.toBitVec_shiftLeft]
  show (x.toBitVec <<< ((nI n &&& 31).toBitVec.smod 32).toNat).getLsbD i = _
  rw [s_l n hn, BitVec.getLsbD_shiftLeft]
  rcases Nat.lt_or_ge i n with h | h
  · simp [h, Nat.not_le.mpr h]
  · simp [hi, h, Nat.not_lt.mpr h]
theorem b_sshr (n : Nat) (hn : n < 32) (x : Int32) {i : Nat} (hi : i < 32) : bt (x >>> (nI n &&& 31)) i = if n + i < 32 then bt x (n + i) else bt x 31 := by
  unfold bt
  rw [Int32.toBitVec_shiftRight]
  show (x.toBitVec.sshiftRight ((nI n &&& 31).toBitVec.smod 32).toNat).getLsbD i = _
  rw [s_l n hn, BitVec.getLsbD_sshiftRight, BitVec.msb_eq_getLsbD_last]
  simp [hi]
end
section
/-! bits of a membership word -/
theorem te_1b : ∀ i, i < 32 → bt 1 i = decide (i = 0) := by decide +kernel
def te_bv (x : Int32) (a : Nat) : Int32 := if bt x a = true then 1 else 0
theorem te_bv01 (x : Int32) (a : Nat) : te_bv x a = 0 ∨ te_bv x a = 1 := by
  unfold te_bv
  by_cases h : bt x a = true
  · rw [if_pos h]; exact Or.inr rfl
  · rw [if_neg h]; exact Or.inl rfl
theorem te_bit (x : Int32) {a : Nat} (ha : a < 32) : (x >>> (nI a &&& 31)) &&& 1 = te_bv x a := by
  apply b_ext
  intro i hi
  rw [b_and, te_1b i hi, b_sshr a (by omega) x hi]
  unfold te_bv
  by_cases h0 : i = 0
  · subst h0
    rw [if_pos (by omega), Nat.add_zero]
    cases hb : bt x a
    · rw [if_neg (by decide), b_0]; rfl
    · rw [if_pos rfl, te_1b 0 (by omega)]; rfl
  · rw [decide_eq_false h0, Bool.and_false]
    by_cases hb : bt x a = true
    · rw [if_pos hb, te_1b i hi, decide_eq_false h0]
    · rw [if_neg hb, b_0]
theorem te_bv0 (a : Nat) : te_bv 0 a = 0 := by
  unfold te_bv
  rw [b_0]
  exact if_neg (by decide)
theorem te_bvs (m : Int32) {a b : Nat} (ha : a < 8) (hb : b < 8) : te_bv (m ||| ((1 : Int32) <<< (nI a &&& 31))) b = if b = a then 1 else te_bv m b := by
  unfold te_bv
  rw [b_or, b_shl a (by omega) 1 (show b < 32 by omega), te_1b (b - a) (by omega)]
  by_cases e : b = a
  · subst e
    rw [if_pos rfl, if_pos (by simp)]
  · rw [if_neg e]
    have h : (decide (a ≤ b) && decide (b - a = 0)) = false := by
      by_cases h1 : a ≤ b
      · rw [decide_eq_false (show ¬ b - a = 0 by omega), Bool.and_false]
      · rw [decide_eq_false h1, Bool.false_and]
    rw [h, Bool.or_false]
/-! names -/
def te_b (b : Bool) : Int32 := if b = true then 1 else 0
def te_ty (t : Nat) (x : Int32) : Prop := ∃ j, j < t ∧ x = nI j
def te_at (x : Int32) : Prop := ∃ a, a < 8 ∧ x = nI (64 + a)
def te_tn (t : Nat) (x : Int32) : Prop := te_ty t x ∨ te_at x
def te_sn (t : Nat) (x : Int32) : Prop := te_tn t x ∨ x = 99
def te_nm (m : Nat → Int32) (w : Nat) (nm : Int32) (x s : Nat) : Bool :=
  if nm = 99 then decide (x = s) else if 64 ≤ nm then decide (m (w * 96 + x * 8 + (nm.toNatClampNeg - 64)) = 1) else decide (nm = nI x)
theorem te_nmS (m : Nat → Int32) (w x s : Nat) : te_nm m w 99 x s = decide (x = s) := if_pos rfl
theorem te_n99 {j : Nat} (h : j < 99) : ¬ nI j = 99 := by
  intro e
  have := (nI_eq (b := 99) (show j < 2 ^ 31 by omega) (by decide)).mp e
  omega
theorem te_nmA (m : Nat → Int32) (w x s : Nat) {a : Nat} (ha : a < 8) : te_nm m w (nI (64 + a)) x s = decide (m (w * 96 + x * 8 + a) = 1) := by
  unfold te_nm
  rw [if_neg (te_n99 (by omega)), if_pos (show (64 : Int32) ≤ nI (64 + a) from nI_le (a := 64) (by omega) (by omega)), nI_clamp (show 64 + a < 2 ^ 31 by omega), Nat.add_sub_cancel_left]
theorem te_nmT (m : Nat → Int32) (w x s : Nat) {j : Nat} (hj : j < 64) (hx : x < 64) : te_nm m w (nI j) x s = decide (j = x) := by
  unfold te_nm
  rw [if_neg (te_n99 (by omega)), if_neg (show ¬ (64 : Int32) ≤ nI j from nI_ge (b := 64) hj (by decide))]
  exact decide_eq_decide.mpr (nI_eq (by omega) (by omega))
def te_rm (m : Nat → Int32) (w : Nat) (cs ct cc : Nat → Int32) (k s x : Nat) (c : Int32) : Bool :=
  decide (cc k = c) && (te_nm m w (cs k) s s && te_nm m w (ct k) x s)
def te_or (M : Nat → Bool) (V : Nat → Int32) : Nat → Int32
  | 0 => 0
  | n + 1 => if M n = true then te_or M V n ||| V n else te_or M V n
def te_fst (M : Nat → Bool) (V : Nat → Int32) : Nat → Nat → Int32
  | 0, _ => -5
  | n + 1, i => if M i = true then V i else te_fst M V n (i + 1)
theorem te_fstQ {M : Nat → Bool} {V : Nat → Int32} {Q : Int32 → Prop} : ∀ (n i : Nat), (∀ j, j < i + n → Q (V j)) → te_fst M V n i = -5 ∨ Q (te_fst M V n i)
  | 0, _, _ => Or.inl rfl
  | n + 1, i, h => by
    unfold te_fst
    by_cases c : M i = true
    · rw [if_pos c]; exact Or.inr (h i (by omega))
    · rw [if_neg c]; exact te_fstQ n (i + 1) (fun j hj => h j (by omega))
def te_vec (m : Nat → Int32) (w yb n : Nat) (cs ct cc cv : Nat → Int32) (s x : Nat) (c : Int32) : Int32 :=
  te_or (fun i => te_rm m w cs ct cc (yb + i) s x c) (fun i => cv (yb + i)) n
def te_tr (m : Nat → Int32) (w yb n : Nat) (cs ct cc cv : Nat → Int32) (s x : Nat) (c : Int32) : Int32 :=
  te_fst (fun i => te_rm m w cs ct cc (yb + i) s x c) (fun i => cv (yb + i)) n 0
/-! one rule list on both sides, from place xb of the class's arrays and yb of the reference's -/
def te_lst (Q : Int32 → Prop) (t c xb yb : Nat) (rs rt rl rv cs ct cc cv : Nat → Int32) : Prop :=
  ∀ i, i < c → (rs (xb + i) = cs (yb + i) ∧ rt (xb + i) = ct (yb + i) ∧ rl (xb + i) = cc (yb + i) ∧ rv (xb + i) = cv (yb + i)) ∧ te_tn t (cs (yb + i)) ∧ te_sn t (ct (yb + i)) ∧ Q (cv (yb + i))
def te_eq4 (c xb' xb : Nat) (rs' rt' rl' rv' rs rt rl rv : Nat → Int32) : Prop :=
  ∀ i, i < c → rs' (xb' + i) = rs (xb + i) ∧ rt' (xb' + i) = rt (xb + i) ∧ rl' (xb' + i) = rl (xb + i) ∧ rv' (xb' + i) = rv (xb + i)
theorem te_eq4r {c xb : Nat} {rs rt rl rv : Nat → Int32} : te_eq4 c xb xb rs rt rl rv rs rt rl rv := fun _ _ => ⟨rfl, rfl, rfl, rfl⟩
theorem te_eq4u {c xb k : Nat} {rs rt rl rv : Nat → Int32} {a b d e : Int32} (h : ∀ i, i < c → xb + i ≠ k) : te_eq4 c xb xb (upd rs k a) (upd rt k b) (upd rl k d) (upd rv k e) rs rt rl rv :=
  fun i hi => ⟨pk_un (h i hi), pk_un (h i hi), pk_un (h i hi), pk_un (h i hi)⟩
theorem te_lst0 {Q : Int32 → Prop} {t xb yb : Nat} {rs rt rl rv cs ct cc cv : Nat → Int32} : te_lst Q t 0 xb yb rs rt rl rv cs ct cc cv := fun _ hi => absurd hi (Nat.not_lt_zero _)
theorem te_lstM {Q : Int32 → Prop} {t c xb yb xb' yb' : Nat} {rs rt rl rv cs ct cc cv rs' rt' rl' rv' cs' ct' cc' cv' : Nat → Int32}
    (h : te_lst Q t c xb yb rs rt rl rv cs ct cc cv) (e : te_eq4 c xb' xb rs' rt' rl' rv' rs rt rl rv) (f : te_eq4 c yb' yb cs' ct' cc' cv' cs ct cc cv) :
    te_lst Q t c xb' yb' rs' rt' rl' rv' cs' ct' cc' cv' := by
  intro i hi
  obtain ⟨⟨h1, h2, h3, h4⟩, h5, h6, h7⟩ := h i hi
  obtain ⟨e1, e2, e3, e4⟩ := e i hi
  obtain ⟨f1, f2, f3, f4⟩ := f i hi
  rw [e1, e2, e3, e4, f1, f2, f3, f4]
  exact ⟨⟨h1, h2, h3, h4⟩, h5, h6, h7⟩
theorem te_lstP {Q : Int32 → Prop} {t c xb yb : Nat} {rs rt rl rv cs ct cc cv : Nat → Int32} {a b d e : Int32}
    (h : te_lst Q t c xb yb rs rt rl rv cs ct cc cv) (ha : te_tn t a) (hb : te_sn t b) (he : Q e) :
    te_lst Q t (c + 1) xb yb (upd rs (xb + c) a) (upd rt (xb + c) b) (upd rl (xb + c) d) (upd rv (xb + c) e) (upd cs (yb + c) a) (upd ct (yb + c) b) (upd cc (yb + c) d) (upd cv (yb + c) e) := by
  intro i hi
  by_cases q : i = c
  · subst q
    rw [pk_us, pk_us, pk_us, pk_us, pk_us, pk_us, pk_us, pk_us]
    exact ⟨⟨rfl, rfl, rfl, rfl⟩, ha, hb, he⟩
  · have h1 : xb + i ≠ xb + c := by omega
    have h2 : yb + i ≠ yb + c := by omega
    rw [pk_un h1, pk_un h1, pk_un h1, pk_un h1, pk_un h2, pk_un h2, pk_un h2, pk_un h2]
    exact h i (by omega)
/-! one policy on both sides -/
def te_P (t w ca cn cx : Nat) (mb rc rs rt rl rv mem aS aT aC aP aN ns nt nc nv nN xs xt xc xv xN : Nat → Int32) : Prop :=
  (∀ x a, x < 12 → a < 8 → mem (w * 96 + x * 8 + a) = te_bv (mb (w * 12 + x)) a) ∧
  (ca ≤ 24 ∧ cn ≤ 6 ∧ cx ≤ 12) ∧
  (rc (w * 3) = nI ca ∧ rc (w * 3 + 1) = nI cn ∧ rc (w * 3 + 2) = nI cx) ∧
  (aN w = nI ca ∧ nN w = nI cn ∧ xN w = nI cx) ∧
  te_lst (fun _ => True) t ca (w * 72) (w * 24) rs rt rl rv aS aT aC aP ∧
  te_lst (fun _ => True) t cn (w * 72 + 24) (w * 6) rs rt rl rv ns nt nc nv ∧
  te_lst (te_ty t) t cx (w * 72 + 48) (w * 12) rs rt rl rv xs xt xc xv
theorem te_PM {t w w' ca cn cx : Nat} {mb rc rs rt rl rv mem aS aT aC aP aN ns nt nc nv nN xs xt xc xv xN mb' rc' rs' rt' rl' rv' mem' aS' aT' aC' aP' aN' ns' nt' nc' nv' nN' xs' xt' xc' xv' xN' : Nat → Int32}
    (h : te_P t w ca cn cx mb rc rs rt rl rv mem aS aT aC aP aN ns nt nc nv nN xs xt xc xv xN)
    (hm : ∀ x, x < 12 → mb' (w' * 12 + x) = mb (w * 12 + x))
    (hM : ∀ j, j < 96 → mem' (w' * 96 + j) = mem (w * 96 + j))
    (hr : rc' (w' * 3) = rc (w * 3) ∧ rc' (w' * 3 + 1) = rc (w * 3 + 1) ∧ rc' (w' * 3 + 2) = rc (w * 3 + 2))
    (hN : aN' w' = aN w ∧ nN' w' = nN w ∧ xN' w' = xN w)
    (e1 : te_eq4 ca (w' * 72) (w * 72) rs' rt' rl' rv' rs rt rl rv)
    (e2 : te_eq4 cn (w' * 72 + 24) (w * 72 + 24) rs' rt' rl' rv' rs rt rl rv)
    (e3 : te_eq4 cx (w' * 72 + 48) (w * 72 + 48) rs' rt' rl' rv' rs rt rl rv)
    (f1 : te_eq4 ca (w' * 24) (w * 24) aS' aT' aC' aP' aS aT aC aP)
    (f2 : te_eq4 cn (w' * 6) (w * 6) ns' nt' nc' nv' ns nt nc nv)
    (f3 : te_eq4 cx (w' * 12) (w * 12) xs' xt' xc' xv' xs xt xc xv) :
    te_P t w' ca cn cx mb' rc' rs' rt' rl' rv' mem' aS' aT' aC' aP' aN' ns' nt' nc' nv' nN' xs' xt' xc' xv' xN' := by
  obtain ⟨h1, h2, ⟨h3, h4, h5⟩, ⟨h6, h7, h8⟩, h9, h10, h11⟩ := h
  obtain ⟨r1, r2, r3⟩ := hr
  obtain ⟨n1, n2, n3⟩ := hN
  refine ⟨fun x a hx ha => ?_, h2, ⟨r1.trans h3, r2.trans h4, r3.trans h5⟩, ⟨n1.trans h6, n2.trans h7, n3.trans h8⟩, te_lstM h9 e1 f1, te_lstM h10 e2 f2, te_lstM h11 e3 f3⟩
  have e := hM (x * 8 + a) (by omega)
  rw [hm x hx, Nat.add_assoc, e, ← Nat.add_assoc]
  exact h1 x a hx ha
/-! processes and objects -/
def te_O (t np no : Nat) (pd ot ol : Nat → Int32) : Prop :=
  (np ≤ 8 ∧ no ≤ 16) ∧ (∀ i, i < np → te_ty t (pd i)) ∧ (∀ i, i < no → te_ty t (ot i) ∧ te_ty 4 (ol i))
theorem te_Opd {t np no : Nat} {pd ot ol : Nat → Int32} {p : Nat} {v : Int32} (h : te_O t np no pd ot ol) (hv : te_ty t v) : te_O t np no (upd pd p v) ot ol := by
  obtain ⟨h1, h2, h3⟩ := h
  refine ⟨h1, fun i hi => ?_, h3⟩
  by_cases q : i = p
  · subst q; rw [pk_us]; exact hv
  · rw [pk_un q]; exact h2 i hi
theorem te_Opn {t np no : Nat} {pd ot ol : Nat → Int32} {v : Int32} (h : te_O t np no pd ot ol) (hn : np < 8) (hv : te_ty t v) : te_O t (np + 1) no (upd pd np v) ot ol := by
  obtain ⟨⟨h0, h1⟩, h2, h3⟩ := h
  refine ⟨⟨hn, h1⟩, fun i hi => ?_, h3⟩
  by_cases q : i = np
  · subst q; rw [pk_us]; exact hv
  · rw [pk_un q]; exact h2 i (by omega)
theorem te_Oon {t np no : Nat} {pd ot ol : Nat → Int32} {v c : Int32} (h : te_O t np no pd ot ol) (hn : no < 16) (hv : te_ty t v) (hc : te_ty 4 c) : te_O t np (no + 1) pd (upd ot no v) (upd ol no c) := by
  obtain ⟨⟨h0, h1⟩, h2, h3⟩ := h
  refine ⟨⟨h0, hn⟩, h2, fun i hi => ?_⟩
  by_cases q : i = no
  · subst q; rw [pk_us, pk_us]; exact ⟨hv, hc⟩
  · rw [pk_un q, pk_un q]; exact h3 i (by omega)
/-! a shift down by one place -/
def te_sh (a : Nat → Int32) (i : Nat) : Nat → Int32 := fun j => if j < i then a (j + 1) else a j
theorem te_sh0 (a : Nat → Int32) : te_sh a 0 = a := funext fun j => if_neg (Nat.not_lt_zero j)
theorem te_shR (a : Nat → Int32) (i : Nat) : te_sh a i (i + 1) = a (i + 1) := if_neg (by omega)
theorem te_shS (a : Nat → Int32) (i : Nat) : upd (te_sh a i) i (a (i + 1)) = te_sh a (i + 1) := by
  funext j
  unfold upd te_sh
  by_cases h : j = i
  · subst h; rw [if_pos rfl, if_pos (by omega)]
  · rw [if_neg h]
    by_cases h2 : j < i
    · rw [if_pos h2, if_pos (by omega)]
    · rw [if_neg h2, if_neg (by omega)]
end
section
/-! arguments: negative, or a natural -/
theorem te_neg (v : Int32) : v < 0 ∨ ∃ j : Nat, j < 2 ^ 31 ∧ v = nI j := by
  by_cases h : v < 0
  · exact Or.inl h
  · exact Or.inr (nI_of h)
theorem te_z : (0 : Int32).toInt = 0 := by decide
theorem te_nle {v : Int32} {a : Nat} (h : v < 0) (ha : a < 2 ^ 31) : ¬ nI a ≤ v := by
  intro q
  rw [Int32.lt_iff_toInt_lt, te_z] at h
  rw [Int32.le_iff_toInt_le, nI_toInt ha] at q
  omega
theorem te_lt {v : Int32} {a : Nat} (h : v < 0) (ha : a < 2 ^ 31) : v < nI a := by
  rw [Int32.lt_iff_toInt_lt, te_z] at h
  rw [Int32.lt_iff_toInt_lt, nI_toInt ha]
  omega
theorem te_le {v : Int32} {a : Nat} (h : v < 0) (ha : a < 2 ^ 31) : v ≤ nI a := by
  rw [Int32.lt_iff_toInt_lt, te_z] at h
  rw [Int32.le_iff_toInt_le, nI_toInt ha]
  omega
theorem te_ne {v : Int32} {a : Nat} (h : v < 0) (ha : a < 2 ^ 31) : ¬ v = nI a := by
  intro e
  subst e
  exact nI_pos ha h
theorem te_tyN {n : Nat} {v : Int32} (h : v < 0) (hn : n < 2 ^ 31) : ¬ te_ty n v := by
  intro ⟨j, hj, e⟩
  exact te_ne h (show j < 2 ^ 31 by omega) e
theorem te_tyI {n j : Nat} (hj : j < 2 ^ 31) (hn : n < 2 ^ 31) (h : n ≤ j) : ¬ te_ty n (nI j) := by
  intro ⟨i, hi, e⟩
  have := (nI_eq hj (by omega)).mp e
  omega
theorem te_atN {v : Int32} (h : v < 0) : ¬ te_at v := by
  intro ⟨j, hj, e⟩
  exact te_ne h (show 64 + j < 2 ^ 31 by omega) e
theorem te_atI {j : Nat} (hj : j < 2 ^ 31) (h : j < 64 ∨ 72 ≤ j) : ¬ te_at (nI j) := by
  intro ⟨i, hi, e⟩
  have := (nI_eq hj (show 64 + i < 2 ^ 31 by omega)).mp e
  omega
/-- v within 0 .. m -/
theorem te_rt {m : Nat} {v : Int32} (hm : m < 2 ^ 30) (h : te_ty (m + 1) v) : ¬ v < 0 ∧ v ≤ nI m := by
  obtain ⟨j, hj, rfl⟩ := h
  exact ⟨nI_pos (by omega), nI_le (by omega) (by omega)⟩
theorem te_rf {m : Nat} {v : Int32} (hm : m < 2 ^ 30) (h : ¬ te_ty (m + 1) v) (h0 : ¬ v < 0) : ¬ v ≤ nI m := by
  obtain ⟨j, hj, rfl⟩ := nI_of h0
  intro q
  have := (nI_leI hj (by omega)).mp q
  exact h ⟨j, by omega, rfl⟩
/-- perms: 1 .. 255 -/
def te_pm (v : Int32) : Prop := ∃ j, 1 ≤ j ∧ j ≤ 255 ∧ v = nI j
theorem te_pmN {v : Int32} (h : v < 0) : ¬ te_pm v := by
  intro ⟨j, _, hj, e⟩
  exact te_ne h (show j < 2 ^ 31 by omega) e
theorem te_pmI {j : Nat} (hj : j < 2 ^ 31) (h : j < 1 ∨ 255 < j) : ¬ te_pm (nI j) := by
  intro ⟨i, h1, h2, e⟩
  have := (nI_eq hj (show i < 2 ^ 31 by omega)).mp e
  omega
theorem te_pmt {v : Int32} (h : te_pm v) : ¬ v < 1 ∧ v ≤ 255 := by
  obtain ⟨j, h1, h2, rfl⟩ := h
  exact ⟨nI_nlt (b := 1) h1 (by omega), nI_le (b := 255) h2 (by decide)⟩
theorem te_pmf {v : Int32} (h : ¬ te_pm v) (h1 : ¬ v < 1) : ¬ v ≤ 255 := by
  intro q
  rcases te_neg v with n | ⟨j, hj, rfl⟩
  · exact h1 (te_lt (a := 1) n (by decide))
  · have a := (nI_leI (b := 255) hj (by decide)).mp q
    have b : 1 ≤ j := by
      rcases Nat.lt_or_ge j 1 with z | z
      · exact absurd (nI_lt (b := 1) z (by decide)) h1
      · exact z
    exact h ⟨j, b, a, rfl⟩
theorem te_vb0 : vp_nar .boolean 0 = 0 := rfl
theorem te_vb1 : vp_nar .boolean 1 = 1 := rfl
theorem te_vb {z : Int32} (h : z = 0 ∨ z = 1) : vp_nar .boolean z = z := by rcases h with rfl | rfl <;> rfl
theorem te_nb {z : Int32} (h : z = 0 ∨ z = 1) : narrow .boolean (.int z) = .int z := by rcases h with rfl | rfl <;> rfl
theorem te_nbb (b : Bool) : narrow .boolean (.int (te_b b)) = .int (te_b b) := by cases b <;> rfl
/-- places -/
theorem te_ml (w k x : Nat) {K : Int32} (hK : K = nI k) : nI w * K + nI x = nI (w * k + x) := by rw [hK, pk_mul, nI_add]
theorem te_dv {s x t : Nat} (hx : x < t) : (s * t + x) / t = s := by
  rw [Nat.add_comm, Nat.add_mul_div_right _ _ (by omega), Nat.div_eq_of_lt hx, Nat.zero_add]
theorem te_md {s x t : Nat} (hx : x < t) : (s * t + x) % t = x := by
  rw [Nat.add_comm, Nat.add_mul_mod_self_right, Nat.mod_eq_of_lt hx]
/-! the first violated pair, the first held entry -/
def te_none (t : Nat) (B : Nat → Nat → Int32) : Prop := ∀ s x, s < t → x < t → B s x = 0
def te_one (t : Nat) (B : Nat → Nat → Int32) (s x : Nat) : Prop :=
  (s < t ∧ x < t) ∧ ¬ B s x = 0 ∧ (∀ s' x', s' < s → x' < t → B s' x' = 0) ∧ (∀ x', x' < x → B s x' = 0)
theorem te_fnd (h : Nat) (M : Nat → Prop) : (∀ i, i < h → ¬ M i) ∨ ∃ i, i < h ∧ M i ∧ ∀ j, j < i → ¬ M j := by
  by_cases c : ∃ i, i < h ∧ M i
  · obtain ⟨i, ⟨h1, h2⟩, h3⟩ := pk_least (fun i => i < h ∧ M i) c
    exact Or.inr ⟨i, h1, h2, fun j hj m => h3 j hj ⟨by omega, m⟩⟩
  · exact Or.inl fun i hi m => c ⟨i, hi, m⟩
theorem te_pair (t : Nat) (B : Nat → Nat → Int32) : te_none t B ∨ ∃ s x, te_one t B s x := by
  rcases te_fnd t (fun s => ∃ x, x < t ∧ ¬ B s x = 0) with h | ⟨s, hs, ⟨x, hx, hb⟩, hl⟩
  · refine Or.inl fun s x hs hx => ?_
    exact Classical.byContradiction fun z => h s hs ⟨x, hx, z⟩
  · rcases te_fnd t (fun x => ¬ B s x = 0) with k | ⟨y, hy, hb', hl'⟩
    · exact absurd hb (k x hx)
    · refine Or.inr ⟨s, y, ⟨hs, hy⟩, hb', fun s' x' h1 h2 => ?_, fun x' h1 => ?_⟩
      · exact Classical.byContradiction fun z => hl s' h1 ⟨x', h2, z⟩
      · exact Classical.byContradiction fun z => hl' x' h1 z
theorem te_rows (c t : Nat) (B : Nat → Nat → Nat → Int32) : (∀ n, n < c → te_none t (B n)) ∨ ∃ n s x, n < c ∧ te_one t (B n) s x ∧ ∀ m, m < n → te_none t (B m) := by
  rcases te_fnd c (fun n => ∃ s x, te_one t (B n) s x) with h | ⟨n, hn, ⟨s, x, ho⟩, hl⟩
  · refine Or.inl fun n hn => ?_
    rcases te_pair t (B n) with z | z
    · exact z
    · exact absurd z (h n hn)
  · refine Or.inr ⟨n, s, x, hn, ho, fun m hm => ?_⟩
    rcases te_pair t (B m) with z | z
    · exact z
    · exact absurd z (hl m hm)
/-- the perms that break neverallow n at s, x -/
def te_bp (m : Nat → Int32) (na : Nat) (aS aT aC aP ns nt nc nv : Nat → Int32) (n s x : Nat) : Int32 :=
  if te_rm m 1 ns nt nc (6 + n) s x (nc (6 + n)) = true then te_vec m 1 24 na aS aT aC aP s x (nc (6 + n)) &&& nv (6 + n) else 0
theorem te_rmc (m : Nat → Int32) (w : Nat) (cs ct cc : Nat → Int32) (k s x : Nat) : te_rm m w cs ct cc k s x (cc k) = (te_nm m w (cs k) s s && te_nm m w (ct k) x s) := by
  unfold te_rm
  rw [decide_eq_true rfl, Bool.true_and]
def te_hit (S T C P : Nat → Int32) (s x c p : Int32) (i : Nat) : Prop := S i = s ∧ T i = x ∧ C i = c ∧ P i = p
end
section
section
variable {t cap np no h : Nat} {sq vi vs vt vp tot : Int32} {mb rc rs rt rl rv mem aS aT aC aP aN ns nt nc nv nN xs xt xc xv xN pd ot ol uS uT uC uP uK : Nat → Int32}

theorem te_tnF {v : Int32} (a : ¬ te_ty t v) (b : ¬ te_at v) : ¬ te_tn t v := fun z => z.elim a b
theorem te_bd {z : Int32} (q : z = 0 ∨ z = 1) : te_b (decide (z = 1)) = z := by rcases q with rfl | rfl <;> decide
theorem te_xTy {post : Int32 → Prop} {v : Int32} (ht : t ≤ 12) (f : te_ty t v → post 1) (g : ¬ te_ty t v → post 0) : wpX_isType post (nI t, nI cap, sq, vi, vs, vt, vp, nI np, nI no, nI h, tot, mb, rc, rs, rt, rl, rv, pd, ot, ol, uS, uT, uC, uP, uK) v := by
  rcases te_neg v with h0 | ⟨j, hj, rfl⟩
  · exact br_t h0 (g (te_tyN h0 (by omega)))
  · exact br_f (nI_pos hj) (pk_le t j (fun q => g (te_tyI hj (by omega) q)) (fun q => f ⟨j, q, rfl⟩))
theorem te_xPc {post : Int32 → Prop} {v : Int32} (hn : np ≤ 8) (f : te_ty np v → post 1) (g : ¬ te_ty np v → post 0) : wpX_isProcess post (nI t, nI cap, sq, vi, vs, vt, vp, nI np, nI no, nI h, tot, mb, rc, rs, rt, rl, rv, pd, ot, ol, uS, uT, uC, uP, uK) v := by
  rcases te_neg v with h0 | ⟨j, hj, rfl⟩
  · exact br_t h0 (g (te_tyN h0 (by omega)))
  · exact br_f (nI_pos hj) (pk_le np j (fun q => g (te_tyI hj (by omega) q)) (fun q => f ⟨j, q, rfl⟩))
theorem te_xOb {post : Int32 → Prop} {v : Int32} (hn : no ≤ 16) (f : te_ty no v → post 1) (g : ¬ te_ty no v → post 0) : wpX_isObject post (nI t, nI cap, sq, vi, vs, vt, vp, nI np, nI no, nI h, tot, mb, rc, rs, rt, rl, rv, pd, ot, ol, uS, uT, uC, uP, uK) v := by
  rcases te_neg v with h0 | ⟨j, hj, rfl⟩
  · exact br_t h0 (g (te_tyN h0 (by omega)))
  · exact br_f (nI_pos hj) (pk_le no j (fun q => g (te_tyI hj (by omega) q)) (fun q => f ⟨j, q, rfl⟩))
theorem te_xAt {post : Int32 → Prop} {v : Int32} (f : te_ty 8 v → post 1) (g : ¬ te_ty 8 v → post 0) : wpX_isAttribute post () v := by
  rcases te_neg v with h0 | ⟨j, hj, rfl⟩
  · exact br_t h0 (g (te_tyN h0 (by omega)))
  · exact br_f (nI_pos hj) (pk_le 8 j (fun q => g (te_tyI hj (by omega) q)) (fun q => f ⟨j, q, rfl⟩))
theorem te_xCl {post : Int32 → Prop} {v : Int32} (f : te_ty 4 v → post 1) (g : ¬ te_ty 4 v → post 0) : wpX_isClass post () v := by
  rcases te_neg v with h0 | ⟨j, hj, rfl⟩
  · exact br_t h0 (g (te_tyN h0 (by omega)))
  · exact br_f (nI_pos hj) (pk_le 4 j (fun q => g (te_tyI hj (by omega) q)) (fun q => f ⟨j, q, rfl⟩))
theorem te_xPm {post : Int32 → Prop} {v : Int32} (f : te_pm v → post 1) (g : ¬ te_pm v → post 0) : wpX_isPerms post () v := by
  rcases te_neg v with h0 | ⟨j, hj, rfl⟩
  · exact br_t (te_lt (a := 1) h0 (by decide)) (g (te_pmN h0))
  · exact pk_lt j 1 (fun q => g (te_pmI hj (Or.inl q))) (fun q => pk_lt 255 j (fun q2 => g (te_pmI hj (Or.inr q2))) (fun q2 => f ⟨j, q, q2, rfl⟩))
theorem te_xTn {post : Int32 → Prop} {v : Int32} (ht : t ≤ 12) (f : te_tn t v → post 1) (g : ¬ te_tn t v → post 0) : wpX_isTypeName post (nI t, nI cap, sq, vi, vs, vt, vp, nI np, nI no, nI h, tot, mb, rc, rs, rt, rl, rv, pd, ot, ol, uS, uT, uC, uP, uK) v := by
  unfold wpX_isTypeName
  dsimp only
  refine te_xTy ht (fun q => br_f (by decide) (f (Or.inl q))) (fun q => br_t rfl ?_)
  rcases te_neg v with h0 | ⟨j, hj, rfl⟩
  · exact br_t (te_lt (a := 64) h0 (by decide)) (g (te_tnF q (te_atN h0)))
  · exact pk_lt j 64 (fun q1 => g (te_tnF q (te_atI hj (Or.inl q1)))) (fun q1 => pk_le 72 j (fun q2 => g (te_tnF q (te_atI hj (Or.inr q2)))) (fun q2 => f (Or.inr ⟨j - 64, by omega, congrArg nI (by omega)⟩)))
def te_pr (t : Nat) (a b c d : Int32) : Prop := te_tn t a ∧ te_sn t b ∧ te_ty 4 c ∧ te_pm d
theorem te_xPr {post : Int32 → Prop} {a b c d : Int32} (ht : t ≤ 12) (f : te_pr t a b c d → post 1) (g : ¬ te_pr t a b c d → post 0) : wpX_isPermRule post (nI t, nI cap, sq, vi, vs, vt, vp, nI np, nI no, nI h, tot, mb, rc, rs, rt, rl, rv, pd, ot, ol, uS, uT, uC, uP, uK) a b c d := by
  have K : te_tn t a → te_sn t b → wX_isPermRule_22 post c d (nI t) (nI cap) sq vi vs vt vp (nI np) (nI no) (nI h) tot mb rc rs rt rl rv pd ot ol uS uT uC uP uK := by
    intro ha hb
    unfold wX_isPermRule_22
    exact te_xCl (fun hc => br_f (by decide) (te_xPm (fun hd => br_f (by decide) (f ⟨ha, hb, hc, hd⟩)) (fun hd => br_t rfl (g fun z => hd z.2.2.2)))) (fun hc => br_t rfl (g fun z => hc z.2.2.1))
  unfold wpX_isPermRule
  dsimp only
  refine te_xTn ht (fun ha => br_f (by decide) ?_) (fun ha => br_t rfl (g fun z => ha z.1))
  by_cases e : b = 99
  · exact br_t e (K ha (Or.inr e))
  · refine br_f e ?_
    exact te_xTn ht (fun hb => br_f (by decide) (K ha (Or.inl hb))) (fun hb => br_t rfl (g fun z => z.2.1.elim hb e))
theorem te_xFR {post : Int32 → Prop} {w l : Nat} (hp : post (nI ((w * 3 + l) * 24))) : wpX_firstRule post () (nI w) (nI l) := by
  unfold wpX_firstRule wpX_listPlace
  rw [te_ml (K := 3) w 3 l rfl]
  show post (nI (w * 3 + l) * 24)
  rw [show nI (w * 3 + l) * 24 = nI ((w * 3 + l) * 24) from pk_mul _ 24]
  exact hp
theorem te_xLP {post : Int32 → Prop} {w l : Nat} (hp : post (nI (w * 3 + l))) : wpX_listPlace post () (nI w) (nI l) := by
  unfold wpX_listPlace
  rw [te_ml (K := 3) w 3 l rfl]
  exact hp
theorem te_xCR {post : Int32 → Prop} {w l : Nat} (hw : w < 2) (hl : l < 3) (hp : post (rc (w * 3 + l))) : wpX_countRules post (nI t, nI cap, sq, vi, vs, vt, vp, nI np, nI no, nI h, tot, mb, rc, rs, rt, rl, rv, pd, ot, ol, uS, uT, uC, uP, uK) (nI w) (nI l) := by
  unfold wpX_countRules
  dsimp only
  refine te_xLP ⟨vp_in_nI (by omega) (by decide), ?_⟩
  rw [nI_clamp (show w * 3 + l < 2 ^ 31 by omega)]
  exact hp
theorem te_xIs {post : Int32 → Prop} {w x a : Nat} (hw : w < 2) (hx : x < 12) (ha : a < 8) (hp : post (te_bv (mb (w * 12 + x)) a)) : wpX_isMember post (nI t, nI cap, sq, vi, vs, vt, vp, nI np, nI no, nI h, tot, mb, rc, rs, rt, rl, rv, pd, ot, ol, uS, uT, uC, uP, uK) (nI w) (nI x) (nI a) := by
  unfold wpX_isMember
  dsimp only
  rw [te_ml (K := 12) w 12 x rfl]
  refine ⟨vp_in_nI (by omega) (by decide), ?_⟩
  rw [nI_clamp (show w * 12 + x < 2 ^ 31 by omega), te_bit _ (show a < 32 by omega)]
  rcases te_bv01 (mb (w * 12 + x)) a with e | e
  · rw [e] at hp ⊢
    exact br_f (by decide) hp
  · rw [e] at hp ⊢
    exact br_t rfl hp
theorem te_xNm {post : Int32 → Prop} {w x s : Nat} {nm : Int32} (hm : ∀ x a, x < 12 → a < 8 → mem (w * 96 + x * 8 + a) = te_bv (mb (w * 12 + x)) a) (hw : w < 2) (ht : t ≤ 12) (hn : te_sn t nm) (hx : x < t) (hs : s < t)
    (hp : post (te_b (te_nm mem w nm x s))) : wpX_nameMatches post (nI t, nI cap, sq, vi, vs, vt, vp, nI np, nI no, nI h, tot, mb, rc, rs, rt, rl, rv, pd, ot, ol, uS, uT, uC, uP, uK) (nI w) nm (nI x) (nI s) := by
  unfold wpX_nameMatches
  dsimp only
  rcases hn with (⟨j, hj, rfl⟩ | ⟨a, ha, rfl⟩) | rfl
  · rw [te_nmT mem w x s (show j < 64 by omega) (show x < 64 by omega)] at hp
    refine br_f (te_n99 (by omega)) (br_t (nI_lt (b := 64) (by omega) (by decide)) (pk_eq j x (fun q => ?_) (fun q => ?_)))
    · rw [decide_eq_true q] at hp; exact hp
    · rw [decide_eq_false q] at hp; exact hp
  · rw [te_nmA mem w x s ha] at hp
    refine br_f (te_n99 (by omega)) (br_f (nI_nlt (b := 64) (by omega) (by omega)) ?_)
    rw [show nI (64 + a) - 64 = nI a from (pk_sub (b := 64) (by omega)).trans (congrArg nI (by omega))]
    refine te_xIs hw (by omega) ha ⟨te_nb (te_bv01 _ _), ?_⟩
    rw [hm x a (by omega) ha, te_bd (te_bv01 _ _)] at hp
    exact hp
  · rw [te_nmS] at hp
    refine br_t rfl (pk_eq x s (fun q => ?_) (fun q => ?_))
    · rw [decide_eq_true q] at hp; exact hp
    · rw [decide_eq_false q] at hp; exact hp
theorem te_xRm {post : Int32 → Prop} {w x s k k' : Nat} {c : Int32} {cs ct cc : Nat → Int32} (hm : ∀ x a, x < 12 → a < 8 → mem (w * 96 + x * 8 + a) = te_bv (mb (w * 12 + x)) a) (hw : w < 2) (ht : t ≤ 12) (hs : s < t) (hx : x < t) (hk : k < 144)
    (e1 : rs k = cs k') (e2 : rt k = ct k') (e3 : rl k = cc k') (n1 : te_tn t (cs k')) (n2 : te_sn t (ct k'))
    (hp : post (te_b (te_rm mem w cs ct cc k' s x c))) : wpX_ruleMatches post (nI t, nI cap, sq, vi, vs, vt, vp, nI np, nI no, nI h, tot, mb, rc, rs, rt, rl, rv, pd, ot, ol, uS, uT, uC, uP, uK) (nI w) (nI k) (nI s) (nI x) c := by
  unfold wpX_ruleMatches
  dsimp only
  rw [nI_clamp (show k < 2 ^ 31 by omega), e1, e2, e3]
  have hi : vp_in (nI k) 144 := vp_in_nI hk (by decide)
  unfold te_rm at hp
  refine ⟨hi, ?_⟩
  by_cases hc : cc k' = c
  · rw [decide_eq_true hc, Bool.true_and] at hp
    refine br_t hc ⟨hi, ?_⟩
    refine te_xNm hm hw ht (Or.inl n1) hs hs ?_
    cases q1 : te_nm mem w (cs k') s s
    · rw [q1, Bool.false_and] at hp
      exact br_t rfl hp
    · rw [q1, Bool.true_and] at hp
      refine br_f (by decide) ⟨hi, ?_⟩
      refine te_xNm hm hw ht n2 hx hs ?_
      cases q2 : te_nm mem w (ct k') x s
      · rw [q2] at hp
        exact br_t rfl hp
      · rw [q2] at hp
        exact br_f (by decide) hp
  · rw [decide_eq_false hc, Bool.false_and] at hp
    exact br_f hc hp
theorem te_orF {M : Nat → Bool} {V : Nat → Int32} {i : Nat} (q : M i = false) : te_or M V (i + 1) = te_or M V i := by
  show (if M i = true then _ else _) = _
  rw [q]
  rfl
theorem te_orT {M : Nat → Bool} {V : Nat → Int32} {i : Nat} (q : M i = true) : te_or M V (i + 1) = te_or M V i ||| V i := if_pos q
theorem te_fsF {M : Nat → Bool} {V : Nat → Int32} {n i : Nat} (q : M i = false) : te_fst M V (n + 1) i = te_fst M V n (i + 1) := by
  show (if M i = true then _ else _) = _
  rw [q]
  rfl
theorem te_fsT {M : Nat → Bool} {V : Nat → Int32} {n i : Nat} (q : M i = true) : te_fst M V (n + 1) i = V i := if_pos q
theorem te_xVL {post : Int32 → Prop} {Q : Int32 → Prop} {w x s xb yb n : Nat} {c : Int32} {cs ct cc cv : Nat → Int32} (hm : ∀ x a, x < 12 → a < 8 → mem (w * 96 + x * 8 + a) = te_bv (mb (w * 12 + x)) a) (hw : w < 2) (ht : t ≤ 12) (hs : s < t) (hx : x < t)
    (hL : te_lst Q t n xb yb rs rt rl rv cs ct cc cv) (hb : xb + n ≤ 144) (hp : post (te_vec mem w yb n cs ct cc cv s x c)) :
    ∀ d i, i + d = n → wX_allowedPerms_21 post (nI w) (nI s) (nI x) c (nI xb) (nI n) (nI t) (nI cap) sq vi vs vt vp (nI np) (nI no) (nI h) tot mb rc rs rt rl rv pd ot ol uS uT uC uP uK (d + 1) (te_or (fun i => te_rm mem w cs ct cc (yb + i) s x c) (fun i => cv (yb + i)) i) (nI i) := by
  intro d
  induction d with
  | zero =>
    intro i hi
    have e : i = n := by omega
    subst e
    exact br_t (nI_le (Nat.le_refl _) (by omega)) hp
  | succ d ih =>
    intro i hi
    obtain ⟨⟨e1, e2, e3, e4⟩, n1, n2, -⟩ := hL i (by omega)
    refine br_f (nI_ge (by omega) (by omega)) ?_
    rw [nI_add xb i]
    refine te_xRm hm hw ht hs hx (by omega) e1 e2 e3 n1 n2 ?_
    have k := ih (i + 1) (by omega)
    cases q : te_rm mem w cs ct cc (yb + i) s x c
    · rw [te_orF q] at k
      exact br_t rfl (nm_r (nI_1 i) k)
    · rw [te_orT q] at k
      refine br_f (by decide) ⟨vp_in_nI (by omega) (by decide), ?_⟩
      rw [nI_clamp (show xb + i < 2 ^ 31 by omega), e4]
      exact nm_e (nm_r (nI_1 i) k)
theorem te_xVe {post : Int32 → Prop} {w x s ca cn cx : Nat} {c : Int32} (hP : te_P t w ca cn cx mb rc rs rt rl rv mem aS aT aC aP aN ns nt nc nv nN xs xt xc xv xN) (hw : w < 2) (ht : t ≤ 12) (hs : s < t) (hx : x < t)
    (hp : post (te_vec mem w (w * 24) ca aS aT aC aP s x c)) : wpX_allowedPerms post (nI t, nI cap, sq, vi, vs, vt, vp, nI np, nI no, nI h, tot, mb, rc, rs, rt, rl, rv, pd, ot, ol, uS, uT, uC, uP, uK) (nI w) (nI s) (nI x) c := by
  obtain ⟨hm, ⟨q1, q2, q3⟩, ⟨r1, r2, r3⟩, ⟨n1, n2, n3⟩, l1, l2, l3⟩ := hP
  unfold wpX_allowedPerms
  dsimp only
  refine te_xFR (l := 0) (te_xCR (l := 0) hw (by decide) ?_)
  rw [show rc (w * 3 + 0) = nI ca from r1, show (w * 3 + 0) * 24 = w * 72 by omega]
  exact ⟨_, te_xVL hm hw ht hs hx l1 (by omega) hp ca 0 (by omega)⟩
theorem te_xBr {post : Int32 → Prop} {x s n ca cn cx : Nat} (hP : te_P t 1 ca cn cx mb rc rs rt rl rv mem aS aT aC aP aN ns nt nc nv nN xs xt xc xv xN) (ht : t ≤ 12) (hn : n < cn) (hs : s < t) (hx : x < t)
    (hp : post (te_bp mem ca aS aT aC aP ns nt nc nv n s x)) : wpX_brokenPerms post (nI t, nI cap, sq, vi, vs, vt, vp, nI np, nI no, nI h, tot, mb, rc, rs, rt, rl, rv, pd, ot, ol, uS, uT, uC, uP, uK) (nI n) (nI s) (nI x) := by
  have hP' := hP
  obtain ⟨hm, ⟨q1, q2, q3⟩, ⟨r1, r2, r3⟩, ⟨n1, n2, n3⟩, l1, l2, l3⟩ := hP
  obtain ⟨⟨e1, e2, e3, e4⟩, m1, m2, -⟩ := l2 n hn
  have hi : vp_in (nI (96 + n)) 144 := vp_in_nI (by omega) (by decide)
  unfold wpX_brokenPerms
  dsimp only
  refine te_xFR (w := 1) (l := 1) (nm_r (nI_add 96 n) ⟨hi, ?_⟩)
  rw [nI_clamp (show 96 + n < 2 ^ 31 by omega)]
  refine nm_r (e3 : rl (96 + n) = nc (6 + n)) ?_
  refine te_xRm (w := 1) (k' := 6 + n) (cs := ns) (ct := nt) (cc := nc) hm (by decide) ht hs hx (by omega) e1 e2 e3 m1 m2 ?_
  unfold te_bp at hp
  cases q : te_rm mem 1 ns nt nc (6 + n) s x (nc (6 + n))
  · rw [q] at hp
    exact br_t rfl hp
  · rw [q] at hp
    refine br_f (by decide) (te_xVe (w := 1) hP' (by decide) ht hs hx ⟨hi, ?_⟩)
    rw [show rv (96 + n) = nv (6 + n) from e4]
    exact hp
end
end
section
section
variable {t cap np no h : Nat} {sq vi vs vt vp tot : Int32} {mb rc rs rt rl rv mem aS aT aC aP aN ns nt nc nv nN xs xt xc xv xN pd ot ol uS uT uC uP uK : Nat → Int32}

theorem te_xFs {post : Int32 → Prop} {s x c p : Int32} {j m : Nat} (hh : h ≤ 16) (hj : j < h) (nh : ¬ te_hit uS uT uC uP s x c p j)
    (k : wX_findEntry_3 post s x c p (nI t) (nI cap) sq vi vs vt vp (nI np) (nI no) (nI h) tot mb rc rs rt rl rv pd ot ol uS uT uC uP uK m (nI (j + 1))) : wX_findEntry_3 post s x c p (nI t) (nI cap) sq vi vs vt vp (nI np) (nI no) (nI h) tot mb rc rs rt rl rv pd ot ol uS uT uC uP uK (m + 1) (nI j) := by
  have hi : vp_in (nI j) 16 := vp_in_nI (by omega) (by decide)
  refine br_f (nI_ge hj (by omega)) ?_
  rw [nI_clamp (show j < 2 ^ 31 by omega)]
  refine ⟨hi, ?_⟩
  by_cases a : uS j = s
  · refine br_t a ⟨hi, ?_⟩
    by_cases b : uT j = x
    · refine br_t b ⟨hi, ?_⟩
      by_cases d : uC j = c
      · refine br_t d ⟨hi, ?_⟩
        by_cases e : uP j = p
        · exact absurd ⟨a, b, d, e⟩ nh
        · exact br_f e (nm_r (nI_1 j) k)
      · exact br_f d (nm_r (nI_1 j) k)
    · exact br_f b (nm_r (nI_1 j) k)
  · exact br_f a (nm_r (nI_1 j) k)
theorem te_xFh {post : Int32 → Prop} {s x c p : Int32} {j m : Nat} (hh : h ≤ 16) (hj : j < h) (nh : te_hit uS uT uC uP s x c p j)
    (k : post (nI j)) : wX_findEntry_3 post s x c p (nI t) (nI cap) sq vi vs vt vp (nI np) (nI no) (nI h) tot mb rc rs rt rl rv pd ot ol uS uT uC uP uK (m + 1) (nI j) := by
  have hi : vp_in (nI j) 16 := vp_in_nI (by omega) (by decide)
  obtain ⟨a, b, d, e⟩ := nh
  refine br_f (nI_ge hj (by omega)) ?_
  rw [nI_clamp (show j < 2 ^ 31 by omega)]
  exact ⟨hi, br_t a ⟨hi, br_t b ⟨hi, br_t d ⟨hi, br_t e k⟩⟩⟩⟩
theorem te_xFiH {post : Int32 → Prop} {s x c p : Int32} {i : Nat} (hh : h ≤ 16) (hi : i < h) (nh : te_hit uS uT uC uP s x c p i) (nl : ∀ j, j < i → ¬ te_hit uS uT uC uP s x c p j)
    (k : post (nI i)) : wpX_findEntry post (nI t, nI cap, sq, vi, vs, vt, vp, nI np, nI no, nI h, tot, mb, rc, rs, rt, rl, rv, pd, ot, ol, uS, uT, uC, uP, uK) s x c p := by
  have L : ∀ d j, j + d = i → wX_findEntry_3 post s x c p (nI t) (nI cap) sq vi vs vt vp (nI np) (nI no) (nI h) tot mb rc rs rt rl rv pd ot ol uS uT uC uP uK (d + 1) (nI j) := by
    intro d
    induction d with
    | zero =>
      intro j hj
      have e : j = i := by omega
      subst e
      exact te_xFh hh hi nh k
    | succ d ih => exact fun j hj => te_xFs hh (by omega) (nl j (by omega)) (ih (j + 1) (by omega))
  exact ⟨_, L i 0 (by omega)⟩
theorem te_xFiN {post : Int32 → Prop} {s x c p : Int32} (hh : h ≤ 16) (nl : ∀ j, j < h → ¬ te_hit uS uT uC uP s x c p j)
    (k : post (-5)) : wpX_findEntry post (nI t, nI cap, sq, vi, vs, vt, vp, nI np, nI no, nI h, tot, mb, rc, rs, rt, rl, rv, pd, ot, ol, uS, uT, uC, uP, uK) s x c p := by
  have L : ∀ d j, j + d = h → wX_findEntry_3 post s x c p (nI t) (nI cap) sq vi vs vt vp (nI np) (nI no) (nI h) tot mb rc rs rt rl rv pd ot ol uS uT uC uP uK (d + 1) (nI j) := by
    intro d
    induction d with
    | zero =>
      intro j hj
      have e : j = h := by omega
      subst e
      exact br_t (nI_le (Nat.le_refl _) (by omega)) k
    | succ d ih => exact fun j hj => te_xFs hh (by omega) (nl j (by omega)) (ih (j + 1) (by omega))
  exact ⟨_, L h 0 (by omega)⟩
theorem te_xDL {post : St2 → Prop} (hh : h ≤ 16) (k : post (nI t, nI cap, sq, vi, vs, vt, vp, nI np, nI no, nI (h - 1), tot, mb, rc, rs, rt, rl, rv, pd, ot, ol, te_sh uS (h - 1), te_sh uT (h - 1), te_sh uC (h - 1), te_sh uP (h - 1), te_sh uK (h - 1))) :
    ∀ d i, i + 1 + d = h → wX_dropOldestEntry_2 post (nI t) (nI cap) sq vi vs vt vp (nI np) (nI no) (nI h) tot (d + 1) (nI (i + 1)) mb rc rs rt rl rv pd ot ol (te_sh uS i) (te_sh uT i) (te_sh uC i) (te_sh uP i) (te_sh uK i) := by
  intro d
  induction d with
  | zero =>
    intro i hi
    have e : h = i + 1 := by omega
    subst e
    exact br_t (nI_le (Nat.le_refl _) (by omega)) (nm_r (nI_pred i) k)
  | succ d ih =>
    intro i hi
    have q := ih (i + 1) (by omega)
    have h1 : vp_in (nI (i + 1)) 16 := vp_in_nI (by omega) (by decide)
    have h2 : vp_in (nI i) 16 := vp_in_nI (by omega) (by decide)
    refine br_f (nI_ge (by omega) (by omega)) ?_
    rw [nI_pred i, nI_clamp (show i < 2 ^ 31 by omega), nI_clamp (show i + 1 < 2 ^ 31 by omega), te_shR, te_shR, te_shR, te_shR, te_shR]
    exact ⟨h1, h2, nm_r (te_shS uS i) ⟨h1, h2, nm_r (te_shS uT i) ⟨h1, h2, nm_r (te_shS uC i) ⟨h1, h2, nm_r (te_shS uP i) ⟨h1, h2, nm_r (te_shS uK i) (nm_r (nI_1 (i + 1)) q)⟩⟩⟩⟩⟩
theorem te_xDr {post : St2 → Prop} (hh : h ≤ 16) (h0 : 0 < h) (k : post (nI t, nI cap, sq, vi, vs, vt, vp, nI np, nI no, nI (h - 1), tot, mb, rc, rs, rt, rl, rv, pd, ot, ol, te_sh uS (h - 1), te_sh uT (h - 1), te_sh uC (h - 1), te_sh uP (h - 1), te_sh uK (h - 1))) :
    wpX_dropOldestEntry post (nI t, nI cap, sq, vi, vs, vt, vp, nI np, nI no, nI h, tot, mb, rc, rs, rt, rl, rv, pd, ot, ol, uS, uT, uC, uP, uK) := by
  have q := te_xDL hh k (h - 1) 0 (by omega)
  rw [te_sh0, te_sh0, te_sh0, te_sh0, te_sh0] at q
  exact ⟨_, q⟩
theorem te_xAp {post : St2 → Prop} {s x c p : Int32} (hh : h < 16) (k : post (nI t, nI cap, sq, vi, vs, vt, vp, nI np, nI no, nI (h + 1), tot, mb, rc, rs, rt, rl, rv, pd, ot, ol, upd uS h s, upd uT h x, upd uC h c, upd uP h p, upd uK h 1)) :
    wX_recordDenial_55 post s x c p (nI t) (nI cap) sq vi vs vt vp (nI np) (nI no) (nI h) tot mb rc rs rt rl rv pd ot ol uS uT uC uP uK := by
  have hi : vp_in (nI h) 16 := vp_in_nI hh (by decide)
  unfold wX_recordDenial_55
  rw [nI_clamp (show h < 2 ^ 31 by omega)]
  exact ⟨hi, nm_e ⟨hi, nm_e ⟨hi, nm_e ⟨hi, nm_e ⟨hi, nm_e (nm_r (nI_1 h) k)⟩⟩⟩⟩⟩
theorem te_xR1 {post : St2 → Prop} {s x c p : Int32} {i : Nat} (hc : cap ≤ 16) (hh : h ≤ cap) (hi : i < h) (nh : te_hit uS uT uC uP s x c p i) (nl : ∀ j, j < i → ¬ te_hit uS uT uC uP s x c p j)
    (k : post (nI t, nI cap, sq, vi, vs, vt, vp, nI np, nI no, nI h, tot + 1, mb, rc, rs, rt, rl, rv, pd, ot, ol, uS, uT, uC, uP, upd uK i (uK i + 1))) : wpX_recordDenial post (nI t, nI cap, sq, vi, vs, vt, vp, nI np, nI no, nI h, tot, mb, rc, rs, rt, rl, rv, pd, ot, ol, uS, uT, uC, uP, uK) s x c p := by
  have hv : vp_in (nI i) 16 := vp_in_nI (by omega) (by decide)
  unfold wpX_recordDenial
  dsimp only
  refine nm_e (te_xFiH (by omega) hi nh nl (br_f ?_ ?_))
  · intro e
    have e2 : (nI i).toInt = (-5 : Int32).toInt := congrArg Int32.toInt e
    rw [nI_toInt (by omega), show (-5 : Int32).toInt = -5 by decide] at e2
    omega
  · rw [nI_clamp (show i < 2 ^ 31 by omega)]
    exact ⟨hv, hv, nm_e k⟩
theorem te_xR2 {post : St2 → Prop} {s x c p : Int32} (hc : cap ≤ 16) (hh : h < cap) (nl : ∀ j, j < h → ¬ te_hit uS uT uC uP s x c p j)
    (k : post (nI t, nI cap, sq, vi, vs, vt, vp, nI np, nI no, nI (h + 1), tot + 1, mb, rc, rs, rt, rl, rv, pd, ot, ol, upd uS h s, upd uT h x, upd uC h c, upd uP h p, upd uK h 1)) : wpX_recordDenial post (nI t, nI cap, sq, vi, vs, vt, vp, nI np, nI no, nI h, tot, mb, rc, rs, rt, rl, rv, pd, ot, ol, uS, uT, uC, uP, uK) s x c p := by
  unfold wpX_recordDenial
  dsimp only
  exact nm_e (te_xFiN (by omega) nl (br_t rfl (br_t (nI_lt hh (by omega)) (te_xAp (by omega) k))))
theorem te_xR3 {post : St2 → Prop} {s x c p : Int32} (hc4 : 4 ≤ cap) (hc : cap ≤ 16) (hh : h = cap) (nl : ∀ j, j < h → ¬ te_hit uS uT uC uP s x c p j)
    (k : post (nI t, nI cap, sq, vi, vs, vt, vp, nI np, nI no, nI h, tot + 1, mb, rc, rs, rt, rl, rv, pd, ot, ol, upd (te_sh uS (h - 1)) (h - 1) s, upd (te_sh uT (h - 1)) (h - 1) x, upd (te_sh uC (h - 1)) (h - 1) c, upd (te_sh uP (h - 1)) (h - 1) p, upd (te_sh uK (h - 1)) (h - 1) 1)) : wpX_recordDenial post (nI t, nI cap, sq, vi, vs, vt, vp, nI np, nI no, nI h, tot, mb, rc, rs, rt, rl, rv, pd, ot, ol, uS, uT, uC, uP, uK) s x c p := by
  unfold wpX_recordDenial
  dsimp only
  refine nm_e (te_xFiN (by omega) nl (br_t rfl (br_f (nI_nlt (by omega) (by omega)) (te_xDr (by omega) (by omega) ?_))))
  dsimp only
  refine te_xAp (by omega) ?_
  rw [show h - 1 + 1 = h by omega]
  exact k
end
end
section
section
variable {t cap np no h : Nat} {sq vi vs vt vp tot : Int32} {mb rc rs rt rl rv mem aS aT aC aP aN ns nt nc nv nN xs xt xc xv xN pd ot ol uS uT uC uP uK : Nat → Int32}

variable {ca cn cx : Nat}
theorem te_xSV {post : St2 → Prop} {a b c d : Int32} (k : post (nI t, nI cap, sq, a, b, c, d, nI np, nI no, nI h, tot, mb, rc, rs, rt, rl, rv, pd, ot, ol, uS, uT, uC, uP, uK)) : wpX_setViolation post (nI t, nI cap, sq, vi, vs, vt, vp, nI np, nI no, nI h, tot, mb, rc, rs, rt, rl, rv, pd, ot, ol, uS, uT, uC, uP, uK) a b c d := k
theorem te_xCS {post : Int32 → St2 → Prop} {J9 J16 : Int32 → Prop} {x1 : Int32} {n s x m : Nat} (hP : te_P t 1 ca cn cx mb rc rs rt rl rv mem aS aT aC aP aN ns nt nc nv nN xs xt xc xv xN) (ht : t ≤ 12) (hn : n < cn) (hs : s < t) (hx : x < t)
    (hz : (te_bp mem ca aS aT aC aP ns nt nc nv) n s x = 0 → wX_commit_27 post J9 J16 x1 (nI n) (nI s) (nI t) (nI cap) sq vi vs vt vp (nI np) (nI no) (nI h) tot mb rc rs rt rl rv pd ot ol uS uT uC uP uK m (nI (x + 1)))
    (hb : ¬ (te_bp mem ca aS aT aC aP ns nt nc nv) n s x = 0 → post (-3) (nI t, nI cap, sq, nI n, nI s, nI x, te_bp mem ca aS aT aC aP ns nt nc nv n s x, nI np, nI no, nI h, tot, mb, rc, rs, rt, rl, rv, pd, ot, ol, uS, uT, uC, uP, uK)) : wX_commit_27 post J9 J16 x1 (nI n) (nI s) (nI t) (nI cap) sq vi vs vt vp (nI np) (nI no) (nI h) tot mb rc rs rt rl rv pd ot ol uS uT uC uP uK (m + 1) (nI x) :=
  br_f (nI_ge hx (by omega)) (te_xBr hP ht hn hs hx (br_c (fun z => nm_r (nI_1 x) (hz z)) (fun z => te_xSV (hb z))))
theorem te_xC1 {post : Int32 → St2 → Prop} {J9 J16 : Int32 → Prop} {x1 : Int32} {n s : Nat} (hP : te_P t 1 ca cn cx mb rc rs rt rl rv mem aS aT aC aP aN ns nt nc nv nN xs xt xc xv xN) (ht : t ≤ 12) (hn : n < cn) (hs : s < t)
    (hz : ∀ y, y < t → (te_bp mem ca aS aT aC aP ns nt nc nv) n s y = 0) (k : J16 (nI (s + 1))) : ∀ d x, x + d = t → wX_commit_27 post J9 J16 x1 (nI n) (nI s) (nI t) (nI cap) sq vi vs vt vp (nI np) (nI no) (nI h) tot mb rc rs rt rl rv pd ot ol uS uT uC uP uK (d + 1) (nI x) := by
  intro d
  induction d with
  | zero =>
    intro x hx
    exact br_t (nI_le (by omega) (by omega)) (nm_r (nI_1 s) k)
  | succ d ih => exact fun x hx => te_xCS hP ht hn hs (by omega) (fun _ => ih (x + 1) (by omega)) (fun z => absurd (hz x (by omega)) z)
theorem te_xC1h {post : Int32 → St2 → Prop} {J9 J16 : Int32 → Prop} {x1 : Int32} {n s x0 : Nat} (hP : te_P t 1 ca cn cx mb rc rs rt rl rv mem aS aT aC aP aN ns nt nc nv nN xs xt xc xv xN) (ht : t ≤ 12) (hn : n < cn) (hs : s < t) (hx0 : x0 < t)
    (hz : ∀ y, y < x0 → (te_bp mem ca aS aT aC aP ns nt nc nv) n s y = 0) (hb : ¬ (te_bp mem ca aS aT aC aP ns nt nc nv) n s x0 = 0) (k : post (-3) (nI t, nI cap, sq, nI n, nI s, nI x0, te_bp mem ca aS aT aC aP ns nt nc nv n s x0, nI np, nI no, nI h, tot, mb, rc, rs, rt, rl, rv, pd, ot, ol, uS, uT, uC, uP, uK)) : ∀ d x, x + d = x0 → wX_commit_27 post J9 J16 x1 (nI n) (nI s) (nI t) (nI cap) sq vi vs vt vp (nI np) (nI no) (nI h) tot mb rc rs rt rl rv pd ot ol uS uT uC uP uK (d + 1) (nI x) := by
  intro d
  induction d with
  | zero =>
    intro x hx
    have e : x = x0 := by omega
    subst e
    exact te_xCS hP ht hn hs hx0 (fun z => absurd z hb) (fun _ => k)
  | succ d ih => exact fun x hx => te_xCS hP ht hn hs (by omega) (fun _ => ih (x + 1) (by omega)) (fun z => absurd (hz x (by omega)) z)
theorem te_xC2 {post : Int32 → St2 → Prop} {J9 : Int32 → Prop} {x1 : Int32} {n : Nat} (hP : te_P t 1 ca cn cx mb rc rs rt rl rv mem aS aT aC aP aN ns nt nc nv nN xs xt xc xv xN) (ht : t ≤ 12) (hn : n < cn)
    (hz : te_none t ((te_bp mem ca aS aT aC aP ns nt nc nv) n)) (k : J9 (nI (n + 1))) : ∀ d s, s + d = t → wX_commit_16 post J9 x1 (nI n) (nI t) (nI cap) sq vi vs vt vp (nI np) (nI no) (nI h) tot mb rc rs rt rl rv pd ot ol uS uT uC uP uK (d + 1) (nI s) := by
  intro d
  induction d with
  | zero =>
    intro s hs
    exact br_t (nI_le (by omega) (by omega)) (nm_r (nI_1 n) k)
  | succ d ih =>
    intro s hs
    exact br_f (nI_ge (by omega) (by omega)) ⟨_, te_xC1 hP ht hn (by omega) (fun y hy => hz s y (by omega) hy) (ih (s + 1) (by omega)) t 0 (by omega)⟩
theorem te_xC2h {post : Int32 → St2 → Prop} {J9 : Int32 → Prop} {x1 : Int32} {n s0 x0 : Nat} (hP : te_P t 1 ca cn cx mb rc rs rt rl rv mem aS aT aC aP aN ns nt nc nv nN xs xt xc xv xN) (ht : t ≤ 12) (hn : n < cn)
    (ho : te_one t ((te_bp mem ca aS aT aC aP ns nt nc nv) n) s0 x0) (k : post (-3) (nI t, nI cap, sq, nI n, nI s0, nI x0, te_bp mem ca aS aT aC aP ns nt nc nv n s0 x0, nI np, nI no, nI h, tot, mb, rc, rs, rt, rl, rv, pd, ot, ol, uS, uT, uC, uP, uK)) : ∀ d s, s + d = s0 → wX_commit_16 post J9 x1 (nI n) (nI t) (nI cap) sq vi vs vt vp (nI np) (nI no) (nI h) tot mb rc rs rt rl rv pd ot ol uS uT uC uP uK (d + 1) (nI s) := by
  obtain ⟨⟨hs0, hx0⟩, hb, hl, hr⟩ := ho
  intro d
  induction d with
  | zero =>
    intro s hs
    have e : s = s0 := by omega
    subst e
    exact br_f (nI_ge (by omega) (by omega)) ⟨_, te_xC1h hP ht hn hs0 hx0 hr hb k x0 0 (by omega)⟩
  | succ d ih =>
    intro s hs
    exact br_f (nI_ge (by omega) (by omega)) ⟨_, te_xC1 hP ht hn (by omega) (fun y hy => hl s y (by omega) hy) (ih (s + 1) (by omega)) t 0 (by omega)⟩
theorem te_xC3 {post : Int32 → St2 → Prop} (hP : te_P t 1 ca cn cx mb rc rs rt rl rv mem aS aT aC aP aN ns nt nc nv nN xs xt xc xv xN) (ht : t ≤ 12)
    (hz : ∀ n, n < cn → te_none t ((te_bp mem ca aS aT aC aP ns nt nc nv) n)) (k : ∀ m, wX_commit_9 post (nI cn) (nI t) (nI cap) sq vi vs vt vp (nI np) (nI no) (nI h) tot mb rc rs rt rl rv pd ot ol uS uT uC uP uK (m + 1) (nI cn)) : ∀ d n, n + d = cn → wX_commit_9 post (nI cn) (nI t) (nI cap) sq vi vs vt vp (nI np) (nI no) (nI h) tot mb rc rs rt rl rv pd ot ol uS uT uC uP uK (d + 1) (nI n) := by
  have q := hP.2.1.2.1
  intro d
  induction d with
  | zero =>
    intro n hn
    have e : n = cn := by omega
    subst e
    exact k 0
  | succ d ih =>
    intro n hn
    exact br_f (nI_ge (by omega) (by omega)) ⟨_, te_xC2 hP ht (by omega) (hz n (by omega)) (ih (n + 1) (by omega)) t 0 (by omega)⟩
theorem te_xC3h {post : Int32 → St2 → Prop} {n0 s0 x0 : Nat} (hP : te_P t 1 ca cn cx mb rc rs rt rl rv mem aS aT aC aP aN ns nt nc nv nN xs xt xc xv xN) (ht : t ≤ 12) (hn0 : n0 < cn)
    (hz : ∀ m, m < n0 → te_none t ((te_bp mem ca aS aT aC aP ns nt nc nv) m)) (ho : te_one t ((te_bp mem ca aS aT aC aP ns nt nc nv) n0) s0 x0) (k : post (-3) (nI t, nI cap, sq, nI n0, nI s0, nI x0, te_bp mem ca aS aT aC aP ns nt nc nv n0 s0 x0, nI np, nI no, nI h, tot, mb, rc, rs, rt, rl, rv, pd, ot, ol, uS, uT, uC, uP, uK)) : ∀ d n, n + d = n0 → wX_commit_9 post (nI cn) (nI t) (nI cap) sq vi vs vt vp (nI np) (nI no) (nI h) tot mb rc rs rt rl rv pd ot ol uS uT uC uP uK (d + 1) (nI n) := by
  have q := hP.2.1.2.1
  intro d
  induction d with
  | zero =>
    intro n hn
    have e : n = n0 := by omega
    subst e
    exact br_f (nI_ge (by omega) (by omega)) ⟨_, te_xC2h hP ht hn0 ho k s0 0 (by omega)⟩
  | succ d ih =>
    intro n hn
    exact br_f (nI_ge (by omega) (by omega)) ⟨_, te_xC2 hP ht (by omega) (hz n (by omega)) (ih (n + 1) (by omega)) t 0 (by omega)⟩
theorem te_xCoV {post : Int32 → St2 → Prop} {n0 s0 x0 : Nat} (hP : te_P t 1 ca cn cx mb rc rs rt rl rv mem aS aT aC aP aN ns nt nc nv nN xs xt xc xv xN) (ht : t ≤ 12) (hn0 : n0 < cn)
    (hz : ∀ m, m < n0 → te_none t ((te_bp mem ca aS aT aC aP ns nt nc nv) m)) (ho : te_one t ((te_bp mem ca aS aT aC aP ns nt nc nv) n0) s0 x0) (k : post (-3) (nI t, nI cap, sq, nI n0, nI s0, nI x0, te_bp mem ca aS aT aC aP ns nt nc nv n0 s0 x0, nI np, nI no, nI h, tot, mb, rc, rs, rt, rl, rv, pd, ot, ol, uS, uT, uC, uP, uK)) : wpX_commit post (nI t, nI cap, sq, vi, vs, vt, vp, nI np, nI no, nI h, tot, mb, rc, rs, rt, rl, rv, pd, ot, ol, uS, uT, uC, uP, uK) := by
  unfold wpX_commit
  dsimp only
  refine te_xCR (w := 1) (l := 1) (by decide) (by decide) ?_
  rw [show rc (1 * 3 + 1) = nI cn from hP.2.2.1.2.1]
  exact ⟨_, te_xC3h hP ht hn0 hz ho k n0 0 (by omega)⟩
/-! copies -/
def te_cp (c i : Nat) (f' f : Nat → Int32) : Prop := (∀ j, j < i → f' j = f (c + j)) ∧ (∀ j, i ≤ j → f' j = f j)
theorem te_cp0 {c : Nat} {f : Nat → Int32} : te_cp c 0 f f := ⟨fun j hj => absurd hj (Nat.not_lt_zero _), fun _ _ => rfl⟩
theorem te_cpS {c i : Nat} {f' f : Nat → Int32} {v : Int32} (q : te_cp c i f' f) (hv : v = f' (c + i)) : te_cp c (i + 1) (upd f' i v) f := by
  refine ⟨fun j hj => ?_, fun j hj => ?_⟩
  · by_cases e : j = i
    · subst e
      rw [pk_us, hv]
      exact q.2 _ (by omega)
    · rw [pk_un e]
      exact q.1 j (by omega)
  · rw [pk_un (by omega)]
    exact q.2 j (by omega)
theorem te_xCM {post : St2 → Prop} (k : ∀ mb', te_cp 12 12 mb' mb → post (nI t, nI cap, sq, vi, vs, vt, vp, nI np, nI no, nI h, tot, mb', rc, rs, rt, rl, rv, pd, ot, ol, uS, uT, uC, uP, uK)) : wpX_copyMembersToActive post (nI t, nI cap, sq, vi, vs, vt, vp, nI np, nI no, nI h, tot, mb, rc, rs, rt, rl, rv, pd, ot, ol, uS, uT, uC, uP, uK) := by
  refine loop_0 (fun n i s => wX_copyMembersToActive_2 post (nI t) (nI cap) sq vi vs vt vp (nI np) (nI no) (nI h) tot n (nI i) s rc rs rt rl rv pd ot ol uS uT uC uP uK) (fun i s => te_cp 12 i s mb) 12 mb te_cp0 ?_ ?_
  · intro n s hs
    exact br_t (nI_le (a := 12) (Nat.le_refl _) (by decide)) (k s hs)
  · intro n i s hi hs ih
    have e12 : (12 : Int32) + nI i = nI (12 + i) := nI_add 12 i
    have e0 : (0 : Int32) + nI i = nI i := (nI_add 0 i).trans (congrArg nI (Nat.zero_add i))
    refine br_f (nI_ge (b := 12) hi (by decide)) ?_
    rw [e12, e0, nI_clamp (show 12 + i < 2 ^ 31 by omega), nI_clamp (show i < 2 ^ 31 by omega)]
    exact ⟨vp_in_nI (by omega) (by decide), vp_in_nI (by omega) (by decide), nm_e (nm_r (nI_1 i) (ih _ (te_cpS hs rfl)))⟩
theorem te_xCI {post : St2 → Prop} {J : Int32 → (Nat → Int32) → (Nat → Int32) → (Nat → Int32) → (Nat → Int32) → (Nat → Int32) → (Nat → Int32) → (Nat → Int32) → (Nat → Int32) → (Nat → Int32) → (Nat → Int32) → (Nat → Int32) → (Nat → Int32) → (Nat → Int32) → (Nat → Int32) → Prop} {l c : Nat} (hl : l < 3) (hc : c ≤ 24)
    (k : ∀ a b d e : Nat → Int32, te_eq4 c (l * 24) (72 + l * 24) a b d e rs rt rl rv → (∀ j, (j < l * 24 ∨ l * 24 + 24 ≤ j) → a j = rs j ∧ b j = rt j ∧ d j = rl j ∧ e j = rv j) → J (nI (l + 1)) mb (upd rc l (nI c)) a b d e pd ot ol uS uT uC uP uK) :
    ∃ n, wX_copyRulesToActive_30 post J (nI l) (nI c) (nI (l * 24)) (nI (72 + l * 24)) (nI t) (nI cap) sq vi vs vt vp (nI np) (nI no) (nI h) tot n 0 mb rc rs rt rl rv pd ot ol uS uT uC uP uK := by
  refine loop_0 (fun n i (s : (Nat → Int32) × (Nat → Int32) × (Nat → Int32) × (Nat → Int32)) => wX_copyRulesToActive_30 post J (nI l) (nI c) (nI (l * 24)) (nI (72 + l * 24)) (nI t) (nI cap) sq vi vs vt vp (nI np) (nI no) (nI h) tot n (nI i) mb rc s.1 s.2.1 s.2.2.1 s.2.2.2 pd ot ol uS uT uC uP uK)
    (fun i s => te_eq4 i (l * 24) (72 + l * 24) s.1 s.2.1 s.2.2.1 s.2.2.2 rs rt rl rv ∧ (∀ j, (j < l * 24 ∨ l * 24 + 24 ≤ j) → s.1 j = rs j ∧ s.2.1 j = rt j ∧ s.2.2.1 j = rl j ∧ s.2.2.2 j = rv j)) c (rs, rt, rl, rv) ⟨fun i hi => absurd hi (Nat.not_lt_zero _), fun _ _ => ⟨rfl, rfl, rfl, rfl⟩⟩ ?_ ?_
  · intro n s hs
    refine br_t (nI_le (Nat.le_refl _) (by omega)) (te_xLP (w := 0) ?_)
    rw [show 0 * 3 + l = l by omega]
    refine ⟨vp_in_nI (by omega) (by decide), ?_⟩
    rw [nI_clamp (show l < 2 ^ 31 by omega)]
    exact nm_e (nm_r (nI_1 l) (k _ _ _ _ hs.1 hs.2))
  · intro n i s hi hs ih
    obtain ⟨a, b, d, e⟩ := s
    obtain ⟨hs1, hs2⟩ := hs
    dsimp only at hs1 hs2 ih ⊢
    have v1 : vp_in (nI (72 + l * 24 + i)) 144 := vp_in_nI (by omega) (by decide)
    have v2 : vp_in (nI (l * 24 + i)) 144 := vp_in_nI (by omega) (by decide)
    refine br_f (nI_ge hi (by omega)) ?_
    rw [nI_add (72 + l * 24) i, nI_add (l * 24) i, nI_clamp (show 72 + l * 24 + i < 2 ^ 31 by omega), nI_clamp (show l * 24 + i < 2 ^ 31 by omega)]
    refine ⟨v1, v2, nm_e ⟨v1, v2, nm_e ⟨v1, v2, nm_e ⟨v1, v2, nm_e (nm_r (nI_1 i) (ih (upd a (l * 24 + i) (a (72 + l * 24 + i)), upd b (l * 24 + i) (b (72 + l * 24 + i)), upd d (l * 24 + i) (d (72 + l * 24 + i)), upd e (l * 24 + i) (e (72 + l * 24 + i))) ⟨?_, ?_⟩))⟩⟩⟩⟩
    · intro q hq
      dsimp only
      by_cases z : q = i
      · subst z
        rw [pk_us, pk_us, pk_us, pk_us]
        exact hs2 _ (by omega)
      · have z' : l * 24 + q ≠ l * 24 + i := by omega
        rw [pk_un z', pk_un z', pk_un z', pk_un z']
        exact hs1 q (by omega)
    · intro j hj
      dsimp only
      have z' : j ≠ l * 24 + i := by omega
      rw [pk_un z', pk_un z', pk_un z', pk_un z']
      exact hs2 j hj
theorem te_xCC {post : St2 → Prop} {cm : Nat → Nat} (hcm : ∀ m, m < 3 → rc (3 + m) = nI (cm m) ∧ cm m ≤ 24)
    (k : ∀ z a b d e : Nat → Int32, (∀ m, m < 3 → z m = nI (cm m) ∧ te_eq4 (cm m) (m * 24) (72 + m * 24) a b d e rs rt rl rv) → (∀ m, 3 ≤ m → z m = rc m) → (∀ j, 72 ≤ j → a j = rs j ∧ b j = rt j ∧ d j = rl j ∧ e j = rv j) → post (nI t, nI cap, sq, vi, vs, vt, vp, nI np, nI no, nI h, tot, mb, z, a, b, d, e, pd, ot, ol, uS, uT, uC, uP, uK)) : wpX_copyRulesToActive post (nI t, nI cap, sq, vi, vs, vt, vp, nI np, nI no, nI h, tot, mb, rc, rs, rt, rl, rv, pd, ot, ol, uS, uT, uC, uP, uK) := by
  refine loop_0 (fun n i (s : (Nat → Int32) × (Nat → Int32) × (Nat → Int32) × (Nat → Int32) × (Nat → Int32)) => wX_copyRulesToActive_2 post (nI t) (nI cap) sq vi vs vt vp (nI np) (nI no) (nI h) tot n (nI i) mb s.1 s.2.1 s.2.2.1 s.2.2.2.1 s.2.2.2.2 pd ot ol uS uT uC uP uK)
    (fun i s => (∀ m, m < i → s.1 m = nI (cm m) ∧ te_eq4 (cm m) (m * 24) (72 + m * 24) s.2.1 s.2.2.1 s.2.2.2.1 s.2.2.2.2 rs rt rl rv) ∧ (∀ m, 3 ≤ m → s.1 m = rc m) ∧ (∀ j, 72 ≤ j → s.2.1 j = rs j ∧ s.2.2.1 j = rt j ∧ s.2.2.2.1 j = rl j ∧ s.2.2.2.2 j = rv j)) 3 (rc, rs, rt, rl, rv) ⟨fun i hi => absurd hi (Nat.not_lt_zero _), fun _ _ => rfl, fun _ _ => ⟨rfl, rfl, rfl, rfl⟩⟩ ?_ ?_
  · intro n s hs
    exact br_t (nI_le (a := 3) (Nat.le_refl _) (by decide)) (k _ _ _ _ _ hs.1 hs.2.1 hs.2.2)
  · intro n l s hl hs ih
    obtain ⟨z, a, b, d, e⟩ := s
    obtain ⟨hs1, hs2, hs3⟩ := hs
    obtain ⟨hc1, hc2⟩ := hcm l hl
    dsimp only at hs1 hs2 hs3 ih ⊢
    refine br_f (nI_ge (b := 3) hl (by decide)) (te_xCR (w := 1) (by decide) hl ?_)
    rw [show z (1 * 3 + l) = nI (cm l) from (hs2 (3 + l) (by omega)).trans hc1]
    refine te_xFR (w := 0) (te_xFR (w := 1) ?_)
    rw [show (0 * 3 + l) * 24 = l * 24 by omega, show (1 * 3 + l) * 24 = 72 + l * 24 by omega]
    refine te_xCI hl hc2 (fun a' b' d' e' g1 g2 => ih (upd z l (nI (cm l)), a', b', d', e') ⟨?_, ?_, ?_⟩)
    · intro m hm
      dsimp only
      by_cases q : m = l
      · subst q
        refine ⟨pk_us, fun i hi => ?_⟩
        obtain ⟨p1, p2, p3, p4⟩ := g1 i hi
        obtain ⟨r1, r2, r3, r4⟩ := hs3 (72 + m * 24 + i) (by omega)
        exact ⟨p1.trans r1, p2.trans r2, p3.trans r3, p4.trans r4⟩
      · obtain ⟨y1, y2⟩ := hs1 m (by omega)
        obtain ⟨-, y3⟩ := hcm m (by omega)
        refine ⟨(pk_un q).trans y1, fun i hi => ?_⟩
        obtain ⟨p1, p2, p3, p4⟩ := g2 (m * 24 + i) (Or.inl (by omega))
        obtain ⟨r1, r2, r3, r4⟩ := y2 i hi
        exact ⟨p1.trans r1, p2.trans r2, p3.trans r3, p4.trans r4⟩
    · intro m hm
      dsimp only
      exact (pk_un (by omega)).trans (hs2 m hm)
    · intro j hj
      dsimp only
      obtain ⟨p1, p2, p3, p4⟩ := g2 j (Or.inr (by omega))
      obtain ⟨r1, r2, r3, r4⟩ := hs3 j hj
      exact ⟨p1.trans r1, p2.trans r2, p3.trans r3, p4.trans r4⟩
theorem te_xCoN {post : Int32 → St2 → Prop} (hP : te_P t 1 ca cn cx mb rc rs rt rl rv mem aS aT aC aP aN ns nt nc nv nN xs xt xc xv xN) (ht : t ≤ 12) (hz : ∀ n, n < cn → te_none t ((te_bp mem ca aS aT aC aP ns nt nc nv) n))
    (k : ∀ y z a b d e : Nat → Int32, te_cp 12 12 y mb → (z 0 = nI ca ∧ z 1 = nI cn ∧ z 2 = nI cx) → (∀ m, 3 ≤ m → z m = rc m) → te_eq4 ca 0 72 a b d e rs rt rl rv → te_eq4 cn 24 96 a b d e rs rt rl rv → te_eq4 cx 48 120 a b d e rs rt rl rv → (∀ j, 72 ≤ j → a j = rs j ∧ b j = rt j ∧ d j = rl j ∧ e j = rv j) → post (sq + 1) (nI t, nI cap, sq + 1, -5, -5, -5, -5, nI np, nI no, nI h, tot, y, z, a, b, d, e, pd, ot, ol, uS, uT, uC, uP, uK)) : wpX_commit post (nI t, nI cap, sq, vi, vs, vt, vp, nI np, nI no, nI h, tot, mb, rc, rs, rt, rl, rv, pd, ot, ol, uS, uT, uC, uP, uK) := by
  have hP' := hP
  obtain ⟨hm, ⟨q1, q2, q3⟩, ⟨r1, r2, r3⟩, -⟩ := hP
  unfold wpX_commit
  dsimp only
  refine te_xCR (w := 1) (l := 1) (by decide) (by decide) ?_
  rw [show rc (1 * 3 + 1) = nI cn from r2]
  refine ⟨_, te_xC3 hP' ht hz (fun m => br_t (nI_le (Nat.le_refl _) (by omega)) ?_) cn 0 (by omega)⟩
  refine te_xCM (fun y hy => ?_)
  dsimp only
  refine te_xCC (cm := fun m => if m = 0 then ca else if m = 1 then cn else cx) ?_ ?_
  · intro m hm3
    have c3 : m = 0 ∨ m = 1 ∨ m = 2 := by omega
    rcases c3 with rfl | rfl | rfl
    · exact ⟨r1, q1⟩
    · exact ⟨r2, show cn ≤ 24 by omega⟩
    · exact ⟨r3, show cx ≤ 24 by omega⟩
  · intro z a b d e g1 g2 g3
    dsimp only
    refine te_xSV (nm_e ?_)
    obtain ⟨u1, u2⟩ := g1 0 (by decide)
    obtain ⟨v1, v2⟩ := g1 1 (by decide)
    obtain ⟨w1, w2⟩ := g1 2 (by decide)
    exact k y z a b d e hy ⟨u1, v1, w1⟩ g2 u2 v2 w2 g3
end
end
section
section
variable {t cap np no h : Nat} {sq vi vs vt vp tot : Int32} {mb rc rs rt rl rv mem aS aT aC aP aN ns nt nc nv nN xs xt xc xv xN pd ot ol uS uT uC uP uK : Nat → Int32}
theorem te_xAs {post : Int32 → St2 → Prop} {l c C : Nat} {a b d e : Int32} (hl : l < 3) (hc : rc (3 + l) = nI c) (hC : C ≤ 24) (hcC : c ≤ C)
    (f : c < C → post (nI c) (nI t, nI cap, sq, vi, vs, vt, vp, nI np, nI no, nI h, tot, mb, upd rc (3 + l) (nI (c + 1)), upd rs (72 + l * 24 + c) a, upd rt (72 + l * 24 + c) b, upd rl (72 + l * 24 + c) d, upd rv (72 + l * 24 + c) e, pd, ot, ol, uS, uT, uC, uP, uK))
    (g : c = C → post (-2) (nI t, nI cap, sq, vi, vs, vt, vp, nI np, nI no, nI h, tot, mb, rc, rs, rt, rl, rv, pd, ot, ol, uS, uT, uC, uP, uK)) : wpX_appendStaged post (nI t, nI cap, sq, vi, vs, vt, vp, nI np, nI no, nI h, tot, mb, rc, rs, rt, rl, rv, pd, ot, ol, uS, uT, uC, uP, uK) (nI l) (nI C) a b d e := by
  have hi : vp_in (nI (72 + l * 24 + c)) 144 ∨ ¬ c < C := by
    by_cases q : c < C
    · exact Or.inl (vp_in_nI (by omega) (by decide))
    · exact Or.inr q
  unfold wpX_appendStaged
  dsimp only
  refine te_xCR (w := 1) (by decide) hl ?_
  rw [show rc (1 * 3 + l) = nI c from hc]
  refine pk_lt c C (fun q => ?_) (fun q => g (by omega))
  have hi := hi.resolve_right (fun z => z q)
  refine te_xFR (w := 1) ?_
  rw [show (1 * 3 + l) * 24 = 72 + l * 24 by omega]
  refine nm_r (nI_add (72 + l * 24) c) ?_
  rw [nI_clamp (show 72 + l * 24 + c < 2 ^ 31 by omega)]
  refine ⟨hi, nm_e ⟨hi, nm_e ⟨hi, nm_e ⟨hi, nm_e (te_xLP (w := 1) ?_)⟩⟩⟩⟩
  refine ⟨vp_in_nI (by omega) (by decide), ?_⟩
  rw [nI_clamp (show 1 * 3 + l < 2 ^ 31 by omega), nI_1 c]
  exact nm_e (f q)
theorem te_xClr {post : St2 → Prop} (k : ∀ y z : Nat → Int32, (∀ x, x < 12 → y (12 + x) = 0) → (∀ x, x < 12 → y x = mb x) → (∀ m, m < 3 → z (3 + m) = 0) → (∀ m, m < 3 → z m = rc m) → post (nI t, nI cap, sq, vi, vs, vt, vp, nI np, nI no, nI h, tot, y, z, rs, rt, rl, rv, pd, ot, ol, uS, uT, uC, uP, uK)) : wpX_stageClear post (nI t, nI cap, sq, vi, vs, vt, vp, nI np, nI no, nI h, tot, mb, rc, rs, rt, rl, rv, pd, ot, ol, uS, uT, uC, uP, uK) := by
  refine loop_0 (fun n i s => wX_stageClear_2 post (nI t) (nI cap) sq vi vs vt vp (nI np) (nI no) (nI h) tot n (nI i) s rc rs rt rl rv pd ot ol uS uT uC uP uK) (fun i s => (∀ x, x < i → s (12 + x) = 0) ∧ (∀ x, x < 12 → s x = mb x)) 12 mb ⟨fun i hi => absurd hi (Nat.not_lt_zero _), fun _ _ => rfl⟩ ?_ ?_
  · intro n y hy
    refine br_t (nI_le (a := 12) (Nat.le_refl _) (by decide)) ?_
    refine loop_0 (fun n i s => wX_stageClear_26 post (nI t) (nI cap) sq vi vs vt vp (nI np) (nI no) (nI h) tot n (nI i) y s rs rt rl rv pd ot ol uS uT uC uP uK) (fun i s => (∀ m, m < i → s (3 + m) = 0) ∧ (∀ m, m < 3 → s m = rc m)) 3 rc ⟨fun i hi => absurd hi (Nat.not_lt_zero _), fun _ _ => rfl⟩ ?_ ?_
    · intro n z hz
      exact br_t (nI_le (a := 3) (Nat.le_refl _) (by decide)) (k y z hy.1 hy.2 hz.1 hz.2)
    · intro n i z hi hz ih
      refine br_f (nI_ge (b := 3) hi (by decide)) (te_xLP (w := 1) ⟨vp_in_nI (by omega) (by decide), ?_⟩)
      rw [nI_clamp (show 1 * 3 + i < 2 ^ 31 by omega)]
      refine nm_e (nm_r (nI_1 i) (ih _ ⟨fun m hm => ?_, fun m hm => ?_⟩))
      · by_cases q : m = i
        · subst q
          exact pk_us
        · rw [pk_un (by omega)]
          exact hz.1 m (by omega)
      · rw [pk_un (by omega)]
        exact hz.2 m hm
  · intro n i y hi hy ih
    refine br_f (nI_ge (b := 12) hi (by decide)) ?_
    rw [show (12 : Int32) + nI i = nI (12 + i) from nI_add 12 i, nI_clamp (show 12 + i < 2 ^ 31 by omega)]
    refine ⟨vp_in_nI (by omega) (by decide), nm_e (nm_r (nI_1 i) (ih _ ⟨fun m hm => ?_, fun m hm => ?_⟩))⟩
    · by_cases q : m = i
      · subst q
        exact pk_us
      · rw [pk_un (by omega)]
        exact hy.1 m (by omega)
    · rw [pk_un (by omega)]
      exact hy.2 m hm
theorem te_xAO {post : Int32 → St2 → Prop} {a c : Int32} (hn : no < 16) (k : post (nI no) (nI t, nI cap, sq, vi, vs, vt, vp, nI np, nI (no + 1), nI h, tot, mb, rc, rs, rt, rl, rv, pd, upd ot no a, upd ol no c, uS, uT, uC, uP, uK)) : wpX_addObject post (nI t, nI cap, sq, vi, vs, vt, vp, nI np, nI no, nI h, tot, mb, rc, rs, rt, rl, rv, pd, ot, ol, uS, uT, uC, uP, uK) a c := by
  have vin : vp_in (nI no) 16 := vp_in_nI hn (by decide)
  unfold wpX_addObject
  dsimp only
  rw [nI_clamp (show no < 2 ^ 31 by omega)]
  exact ⟨vin, nm_e ⟨vin, nm_e (nm_r (nI_1 no) k)⟩⟩
variable {ca cn cx : Nat}
theorem te_oA {post : Int32 → St2 → Prop} {a b c d : Int32} (hP : te_P t 1 ca cn cx mb rc rs rt rl rv mem aS aT aC aP aN ns nt nc nv nN xs xt xc xv xN) (ht : t ≤ 12) (q : te_pr t a b c d)
    (f : ca < 24 → post (nI ca) (nI t, nI cap, sq, vi, vs, vt, vp, nI np, nI no, nI h, tot, mb, upd rc 3 (nI (ca + 1)), upd rs (72 + ca) a, upd rt (72 + ca) b, upd rl (72 + ca) c, upd rv (72 + ca) d, pd, ot, ol, uS, uT, uC, uP, uK))
    (g : ca = 24 → post (-2) (nI t, nI cap, sq, vi, vs, vt, vp, nI np, nI no, nI h, tot, mb, rc, rs, rt, rl, rv, pd, ot, ol, uS, uT, uC, uP, uK)) : wpX_stageAllow post (nI t, nI cap, sq, vi, vs, vt, vp, nI np, nI no, nI h, tot, mb, rc, rs, rt, rl, rv, pd, ot, ol, uS, uT, uC, uP, uK) a b c d := by
  unfold wpX_stageAllow
  dsimp only
  exact te_xPr ht (fun _ => br_f (by decide) (te_xAs (l := 0) (c := ca) (C := 24) (by decide) hP.2.2.1.1 (by decide) hP.2.1.1 f g)) (fun z => absurd q z)
theorem te_oN {post : Int32 → St2 → Prop} {a b c d : Int32} (hP : te_P t 1 ca cn cx mb rc rs rt rl rv mem aS aT aC aP aN ns nt nc nv nN xs xt xc xv xN) (ht : t ≤ 12) (q : te_pr t a b c d)
    (f : cn < 6 → post (nI cn) (nI t, nI cap, sq, vi, vs, vt, vp, nI np, nI no, nI h, tot, mb, upd rc 4 (nI (cn + 1)), upd rs (96 + cn) a, upd rt (96 + cn) b, upd rl (96 + cn) c, upd rv (96 + cn) d, pd, ot, ol, uS, uT, uC, uP, uK))
    (g : cn = 6 → post (-2) (nI t, nI cap, sq, vi, vs, vt, vp, nI np, nI no, nI h, tot, mb, rc, rs, rt, rl, rv, pd, ot, ol, uS, uT, uC, uP, uK)) : wpX_stageNeverallow post (nI t, nI cap, sq, vi, vs, vt, vp, nI np, nI no, nI h, tot, mb, rc, rs, rt, rl, rv, pd, ot, ol, uS, uT, uC, uP, uK) a b c d := by
  unfold wpX_stageNeverallow
  dsimp only
  exact te_xPr ht (fun _ => br_f (by decide) (te_xAs (l := 1) (c := cn) (C := 6) (by decide) hP.2.2.1.2.1 (by decide) hP.2.1.2.1 f g)) (fun z => absurd q z)
theorem te_oX {post : Int32 → St2 → Prop} {a b c d : Int32} (hP : te_P t 1 ca cn cx mb rc rs rt rl rv mem aS aT aC aP aN ns nt nc nv nN xs xt xc xv xN) (ht : t ≤ 12) (qa : te_tn t a) (qb : te_tn t b) (qc : te_ty 4 c) (qd : te_ty t d)
    (f : cx < 12 → post (nI cx) (nI t, nI cap, sq, vi, vs, vt, vp, nI np, nI no, nI h, tot, mb, upd rc 5 (nI (cx + 1)), upd rs (120 + cx) a, upd rt (120 + cx) b, upd rl (120 + cx) c, upd rv (120 + cx) d, pd, ot, ol, uS, uT, uC, uP, uK))
    (g : cx = 12 → post (-2) (nI t, nI cap, sq, vi, vs, vt, vp, nI np, nI no, nI h, tot, mb, rc, rs, rt, rl, rv, pd, ot, ol, uS, uT, uC, uP, uK)) : wpX_stageTransition post (nI t, nI cap, sq, vi, vs, vt, vp, nI np, nI no, nI h, tot, mb, rc, rs, rt, rl, rv, pd, ot, ol, uS, uT, uC, uP, uK) a b c d := by
  unfold wpX_stageTransition
  dsimp only
  refine te_xTn ht (fun _ => br_f (by decide) ?_) (fun z => absurd qa z)
  refine te_xTn ht (fun _ => br_f (by decide) ?_) (fun z => absurd qb z)
  refine te_xCl (fun _ => br_f (by decide) ?_) (fun z => absurd qc z)
  refine te_xTy ht (fun _ => br_f (by decide) ?_) (fun z => absurd qd z)
  exact te_xAs (l := 2) (c := cx) (C := 12) (by decide) hP.2.2.1.2.2 (by decide) hP.2.1.2.2 f g
theorem te_oM {post : Int32 → St2 → Prop} {x a : Nat} (ht : t ≤ 12) (hx : x < t) (ha : a < 8)
    (f : te_bv (mb (12 + x)) a = 0 → post 1 (nI t, nI cap, sq, vi, vs, vt, vp, nI np, nI no, nI h, tot, upd mb (12 + x) (mb (12 + x) ||| ((1 : Int32) <<< (nI a &&& 31))), rc, rs, rt, rl, rv, pd, ot, ol, uS, uT, uC, uP, uK))
    (g : te_bv (mb (12 + x)) a = 1 → post 0 (nI t, nI cap, sq, vi, vs, vt, vp, nI np, nI no, nI h, tot, mb, rc, rs, rt, rl, rv, pd, ot, ol, uS, uT, uC, uP, uK)) : wpX_stageMember post (nI t, nI cap, sq, vi, vs, vt, vp, nI np, nI no, nI h, tot, mb, rc, rs, rt, rl, rv, pd, ot, ol, uS, uT, uC, uP, uK) (nI x) (nI a) := by
  have i2 : vp_in (nI (12 + x)) 24 := vp_in_nI (by omega) (by decide)
  have e12 : (12 : Int32) + nI x = nI (12 + x) := nI_add 12 x
  unfold wpX_stageMember
  dsimp only
  refine te_xTy ht (fun _ => br_f (by decide) ?_) (fun z => absurd ⟨x, hx, rfl⟩ z)
  refine te_xAt (fun _ => br_f (by decide) ?_) (fun z => absurd ⟨a, ha, rfl⟩ z)
  refine te_xIs (w := 1) (by decide) (by omega) ha ?_
  rcases te_bv01 (mb (12 + x)) a with e | e
  · refine br_t e ?_
    rw [e12, nI_clamp (show 12 + x < 2 ^ 31 by omega)]
    exact ⟨i2, i2, nm_e (f e)⟩
  · exact br_f (fun z => absurd (e.symm.trans z) (by decide)) (g e)
theorem te_oD {post : Int32 → Prop} {s x c : Nat} (hP : te_P t 0 ca cn cx mb rc rs rt rl rv mem aS aT aC aP aN ns nt nc nv nN xs xt xc xv xN) (ht : t ≤ 12) (hs : s < t) (hx : x < t) (hc : c < 4)
    (k : post (te_vec mem 0 0 ca aS aT aC aP s x (nI c))) : wpX_decide post (nI t, nI cap, sq, vi, vs, vt, vp, nI np, nI no, nI h, tot, mb, rc, rs, rt, rl, rv, pd, ot, ol, uS, uT, uC, uP, uK) (nI s) (nI x) (nI c) 0 := by
  unfold wpX_decide
  dsimp only
  refine te_xTy ht (fun _ => br_f (by decide) ?_) (fun z => absurd ⟨s, hs, rfl⟩ z)
  refine te_xTy ht (fun _ => br_f (by decide) ?_) (fun z => absurd ⟨x, hx, rfl⟩ z)
  refine te_xCl (fun _ => br_f (by decide) (br_t rfl ?_)) (fun z => absurd ⟨c, hc, rfl⟩ z)
  unfold wX_decide_38
  exact te_xVe (w := 0) hP (by decide) ht hs hx k
theorem te_audX (hc4 : 4 ≤ cap) (hc : cap ≤ 16) (hh : h ≤ cap) (s x c p : Int32) {post : St2 → Prop}
    (k : ∀ (h1 : Nat) (tot1 : Int32) (S1 T1 C1 P1 K1 : Nat → Int32), h1 ≤ cap → post (nI t, nI cap, sq, vi, vs, vt, vp, nI np, nI no, nI h1, tot1, mb, rc, rs, rt, rl, rv, pd, ot, ol, S1, T1, C1, P1, K1)) : wpX_recordDenial post (nI t, nI cap, sq, vi, vs, vt, vp, nI np, nI no, nI h, tot, mb, rc, rs, rt, rl, rv, pd, ot, ol, uS, uT, uC, uP, uK) s x c p := by
  rcases te_fnd h (te_hit uS uT uC uP s x c p) with nl | ⟨i, hi, nh, nl⟩
  · rcases Nat.lt_or_ge h cap with q | q
    · exact te_xR2 hc q nl (k _ _ _ _ _ _ _ (by omega))
    · exact te_xR3 hc4 hc (by omega) nl (k _ _ _ _ _ _ _ hh)
  · exact te_xR1 hc hh hi nh nl (k _ _ _ _ _ _ _ hh)
theorem te_oK {post : Int32 → St2 → Prop} {p j d f : Nat} {c : Int32} (hP : te_P t 0 ca cn cx mb rc rs rt rl rv mem aS aT aC aP aN ns nt nc nv nN xs xt xc xv xN) (ht : t ≤ 12) (hc4 : 4 ≤ cap) (hc : cap ≤ 16) (hh : h ≤ cap) (o1 : np ≤ 8) (o2 : no ≤ 16) (hp : p < np) (hj : j < no)
    (ed : pd p = nI d) (ef : ot j = nI f) (ec : ol j = c) (hd : d < t) (hf : f < t)
    (k : ∀ (h1 : Nat) (tot1 : Int32) (S1 T1 C1 P1 K1 : Nat → Int32), h1 ≤ cap → post (255 &&& (te_vec mem 0 0 ca aS aT aC aP d f c ^^^ (-1))) (nI t, nI cap, sq, vi, vs, vt, vp, nI np, nI no, nI h1, tot1, mb, rc, rs, rt, rl, rv, pd, ot, ol, S1, T1, C1, P1, K1)) : wpX_check post (nI t, nI cap, sq, vi, vs, vt, vp, nI np, nI no, nI h, tot, mb, rc, rs, rt, rl, rv, pd, ot, ol, uS, uT, uC, uP, uK) (nI p) (nI j) 255 := by
  have vp' : vp_in (nI p) 8 := vp_in_nI (by omega) (by decide)
  have vj : vp_in (nI j) 16 := vp_in_nI (by omega) (by decide)
  unfold wpX_check
  dsimp only
  refine te_xPc o1 (fun _ => br_f (by decide) ?_) (fun z => absurd ⟨p, hp, rfl⟩ z)
  refine te_xOb o2 (fun _ => br_f (by decide) ?_) (fun z => absurd ⟨j, hj, rfl⟩ z)
  refine te_xPm (fun _ => br_f (by decide) ?_) (fun z => absurd ⟨255, by decide, by decide, rfl⟩ z)
  rw [nI_clamp (show p < 2 ^ 31 by omega), nI_clamp (show j < 2 ^ 31 by omega)]
  refine ⟨vp', nm_r ed ⟨vj, nm_r ef ⟨vj, nm_r ec ?_⟩⟩⟩
  refine te_xVe (w := 0) hP (by decide) ht hd hf (nm_e (br_c (fun z => k h tot uS uT uC uP uK hh) (fun z => te_audX hc4 hc hh _ _ _ _ (fun h1 tot1 S1 T1 C1 P1 K1 q => k h1 tot1 S1 T1 C1 P1 K1 q))))
theorem te_oS {post : Int32 → St2 → Prop} {x : Nat} (ht : t ≤ 12) (hn : np < 8) (hx : x < t) (k : post (nI np) (nI t, nI cap, sq, vi, vs, vt, vp, nI (np + 1), nI no, nI h, tot, mb, rc, rs, rt, rl, rv, upd pd np (nI x), ot, ol, uS, uT, uC, uP, uK)) : wpX_spawn post (nI t, nI cap, sq, vi, vs, vt, vp, nI np, nI no, nI h, tot, mb, rc, rs, rt, rl, rv, pd, ot, ol, uS, uT, uC, uP, uK) (nI x) := by
  unfold wpX_spawn
  dsimp only
  refine te_xTy ht (fun _ => br_f (by decide) (pk_lt np 8 (fun _ => ?_) (fun z => absurd hn (by omega)))) (fun z => absurd ⟨x, hx, rfl⟩ z)
  rw [nI_clamp (show np < 2 ^ 31 by omega)]
  exact ⟨vp_in_nI hn (by decide), nm_e (nm_r (nI_1 np) k)⟩
theorem te_oO {post : Int32 → St2 → Prop} {x c : Nat} (ht : t ≤ 12) (hn : no < 16) (hx : x < t) (hc : c < 4) (k : post (nI no) (nI t, nI cap, sq, vi, vs, vt, vp, nI np, nI (no + 1), nI h, tot, mb, rc, rs, rt, rl, rv, pd, upd ot no (nI x), upd ol no (nI c), uS, uT, uC, uP, uK)) : wpX_makeObject post (nI t, nI cap, sq, vi, vs, vt, vp, nI np, nI no, nI h, tot, mb, rc, rs, rt, rl, rv, pd, ot, ol, uS, uT, uC, uP, uK) (nI x) (nI c) := by
  unfold wpX_makeObject
  dsimp only
  refine te_xTy ht (fun _ => br_f (by decide) ?_) (fun z => absurd ⟨x, hx, rfl⟩ z)
  refine te_xCl (fun _ => br_f (by decide) (pk_lt no 16 (fun _ => ?_) (fun z => absurd hn (by omega)))) (fun z => absurd ⟨c, hc, rfl⟩ z)
  exact te_xAO hn k
end
end
section
def te_ct (K : Nat → Nat) (k a : Nat) : Nat → Nat
  | 0 => 0
  | b + 1 => te_ct K k a b + (if a ≤ b ∧ K b = k then 1 else 0)
theorem te_ctY {K : Nat → Nat} {k a b : Nat} (q : a ≤ b) (e : K b = k) : te_ct K k a (b + 1) = te_ct K k a b + 1 := by
  show te_ct K k a b + (if a ≤ b ∧ K b = k then 1 else 0) = _
  rw [if_pos ⟨q, e⟩]
theorem te_ctN {K : Nat → Nat} {k a b : Nat} (e : ¬ K b = k) : te_ct K k a (b + 1) = te_ct K k a b := by
  show te_ct K k a b + (if a ≤ b ∧ K b = k then 1 else 0) = _
  rw [if_neg (fun z => e z.2)]
  rfl
theorem te_ctm {K : Nat → Nat} {k a : Nat} (b : Nat) : ∀ c, te_ct K k a b ≤ te_ct K k a (b + c)
  | 0 => Nat.le_refl _
  | c + 1 => Nat.le_trans (te_ctm b c) (Nat.le_add_right _ _)
theorem te_ctl {K : Nat → Nat} {k a j b : Nat} (q : a ≤ j) (hj : j < b) (e : K j = k) : te_ct K k a j < te_ct K k a b := by
  have h1 := te_ctY (K := K) q e
  have h2 := te_ctm (K := K) (k := k) (a := a) (j + 1) (b - (j + 1))
  rw [show j + 1 + (b - (j + 1)) = b by omega] at h2
  omega
theorem te_ctz {K : Nat → Nat} {k a : Nat} : ∀ b, b ≤ a → te_ct K k a b = 0
  | 0, _ => rfl
  | b + 1, q => by
    show te_ct K k a b + (if a ≤ b ∧ K b = k then 1 else 0) = 0
    rw [te_ctz b (by omega), if_neg (fun z => absurd z.1 (by omega))]
theorem te_ctle {K : Nat → Nat} {k a : Nat} : ∀ b, te_ct K k a b ≤ b
  | 0 => Nat.le_refl _
  | b + 1 => by
    show te_ct K k a b + (if a ≤ b ∧ K b = k then 1 else 0) ≤ b + 1
    have := te_ctle (K := K) (k := k) (a := a) b
    by_cases q : a ≤ b ∧ K b = k
    · rw [if_pos q]; omega
    · rw [if_neg q]; omega
/-- a rule list out of the steps a .. b - 1 of kind k, the first N of them -/
def te_GR (K : Nat → Nat) (k N a b c yb : Nat) (sN tN cN vN cs ct cc cv : Nat → Int32) : Prop :=
  c = min N (te_ct K k a b) ∧ ∀ j, a ≤ j → j < b → K j = k → te_ct K k a j < N →
    cs (yb + te_ct K k a j) = sN j ∧ ct (yb + te_ct K k a j) = tN j ∧ cc (yb + te_ct K k a j) = cN j ∧ cv (yb + te_ct K k a j) = vN j
theorem te_GRs {K : Nat → Nat} {k N a b c yb : Nat} {sN tN cN vN cs ct cc cv : Nat → Int32} (g : te_GR K k N a b c yb sN tN cN vN cs ct cc cv) (e : ¬ K b = k) : te_GR K k N a (b + 1) c yb sN tN cN vN cs ct cc cv := by
  refine ⟨by rw [te_ctN e]; exact g.1, fun j h1 h2 h3 h4 => ?_⟩
  by_cases q : j = b
  · subst q; exact absurd h3 e
  · exact g.2 j h1 (by omega) h3 h4
theorem te_GRf {K : Nat → Nat} {k N a b yb : Nat} {sN tN cN vN cs ct cc cv : Nat → Int32} (g : te_GR K k N a b N yb sN tN cN vN cs ct cc cv) : te_GR K k N a (b + 1) N yb sN tN cN vN cs ct cc cv := by
  have h0 := g.1
  have h1 := te_ctm (K := K) (k := k) (a := a) b 1
  refine ⟨by omega, fun j h1 h2 h3 h4 => ?_⟩
  by_cases q : j = b
  · subst q; exact absurd h4 (by omega)
  · exact g.2 j h1 (by omega) h3 h4
theorem te_GRp {K : Nat → Nat} {k N a b c yb : Nat} {sN tN cN vN cs ct cc cv : Nat → Int32} (g : te_GR K k N a b c yb sN tN cN vN cs ct cc cv) (hc : c < N) (q : a ≤ b) (e : K b = k) :
    te_GR K k N a (b + 1) (c + 1) yb sN tN cN vN (upd cs (yb + c) (sN b)) (upd ct (yb + c) (tN b)) (upd cc (yb + c) (cN b)) (upd cv (yb + c) (vN b)) := by
  have h0 := g.1
  have hcb : te_ct K k a b = c := by omega
  refine ⟨by rw [te_ctY q e]; omega, fun j h1 h2 h3 h4 => ?_⟩
  by_cases z : j = b
  · subst z
    rw [hcb, pk_us, pk_us, pk_us, pk_us]
    exact ⟨rfl, rfl, rfl, rfl⟩
  · have h5 := te_ctl h1 (show j < b by omega) h3
    have h6 : yb + te_ct K k a j ≠ yb + c := by omega
    rw [pk_un h6, pk_un h6, pk_un h6, pk_un h6]
    exact g.2 j h1 (by omega) h3 h4
theorem te_GR0 {K : Nat → Nat} {k N a yb : Nat} {sN tN cN vN cs ct cc cv : Nat → Int32} : te_GR K k N a a 0 yb sN tN cN vN cs ct cc cv := by
  refine ⟨by rw [te_ctz a (Nat.le_refl _)]; omega, fun j h1 h2 => absurd h1 (by omega)⟩
theorem te_GRm {K : Nat → Nat} {k N a b c yb yb' : Nat} {sN tN cN vN cs ct cc cv cs' ct' cc' cv' : Nat → Int32} (g : te_GR K k N a b c yb sN tN cN vN cs ct cc cv) (q : te_eq4 N yb' yb cs' ct' cc' cv' cs ct cc cv) : te_GR K k N a b c yb' sN tN cN vN cs' ct' cc' cv' := by
  refine ⟨g.1, fun j h1 h2 h3 h4 => ?_⟩
  obtain ⟨q1, q2, q3, q4⟩ := q _ h4
  rw [q1, q2, q3, q4]
  exact g.2 j h1 h2 h3 h4
/-- membership out of the steps a .. b - 1 of kind 1 -/
def te_GE (K mT mA : Nat → Nat) (a b x q : Nat) : Prop := ∃ j, a ≤ j ∧ j < b ∧ K j = 1 ∧ mT j = x ∧ mA j = q
def te_GM (K mT mA : Nat → Nat) (a b yb : Nat) (mem : Nat → Int32) : Prop := ∀ x q, x < 4 → q < 4 → (mem (yb + x * 8 + q) = 1 ↔ te_GE K mT mA a b x q)
theorem te_GEs {K mT mA : Nat → Nat} {a b x q : Nat} (e : ¬ (K b = 1 ∧ mT b = x ∧ mA b = q)) : te_GE K mT mA a (b + 1) x q ↔ te_GE K mT mA a b x q := by
  constructor
  · intro ⟨j, h1, h2, h3, h4, h5⟩
    by_cases z : j = b
    · subst z; exact absurd ⟨h3, h4, h5⟩ e
    · exact ⟨j, h1, by omega, h3, h4, h5⟩
  · intro ⟨j, h1, h2, h3, h4, h5⟩
    exact ⟨j, h1, by omega, h3, h4, h5⟩
theorem te_GE0 {K mT mA : Nat → Nat} {a x q : Nat} : ¬ te_GE K mT mA a a x q := fun ⟨j, h1, h2, _⟩ => absurd h1 (by omega)
theorem te_GMs {K mT mA : Nat → Nat} {a b yb : Nat} {mem : Nat → Int32} (g : te_GM K mT mA a b yb mem) (e : ¬ K b = 1) : te_GM K mT mA a (b + 1) yb mem :=
  fun x q hx hq => (g x q hx hq).trans (te_GEs (fun z => e z.1)).symm
theorem te_GMp {K mT mA : Nat → Nat} {a b yb : Nat} {mem mem' : Nat → Int32} (g : te_GM K mT mA a b yb mem) (hab : a ≤ b) (e : K b = 1)
    (h1 : mem' (yb + mT b * 8 + mA b) = 1) (h2 : ∀ x q, q < 4 → ¬ (mT b = x ∧ mA b = q) → mem' (yb + x * 8 + q) = mem (yb + x * 8 + q)) : te_GM K mT mA a (b + 1) yb mem' := by
  intro x q hx hq
  by_cases z : mT b = x ∧ mA b = q
  · obtain ⟨rfl, rfl⟩ := z
    exact ⟨fun _ => ⟨b, hab, by omega, e, rfl, rfl⟩, fun _ => h1⟩
  · rw [h2 x q hq z]
    exact (g x q hx hq).trans (te_GEs (fun y => z y.2)).symm
theorem te_GM0 {K mT mA : Nat → Nat} {a yb : Nat} {mem : Nat → Int32} (g : ∀ j, j < 96 → mem (yb + j) = 0) : te_GM K mT mA a a yb mem := by
  intro x q hx hq
  have e := g (x * 8 + q) (by omega)
  rw [← Nat.add_assoc] at e
  rw [e]
  exact ⟨fun z => absurd z (by decide), fun z => absurd z te_GE0⟩
theorem te_GMm {K mT mA : Nat → Nat} {a b yb yb' : Nat} {mem mem' : Nat → Int32} (g : te_GM K mT mA a b yb mem) (q : ∀ j, j < 96 → mem' (yb' + j) = mem (yb + j)) : te_GM K mT mA a b yb' mem' := by
  intro x p hx hp
  have e := q (x * 8 + p) (by omega)
  rw [← Nat.add_assoc, ← Nat.add_assoc] at e
  rw [e]
  exact g x p hx hp
/-! a policy read from another place -/
theorem te_nmM {m : Nat → Int32} {nm : Int32} {x s : Nat} : te_nm (fun j => m (96 + j)) 0 nm x s = te_nm m 1 nm x s := by
  have e : 96 + (0 * 96 + x * 8 + (nm.toNatClampNeg - 64)) = 1 * 96 + x * 8 + (nm.toNatClampNeg - 64) := by omega
  unfold te_nm
  by_cases h1 : nm = 99
  · rw [if_pos h1, if_pos h1]
  · rw [if_neg h1, if_neg h1]
    by_cases h2 : 64 ≤ nm
    · rw [if_pos h2, if_pos h2]
      apply decide_eq_decide.mpr
      dsimp only
      rw [e]
    · rw [if_neg h2, if_neg h2]
theorem te_rmM {m cs ct cc : Nat → Int32} {d k s x : Nat} {c : Int32} : te_rm (fun j => m (96 + j)) 0 (fun j => cs (d + j)) (fun j => ct (d + j)) (fun j => cc (d + j)) k s x c = te_rm m 1 cs ct cc (d + k) s x c := by
  unfold te_rm
  rw [te_nmM, te_nmM]
theorem te_vecM {m cs ct cc cv : Nat → Int32} {n s x : Nat} {c : Int32} : te_vec (fun j => m (96 + j)) 0 0 n (fun j => cs (24 + j)) (fun j => ct (24 + j)) (fun j => cc (24 + j)) (fun j => cv (24 + j)) s x c = te_vec m 1 24 n cs ct cc cv s x c := by
  unfold te_vec
  have e1 : (fun i => te_rm (fun j => m (96 + j)) 0 (fun j => cs (24 + j)) (fun j => ct (24 + j)) (fun j => cc (24 + j)) (0 + i) s x c) = (fun i => te_rm m 1 cs ct cc (24 + i) s x c) := by
    funext i
    rw [te_rmM, Nat.zero_add]
  have e2 : (fun i => (fun j => cv (24 + j)) (0 + i)) = (fun i => cv (24 + i)) := by
    funext i
    dsimp only
    rw [Nat.zero_add]
  rw [e1, e2]
end
section
def te_ce (L : Nat) (xs : Nat → Int32) (k : Nat) : Int32 := if k < L then xs k else 0
def te_mo (v : Int32) (m : Nat) : Nat := (fmv v (nI m)).toNatClampNeg
theorem te_moE (v : Int32) {m : Nat} (h0 : 0 < m) (hm : m < 2 ^ 30) : fmv v (nI m) = nI (te_mo v m) ∧ te_mo v m < m := by
  have e := nI_toInt (show m < 2 ^ 31 by omega)
  have b := fmv_bounds (a := v) (m := nI m) (by rw [e]; omega)
  rw [e] at b
  have hn : ¬ fmv v (nI m) < 0 := by
    rw [Int32.lt_iff_toInt_lt, te_z]
    omega
  obtain ⟨j, hj, ej⟩ := nI_of hn
  have e2 : te_mo v m = j := by
    unfold te_mo
    rw [ej]
    exact nI_clamp hj
  rw [ej, nI_toInt hj] at b
  rw [e2]
  exact ⟨ej, by omega⟩
theorem te_lMd {post : Int32 → Prop} {v M : Int32} (m : Nat) (h0 : 0 < m) (hm : m < 2 ^ 30) (k : te_mo v m < m → post (nI (te_mo v m))) (hM : M = nI m := by rfl) : wpL_md post () v M := by
  subst hM
  obtain ⟨e, hl⟩ := te_moE v h0 hm
  have k' := k hl
  rw [← e] at k'
  refine ⟨nI_ne0 h0 (by omega), nm_e (br_c (fun z => ?_) (fun z => ?_))⟩
  · have e3 : fmv v (nI m) = v - v / nI m * nI m := if_pos z
    rw [e3] at k'
    exact k'
  · have e3 : fmv v (nI m) = v - v / nI m * nI m + nI m := if_neg z
    rw [e3] at k'
    exact k'
theorem te_lCe {post : Int32 → Prop} {L : Nat} {xs : Nat → Int32} {P : Int32} (k : Nat) (hL : L ≤ 260) (hk : k < 2 ^ 30) (hp : post (te_ce L xs k)) (hP : P = nI k) : wpL_cell post L xs () P := by
  subst hP
  unfold te_ce at hp
  refine pk_le L k (fun q => ?_) (fun q => ⟨vp_in_nI q (by omega), ?_⟩)
  · rw [if_neg (by omega)] at hp
    exact hp
  · rw [if_pos q] at hp
    rw [nI_clamp (show k < 2 ^ 31 by omega)]
    exact hp
def te_kn (o a : Nat) : Nat := if 2 < o then (if o = 3 then 1 else if o = 9 then 1 else if o = 4 then 2 else if o = 5 then 3 else if 7 < o then (if a = 0 then 5 else 1) else 4) else 0
theorem te_lKd {post : Int32 → Prop} {p q : Int32} (k : post (nI (te_kn (te_mo p 10) (te_mo q 4)))) : wpL_kind post () p q := by
  unfold wpL_kind
  refine te_lMd 10 (by decide) (by decide) (fun ho => ?_)
  generalize te_mo p 10 = o at k ho
  unfold te_kn at k
  refine pk_lt 2 o (fun c => ?_) (fun c => ?_)
  · rw [if_pos c] at k
    refine pk_eq o 3 (fun c1 => ?_) (fun c1 => ?_)
    · rw [if_pos c1] at k; exact k
    rw [if_neg c1] at k
    refine pk_eq o 9 (fun c2 => ?_) (fun c2 => ?_)
    · rw [if_pos c2] at k; exact k
    rw [if_neg c2] at k
    refine pk_eq o 4 (fun c3 => ?_) (fun c3 => ?_)
    · rw [if_pos c3] at k; exact k
    rw [if_neg c3] at k
    refine pk_eq o 5 (fun c4 => ?_) (fun c4 => ?_)
    · rw [if_pos c4] at k; exact k
    rw [if_neg c4] at k
    refine pk_lt 7 o (fun c5 => ?_) (fun c5 => ?_)
    · rw [if_pos c5] at k
      refine te_lMd 4 (by decide) (by decide) (fun ha => ?_)
      generalize te_mo q 4 = a at k ha
      refine pk_eq a 0 (fun c6 => ?_) (fun c6 => ?_)
      · rw [if_pos c6] at k; exact k
      · rw [if_neg c6] at k; exact k
    · rw [if_neg (by omega)] at k; exact k
  · rw [if_neg (by omega)] at k; exact k
def te_sr (j : Nat) : Int32 := if 4 ≤ j then nI (60 + j) else nI j
def te_tg (j : Nat) : Int32 := if j = 8 then 99 else te_sr j
theorem te_lSr {post : Int32 → Prop} {j : Nat} (hj : j < 8) (k : post (te_sr j)) : wpL_srcName post () (nI j) := by
  unfold te_sr at k
  refine pk_le 4 j (fun q => ?_) (fun q => ?_)
  · rw [if_pos q] at k
    rw [show (64 : Int32) + nI j = nI (64 + j) from nI_add 64 j, show nI (64 + j) - 4 = nI (60 + j) from (pk_sub (b := 4) (by omega)).trans (congrArg nI (by omega))]
    exact k
  · rw [if_neg (by omega)] at k
    exact k
theorem te_lTg {post : Int32 → Prop} {j : Nat} (hj : j < 9) (k : post (te_tg j)) : wpL_tgtName post () (nI j) := by
  unfold te_tg at k
  refine pk_eq j 8 (fun q => ?_) (fun q => ?_)
  · rw [if_pos q] at k
    exact k
  · rw [if_neg q] at k
    exact te_lSr (by omega) k
/-- the law's names -/
def te_ln (nm : Int32) : Prop := (∃ j, j < 4 ∧ nm = nI j) ∨ (∃ q, q < 4 ∧ nm = nI (64 + q)) ∨ nm = 99
theorem te_srL {j : Nat} (hj : j < 8) : te_ln (te_sr j) := by
  unfold te_sr
  by_cases q : 4 ≤ j
  · rw [if_pos q]; exact Or.inr (Or.inl ⟨j - 4, by omega, congrArg nI (by omega)⟩)
  · rw [if_neg q]; exact Or.inl ⟨j, by omega, rfl⟩
theorem te_srT {j : Nat} (hj : j < 8) : te_tn 4 (te_sr j) := by
  unfold te_sr
  by_cases q : 4 ≤ j
  · rw [if_pos q]; exact Or.inr ⟨j - 4, by omega, congrArg nI (by omega)⟩
  · rw [if_neg q]; exact Or.inl ⟨j, by omega, rfl⟩
theorem te_tgL {j : Nat} (hj : j < 9) : te_ln (te_tg j) := by
  unfold te_tg
  by_cases q : j = 8
  · rw [if_pos q]; exact Or.inr (Or.inr rfl)
  · rw [if_neg q]; exact te_srL (by omega)
theorem te_tgS {j : Nat} (hj : j < 9) : te_sn 4 (te_tg j) := by
  unfold te_tg
  by_cases q : j = 8
  · rw [if_pos q]; exact Or.inr rfl
  · rw [if_neg q]; exact Or.inl (te_srT (by omega))
/-- the law's mask against the active membership -/
def te_MK (M : Int32) (mem : Nat → Int32) : Prop := ∀ x q, x < 4 → q < 4 → (bt M (q * 4 + x) = true ↔ mem (0 + x * 8 + q) = 1)
theorem te_lMt {post : Int32 → Prop} {M nm : Int32} {mem : Nat → Int32} {x s : Nat} (hM : te_MK M mem) (hn : te_ln nm) (hx : x < 4) (hs : s < 4) (k : post (te_b (te_nm mem 0 nm x s))) : wpL_matches post () nm (nI x) (nI s) M := by
  unfold wpL_matches
  rcases hn with ⟨j, hj, rfl⟩ | ⟨q, hq, rfl⟩ | rfl
  · rw [te_nmT mem 0 x s (show j < 64 by omega) (show x < 64 by omega)] at k
    refine br_f (te_n99 (by omega)) (br_f (nI_ge (b := 4) hj (by decide)) (pk_eq j x (fun z => ?_) (fun z => ?_)))
    · rw [decide_eq_true z] at k; exact k
    · rw [decide_eq_false z] at k; exact k
  · rw [te_nmA mem 0 x s (show q < 8 by omega)] at k
    refine br_f (te_n99 (by omega)) (br_t (nI_le (a := 4) (by omega) (by omega)) (nm_r (show nI (64 + q) - 64 = nI q from (pk_sub (b := 64) (by omega)).trans (congrArg nI (by omega))) ?_))
    rw [te_ml (K := 4) q 4 x rfl, te_bit M (show q * 4 + x < 32 by omega)]
    have e := hM x q hx hq
    have e0 : mem (0 * 96 + x * 8 + q) = mem (0 + x * 8 + q) := rfl
    rw [e0] at k
    by_cases z : mem (0 + x * 8 + q) = 1
    · rw [decide_eq_true z] at k
      have e2 : te_bv M (q * 4 + x) = 1 := if_pos (e.mpr z)
      rw [e2]
      exact br_f (by decide) k
    · rw [decide_eq_false z] at k
      have e2 : te_bv M (q * 4 + x) = 0 := if_neg (fun y => z (e.mp y))
      rw [e2]
      exact br_t rfl k
  · rw [te_nmS] at k
    refine br_t rfl (pk_eq x s (fun z => ?_) (fun z => ?_))
    · rw [decide_eq_true z] at k; exact k
    · rw [decide_eq_false z] at k; exact k
end
section
theorem te_PA {t ca cn cx : Nat} {mb rc rs rt rl rv mem aS aT aC aP aN ns nt nc nv nN xs xt xc xv xN : Nat → Int32} {a b d e : Int32}
    (h : te_P t 1 ca cn cx mb rc rs rt rl rv mem aS aT aC aP aN ns nt nc nv nN xs xt xc xv xN)
    (hc : ca < 24) (ha : te_tn t a) (hb : te_sn t b) :
    te_P t 1 (ca + 1) cn cx mb (upd rc 3 (nI (ca + 1))) (upd rs (72 + ca) a) (upd rt (72 + ca) b) (upd rl (72 + ca) d) (upd rv (72 + ca) e) mem (upd aS (24 + ca) a) (upd aT (24 + ca) b) (upd aC (24 + ca) d) (upd aP (24 + ca) e) (upd aN 1 (nI (ca + 1))) ns nt nc nv nN xs xt xc xv xN := by
  obtain ⟨h1, ⟨q1, q2, q3⟩, ⟨h3, h4, h5⟩, ⟨h6, h7, h8⟩, h9, h10, h11⟩ := h
  exact ⟨h1, ⟨hc, q2, q3⟩, ⟨pk_us, (pk_un (by decide)).trans h4, (pk_un (by decide)).trans h5⟩, ⟨pk_us, h7, h8⟩, te_lstP h9 ha hb trivial, te_lstM h10 (te_eq4u fun i hi => by omega) te_eq4r, te_lstM h11 (te_eq4u fun i hi => by omega) te_eq4r⟩
theorem te_PN {t ca cn cx : Nat} {mb rc rs rt rl rv mem aS aT aC aP aN ns nt nc nv nN xs xt xc xv xN : Nat → Int32} {a b d e : Int32}
    (h : te_P t 1 ca cn cx mb rc rs rt rl rv mem aS aT aC aP aN ns nt nc nv nN xs xt xc xv xN)
    (hc : cn < 6) (ha : te_tn t a) (hb : te_sn t b) :
    te_P t 1 ca (cn + 1) cx mb (upd rc 4 (nI (cn + 1))) (upd rs (96 + cn) a) (upd rt (96 + cn) b) (upd rl (96 + cn) d) (upd rv (96 + cn) e) mem aS aT aC aP aN (upd ns (6 + cn) a) (upd nt (6 + cn) b) (upd nc (6 + cn) d) (upd nv (6 + cn) e) (upd nN 1 (nI (cn + 1))) xs xt xc xv xN := by
  obtain ⟨h1, ⟨q1, q2, q3⟩, ⟨h3, h4, h5⟩, ⟨h6, h7, h8⟩, h9, h10, h11⟩ := h
  exact ⟨h1, ⟨q1, hc, q3⟩, ⟨(pk_un (by decide)).trans h3, pk_us, (pk_un (by decide)).trans h5⟩, ⟨h6, pk_us, h8⟩, te_lstM h9 (te_eq4u fun i hi => by omega) te_eq4r, te_lstP h10 ha hb trivial, te_lstM h11 (te_eq4u fun i hi => by omega) te_eq4r⟩
theorem te_PX {t ca cn cx : Nat} {mb rc rs rt rl rv mem aS aT aC aP aN ns nt nc nv nN xs xt xc xv xN : Nat → Int32} {a b d e : Int32}
    (h : te_P t 1 ca cn cx mb rc rs rt rl rv mem aS aT aC aP aN ns nt nc nv nN xs xt xc xv xN)
    (hc : cx < 12) (ha : te_tn t a) (hb : te_sn t b) (he : te_ty t e) :
    te_P t 1 ca cn (cx + 1) mb (upd rc 5 (nI (cx + 1))) (upd rs (120 + cx) a) (upd rt (120 + cx) b) (upd rl (120 + cx) d) (upd rv (120 + cx) e) mem aS aT aC aP aN ns nt nc nv nN (upd xs (12 + cx) a) (upd xt (12 + cx) b) (upd xc (12 + cx) d) (upd xv (12 + cx) e) (upd xN 1 (nI (cx + 1))) := by
  obtain ⟨h1, ⟨q1, q2, q3⟩, ⟨h3, h4, h5⟩, ⟨h6, h7, h8⟩, h9, h10, h11⟩ := h
  exact ⟨h1, ⟨q1, q2, hc⟩, ⟨(pk_un (by decide)).trans h3, (pk_un (by decide)).trans h4, pk_us⟩, ⟨h6, h7, pk_us⟩, te_lstM h9 (te_eq4u fun i hi => by omega) te_eq4r, te_lstM h10 (te_eq4u fun i hi => by omega) te_eq4r, te_lstP h11 ha hb he⟩
theorem te_PS {t ca cn cx : Nat} {mb rc rs rt rl rv mem aS aT aC aP aN ns nt nc nv nN xs xt xc xv xN : Nat → Int32} {x a : Nat} {m : Int32}
    (h : te_P t 1 ca cn cx mb rc rs rt rl rv mem aS aT aC aP aN ns nt nc nv nN xs xt xc xv xN)
    (hx : x < 12) (ha : a < 8) (hm : m = mb (12 + x) ||| ((1 : Int32) <<< (nI a &&& 31))) :
    te_P t 1 ca cn cx (upd mb (12 + x) m) rc rs rt rl rv (upd mem (96 + x * 8 + a) 1) aS aT aC aP aN ns nt nc nv nN xs xt xc xv xN := by
  obtain ⟨h1, h2⟩ := h
  refine ⟨fun x' a' hx' ha' => ?_, h2⟩
  have h1' := h1 x' a' hx' ha'
  by_cases e : x' = x
  · subst e
    rw [show 1 * 12 + x' = 12 + x' from rfl, pk_us, hm, te_bvs _ ha ha']
    by_cases f : a' = a
    · subst f
      rw [if_pos rfl, show 1 * 96 + x' * 8 + a' = 96 + x' * 8 + a' from rfl, pk_us]
    · rw [if_neg f, pk_un (show 1 * 96 + x' * 8 + a' ≠ 96 + x' * 8 + a by omega)]
      exact h1'
  · rw [pk_un (show 1 * 12 + x' ≠ 12 + x by omega), pk_un (show 1 * 96 + x' * 8 + a' ≠ 96 + x * 8 + a by omega)]
    exact h1'
theorem te_PC {t : Nat} {rs rt rl rv aS aT aC aP ns nt nc nv xs xt xc xv mb' rc' mem' aN' nN' xN' : Nat → Int32}
    (hm : ∀ x, x < 12 → mb' (12 + x) = 0) (hM : ∀ j, j < 96 → mem' (96 + j) = 0) (hr : rc' 3 = 0 ∧ rc' 4 = 0 ∧ rc' 5 = 0) (hN : aN' 1 = 0 ∧ nN' 1 = 0 ∧ xN' 1 = 0) :
    te_P t 1 0 0 0 mb' rc' rs rt rl rv mem' aS aT aC aP aN' ns nt nc nv nN' xs xt xc xv xN' := by
  refine ⟨fun x a hx ha => ?_, ⟨by omega, by omega, by omega⟩, ⟨hr.1, hr.2.1, hr.2.2⟩, ⟨hN.1, hN.2.1, hN.2.2⟩, te_lst0, te_lst0, te_lst0⟩
  have e := hM (x * 8 + a) (by omega)
  rw [show 1 * 96 + x * 8 + a = 96 + (x * 8 + a) by omega, e, show mb' (1 * 12 + x) = 0 from hm x hx, te_bv0]
theorem te_rmN1 {m : Nat → Int32} {w k s x : Nat} {cs ct cc : Nat → Int32} {c : Int32} (q : ¬ cc k = c) : te_rm m w cs ct cc k s x c = false := by
  unfold te_rm
  rw [decide_eq_false q, Bool.false_and]
theorem te_rmN2 {m : Nat → Int32} {w k s x : Nat} {cs ct cc : Nat → Int32} {c : Int32} (q : te_nm m w (cs k) s s = false) : te_rm m w cs ct cc k s x c = false := by
  unfold te_rm
  rw [q, Bool.false_and, Bool.and_false]
theorem te_rmN3 {m : Nat → Int32} {w k s x : Nat} {cs ct cc : Nat → Int32} {c : Int32} (q : te_nm m w (ct k) x s = false) : te_rm m w cs ct cc k s x c = false := by
  unfold te_rm
  rw [q, Bool.and_false, Bool.and_false]
theorem te_rmY {m : Nat → Int32} {w k s x : Nat} {cs ct cc : Nat → Int32} {c : Int32} (q : cc k = c) (q1 : te_nm m w (cs k) s s = true) (q2 : te_nm m w (ct k) x s = true) : te_rm m w cs ct cc k s x c = true := by
  unfold te_rm
  rw [decide_eq_true q, q1, q2]
  rfl
theorem te_P00 {t w : Nat} : te_P t w 0 0 0 (fun _ => 0) (fun _ => 0) (fun _ => 0) (fun _ => 0) (fun _ => 0) (fun _ => 0) (fun _ => 0) (fun _ => 0) (fun _ => 0) (fun _ => 0) (fun _ => 0) (fun _ => 0) (fun _ => 0) (fun _ => 0) (fun _ => 0) (fun _ => 0) (fun _ => 0) (fun _ => 0) (fun _ => 0) (fun _ => 0) (fun _ => 0) (fun _ => 0) := by
  refine ⟨fun x a _ _ => (te_bv0 a).symm, ⟨by omega, by omega, by omega⟩, ⟨rfl, rfl, rfl⟩, ⟨rfl, rfl, rfl⟩, te_lst0, te_lst0, te_lst0⟩
section
variable {t : Nat} {mem aS aT aC aP ns nt nc nv : Nat → Int32} {ca : Nat}
theorem te_bpY {n s x : Nat} (q1 : te_nm mem 1 (ns (6 + n)) s s = true) (q2 : te_nm mem 1 (nt (6 + n)) x s = true) : (te_bp mem ca aS aT aC aP ns nt nc nv) n s x = te_vec mem 1 24 ca aS aT aC aP s x (nc (6 + n)) &&& nv (6 + n) := by
  unfold te_bp
  rw [te_rmY rfl q1 q2]
  rfl
end
def te_dK (L : Nat) (zs : Nat → Int32) (j : Nat) : Nat := te_kn (te_mo (te_ce L zs (5 * j)) 10) (te_mo (te_ce L zs (5 * j + 1)) 4)
def te_dS (L : Nat) (zs : Nat → Int32) (j : Nat) : Int32 := te_sr (te_mo (te_ce L zs (5 * j + 1)) 8)
def te_dT (L : Nat) (zs : Nat → Int32) (j : Nat) : Int32 := te_tg (te_mo (te_ce L zs (5 * j + 2)) 9)
def te_dA (L : Nat) (zs : Nat → Int32) (j : Nat) : Nat := te_mo (te_ce L zs (5 * j + 3)) 4
def te_dC (L : Nat) (zs : Nat → Int32) (j : Nat) : Int32 := nI (te_mo (te_ce L zs (5 * j + 3)) 4)
def te_dM (L : Nat) (zs : Nat → Int32) (j : Nat) : Nat := te_mo (te_ce L zs (5 * j + 2)) 4
def te_dP (L : Nat) (zs : Nat → Int32) (j : Nat) : Int32 := 1 + nI (te_mo (te_ce L zs (5 * j + 4)) 15)
def te_dV (L : Nat) (zs : Nat → Int32) (j : Nat) : Int32 := (1 : Int32) <<< (nI (te_mo (te_ce L zs (5 * j + 4)) 5) &&& 31)
theorem te_mol (v : Int32) {m : Nat} (h0 : 0 < m) (hm : m < 2 ^ 30) : te_mo v m < m := (te_moE v h0 hm).2
def te_Sg (L : Nat) (zs : Nat → Int32) (a b : Nat) (mb rc rs rt rl rv : Nat → Int32) : Prop :=
  ∃ (ca cn cx : Nat) (mem aS aT aC aP aN ns nt nc nv nN xs xt xc xv xN : Nat → Int32), te_P 4 1 ca cn cx mb rc rs rt rl rv mem aS aT aC aP aN ns nt nc nv nN xs xt xc xv xN ∧ te_GM (te_dK L zs) (te_dM L zs) (te_dA L zs) a b 96 mem ∧ te_GR (te_dK L zs) 0 24 a b ca 24 (te_dS L zs) (te_dT L zs) (te_dC L zs) (te_dP L zs) aS aT aC aP ∧ te_GR (te_dK L zs) 2 6 a b cn 6 (te_dS L zs) (te_dT L zs) (te_dC L zs) (te_dV L zs) ns nt nc nv
def te_Ag (L : Nat) (zs : Nat → Int32) (a b : Nat) (mb rc rs rt rl rv : Nat → Int32) : Prop :=
  ∃ (ca cn cx : Nat) (mem aS aT aC aP aN ns nt nc nv nN xs xt xc xv xN : Nat → Int32), te_P 4 0 ca cn cx mb rc rs rt rl rv mem aS aT aC aP aN ns nt nc nv nN xs xt xc xv xN ∧ te_GM (te_dK L zs) (te_dM L zs) (te_dA L zs) a b 0 mem ∧ te_GR (te_dK L zs) 0 24 a b ca 0 (te_dS L zs) (te_dT L zs) (te_dC L zs) (te_dP L zs) aS aT aC aP ∧ te_GR (te_dK L zs) 2 6 a b cn 0 (te_dS L zs) (te_dT L zs) (te_dC L zs) (te_dV L zs) ns nt nc nv ∧ (∀ n s x, n < cn → s < 4 → x < 4 → te_nm mem 0 (ns n) s s = true → te_nm mem 0 (nt n) x s = true → te_vec mem 0 0 ca aS aT aC aP s x (nc n) &&& nv n = 0)
section
variable {L : Nat} {zs : Nat → Int32} {mb rc rs rt rl rv mb' rc' rs' rt' rl' rv' : Nat → Int32}
theorem te_AgM {a b : Nat} (q : te_Ag L zs a b mb rc rs rt rl rv) (hm : ∀ x, x < 12 → mb' x = mb x) (hr : ∀ m, m < 3 → rc' m = rc m) (he : te_eq4 72 0 0 rs' rt' rl' rv' rs rt rl rv) : te_Ag L zs a b mb' rc' rs' rt' rl' rv' := by
  obtain ⟨ca, cn, cx, mem, aS, aT, aC, aP, aN, ns, nt, nc, nv, nN, xs, xt, xc, xv, xN, hP, g⟩ := q
  obtain ⟨q1, q2, q3⟩ := hP.2.1
  refine ⟨ca, cn, cx, mem, aS, aT, aC, aP, aN, ns, nt, nc, nv, nN, xs, xt, xc, xv, xN, te_PM hP (fun x hx => ?_) (fun _ _ => rfl) ⟨hr 0 (by decide), hr 1 (by decide), hr 2 (by decide)⟩ ⟨rfl, rfl, rfl⟩ (fun i hi => ?_) (fun i hi => ?_) (fun i hi => ?_) te_eq4r te_eq4r te_eq4r, g⟩
  · rw [show 0 * 12 + x = x by omega]
    exact hm x hx
  · have e := he i (by omega)
    exact e
  · have e := he (24 + i) (by omega)
    rw [show 0 + (24 + i) = 0 * 72 + 24 + i by omega] at e
    exact e
  · have e := he (48 + i) (by omega)
    rw [show 0 + (48 + i) = 0 * 72 + 48 + i by omega] at e
    exact e
theorem te_eq4h {k : Nat} {a b d e : Int32} (hk : 72 ≤ k) : te_eq4 72 0 0 (upd rs k a) (upd rt k b) (upd rl k d) (upd rv k e) rs rt rl rv := te_eq4u fun i hi => by omega
theorem te_SgS {a b : Nat} (q : te_Sg L zs a b mb rc rs rt rl rv) (e0 : ¬ te_dK L zs b = 0) (e1 : ¬ te_dK L zs b = 1) (e2 : ¬ te_dK L zs b = 2) : te_Sg L zs a (b + 1) mb rc rs rt rl rv := by
  obtain ⟨ca, cn, cx, mem, aS, aT, aC, aP, aN, ns, nt, nc, nv, nN, xs, xt, xc, xv, xN, hP, g1, g2, g3⟩ := q
  exact ⟨ca, cn, cx, mem, aS, aT, aC, aP, aN, ns, nt, nc, nv, nN, xs, xt, xc, xv, xN, hP, te_GMs g1 e1, te_GRs g2 e0, te_GRs g3 e2⟩
theorem te_Sg0 {a : Nat} (hm : ∀ x, x < 12 → mb (12 + x) = 0) (hr : ∀ m, m < 3 → rc (3 + m) = 0) : te_Sg L zs a a mb rc rs rt rl rv :=
  ⟨0, 0, 0, fun _ => 0, fun _ => 0, fun _ => 0, fun _ => 0, fun _ => 0, fun _ => 0, fun _ => 0, fun _ => 0, fun _ => 0, fun _ => 0, fun _ => 0, fun _ => 0, fun _ => 0, fun _ => 0, fun _ => 0, fun _ => 0, te_PC hm (fun _ _ => rfl) ⟨hr 0 (by decide), hr 1 (by decide), hr 2 (by decide)⟩ ⟨rfl, rfl, rfl⟩, te_GM0 (fun _ _ => rfl), te_GR0, te_GR0⟩
theorem te_SgM {a b : Nat} (q : te_Sg L zs a b mb rc rs rt rl rv) (hm : ∀ x, 12 ≤ x → mb' x = mb x) (hr : ∀ m, 3 ≤ m → rc' m = rc m) (he : ∀ j, 72 ≤ j → rs' j = rs j ∧ rt' j = rt j ∧ rl' j = rl j ∧ rv' j = rv j) : te_Sg L zs a b mb' rc' rs' rt' rl' rv' := by
  obtain ⟨ca, cn, cx, mem, aS, aT, aC, aP, aN, ns, nt, nc, nv, nN, xs, xt, xc, xv, xN, hP, g⟩ := q
  exact ⟨ca, cn, cx, mem, aS, aT, aC, aP, aN, ns, nt, nc, nv, nN, xs, xt, xc, xv, xN, te_PM hP (fun x hx => hm _ (by omega)) (fun _ _ => rfl) ⟨hr 3 (by decide), hr 4 (by decide), hr 5 (by decide)⟩ ⟨rfl, rfl, rfl⟩ (fun i hi => he _ (by omega)) (fun i hi => he _ (by omega)) (fun i hi => he _ (by omega)) te_eq4r te_eq4r te_eq4r, g⟩
end
end
section
def te_im (k : Nat) : Int32 := nI k - 1
theorem te_imS (k : Nat) : te_im (k + 1) = nI k := nI_pred k
theorem te_im1 (k : Nat) : te_im k + 1 = nI k := Int32.sub_add_cancel _ _
theorem te_im0 : te_im 0 = -1 := by decide
theorem te_imN : te_im 0 < 0 := by decide
theorem te_imle {k j : Nat} (hk : k < 2 ^ 30) (hj : j < 2 ^ 30) : te_im k ≤ nI j ↔ k - 1 ≤ j := by
  cases k with
  | zero => exact ⟨fun _ => by omega, fun _ => te_le te_imN (by omega)⟩
  | succ k =>
    rw [te_imS, nI_leI (by omega) (by omega)]
    omega
theorem te_sh5 : ∀ j, j < 5 → ∃ k, 1 ≤ k ∧ k ≤ 255 ∧ (1 : Int32) <<< (nI j &&& 31) = nI k := by
  intro j hj
  have c : j = 0 ∨ j = 1 ∨ j = 2 ∨ j = 3 ∨ j = 4 := by omega
  rcases c with rfl | rfl | rfl | rfl | rfl
  · exact ⟨1, by decide, by decide, by decide⟩
  · exact ⟨2, by decide, by decide, by decide⟩
  · exact ⟨4, by decide, by decide, by decide⟩
  · exact ⟨8, by decide, by decide, by decide⟩
  · exact ⟨16, by decide, by decide, by decide⟩
section
variable {L : Nat} {zs : Nat → Int32} {h : Nat} {sq vi vs vt vp tot : Int32} {mb rc rs rt rl rv pd ot ol uS uT uC uP uK : Nat → Int32}

theorem te_s0 {post : Int32 → St2 → Prop} {i lc cc cp sn : Nat} (hi : i < 60) (hS : te_Sg L zs lc i mb rc rs rt rl rv) (hA : te_Ag L zs cc (cp - 1) mb rc rs rt rl rv) (h1 : lc ≤ i) (k0 : te_dK L zs i = 0) (F : ∀ (r : Int32) (mb rc rs rt rl rv : Nat → Int32), te_Sg L zs lc (i + 1) mb rc rs rt rl rv → te_Ag L zs cc (cp - 1) mb rc rs rt rl rv → post r (nI 4, nI 8, nI sn, vi, vs, vt, vp, nI 4, nI 16, nI h, tot, mb, rc, rs, rt, rl, rv, pd, ot, ol, uS, uT, uC, uP, uK)) :
    wpX_stageAllow post (nI 4, nI 8, nI sn, vi, vs, vt, vp, nI 4, nI 16, nI h, tot, mb, rc, rs, rt, rl, rv, pd, ot, ol, uS, uT, uC, uP, uK) (te_dS L zs i) (te_dT L zs i) (te_dC L zs i) (te_dP L zs i) := by
  obtain ⟨ca, cn, cx, mem, aS, aT, aC, aP, aN, ns, nt, nc, nv, nN, xs, xt, xc, xv, xN, hP, g1, g2, g3⟩ := hS
  have qp : te_pr 4 (te_dS L zs i) (te_dT L zs i) (te_dC L zs i) (te_dP L zs i) :=
    ⟨te_srT (te_mol _ (by decide) (by decide)), te_tgS (te_mol _ (by decide) (by decide)), ⟨_, te_mol _ (by decide) (by decide), rfl⟩, by
      have q := te_mol (te_ce L zs (5 * i + 4)) (m := 15) (by decide) (by decide)
      exact ⟨1 + te_mo (te_ce L zs (5 * i + 4)) 15, by omega, by omega, nI_add 1 _⟩⟩
  refine te_oA hP (by decide) qp (fun q => ?_) (fun q => ?_)
  · exact F _ _ _ _ _ _ _ ⟨ca + 1, cn, cx, _, _, _, _, _, _, _, _, _, _, _, _, _, _, _, _, te_PA hP q qp.1 qp.2.1, te_GMs g1 (by rw [k0]; decide), te_GRp g2 q h1 k0, te_GRs g3 (by rw [k0]; decide)⟩ (te_AgM hA (fun _ _ => rfl) (fun _ _ => pk_un (by omega)) (te_eq4h (by omega)))
  · subst q
    exact F _ _ _ _ _ _ _ ⟨24, cn, cx, _, _, _, _, _, _, _, _, _, _, _, _, _, _, _, _, hP, te_GMs g1 (by rw [k0]; decide), te_GRf g2, te_GRs g3 (by rw [k0]; decide)⟩ hA
theorem te_s2 {post : Int32 → St2 → Prop} {i lc cc cp sn : Nat} (hi : i < 60) (hS : te_Sg L zs lc i mb rc rs rt rl rv) (hA : te_Ag L zs cc (cp - 1) mb rc rs rt rl rv) (h1 : lc ≤ i) (k0 : te_dK L zs i = 2) (F : ∀ (r : Int32) (mb rc rs rt rl rv : Nat → Int32), te_Sg L zs lc (i + 1) mb rc rs rt rl rv → te_Ag L zs cc (cp - 1) mb rc rs rt rl rv → post r (nI 4, nI 8, nI sn, vi, vs, vt, vp, nI 4, nI 16, nI h, tot, mb, rc, rs, rt, rl, rv, pd, ot, ol, uS, uT, uC, uP, uK)) :
    wpX_stageNeverallow post (nI 4, nI 8, nI sn, vi, vs, vt, vp, nI 4, nI 16, nI h, tot, mb, rc, rs, rt, rl, rv, pd, ot, ol, uS, uT, uC, uP, uK) (te_dS L zs i) (te_dT L zs i) (te_dC L zs i) (te_dV L zs i) := by
  obtain ⟨ca, cn, cx, mem, aS, aT, aC, aP, aN, ns, nt, nc, nv, nN, xs, xt, xc, xv, xN, hP, g1, g2, g3⟩ := hS
  have qp : te_pr 4 (te_dS L zs i) (te_dT L zs i) (te_dC L zs i) (te_dV L zs i) :=
    ⟨te_srT (te_mol _ (by decide) (by decide)), te_tgS (te_mol _ (by decide) (by decide)), ⟨_, te_mol _ (by decide) (by decide), rfl⟩, te_sh5 _ (te_mol _ (by decide) (by decide))⟩
  refine te_oN hP (by decide) qp (fun q => ?_) (fun q => ?_)
  · exact F _ _ _ _ _ _ _ ⟨ca, cn + 1, cx, _, _, _, _, _, _, _, _, _, _, _, _, _, _, _, _, te_PN hP q qp.1 qp.2.1, te_GMs g1 (by rw [k0]; decide), te_GRs g2 (by rw [k0]; decide), te_GRp g3 q h1 k0⟩ (te_AgM hA (fun _ _ => rfl) (fun _ _ => pk_un (by omega)) (te_eq4h (by omega)))
  · subst q
    exact F _ _ _ _ _ _ _ ⟨ca, 6, cx, _, _, _, _, _, _, _, _, _, _, _, _, _, _, _, _, hP, te_GMs g1 (by rw [k0]; decide), te_GRs g2 (by rw [k0]; decide), te_GRf g3⟩ hA
theorem te_s3 {post : Int32 → St2 → Prop} {i lc cc cp sn : Nat} (hi : i < 60) (hS : te_Sg L zs lc i mb rc rs rt rl rv) (hA : te_Ag L zs cc (cp - 1) mb rc rs rt rl rv) (h1 : lc ≤ i) (k0 : te_dK L zs i = 3) (F : ∀ (r : Int32) (mb rc rs rt rl rv : Nat → Int32), te_Sg L zs lc (i + 1) mb rc rs rt rl rv → te_Ag L zs cc (cp - 1) mb rc rs rt rl rv → post r (nI 4, nI 8, nI sn, vi, vs, vt, vp, nI 4, nI 16, nI h, tot, mb, rc, rs, rt, rl, rv, pd, ot, ol, uS, uT, uC, uP, uK)) {a b c d : Nat} (ha : a < 8) (hb : b < 8) (hc : c < 4) (hd : d < 4) :
    wpX_stageTransition post (nI 4, nI 8, nI sn, vi, vs, vt, vp, nI 4, nI 16, nI h, tot, mb, rc, rs, rt, rl, rv, pd, ot, ol, uS, uT, uC, uP, uK) (te_sr a) (te_sr b) (nI c) (nI d) := by
  have hS' := te_SgS hS (by rw [k0]; decide) (by rw [k0]; decide) (by rw [k0]; decide)
  obtain ⟨ca, cn, cx, mem, aS, aT, aC, aP, aN, ns, nt, nc, nv, nN, xs, xt, xc, xv, xN, hP, g⟩ := hS'
  refine te_oX hP (by decide) (te_srT ha) (te_srT hb) ⟨c, hc, rfl⟩ ⟨d, hd, rfl⟩ (fun q => ?_) (fun q => ?_)
  · exact F _ _ _ _ _ _ _ ⟨ca, cn, cx + 1, _, _, _, _, _, _, _, _, _, _, _, _, _, _, _, _, te_PX hP q (te_srT ha) (Or.inl (te_srT hb)) ⟨d, hd, rfl⟩, g⟩ (te_AgM hA (fun _ _ => rfl) (fun _ _ => pk_un (by omega)) (te_eq4h (by omega)))
  · exact F _ _ _ _ _ _ _ ⟨ca, cn, cx, _, _, _, _, _, _, _, _, _, _, _, _, _, _, _, _, hP, g⟩ hA
theorem te_s1 {post : Int32 → St2 → Prop} {i lc cc cp sn : Nat} (hi : i < 60) (hS : te_Sg L zs lc i mb rc rs rt rl rv) (hA : te_Ag L zs cc (cp - 1) mb rc rs rt rl rv) (h1 : lc ≤ i) (k0 : te_dK L zs i = 1) (F : ∀ (r : Int32) (mb rc rs rt rl rv : Nat → Int32), te_Sg L zs lc (i + 1) mb rc rs rt rl rv → te_Ag L zs cc (cp - 1) mb rc rs rt rl rv → post r (nI 4, nI 8, nI sn, vi, vs, vt, vp, nI 4, nI 16, nI h, tot, mb, rc, rs, rt, rl, rv, pd, ot, ol, uS, uT, uC, uP, uK)) :
    wpX_stageMember post (nI 4, nI 8, nI sn, vi, vs, vt, vp, nI 4, nI 16, nI h, tot, mb, rc, rs, rt, rl, rv, pd, ot, ol, uS, uT, uC, uP, uK) (nI (te_dM L zs i)) (nI (te_dA L zs i)) := by
  obtain ⟨ca, cn, cx, mem, aS, aT, aC, aP, aN, ns, nt, nc, nv, nN, xs, xt, xc, xv, xN, hP, g1, g2, g3⟩ := hS
  have hx : te_dM L zs i < 4 := te_mol _ (by decide) (by decide)
  have ha : te_dA L zs i < 4 := te_mol _ (by decide) (by decide)
  have em : mem (96 + te_dM L zs i * 8 + te_dA L zs i) = te_bv (mb (12 + te_dM L zs i)) (te_dA L zs i) := hP.1 _ _ (by omega) (by omega)
  refine te_oM (by decide) hx (by omega) (fun q => ?_) (fun q => ?_)
  · exact F _ _ _ _ _ _ _ ⟨ca, cn, cx, _, _, _, _, _, _, _, _, _, _, _, _, _, _, _, _, te_PS hP (by omega) (by omega) rfl, te_GMp g1 h1 k0 pk_us (fun x p hp z => pk_un (by omega)), te_GRs g2 (by rw [k0]; decide), te_GRs g3 (by rw [k0]; decide)⟩ (te_AgM hA (fun _ _ => pk_un (by omega)) (fun _ _ => rfl) te_eq4r)
  · exact F _ _ _ _ _ _ _ ⟨ca, cn, cx, _, _, _, _, _, _, _, _, _, _, _, _, _, _, _, _, hP, te_GMp g1 h1 k0 (em.trans q) (fun _ _ _ _ => rfl), te_GRs g2 (by rw [k0]; decide), te_GRs g3 (by rw [k0]; decide)⟩ hA
theorem te_s5 {post : St2 → Prop} {i cc cp sn : Nat} (hA : te_Ag L zs cc (cp - 1) mb rc rs rt rl rv)
    (F : ∀ (mb rc rs rt rl rv : Nat → Int32), te_Sg L zs (i + 1) (i + 1) mb rc rs rt rl rv → te_Ag L zs cc (cp - 1) mb rc rs rt rl rv → post (nI 4, nI 8, nI sn, vi, vs, vt, vp, nI 4, nI 16, nI h, tot, mb, rc, rs, rt, rl, rv, pd, ot, ol, uS, uT, uC, uP, uK)) :
    wpX_stageClear post (nI 4, nI 8, nI sn, vi, vs, vt, vp, nI 4, nI 16, nI h, tot, mb, rc, rs, rt, rl, rv, pd, ot, ol, uS, uT, uC, uP, uK) :=
  te_xClr (fun y z f1 f2 f3 f4 => F _ _ _ _ _ _ (te_Sg0 f1 f3) (te_AgM hA f2 f4 te_eq4r))
theorem te_s4 {post : Int32 → St2 → Prop} {i lc cc cp sn : Nat} (hi : i < 60) (hS : te_Sg L zs lc i mb rc rs rt rl rv) (hA : te_Ag L zs cc (cp - 1) mb rc rs rt rl rv) (h1 : lc ≤ i) (hsn : sn ≤ i) (k0 : te_dK L zs i = 4)
    (F1 : ∀ (r vi vs vt vp : Int32), r < 1 → te_Sg L zs lc (i + 1) mb rc rs rt rl rv → post r (nI 4, nI 8, nI sn, vi, vs, vt, vp, nI 4, nI 16, nI h, tot, mb, rc, rs, rt, rl, rv, pd, ot, ol, uS, uT, uC, uP, uK))
    (F2 : ∀ (r : Int32) (mb rc rs rt rl rv : Nat → Int32), ¬ r < 1 → te_Sg L zs lc (i + 1) mb rc rs rt rl rv → te_Ag L zs lc i mb rc rs rt rl rv → post r (nI 4, nI 8, nI (sn + 1), -5, -5, -5, -5, nI 4, nI 16, nI h, tot, mb, rc, rs, rt, rl, rv, pd, ot, ol, uS, uT, uC, uP, uK)) :
    wpX_commit post (nI 4, nI 8, nI sn, vi, vs, vt, vp, nI 4, nI 16, nI h, tot, mb, rc, rs, rt, rl, rv, pd, ot, ol, uS, uT, uC, uP, uK) := by
  have hS' := hS
  obtain ⟨ca, cn, cx, mem, aS, aT, aC, aP, aN, ns, nt, nc, nv, nN, xs, xt, xc, xv, xN, hP, g1, g2, g3⟩ := hS
  rcases te_rows cn 4 (te_bp mem ca aS aT aC aP ns nt nc nv) with hz | ⟨n, s, x, hn, ho, hl⟩
  · refine te_xCoN hP (by decide) hz (fun y z a b d e hy hz3 hz' e1 e2 e3 hj => ?_)
    have q1 : ¬ nI (sn + 1) < 1 := nI_nlt (b := 1) (by omega) (by omega)
    have sg : te_Sg L zs lc (i + 1) y z a b d e := te_SgS (te_SgM hS' hy.2 hz' hj) (by rw [k0]; decide) (by rw [k0]; decide) (by rw [k0]; decide)
    have hP' := hP
    obtain ⟨-, ⟨u1, u2, u3⟩, ⟨r1, r2, r3⟩, -⟩ := hP'
    have ag : te_Ag L zs lc i y z a b d e := by
      refine ⟨ca, cn, cx, fun j => mem (96 + j), fun j => aS (24 + j), fun j => aT (24 + j), fun j => aC (24 + j), fun j => aP (24 + j), fun j => aN (1 + j), fun j => ns (6 + j), fun j => nt (6 + j), fun j => nc (6 + j), fun j => nv (6 + j), fun j => nN (1 + j), fun j => xs (12 + j), fun j => xt (12 + j), fun j => xc (12 + j), fun j => xv (12 + j), fun j => xN (1 + j), te_PM hP (fun x hx => ?_) (fun j hj => congrArg mem (by omega)) ⟨hz3.1.trans r1.symm, hz3.2.1.trans r2.symm, hz3.2.2.trans r3.symm⟩ ⟨rfl, rfl, rfl⟩ e1 e2 e3 (fun i hi => ⟨congrArg aS (by omega), congrArg aT (by omega), congrArg aC (by omega), congrArg aP (by omega)⟩) (fun i hi => ⟨congrArg ns (by omega), congrArg nt (by omega), congrArg nc (by omega), congrArg nv (by omega)⟩) (fun i hi => ⟨congrArg xs (by omega), congrArg xt (by omega), congrArg xc (by omega), congrArg xv (by omega)⟩), te_GMm g1 (fun j hj => congrArg mem (by omega)), te_GRm g2 (fun i hi => ⟨congrArg aS (by omega), congrArg aT (by omega), congrArg aC (by omega), congrArg aP (by omega)⟩), te_GRm g3 (fun i hi => ⟨congrArg ns (by omega), congrArg nt (by omega), congrArg nc (by omega), congrArg nv (by omega)⟩), ?_⟩
      · rw [show 0 * 12 + x = x by omega]
        exact hy.1 x hx
      · intro n s x hn hs hx m1 m2
        rw [te_nmM] at m1 m2
        rw [te_vecM, ← te_bpY m1 m2]
        exact hz n hn s x hs hx
    rw [nI_1 sn]
    exact F2 (nI (sn + 1)) y z a b d e q1 sg ag
  · exact te_xCoV hP (by decide) hn hl ho (F1 _ _ _ _ _ (by decide) (te_SgS hS' (by rw [k0]; decide) (by rw [k0]; decide) (by rw [k0]; decide)))
end
end
section
theorem te_knl (o a : Nat) : te_kn o a ≤ 5 := by
  unfold te_kn
  by_cases h1 : 2 < o
  · rw [if_pos h1]
    by_cases h2 : o = 3
    · rw [if_pos h2]; decide
    rw [if_neg h2]
    by_cases h3 : o = 9
    · rw [if_pos h3]; decide
    rw [if_neg h3]
    by_cases h4 : o = 4
    · rw [if_pos h4]; decide
    rw [if_neg h4]
    by_cases h5 : o = 5
    · rw [if_pos h5]; decide
    rw [if_neg h5]
    by_cases h6 : 7 < o
    · rw [if_pos h6]
      by_cases h7 : a = 0
      · rw [if_pos h7]; decide
      · rw [if_neg h7]; decide
    · rw [if_neg h6]; decide
  · rw [if_neg h1]; decide
section
variable {L : Nat} {zs : Nat → Int32} {h : Nat} {sq vi vs vt vp tot : Int32} {mb rc rs rt rl rv mem aS aT aC aP aN ns nt nc nv nN xs xt xc xv xN pd ot ol uS uT uC uP uK : Nat → Int32} {ca cn cx : Nat}
variable {post : Int32 → Prop} {J93 : Int32 → Int32 → Int32 → Int32 → Int32 → Int32 → Int32 → Int32 → Int32 → Int32 → Int32 → Int32 → Int32 → Int32 → Int32 → (Nat → Int32) → (Nat → Int32) → (Nat → Int32) → (Nat → Int32) → (Nat → Int32) → (Nat → Int32) → (Nat → Int32) → (Nat → Int32) → (Nat → Int32) → (Nat → Int32) → (Nat → Int32) → (Nat → Int32) → (Nat → Int32) → (Nat → Int32) → Prop} {J456 J465 J474 : Int32 → Int32 → Int32 → Int32 → Int32 → Int32 → Int32 → Int32 → Int32 → Int32 → Int32 → Int32 → (Nat → Int32) → (Nat → Int32) → (Nat → Int32) → (Nat → Int32) → (Nat → Int32) → (Nat → Int32) → (Nat → Int32) → (Nat → Int32) → (Nat → Int32) → (Nat → Int32) → (Nat → Int32) → (Nat → Int32) → (Nat → Int32) → (Nat → Int32) → Prop} {J715 : Int32 → Int32 → Prop} {J828 : Int32 → Prop} {x2 x3 x4 x5 x6 x7 x8 M : Int32} {kc ks : Nat}

theorem te_c837 {src tgt pv x10 x11 : Int32} {s c : Nat} (hP : te_P 4 0 ca cn cx mb rc rs rt rl rv mem aS aT aC aP aN ns nt nc nv nN xs xt xc xv xN) (hM : te_MK M mem) (hs1 : te_ln src) (hs2 : te_ln tgt) (hs : s < 4) (hc : c < 4)
    (nvh : ∀ x, x < 4 → te_nm mem 0 src s s = true → te_nm mem 0 tgt x s = true → te_vec mem 0 0 ca aS aT aC aP s x (nI c) &&& pv = 0) (k : J828 (nI (s + 1))) :
    ∀ d x, x + d = 4 → wL_law_837 post L zs J93 J715 J828 x2 x3 x4 x5 x6 x8 M x10 x11 src tgt (nI c) pv (nI s) kc ks (nI 4) (nI 8) sq vi vs vt vp (nI 4) (nI 16) (nI h) tot mb rc rs rt rl rv pd ot ol uS uT uC uP uK (d + 1) (nI x) := by
  intro d
  induction d with
  | zero =>
    intro x hx
    exact br_t (nI_le (a := 4) (by omega) (by omega)) (nm_r (nI_1 s) k)
  | succ d ih =>
    intro x hx
    have ih' := ih (x + 1) (by omega)
    refine br_f (nI_ge (b := 4) (by omega) (by decide)) (te_lMt hM hs1 hs hs ?_)
    cases q1 : te_nm mem 0 src s s
    · exact br_t rfl (nm_r (nI_1 x) ih')
    · refine br_f (by decide) (te_lMt hM hs2 (by omega) hs ?_)
      cases q2 : te_nm mem 0 tgt x s
      · exact br_t rfl (nm_r (nI_1 x) ih')
      · exact br_f (by decide) (te_oD hP (by decide) hs (by omega) hc (br_t (nvh x (by omega) q1 q2) (nm_r (nI_1 x) ih')))
theorem te_c828 {src tgt pv : Int32} {c p j : Nat} (hP : te_P 4 0 ca cn cx mb rc rs rt rl rv mem aS aT aC aP aN ns nt nc nv nN xs xt xc xv xN) (hM : te_MK M mem) (hs1 : te_ln src) (hs2 : te_ln tgt) (hc : c < 4)
    (nvh : ∀ s x, s < 4 → x < 4 → te_nm mem 0 src s s = true → te_nm mem 0 tgt x s = true → te_vec mem 0 0 ca aS aT aC aP s x (nI c) &&& pv = 0) (k : J715 (nI (p + 1)) (nI (j + 1))) :
    ∀ d s, s + d = 4 → wL_law_828 post L zs J93 J715 x2 x3 x4 x5 x6 x8 M (nI p) (nI j) src tgt (nI c) pv kc ks (nI 4) (nI 8) sq vi vs vt vp (nI 4) (nI 16) (nI h) tot mb rc rs rt rl rv pd ot ol uS uT uC uP uK (d + 1) (nI s) := by
  intro d
  induction d with
  | zero =>
    intro s hs
    exact br_t (nI_le (a := 4) (by omega) (by omega)) (nm_r (nI_1 p) (nm_r (nI_1 j) k))
  | succ d ih =>
    intro s hs
    exact br_f (nI_ge (b := 4) (by omega) (by decide)) ⟨_, te_c837 hP hM hs1 hs2 (by omega) hc (fun x hx => nvh s x (by omega) hx) (ih (s + 1) (by omega)) 4 0 (by omega)⟩
theorem te_c715 {cc cp : Nat} (hL : L ≤ 260) (hcp : cp < 100) (hP : te_P 4 0 ca cn cx mb rc rs rt rl rv mem aS aT aC aP aN ns nt nc nv nN xs xt xc xv xN) (hM : te_MK M mem) (g3 : te_GR (te_dK L zs) 2 6 cc (cp - 1) cn 0 (te_dS L zs) (te_dT L zs) (te_dC L zs) (te_dV L zs) ns nt nc nv) (nvh : ∀ n s x, n < cn → s < 4 → x < 4 → te_nm mem 0 (ns n) s s = true → te_nm mem 0 (nt n) x s = true → te_vec mem 0 0 ca aS aT aC aP s x (nc n) &&& nv n = 0)
    (k : J93 x3 x4 x5 (x6 + 1) (nI 4) (nI 8) sq vi vs vt vp (nI 4) (nI 16) (nI h) tot mb rc rs rt rl rv pd ot ol uS uT uC uP uK) :
    ∀ d j, j + d = cp - 1 → cc ≤ j → wL_law_715 post L zs J93 x2 x3 x4 x5 x6 (te_im cp) M kc ks (nI 4) (nI 8) sq vi vs vt vp (nI 4) (nI 16) (nI h) tot mb rc rs rt rl rv pd ot ol uS uT uC uP uK (d + 1) (nI (te_ct (te_dK L zs) 2 cc j)) (nI j) := by
  intro d
  induction d with
  | zero =>
    intro j hj hcj
    exact br_t ((te_imle (by omega) (by omega)).mpr (by omega)) (nm_e k)
  | succ d ih =>
    intro j hj hcj
    have ih' := ih (j + 1) (by omega) (by omega)
    have hct := te_ctle (K := te_dK L zs) (k := 2) (a := cc) j
    refine br_f (fun z => absurd ((te_imle (by omega) (by omega)).mp z) (by omega)) (nm_r (pk_mul 5 j) ?_)
    refine te_lCe (5 * j) hL (by omega) ?_ rfl
    refine te_lCe (5 * j + 1) hL (by omega) ?_ (nI_1 _)
    refine te_lKd (pk_eq (te_dK L zs j) 2 (fun k2 => ?_) (fun k2 => nm_r (nI_1 j) ?_) (by rfl) (by rfl) ?_ (by decide))
    · rw [te_ctY hcj k2] at ih'
      refine pk_le 6 (te_ct (te_dK L zs) 2 cc j) (fun q => nm_r (nI_1 _) (nm_r (nI_1 j) ih')) (fun q => ?_)
      refine te_lCe (5 * j + 1) hL (by omega) ?_ (nI_1 _)
      refine te_lMd 8 (by decide) (by decide) (fun l1 => te_lSr l1 ?_)
      refine te_lCe (5 * j + 2) hL (by omega) ?_ (nI_add _ 2)
      refine te_lMd 9 (by decide) (by decide) (fun l2 => te_lTg l2 ?_)
      refine te_lCe (5 * j + 3) hL (by omega) ?_ (nI_add _ 3)
      refine te_lMd 4 (by decide) (by decide) (fun l3 => ?_)
      refine te_lCe (5 * j + 4) hL (by omega) ?_ (nI_add _ 4)
      refine te_lMd 5 (by decide) (by decide) (fun l4 => nm_e ⟨_, te_c828 hP hM (te_srL l1) (te_tgL l2) l3 (fun s x hs hx m1 m2 => ?_) ih' 4 0 (by omega)⟩)
      obtain ⟨w1, w2, w3, w4⟩ := g3.2 j hcj (by omega) k2 q
      rw [Nat.zero_add] at w1 w2 w3 w4
      have hlt := te_ctl (K := te_dK L zs) (k := 2) hcj (show j < cp - 1 by omega) k2
      have hcn : (te_ct (te_dK L zs) 2 cc j) < cn := by
        have := g3.1
        omega
      have r := nvh _ s x hcn hs hx
      rw [w1, w2, w3, w4] at r
      exact r m1 m2
    · rw [te_ctN k2] at ih'
      exact ih'
    · have : te_dK L zs j ≤ 5 := te_knl _ _
      omega
theorem te_c490 {cc cp s x c : Nat} (hL : L ≤ 260) (hcp : cp < 100) (hP : te_P 4 0 ca cn cx mb rc rs rt rl rv mem aS aT aC aP aN ns nt nc nv nN xs xt xc xv xN) (hM : te_MK M mem) (g2 : te_GR (te_dK L zs) 0 24 cc (cp - 1) ca 0 (te_dS L zs) (te_dT L zs) (te_dC L zs) (te_dP L zs) aS aT aC aP) (hs : s < 4) (hx : x < 4) (hc : c < 4) (hh : h ≤ 8)
    (hpd : ∀ p, p < 4 → pd p = nI p) (hot : ∀ x c, x < 4 → c < 4 → ot (4 * x + c) = nI x ∧ ol (4 * x + c) = nI c)
    (k : ∀ (h1 : Nat) (tot1 : Int32) (S1 T1 C1 P1 K1 : Nat → Int32), h1 ≤ 8 → J474 (nI (c + 1)) (nI 4) (nI 8) sq vi vs vt vp (nI 4) (nI 16) (nI h1) tot1 mb rc rs rt rl rv pd ot ol S1 T1 C1 P1 K1) :
    ∀ d j, j + d = cp - 1 → cc ≤ j → wL_law_490 post L zs J93 J456 J465 J474 x2 x3 x4 x5 x6 x7 (te_im cp) M (nI s) (nI x) (nI c) kc ks (nI 4) (nI 8) sq vi vs vt vp (nI 4) (nI 16) (nI h) tot mb rc rs rt rl rv pd ot ol uS uT uC uP uK (d + 1) (te_or (fun i => te_rm mem 0 aS aT aC (0 + i) s x (nI c)) (fun i => aP (0 + i)) (min 24 (te_ct (te_dK L zs) 0 cc j))) (nI (te_ct (te_dK L zs) 0 cc j)) (nI j) := by
  intro d
  induction d with
  | zero =>
    intro j hj hcj
    have ej : j = cp - 1 := by omega
    have eca : min 24 (te_ct (te_dK L zs) 0 cc j) = ca := by rw [ej]; exact g2.1.symm
    rw [eca]
    refine br_t ((te_imle (by omega) (by omega)).mpr (by omega)) (te_oD hP (by decide) hs hx hc (br_t rfl ?_))
    rw [show (4 : Int32) * nI x + nI c = nI (4 * x + c) from (congrArg (· + nI c) (pk_mul 4 x)).trans (nI_add _ _)]
    refine te_oK hP (by decide) (by decide) (by decide) hh (by decide) (by decide) hs (by omega) (hpd s hs) (hot x c hx hc).1 (hot x c hx hc).2 hs hx (fun h1 tot1 S1 T1 C1 P1 K1 q => ?_)
    exact br_t rfl (nm_r (nI_1 c) (k h1 tot1 S1 T1 C1 P1 K1 q))
  | succ d ih =>
    intro j hj hcj
    have ih' := ih (j + 1) (by omega) (by omega)
    have hct := te_ctle (K := te_dK L zs) (k := 0) (a := cc) j
    refine br_f (fun z => absurd ((te_imle (by omega) (by omega)).mp z) (by omega)) (nm_r (pk_mul 5 j) ?_)
    refine te_lCe (5 * j) hL (by omega) ?_ rfl
    refine te_lCe (5 * j + 1) hL (by omega) ?_ (nI_1 _)
    refine te_lKd (pk_eq (te_dK L zs j) 0 (fun k0 => ?_) (fun k0 => nm_r (nI_1 j) ?_) (by rfl) (by rfl) ?_ (by decide))
    · rw [te_ctY hcj k0] at ih'
      refine pk_le 24 (te_ct (te_dK L zs) 0 cc j) (fun q => nm_r (nI_1 _) (nm_r (nI_1 j) ?_)) (fun q => ?_)
      · rw [show min 24 ((te_ct (te_dK L zs) 0 cc j) + 1) = min 24 (te_ct (te_dK L zs) 0 cc j) by omega] at ih'
        exact ih'
      obtain ⟨w1, w2, w3, w4⟩ := g2.2 j hcj (by omega) k0 q
      rw [show min 24 ((te_ct (te_dK L zs) 0 cc j) + 1) = (te_ct (te_dK L zs) 0 cc j) + 1 by omega] at ih'
      rw [show min 24 (te_ct (te_dK L zs) 0 cc j) = (te_ct (te_dK L zs) 0 cc j) by omega]
      have NO : te_rm mem 0 aS aT aC (0 + (te_ct (te_dK L zs) 0 cc j)) s x (nI c) = false → ∀ y1 y2, y1 = nI (te_ct (te_dK L zs) 0 cc j) + 1 → y2 = nI j + 1 → wL_law_490 post L zs J93 J456 J465 J474 x2 x3 x4 x5 x6 x7 (te_im cp) M (nI s) (nI x) (nI c) kc ks (nI 4) (nI 8) sq vi vs vt vp (nI 4) (nI 16) (nI h) tot mb rc rs rt rl rv pd ot ol uS uT uC uP uK (d + 1) (te_or (fun i => te_rm mem 0 aS aT aC (0 + i) s x (nI c)) (fun i => aP (0 + i)) (te_ct (te_dK L zs) 0 cc j)) y1 y2 := by
        intro e y1 y2 e1 e2
        rw [te_orF (M := (fun i => te_rm mem 0 aS aT aC (0 + i) s x (nI c))) (i := (te_ct (te_dK L zs) 0 cc j)) e] at ih'
        rw [e1, e2, nI_1, nI_1]
        exact ih'
      refine te_lCe (5 * j + 1) hL (by omega) ?_ (nI_1 _)
      refine te_lMd 8 (by decide) (by decide) (fun l1 => te_lSr l1 ?_)
      refine te_lCe (5 * j + 2) hL (by omega) ?_ (nI_add _ 2)
      refine te_lMd 9 (by decide) (by decide) (fun l2 => te_lTg l2 ?_)
      refine te_lCe (5 * j + 3) hL (by omega) ?_ (nI_add _ 3)
      refine te_lMd 4 (by decide) (by decide) (fun l3 => ?_)
      refine br_c (fun ec => ?_) (fun ec => fun y1 e1 y2 e2 => NO (te_rmN1 (by rw [w3]; exact ec)) y1 y2 e1 e2)
      refine te_lMt hM (te_srL l1) hs hs ?_
      cases q1 : te_nm mem 0 (te_dS L zs j) s s
      · have q1' := q1
        rw [← w1] at q1'
        have q3 : te_b (te_nm mem 0 (te_sr (te_mo (te_ce L zs (5 * j + 1)) 8)) s s) = 0 := congrArg te_b q1
        exact br_t q3 (fun y1 e1 y2 e2 => NO (te_rmN2 q1') y1 y2 e1 e2)
      · have q1' := q1
        rw [← w1] at q1'
        have q3 : te_b (te_nm mem 0 (te_sr (te_mo (te_ce L zs (5 * j + 1)) 8)) s s) = 1 := congrArg te_b q1
        refine br_f (fun z => absurd (q3.symm.trans z) (by decide)) (te_lMt hM (te_tgL l2) hx hs ?_)
        cases q2 : te_nm mem 0 (te_dT L zs j) x s
        · have q2' := q2
          rw [← w2] at q2'
          have q4 : te_b (te_nm mem 0 (te_tg (te_mo (te_ce L zs (5 * j + 2)) 9)) x s) = 0 := congrArg te_b q2
          exact br_t q4 (fun y1 e1 y2 e2 => NO (te_rmN3 q2') y1 y2 e1 e2)
        · have q2' := q2
          rw [← w2] at q2'
          have q4 : te_b (te_nm mem 0 (te_tg (te_mo (te_ce L zs (5 * j + 2)) 9)) x s) = 1 := congrArg te_b q2
          refine br_f (fun z => absurd (q4.symm.trans z) (by decide)) ?_
          refine te_lCe (5 * j + 4) hL (by omega) ?_ (nI_add _ 4)
          refine te_lMd 15 (by decide) (by decide) (fun l5 => ?_)
          rw [te_orT (M := (fun i => te_rm mem 0 aS aT aC (0 + i) s x (nI c))) (i := (te_ct (te_dK L zs) 0 cc j)) (te_rmY (by rw [w3]; exact ec) q1' q2'), w4] at ih'
          exact nm_e (nm_r (nI_1 _) (nm_r (nI_1 j) ih'))
    · rw [te_ctN k0] at ih'
      exact ih'
    · have : te_dK L zs j ≤ 5 := te_knl _ _
      omega
theorem te_c474 {cc cp s x : Nat} (hL : L ≤ 260) (hcp : cp < 100) (hP : te_P 4 0 ca cn cx mb rc rs rt rl rv mem aS aT aC aP aN ns nt nc nv nN xs xt xc xv xN) (hM : te_MK M mem) (g2 : te_GR (te_dK L zs) 0 24 cc (cp - 1) ca 0 (te_dS L zs) (te_dT L zs) (te_dC L zs) (te_dP L zs) aS aT aC aP) (hcc : cc ≤ cp - 1)
    (hpd : ∀ p, p < 4 → pd p = nI p) (hot : ∀ x c, x < 4 → c < 4 → ot (4 * x + c) = nI x ∧ ol (4 * x + c) = nI c) (hs : s < 4) (hx : x < 4)
    (k : ∀ (h : Nat) (tot : Int32) (uS uT uC uP uK : Nat → Int32), h ≤ 8 → J465 (nI (x + 1)) (nI 4) (nI 8) sq vi vs vt vp (nI 4) (nI 16) (nI h) tot mb rc rs rt rl rv pd ot ol uS uT uC uP uK) :
    ∀ d c, c + d = 4 → ∀ (h : Nat) (tot : Int32) (uS uT uC uP uK : Nat → Int32), h ≤ 8 → wL_law_474 post L zs J93 J456 J465 x2 x3 x4 x5 x6 (nI cc) (te_im cp) M (nI s) (nI x) kc ks (d + 1) (nI c) (nI 4) (nI 8) sq vi vs vt vp (nI 4) (nI 16) (nI h) tot mb rc rs rt rl rv pd ot ol uS uT uC uP uK := by
  intro d
  induction d with
  | zero =>
    intro c hc h tot uS uT uC uP uK hh
    exact br_t (nI_le (a := 4) (by omega) (by omega)) (nm_r (nI_1 x) (k h tot uS uT uC uP uK hh))
  | succ d ih =>
    intro c hc h tot uS uT uC uP uK hh
    refine br_f (nI_ge (b := 4) (by omega) (by decide)) ?_
    have q := te_c490 (post := post) (J93 := J93) (J456 := J456) (J465 := J465) (x2 := x2) (x3 := x3) (x4 := x4) (x5 := x5) (x6 := x6) (x7 := nI cc) (kc := kc) (ks := ks) (sq := sq) (vi := vi) (vs := vs) (vt := vt) (vp := vp) (tot := tot) (uS := uS) (uT := uT) (uC := uC) (uP := uP) (uK := uK) hL hcp hP hM g2 hs hx (show c < 4 by omega) hh hpd hot (fun h1 tot1 S1 T1 C1 P1 K1 z => ih (c + 1) (by omega) h1 tot1 S1 T1 C1 P1 K1 z) (cp - 1 - cc) cc (by omega) (Nat.le_refl _)
    rw [te_ctz cc (Nat.le_refl _)] at q
    exact ⟨_, q⟩
theorem te_c465 {cc cp s : Nat} (hL : L ≤ 260) (hcp : cp < 100) (hP : te_P 4 0 ca cn cx mb rc rs rt rl rv mem aS aT aC aP aN ns nt nc nv nN xs xt xc xv xN) (hM : te_MK M mem) (g2 : te_GR (te_dK L zs) 0 24 cc (cp - 1) ca 0 (te_dS L zs) (te_dT L zs) (te_dC L zs) (te_dP L zs) aS aT aC aP) (hcc : cc ≤ cp - 1)
    (hpd : ∀ p, p < 4 → pd p = nI p) (hot : ∀ x c, x < 4 → c < 4 → ot (4 * x + c) = nI x ∧ ol (4 * x + c) = nI c) (hs : s < 4)
    (k : ∀ (h : Nat) (tot : Int32) (uS uT uC uP uK : Nat → Int32), h ≤ 8 → J456 (nI (s + 1)) (nI 4) (nI 8) sq vi vs vt vp (nI 4) (nI 16) (nI h) tot mb rc rs rt rl rv pd ot ol uS uT uC uP uK) :
    ∀ d x, x + d = 4 → ∀ (h : Nat) (tot : Int32) (uS uT uC uP uK : Nat → Int32), h ≤ 8 → wL_law_465 post L zs J93 J456 x2 x3 x4 x5 x6 (nI cc) (te_im cp) M (nI s) kc ks (d + 1) (nI x) (nI 4) (nI 8) sq vi vs vt vp (nI 4) (nI 16) (nI h) tot mb rc rs rt rl rv pd ot ol uS uT uC uP uK := by
  intro d
  induction d with
  | zero =>
    intro x hx h tot uS uT uC uP uK hh
    exact br_t (nI_le (a := 4) (by omega) (by omega)) (nm_r (nI_1 s) (k h tot uS uT uC uP uK hh))
  | succ d ih =>
    intro x hx h tot uS uT uC uP uK hh
    exact br_f (nI_ge (b := 4) (by omega) (by decide)) ⟨_, te_c474 hL hcp hP hM g2 hcc hpd hot hs (by omega) (fun h1 tot1 S1 T1 C1 P1 K1 z => ih (x + 1) (by omega) h1 tot1 S1 T1 C1 P1 K1 z) 4 0 (by omega) h tot uS uT uC uP uK hh⟩
theorem te_c456 {cc cp : Nat} (hL : L ≤ 260) (hcp : cp < 100) (hP : te_P 4 0 ca cn cx mb rc rs rt rl rv mem aS aT aC aP aN ns nt nc nv nN xs xt xc xv xN) (hM : te_MK M mem) (g2 : te_GR (te_dK L zs) 0 24 cc (cp - 1) ca 0 (te_dS L zs) (te_dT L zs) (te_dC L zs) (te_dP L zs) aS aT aC aP) (hcc : cc ≤ cp - 1)
    (hpd : ∀ p, p < 4 → pd p = nI p) (hot : ∀ x c, x < 4 → c < 4 → ot (4 * x + c) = nI x ∧ ol (4 * x + c) = nI c) (g3 : te_GR (te_dK L zs) 2 6 cc (cp - 1) cn 0 (te_dS L zs) (te_dT L zs) (te_dC L zs) (te_dV L zs) ns nt nc nv) (nvh : ∀ n s x, n < cn → s < 4 → x < 4 → te_nm mem 0 (ns n) s s = true → te_nm mem 0 (nt n) x s = true → te_vec mem 0 0 ca aS aT aC aP s x (nc n) &&& nv n = 0)
    (k : ∀ (h : Nat) (tot : Int32) (uS uT uC uP uK : Nat → Int32), h ≤ 8 → J93 x3 x4 x5 (x6 + 1) (nI 4) (nI 8) sq vi vs vt vp (nI 4) (nI 16) (nI h) tot mb rc rs rt rl rv pd ot ol uS uT uC uP uK) :
    ∀ d s, s + d = 4 → ∀ (h : Nat) (tot : Int32) (uS uT uC uP uK : Nat → Int32), h ≤ 8 → wL_law_456 post L zs J93 x2 x3 x4 x5 x6 (nI cc) (te_im cp) M kc ks (d + 1) (nI s) (nI 4) (nI 8) sq vi vs vt vp (nI 4) (nI 16) (nI h) tot mb rc rs rt rl rv pd ot ol uS uT uC uP uK := by
  intro d
  induction d with
  | zero =>
    intro s hs h tot uS uT uC uP uK hh
    refine br_t (nI_le (a := 4) (by omega) (by omega)) ?_
    have q := te_c715 (post := post) (J93 := J93) (x2 := x2) (x3 := x3) (x4 := x4) (x5 := x5) (x6 := x6) (kc := kc) (ks := ks) hL hcp hP hM g3 nvh (k h tot uS uT uC uP uK hh) (cp - 1 - cc) cc (by omega) (Nat.le_refl _)
    rw [te_ctz cc (Nat.le_refl _)] at q
    exact ⟨_, q⟩
  | succ d ih =>
    intro s hs h tot uS uT uC uP uK hh
    exact br_f (nI_ge (b := 4) (by omega) (by decide)) ⟨_, te_c465 hL hcp hP hM g2 hcc hpd hot (by omega) (fun h1 tot1 S1 T1 C1 P1 K1 z => ih (s + 1) (by omega) h1 tot1 S1 T1 C1 P1 K1 z) 4 0 (by omega) h tot uS uT uC uP uK hh⟩
/-- the mask of the steps cc .. j - 1 -/
def te_mk (L : Nat) (zs : Nat → Int32) (cc j : Nat) (M : Int32) : Prop := ∀ x q, x < 4 → q < 4 → (bt M (q * 4 + x) = true ↔ te_GE (te_dK L zs) (te_dM L zs) (te_dA L zs) cc j x q)
theorem te_mk0 {cc : Nat} : te_mk L zs cc cc 0 := by
  intro x q hx hq
  rw [b_0]
  exact ⟨fun z => absurd z (by decide), fun z => absurd z te_GE0⟩
theorem te_mkS {cc j : Nat} {M : Int32} (g : te_mk L zs cc j M) (e : ¬ te_dK L zs j = 1) : te_mk L zs cc (j + 1) M :=
  fun x q hx hq => (g x q hx hq).trans (te_GEs (fun z => e z.1)).symm
theorem te_mkP {cc j : Nat} {M : Int32} (g : te_mk L zs cc j M) (hj : cc ≤ j) (e : te_dK L zs j = 1) (hm : te_dM L zs j < 4) (ha : te_dA L zs j < 4) : te_mk L zs cc (j + 1) (M ||| ((1 : Int32) <<< (nI (te_dA L zs j * 4 + te_dM L zs j) &&& 31))) := by
  intro x q hx hq
  rw [b_or, b_shl _ (by omega) 1 (show q * 4 + x < 32 by omega), te_1b _ (show q * 4 + x - (te_dA L zs j * 4 + te_dM L zs j) < 32 by omega)]
  by_cases z : te_dM L zs j = x ∧ te_dA L zs j = q
  · obtain ⟨z1, z2⟩ := z
    rw [z1, z2, Nat.sub_self]
    exact ⟨fun _ => ⟨j, hj, by omega, e, z1, z2⟩, fun _ => by simp⟩
  · have f : (decide (te_dA L zs j * 4 + te_dM L zs j ≤ q * 4 + x) && decide (q * 4 + x - (te_dA L zs j * 4 + te_dM L zs j) = 0)) = false := by
      by_cases y : te_dA L zs j * 4 + te_dM L zs j ≤ q * 4 + x
      · rw [decide_eq_false (show ¬ q * 4 + x - (te_dA L zs j * 4 + te_dM L zs j) = 0 by omega), Bool.and_false]
      · rw [decide_eq_false y, Bool.false_and]
    rw [f, Bool.or_false]
    exact (g x q hx hq).trans (te_GEs (fun y => z y.2)).symm
theorem te_c379 {cc cp : Nat} (hL : L ≤ 260) (hcp : cp < 100) (hP : te_P 4 0 ca cn cx mb rc rs rt rl rv mem aS aT aC aP aN ns nt nc nv nN xs xt xc xv xN) (g1 : te_GM (te_dK L zs) (te_dM L zs) (te_dA L zs) cc (cp - 1) 0 mem) (g2 : te_GR (te_dK L zs) 0 24 cc (cp - 1) ca 0 (te_dS L zs) (te_dT L zs) (te_dC L zs) (te_dP L zs) aS aT aC aP) (g3 : te_GR (te_dK L zs) 2 6 cc (cp - 1) cn 0 (te_dS L zs) (te_dT L zs) (te_dC L zs) (te_dV L zs) ns nt nc nv) (nvh : ∀ n s x, n < cn → s < 4 → x < 4 → te_nm mem 0 (ns n) s s = true → te_nm mem 0 (nt n) x s = true → te_vec mem 0 0 ca aS aT aC aP s x (nc n) &&& nv n = 0) (hcc : cc ≤ cp - 1) (hh : h ≤ 8)
    (hpd : ∀ p, p < 4 → pd p = nI p) (hot : ∀ x c, x < 4 → c < 4 → ot (4 * x + c) = nI x ∧ ol (4 * x + c) = nI c)
    (k : ∀ (h : Nat) (tot : Int32) (uS uT uC uP uK : Nat → Int32), h ≤ 8 → J93 x3 x4 x5 (x6 + 1) (nI 4) (nI 8) sq vi vs vt vp (nI 4) (nI 16) (nI h) tot mb rc rs rt rl rv pd ot ol uS uT uC uP uK) :
    ∀ d j M, j + d = cp - 1 → cc ≤ j → te_mk L zs cc j M → wL_law_379 post L zs J93 x2 x3 x4 x5 x6 (nI cc) (te_im cp) kc ks (nI 4) (nI 8) sq vi vs vt vp (nI 4) (nI 16) (nI h) tot mb rc rs rt rl rv pd ot ol uS uT uC uP uK (d + 1) M (nI j) := by
  intro d
  induction d with
  | zero =>
    intro j M hj hcj g
    have ej : j = cp - 1 := by omega
    rw [ej] at g
    have hM : te_MK M mem := fun x q hx hq => (g x q hx hq).trans (g1 x q hx hq).symm
    exact br_t ((te_imle (by omega) (by omega)).mpr (by omega)) ⟨_, te_c456 hL hcp hP hM g2 hcc hpd hot g3 nvh k 4 0 (by omega) h tot uS uT uC uP uK hh⟩
  | succ d ih =>
    intro j M hj hcj g
    refine br_f (fun z => absurd ((te_imle (by omega) (by omega)).mp z) (by omega)) (nm_r (pk_mul 5 j) ?_)
    refine te_lCe (5 * j) hL (by omega) ?_ rfl
    refine te_lCe (5 * j + 1) hL (by omega) ?_ (nI_1 _)
    refine te_lKd (pk_eq (te_dK L zs j) 1 (fun k0 => ?_) (fun k0 => nm_r (nI_1 j) (ih (j + 1) M (by omega) (by omega) (te_mkS g k0))) (by rfl) (by rfl) ?_ (by decide))
    · refine te_lCe (5 * j + 3) hL (by omega) ?_ (nI_add _ 3)
      refine te_lMd 4 (by decide) (by decide) (fun l1 => ?_)
      refine te_lCe (5 * j + 2) hL (by omega) ?_ (nI_add _ 2)
      refine te_lMd 4 (by decide) (by decide) (fun l2 => ?_)
      rw [te_ml (K := 4) _ 4 _ rfl]
      exact nm_e (nm_r (nI_1 j) (ih (j + 1) _ (by omega) (by omega) (te_mkP g hcj k0 l2 l1)))
    · have : te_dK L zs j ≤ 5 := te_knl _ _
      omega
theorem te_c362 {cc cp : Nat} (hL : L ≤ 260) (hcp : cp < 100) (hA : te_Ag L zs cc (cp - 1) mb rc rs rt rl rv) (hcc : cc ≤ cp - 1) (hh : h ≤ 8)
    (hpd : ∀ p, p < 4 → pd p = nI p) (hot : ∀ x c, x < 4 → c < 4 → ot (4 * x + c) = nI x ∧ ol (4 * x + c) = nI c)
    (k : ∀ (h : Nat) (tot : Int32) (uS uT uC uP uK : Nat → Int32), h ≤ 8 → J93 x3 (te_im cc) (te_im cp) (x6 + 1) (nI 4) (nI 8) sq vi vs vt vp (nI 4) (nI 16) (nI h) tot mb rc rs rt rl rv pd ot ol uS uT uC uP uK) :
    wL_law_362 post L zs J93 x2 x3 (te_im cc) (te_im cp) x6 kc ks (nI 4) (nI 8) sq vi vs vt vp (nI 4) (nI 16) (nI h) tot mb rc rs rt rl rv pd ot ol uS uT uC uP uK := by
  obtain ⟨ca, cn, cx, mem, aS, aT, aC, aP, aN, ns, nt, nc, nv, nN, xs, xt, xc, xv, xN, hP, g1, g2, g3, nvh⟩ := hA
  exact nm_r (te_im1 cc) ⟨_, te_c379 hL hcp hP g1 g2 g3 nvh hcc hh hpd hot k (cp - 1 - cc) cc 0 (by omega) (Nat.le_refl _) te_mk0⟩
end
end
section
section
variable {L : Nat} {zs : Nat → Int32} {pd ot ol : Nat → Int32} {post : Int32 → Prop} {kc ks : Nat}
theorem te_c93 (hL : L ≤ 260) (hp : post 1) (hpd : ∀ p, p < 4 → pd p = nI p) (hot : ∀ x c, x < 4 → c < 4 → ot (4 * x + c) = nI x ∧ ol (4 * x + c) = nI c) :
    ∀ (d m lc cc cp sn h : Nat) (vi vs vt vp tot : Int32) (mb rc rs rt rl rv uS uT uC uP uK : Nat → Int32), m + d = L / 5 + 1 → te_Sg L zs lc (m - 1) mb rc rs rt rl rv → te_Ag L zs cc (cp - 1) mb rc rs rt rl rv → lc ≤ m - 1 → cc ≤ cp - 1 → cp ≤ m - 1 → sn ≤ m - 1 → h ≤ 8 →
      wL_law_93 post L zs (nI (L / 5)) kc ks (d + 1) (te_im lc) (te_im cc) (te_im cp) (te_im m) (nI 4) (nI 8) (nI sn) vi vs vt vp (nI 4) (nI 16) (nI h) tot mb rc rs rt rl rv pd ot ol uS uT uC uP uK := by
  intro d
  induction d with
  | zero =>
    intro m lc cc cp sn h vi vs vt vp tot mb rc rs rt rl rv uS uT uC uP uK hm hS hA h1 h2 h3 h4 hh
    have e : m = L / 5 + 1 := by omega
    subst e
    refine br_t ?_ hp
    rw [te_imS]
    exact nI_le (Nat.le_refl _) (by omega)
  | succ d ih =>
    intro m lc cc cp sn h vi vs vt vp tot mb rc rs rt rl rv uS uT uC uP uK hm hS hA h1 h2 h3 h4 hh
    cases m with
    | zero =>
      refine br_f (te_nle te_imN (by omega)) (br_t te_imN (te_c362 hL (by omega) hA h2 hh hpd hot (fun h tot uS uT uC uP uK hh => ?_)))
      have q := ih 1 lc cc cp sn h vi vs vt vp tot mb rc rs rt rl rv uS uT uC uP uK (by omega) hS hA h1 h2 h3 h4 hh
      rw [te_imS] at q
      rw [te_im1]
      exact q
    | succ i =>
      have hS : te_Sg L zs lc i mb rc rs rt rl rv := hS
      have FF : ∀ (lc' cc' cp' sn' : Nat) (vi vs vt vp : Int32) (mb rc rs rt rl rv : Nat → Int32), te_Sg L zs lc' (i + 1) mb rc rs rt rl rv → te_Ag L zs cc' (cp' - 1) mb rc rs rt rl rv → lc' ≤ i + 1 → cc' ≤ cp' - 1 → cp' ≤ i + 1 → sn' ≤ i + 1 →
          wL_law_362 post L zs (wL_law_93 post L zs (nI (L / 5)) kc ks (d + 1)) (nI (L / 5)) (te_im lc') (te_im cc') (te_im cp') (nI i) kc ks (nI 4) (nI 8) (nI sn') vi vs vt vp (nI 4) (nI 16) (nI h) tot mb rc rs rt rl rv pd ot ol uS uT uC uP uK := by
        intro lc' cc' cp' sn' vi vs vt vp mb rc rs rt rl rv s1 a1 b1 b2 b3 b4
        refine te_c362 hL (by omega) a1 b2 hh hpd hot (fun h tot uS uT uC uP uK hh => ?_)
        have q := ih (i + 2) lc' cc' cp' sn' h vi vs vt vp tot mb rc rs rt rl rv uS uT uC uP uK (by omega) s1 a1 b1 b2 b3 b4 hh
        rw [te_imS] at q
        rw [nI_1 i]
        exact q
      rw [te_imS i]
      refine br_f (nI_ge (by omega) (by omega)) (br_f (nI_pos (by omega)) (nm_r (pk_mul 5 i) ?_))
      refine te_lCe (5 * i + 1) hL (by omega) ?_ (nI_1 _)
      refine te_lCe (5 * i + 2) hL (by omega) ?_ (nI_add _ 2)
      refine te_lCe (5 * i + 3) hL (by omega) ?_ (nI_add _ 3)
      refine te_lCe (5 * i + 4) hL (by omega) ?_ (nI_add _ 4)
      refine te_lCe (5 * i) hL (by omega) ?_ rfl
      have hk5 : te_dK L zs i ≤ 5 := te_knl _ _
      refine te_lKd (pk_eq (te_dK L zs i) 0 (fun k0 => ?_) (fun k0 => ?_) (by rfl) (by rfl) (by omega) (by decide))
      · refine te_lMd 8 (by decide) (by decide) (fun l1 => te_lSr l1 (te_lMd 9 (by decide) (by decide) (fun l2 => te_lTg l2 (te_lMd 4 (by decide) (by decide) (fun l3 => te_lMd 15 (by decide) (by decide) (fun l4 => ?_))))))
        exact te_s0 (by omega) hS hA h1 k0 (fun r mb rc rs rt rl rv s1 a1 => FF lc cc cp sn vi vs vt vp mb rc rs rt rl rv s1 a1 (by omega) h2 (by omega) (by omega))
      refine pk_eq (te_dK L zs i) 1 (fun k1 => ?_) (fun k1 => ?_) (by rfl) (by rfl) (by omega) (by decide)
      · refine te_lMd 4 (by decide) (by decide) (fun l1 => te_lMd 4 (by decide) (by decide) (fun l2 => ?_))
        exact te_s1 (by omega) hS hA h1 k1 (fun r mb rc rs rt rl rv s1 a1 => FF lc cc cp sn vi vs vt vp mb rc rs rt rl rv s1 a1 (by omega) h2 (by omega) (by omega))
      refine pk_eq (te_dK L zs i) 2 (fun k2 => ?_) (fun k2 => ?_) (by rfl) (by rfl) (by omega) (by decide)
      · refine te_lMd 8 (by decide) (by decide) (fun l1 => te_lSr l1 (te_lMd 9 (by decide) (by decide) (fun l2 => te_lTg l2 (te_lMd 4 (by decide) (by decide) (fun l3 => te_lMd 5 (by decide) (by decide) (fun l4 => ?_))))))
        exact te_s2 (by omega) hS hA h1 k2 (fun r mb rc rs rt rl rv s1 a1 => FF lc cc cp sn vi vs vt vp mb rc rs rt rl rv s1 a1 (by omega) h2 (by omega) (by omega))
      refine pk_eq (te_dK L zs i) 3 (fun k3 => ?_) (fun k3 => ?_) (by rfl) (by rfl) (by omega) (by decide)
      · refine te_lMd 8 (by decide) (by decide) (fun l1 => te_lSr l1 (te_lMd 8 (by decide) (by decide) (fun l2 => te_lSr l2 (te_lMd 4 (by decide) (by decide) (fun l3 => te_lMd 4 (by decide) (by decide) (fun l4 => ?_))))))
        exact te_s3 (by omega) hS hA h1 k3 (fun r mb rc rs rt rl rv s1 a1 => FF lc cc cp sn vi vs vt vp mb rc rs rt rl rv s1 a1 (by omega) h2 (by omega) (by omega)) l1 l2 l3 l4
      refine pk_eq (te_dK L zs i) 4 (fun k4 => ?_) (fun k4 => ?_) (by rfl) (by rfl) (by omega) (by decide)
      · refine te_s4 (by omega) hS hA h1 h4 k4 (fun r vi vs vt vp hr s1 => br_t hr (FF lc cc cp sn vi vs vt vp mb rc rs rt rl rv s1 hA (by omega) h2 (by omega) (by omega))) (fun r mb rc rs rt rl rv hr s1 a1 => br_f hr ?_)
        have q := FF lc lc (i + 1) (sn + 1) (-5) (-5) (-5) (-5) mb rc rs rt rl rv s1 a1 (by omega) h1 (by omega) (by omega)
        rw [te_imS] at q
        exact q
      · refine te_s5 (i := i) hA (fun mb rc rs rt rl rv s1 a1 => ?_)
        have q := FF (i + 1) cc cp sn vi vs vt vp mb rc rs rt rl rv s1 a1 (by omega) h2 (by omega) (by omega)
        rw [te_imS] at q
        exact q
end
section
variable {L : Nat} {zs : Nat → Int32} {pd ot ol : Nat → Int32} {post : Int32 → Prop} {kc ks : Nat}
def te_ob (x c : Nat) (ot ol : Nat → Int32) : Prop := ∀ x' c', x' < 4 → c' < 4 → (x' < x ∨ (x' = x ∧ c' < c)) → ot (4 * x' + c') = nI x' ∧ ol (4 * x' + c') = nI c'
theorem te_obS {x c : Nat} {ot ol : Nat → Int32} (q : te_ob x c ot ol) (hx : x < 4) (hc : c < 4) : te_ob x (c + 1) (upd ot (4 * x + c) (nI x)) (upd ol (4 * x + c) (nI c)) := by
  intro x' c' h1 h2 h3
  by_cases e : x' = x ∧ c' = c
  · obtain ⟨rfl, rfl⟩ := e
    rw [pk_us, pk_us]
    exact ⟨rfl, rfl⟩
  · have n : 4 * x' + c' ≠ 4 * x + c := by omega
    rw [pk_un n, pk_un n]
    exact q x' c' h1 h2 (by omega)
theorem te_i44 {J : Int32 → Int32 → Int32 → Int32 → Int32 → Int32 → Int32 → Int32 → Int32 → Int32 → Int32 → Int32 → (Nat → Int32) → (Nat → Int32) → (Nat → Int32) → (Nat → Int32) → (Nat → Int32) → (Nat → Int32) → (Nat → Int32) → (Nat → Int32) → (Nat → Int32) → (Nat → Int32) → (Nat → Int32) → (Nat → Int32) → (Nat → Int32) → (Nat → Int32) → Prop} {x : Nat} (hx : x < 4) (k : ∀ ot ol, te_ob x 4 ot ol → J (nI (x + 1)) (nI 4) (nI 8) 0 (-5) (-5) (-5) (-5) (nI 4) (nI (4 * (x + 1))) (nI 0) 0 (fun _ => 0) (fun _ => 0) (fun _ => 0) (fun _ => 0) (fun _ => 0) (fun _ => 0) pd ot ol (fun _ => 0) (fun _ => 0) (fun _ => 0) (fun _ => 0) (fun _ => 0)) :
    ∀ d c ot ol, c + d = 4 → te_ob x c ot ol → wL_law_44 post L zs J (nI x) kc ks (d + 1) (nI c) (nI 4) (nI 8) 0 (-5) (-5) (-5) (-5) (nI 4) (nI (4 * x + c)) (nI 0) 0 (fun _ => 0) (fun _ => 0) (fun _ => 0) (fun _ => 0) (fun _ => 0) (fun _ => 0) pd ot ol (fun _ => 0) (fun _ => 0) (fun _ => 0) (fun _ => 0) (fun _ => 0) := by
  intro d
  induction d with
  | zero =>
    intro c ot ol hc q
    have e : c = 4 := by omega
    subst e
    exact br_t (nI_le (a := 4) (Nat.le_refl _) (by decide)) (nm_r (nI_1 x) (k ot ol q))
  | succ d ih =>
    intro c ot ol hc q
    refine br_f (nI_ge (b := 4) (by omega) (by decide)) (te_oO (t := 4) (by decide) (by omega) hx (by omega) (br_t ?_ (nm_r (nI_1 c) (ih (c + 1) _ _ (by omega) (te_obS q hx (by omega))))))
    exact ((congrArg (· + nI c) (pk_mul 4 x)).trans (nI_add _ _)).symm
theorem te_i37 (hL : L ≤ 260) (hp : post 1) (hpd : ∀ p, p < 4 → pd p = nI p) : ∀ d x ot ol, x + d = 4 → te_ob x 0 ot ol → wL_law_37 post L zs kc ks (d + 1) (nI x) (nI 4) (nI 8) 0 (-5) (-5) (-5) (-5) (nI 4) (nI (4 * x)) (nI 0) 0 (fun _ => 0) (fun _ => 0) (fun _ => 0) (fun _ => 0) (fun _ => 0) (fun _ => 0) pd ot ol (fun _ => 0) (fun _ => 0) (fun _ => 0) (fun _ => 0) (fun _ => 0) := by
  intro d
  induction d with
  | zero =>
    intro x ot ol hx q
    have e : x = 4 := by omega
    subst e
    have sg : te_Sg L zs 0 0 (fun _ => 0) (fun _ => 0) (fun _ => 0) (fun _ => 0) (fun _ => 0) (fun _ => 0) := te_Sg0 (fun _ _ => rfl) (fun _ _ => rfl)
    have ag : te_Ag L zs 0 0 (fun _ => 0) (fun _ => 0) (fun _ => 0) (fun _ => 0) (fun _ => 0) (fun _ => 0) :=
      ⟨0, 0, 0, fun _ => 0, fun _ => 0, fun _ => 0, fun _ => 0, fun _ => 0, fun _ => 0, fun _ => 0, fun _ => 0, fun _ => 0, fun _ => 0, fun _ => 0, fun _ => 0, fun _ => 0, fun _ => 0, fun _ => 0, fun _ => 0, te_P00, te_GM0 (fun _ _ => rfl), te_GR0, te_GR0, fun n s x hn => absurd hn (Nat.not_lt_zero _)⟩
    refine br_t (nI_le (a := 4) (Nat.le_refl _) (by decide)) ⟨by decide, nm_r (pk_div (d := 5) (show L < 2 ^ 31 by omega) (by decide) (by decide)) ⟨L / 5 + 1 + 1, ?_⟩⟩
    exact te_c93 hL hp hpd (fun x c h1 h2 => q x c h1 h2 (Or.inl h1)) (L / 5 + 1) 0 0 0 0 0 0 _ _ _ _ _ _ _ _ _ _ _ _ _ _ _ _ (by omega) sg ag (Nat.le_refl _) (Nat.le_refl _) (Nat.le_refl _) (Nat.le_refl _) (by omega)
  | succ d ih =>
    intro x ot ol hx q
    exact br_f (nI_ge (b := 4) (by omega) (by decide)) ⟨_, te_i44 (by omega) (fun ot ol q' => ih (x + 1) ot ol (by omega) (fun x' c' h1 h2 h3 => q' x' c' h1 h2 (by omega))) 4 0 ot ol (by omega) q⟩
theorem te_i13 (hL : L ≤ 260) (hp : post 1) : ∀ d p pd, p + d = 4 → (∀ j, j < p → pd j = nI j) → wL_law_13 post L zs kc ks (d + 1) (nI p) (nI 4) (nI 8) 0 (-5) (-5) (-5) (-5) (nI p) (nI 0) (nI 0) 0 (fun _ => 0) (fun _ => 0) (fun _ => 0) (fun _ => 0) (fun _ => 0) (fun _ => 0) pd (fun _ => 0) (fun _ => 0) (fun _ => 0) (fun _ => 0) (fun _ => 0) (fun _ => 0) (fun _ => 0) := by
  intro d
  induction d with
  | zero =>
    intro p pd h1 q
    have e : p = 4 := by omega
    subst e
    exact br_t (nI_le (a := 4) (Nat.le_refl _) (by decide)) ⟨_, te_i37 hL hp q 4 0 _ _ (by omega) (fun x' c' _ _ z => absurd z (by omega))⟩
  | succ d ih =>
    intro p pd h1 q
    refine br_f (nI_ge (b := 4) (by omega) (by decide)) (te_oS (t := 4) (by decide) (by omega) (by omega) (br_t rfl (nm_r (nI_1 p) (ih (p + 1) _ (by omega) (fun j hj => ?_)))))
    by_cases e : j = p
    · subst e; exact pk_us
    · rw [pk_un e]; exact q j (by omega)
end
theorem i_vc (xs : Nat → Int32) (L : Nat) (hL : L ≤ 260) : wpL_law (fun r => r = 1) L xs := by
  refine ⟨14, 726, by decide, by decide, ?_⟩
  unfold wpX_init
  dsimp only
  refine ⟨by decide, by decide, by decide, by decide, by decide, by decide, by decide, by decide, by decide, by decide, by decide, by decide, by decide, by decide, by decide, by decide, by decide, by decide, by decide, by decide, by decide, by decide, by decide, by decide, by decide, by decide, by decide, by decide, ?_⟩
  refine br_t (by decide) (br_t (by decide) ?_)
  refine br_t (by decide) (br_t (by decide) ?_)
  exact ⟨_, te_i13 (post := fun r => r = 1) hL rfl 4 0 _ (by omega) (fun j hj => absurd hj (Nat.not_lt_zero _))⟩
end
