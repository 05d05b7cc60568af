section
theorem pk_us {f : Nat → Int32} {k : Nat} {x : Int32} : upd f k x k = x := if_pos rfl
theorem pk_un {f : Nat → Int32} {k j : Nat} {x : Int32} (h : j ≠ k) : upd f k x j = f j := if_neg h
theorem pk_sub {a b : Nat} (h : b ≤ a) : nI a - nI b = nI (a - b) := by
  obtain ⟨c, rfl⟩ : ∃ c, a = c + b := ⟨a - b, by omega⟩
  rw [← nI_add, Int32.add_sub_cancel, Nat.add_sub_cancel]
theorem pk_m1 (n : Nat) : nI (n + 1) + (-1) = nI n := by
  rw [← nI_1, Int32.add_assoc, show (1 : Int32) + (-1) = 0 from rfl, Int32.add_zero]
theorem pk_mul (a b : Nat) : nI a * nI b = nI (a * b) := (Int32.ofNat_mul a b).symm
theorem pk_div {a d : Nat} (ha : a < 2 ^ 31) (h0 : 0 < d) (hd : d < 2 ^ 31) : nI a / nI d = nI (a / d) := by
  apply Int32.toInt_inj.mp
  rw [lg_idiv_nonneg (by rw [nI_toInt ha]; omega) (by rw [nI_toInt hd]; omega), nI_toInt ha, nI_toInt hd, nI_toInt (Nat.lt_of_le_of_lt (Nat.div_le_self a d) ha)]
  first | rfl | exact (Int.natCast_ediv _ _).symm
theorem pk_rem {a d : Nat} (ha : a < 2 ^ 31) (h0 : 0 < d) (hd : d < 2 ^ 31) : nI a - nI a / nI d * nI d = nI (a % d) := by
  rw [pk_div ha h0 hd, pk_mul, pk_sub (Nat.div_mul_le_self a d)]
  exact congrArg nI (by have := Nat.div_add_mod' a d; omega)
theorem pk_ix (x : Int32) {n : Nat} (hn : n < 2 ^ 31) : x < 0 ∨ nI n ≤ x ∨ ∃ j : Nat, j < n ∧ x = nI j := by
  by_cases h : x < 0
  · exact Or.inl h
  · obtain ⟨j, hj, rfl⟩ := nI_of h
    by_cases h2 : j < n
    · exact Or.inr (Or.inr ⟨j, h2, rfl⟩)
    · exact Or.inr (Or.inl (nI_le (by omega) hj))
theorem pk_le {x y : Int32} {A B : Prop} (a b : Nat) (f : a ≤ b → A) (g : b < a → B) (hx : x = nI a := by rfl) (hy : y = nI b := by rfl) (ha : a < 2 ^ 31 := by omega) (hb : b < 2 ^ 31 := by omega) : (x ≤ y → A) ∧ (¬ x ≤ y → B) := by
  subst hx hy
  rw [nI_leI ha hb]
  exact ⟨f, fun z => g (by omega)⟩
theorem pk_lt {x y : Int32} {A B : Prop} (a b : Nat) (f : a < b → A) (g : b ≤ a → B) (hx : x = nI a := by rfl) (hy : y = nI b := by rfl) (ha : a < 2 ^ 31 := by omega) (hb : b < 2 ^ 31 := by omega) : (x < y → A) ∧ (¬ x < y → B) := by
  subst hx hy
  rw [nI_ltI ha hb]
  exact ⟨f, fun z => g (by omega)⟩
theorem pk_eq {x y : Int32} {A B : Prop} (a b : Nat) (f : a = b → A) (g : a ≠ b → B) (hx : x = nI a := by rfl) (hy : y = nI b := by rfl) (ha : a < 2 ^ 31 := by omega) (hb : b < 2 ^ 31 := by omega) : (x = y → A) ∧ (¬ x = y → B) := by
  subst hx hy
  rw [nI_eq ha hb]
  exact ⟨f, g⟩
theorem pk_in {x : Int32} (n N : Nat) (h : n < N) (hx : x = nI n := by rfl) (hN : N < 2 ^ 31 := by omega) : vp_in x N := by
  subst hx
  exact vp_in_nI h hN
theorem pk_cl {x : Int32} (n : Nat) (hx : x = nI n := by rfl) (h : n < 2 ^ 31 := by omega) : x.toNatClampNeg = n := by
  subst hx
  exact nI_clamp h
theorem pk_least (P : Nat → Prop) (h : ∃ k, P k) : ∃ k, P k ∧ ∀ j, j < k → ¬ P j := by
  obtain ⟨k, hk⟩ := h
  induction k using Nat.strongRecOn with
  | ind k ih =>
    by_cases e : ∃ j, j < k ∧ P j
    · obtain ⟨j, hj, pj⟩ := e
      exact ih j hj pj
    · exact ⟨k, hk, fun j hj pj => e ⟨j, hj, pj⟩⟩
def bt (x : Int32) (i : Nat) : Bool := x.toBitVec.getLsbD i
theorem b_ext {x y : Int32} (h : ∀ i, i < 32 → bt x i = bt y i) : x = y := Int32.toBitVec_inj.mp (BitVec.eq_of_getLsbD_eq (fun i hi => h i hi))
theorem b_or (x y : Int32) (i : Nat) : bt (x ||| y) i = (bt x i || bt y i) := by unfold bt; rw [Int32.toBitVec_or, BitVec.getLsbD_or]
theorem b_and (x y : Int32) (i : Nat) : bt (x &&& y) i = (bt x i && bt y i) := by unfold bt; rw [Int32.toBitVec_and, BitVec.getLsbD_and]
theorem b_big {x : Int32} {i : Nat} (h : 32 ≤ i) : bt x i = false := BitVec.getLsbD_of_ge _ _ h
theorem b_0 (i : Nat) : bt 0 i = false := BitVec.getLsbD_zero
theorem s_l : ∀ n, n < 32 → ((nI n &&& 31).toBitVec.smod 32).toNat = n := by decide +kernel
theorem b_shl (n : Nat) (hn : n < 32) (x : Int32) {i : Nat} (hi : i < 32) : bt (x <<< (nI n &&& 31)) i = (decide (n ≤ i) && bt x (i - n)) := by
  unfold bt
  rw [Int32.toBitVec_shiftLeft]
  show (x.toBitVec <<< ((nI n &&& 31).toBitVec.smod 32).toNat).getLsbD i = _
  rw [s_l n hn, BitVec.getLsbD_shiftLeft]
  rcases Nat.lt_or_ge i n with h | h
  · simp [h, Nat.not_le.mpr h]
  · simp [hi, h, Nat.not_lt.mpr h]
theorem b_sshr (n : Nat) (hn : n < 32) (x : Int32) {i : Nat} (hi : i < 32) : bt (x >>> (nI n &&& 31)) i = if n + i < 32 then bt x (n + i) else bt x 31 := by
  unfold bt
  rw [Int32.toBitVec_shiftRight]
  show (x.toBitVec.sshiftRight ((nI n &&& 31).toBitVec.smod 32).toNat).getLsbD i = _
  rw [s_l n hn, BitVec.getLsbD_sshiftRight, BitVec.msb_eq_getLsbD_last]
  simp [hi]
end
section
/-! bits of a membership word -/
theorem te_1b : ∀ i, i < 32 → bt 1 i = decide (i = 0) := by decide +kernel
def te_bv (x : Int32) (a : Nat) : Int32 := if bt x a = true then 1 else 0
theorem te_bv01 (x : Int32) (a : Nat) : te_bv x a = 0 ∨ te_bv x a = 1 := by
  unfold te_bv
  by_cases h : bt x a = true
  · rw [if_pos h]; exact Or.inr rfl
  · rw [if_neg h]; exact Or.inl rfl
theorem te_bit (x : Int32) {a : Nat} (ha : a < 8) : (x >>> (nI a &&& 31)) &&& 1 = te_bv x a := by
  apply b_ext
  intro i hi
  rw [b_and, te_1b i hi, b_sshr a (by omega) x hi]
  unfold te_bv
  by_cases h0 : i = 0
  · subst h0
    rw [if_pos (by omega), Nat.add_zero]
    cases hb : bt x a
    · rw [if_neg (by decide), b_0]; rfl
    · rw [if_pos rfl, te_1b 0 (by omega)]; rfl
  · rw [decide_eq_false h0, Bool.and_false]
    by_cases hb : bt x a = true
    · rw [if_pos hb, te_1b i hi, decide_eq_false h0]
    · rw [if_neg hb, b_0]
theorem te_bv0 (a : Nat) : te_bv 0 a = 0 := by
  unfold te_bv
  rw [b_0]
  exact if_neg (by decide)
theorem te_bvs (m : Int32) {a b : Nat} (ha : a < 8) (hb : b < 8) : te_bv (m ||| ((1 : Int32) <<< (nI a &&& 31))) b = if b = a then 1 else te_bv m b := by
  unfold te_bv
  rw [b_or, b_shl a (by omega) 1 (show b < 32 by omega), te_1b (b - a) (by omega)]
  by_cases e : b = a
  · subst e
    rw [if_pos rfl, if_pos (by simp)]
  · rw [if_neg e]
    have h : (decide (a ≤ b) && decide (b - a = 0)) = false := by
      by_cases h1 : a ≤ b
      · rw [decide_eq_false (show ¬ b - a = 0 by omega), Bool.and_false]
      · rw [decide_eq_false h1, Bool.false_and]
    rw [h, Bool.or_false]
/-! names -/
def te_b (b : Bool) : Int32 := if b = true then 1 else 0
def te_ty (t : Nat) (x : Int32) : Prop := ∃ j, j < t ∧ x = nI j
def te_at (x : Int32) : Prop := ∃ a, a < 8 ∧ x = nI (64 + a)
def te_tn (t : Nat) (x : Int32) : Prop := te_ty t x ∨ te_at x
def te_sn (t : Nat) (x : Int32) : Prop := te_tn t x ∨ x = 99
def te_nm (m : Nat → Int32) (w : Nat) (nm : Int32) (x s : Nat) : Bool :=
  if nm = 99 then decide (x = s) else if 64 ≤ nm then decide (m (w * 96 + x * 8 + (nm.toNatClampNeg - 64)) = 1) else decide (nm = nI x)
theorem te_nmS (m : Nat → Int32) (w x s : Nat) : te_nm m w 99 x s = decide (x = s) := if_pos rfl
theorem te_n99 {j : Nat} (h : j < 99) : ¬ nI j = 99 := by
  intro e
  have := (nI_eq (b := 99) (show j < 2 ^ 31 by omega) (by decide)).mp e
  omega
theorem te_nmA (m : Nat → Int32) (w x s : Nat) {a : Nat} (ha : a < 8) : te_nm m w (nI (64 + a)) x s = decide (m (w * 96 + x * 8 + a) = 1) := by
  unfold te_nm
  rw [if_neg (te_n99 (by omega)), if_pos (show (64 : Int32) ≤ nI (64 + a) from nI_le (a := 64) (by omega) (by omega)), nI_clamp (show 64 + a < 2 ^ 31 by omega), Nat.add_sub_cancel_left]
theorem te_nmT (m : Nat → Int32) (w x s : Nat) {j : Nat} (hj : j < 64) (hx : x < 64) : te_nm m w (nI j) x s = decide (j = x) := by
  unfold te_nm
  rw [if_neg (te_n99 (by omega)), if_neg (show ¬ (64 : Int32) ≤ nI j from nI_ge (b := 64) hj (by decide))]
  exact decide_eq_decide.mpr (nI_eq (by omega) (by omega))
def te_rm (m : Nat → Int32) (w : Nat) (cs ct cc : Nat → Int32) (k s x : Nat) (c : Int32) : Bool :=
  decide (cc k = c) && (te_nm m w (cs k) s s && te_nm m w (ct k) x s)
def te_or (M : Nat → Bool) (V : Nat → Int32) : Nat → Int32
  | 0 => 0
  | n + 1 => if M n = true then te_or M V n ||| V n else te_or M V n
def te_fst (M : Nat → Bool) (V : Nat → Int32) : Nat → Nat → Int32
  | 0, _ => -5
  | n + 1, i => if M i = true then V i else te_fst M V n (i + 1)
theorem te_fstQ {M : Nat → Bool} {V : Nat → Int32} {Q : Int32 → Prop} : ∀ (n i : Nat), (∀ j, j < i + n → Q (V j)) → te_fst M V n i = -5 ∨ Q (te_fst M V n i)
  | 0, _, _ => Or.inl rfl
  | n + 1, i, h => by
    unfold te_fst
    by_cases c : M i = true
    · rw [if_pos c]; exact Or.inr (h i (by omega))
    · rw [if_neg c]; exact te_fstQ n (i + 1) (fun j hj => h j (by omega))
def te_vec (m : Nat → Int32) (w yb n : Nat) (cs ct cc cv : Nat → Int32) (s x : Nat) (c : Int32) : Int32 :=
  te_or (fun i => te_rm m w cs ct cc (yb + i) s x c) (fun i => cv (yb + i)) n
def te_tr (m : Nat → Int32) (w yb n : Nat) (cs ct cc cv : Nat → Int32) (s x : Nat) (c : Int32) : Int32 :=
  te_fst (fun i => te_rm m w cs ct cc (yb + i) s x c) (fun i => cv (yb + i)) n 0
/-! one rule list on both sides, from place xb of the class's arrays and yb of the reference's -/
def te_lst (Q : Int32 → Prop) (t c xb yb : Nat) (rs rt rl rv cs ct cc cv : Nat → Int32) : Prop :=
  ∀ i, i < c → (rs (xb + i) = cs (yb + i) ∧ rt (xb + i) = ct (yb + i) ∧ rl (xb + i) = cc (yb + i) ∧ rv (xb + i) = cv (yb + i)) ∧ te_tn t (cs (yb + i)) ∧ te_sn t (ct (yb + i)) ∧ Q (cv (yb + i))
def te_eq4 (c xb' xb : Nat) (rs' rt' rl' rv' rs rt rl rv : Nat → Int32) : Prop :=
  ∀ i, i < c → rs' (xb' + i) = rs (xb + i) ∧ rt' (xb' + i) = rt (xb + i) ∧ rl' (xb' + i) = rl (xb + i) ∧ rv' (xb' + i) = rv (xb + i)
theorem te_eq4r {c xb : Nat} {rs rt rl rv : Nat → Int32} : te_eq4 c xb xb rs rt rl rv rs rt rl rv := fun _ _ => ⟨rfl, rfl, rfl, rfl⟩
theorem te_eq4u {c xb k : Nat} {rs rt rl rv : Nat → Int32} {a b d e : Int32} (h : ∀ i, i < c → xb + i ≠ k) : te_eq4 c xb xb (upd rs k a) (upd rt k b) (upd rl k d) (upd rv k e) rs rt rl rv :=
  fun i hi => ⟨pk_un (h i hi), pk_un (h i hi), pk_un (h i hi), pk_un (h i hi)⟩
theorem te_lst0 {Q : Int32 → Prop} {t xb yb : Nat} {rs rt rl rv cs ct cc cv : Nat → Int32} : te_lst Q t 0 xb yb rs rt rl rv cs ct cc cv := fun _ hi => absurd hi (Nat.not_lt_zero _)
theorem te_lstM {Q : Int32 → Prop} {t c xb yb xb' yb' : Nat} {rs rt rl rv cs ct cc cv rs' rt' rl' rv' cs' ct' cc' cv' : Nat → Int32}
    (h : te_lst Q t c xb yb rs rt rl rv cs ct cc cv) (e : te_eq4 c xb' xb rs' rt' rl' rv' rs rt rl rv) (f : te_eq4 c yb' yb cs' ct' cc' cv' cs ct cc cv) :
    te_lst Q t c xb' yb' rs' rt' rl' rv' cs' ct' cc' cv' := by
  intro i hi
  obtain ⟨⟨h1, h2, h3, h4⟩, h5, h6, h7⟩ := h i hi
  obtain ⟨e1, e2, e3, e4⟩ := e i hi
  obtain ⟨f1, f2, f3, f4⟩ := f i hi
  rw [e1, e2, e3, e4, f1, f2, f3, f4]
  exact ⟨⟨h1, h2, h3, h4⟩, h5, h6, h7⟩
theorem te_lstP {Q : Int32 → Prop} {t c xb yb : Nat} {rs rt rl rv cs ct cc cv : Nat → Int32} {a b d e : Int32}
    (h : te_lst Q t c xb yb rs rt rl rv cs ct cc cv) (ha : te_tn t a) (hb : te_sn t b) (he : Q e) :
    te_lst Q t (c + 1) xb yb (upd rs (xb + c) a) (upd rt (xb + c) b) (upd rl (xb + c) d) (upd rv (xb + c) e) (upd cs (yb + c) a) (upd ct (yb + c) b) (upd cc (yb + c) d) (upd cv (yb + c) e) := by
  intro i hi
  by_cases q : i = c
  · subst q
    rw [pk_us, pk_us, pk_us, pk_us, pk_us, pk_us, pk_us, pk_us]
    exact ⟨⟨rfl, rfl, rfl, rfl⟩, ha, hb, he⟩
  · have h1 : xb + i ≠ xb + c := by omega
    have h2 : yb + i ≠ yb + c := by omega
    rw [pk_un h1, pk_un h1, pk_un h1, pk_un h1, pk_un h2, pk_un h2, pk_un h2, pk_un h2]
    exact h i (by omega)
/-! one policy on both sides -/
def te_P (t w ca cn cx : Nat) (mb rc rs rt rl rv mem aS aT aC aP aN ns nt nc nv nN xs xt xc xv xN : Nat → Int32) : Prop :=
  (∀ x a, x < 12 → a < 8 → mem (w * 96 + x * 8 + a) = te_bv (mb (w * 12 + x)) a) ∧
  (ca ≤ 24 ∧ cn ≤ 6 ∧ cx ≤ 12) ∧
  (rc (w * 3) = nI ca ∧ rc (w * 3 + 1) = nI cn ∧ rc (w * 3 + 2) = nI cx) ∧
  (aN w = nI ca ∧ nN w = nI cn ∧ xN w = nI cx) ∧
  te_lst (fun _ => True) t ca (w * 72) (w * 24) rs rt rl rv aS aT aC aP ∧
  te_lst (fun _ => True) t cn (w * 72 + 24) (w * 6) rs rt rl rv ns nt nc nv ∧
  te_lst (te_ty t) t cx (w * 72 + 48) (w * 12) rs rt rl rv xs xt xc xv
theorem te_PM {t w w' ca cn cx : Nat} {mb rc rs rt rl rv mem aS aT aC aP aN ns nt nc nv nN xs xt xc xv xN mb' rc' rs' rt' rl' rv' mem' aS' aT' aC' aP' aN' ns' nt' nc' nv' nN' xs' xt' xc' xv' xN' : Nat → Int32}
    (h : te_P t w ca cn cx mb rc rs rt rl rv mem aS aT aC aP aN ns nt nc nv nN xs xt xc xv xN)
    (hm : ∀ x, x < 12 → mb' (w' * 12 + x) = mb (w * 12 + x))
    (hM : ∀ j, j < 96 → mem' (w' * 96 + j) = mem (w * 96 + j))
    (hr : rc' (w' * 3) = rc (w * 3) ∧ rc' (w' * 3 + 1) = rc (w * 3 + 1) ∧ rc' (w' * 3 + 2) = rc (w * 3 + 2))
    (hN : aN' w' = aN w ∧ nN' w' = nN w ∧ xN' w' = xN w)
    (e1 : te_eq4 ca (w' * 72) (w * 72) rs' rt' rl' rv' rs rt rl rv)
    (e2 : te_eq4 cn (w' * 72 + 24) (w * 72 + 24) rs' rt' rl' rv' rs rt rl rv)
    (e3 : te_eq4 cx (w' * 72 + 48) (w * 72 + 48) rs' rt' rl' rv' rs rt rl rv)
    (f1 : te_eq4 ca (w' * 24) (w * 24) aS' aT' aC' aP' aS aT aC aP)
    (f2 : te_eq4 cn (w' * 6) (w * 6) ns' nt' nc' nv' ns nt nc nv)
    (f3 : te_eq4 cx (w' * 12) (w * 12) xs' xt' xc' xv' xs xt xc xv) :
    te_P t w' ca cn cx mb' rc' rs' rt' rl' rv' mem' aS' aT' aC' aP' aN' ns' nt' nc' nv' nN' xs' xt' xc' xv' xN' := by
  obtain ⟨h1, h2, ⟨h3, h4, h5⟩, ⟨h6, h7, h8⟩, h9, h10, h11⟩ := h
  obtain ⟨r1, r2, r3⟩ := hr
  obtain ⟨n1, n2, n3⟩ := hN
  refine ⟨fun x a hx ha => ?_, h2, ⟨r1.trans h3, r2.trans h4, r3.trans h5⟩, ⟨n1.trans h6, n2.trans h7, n3.trans h8⟩, te_lstM h9 e1 f1, te_lstM h10 e2 f2, te_lstM h11 e3 f3⟩
  have e := hM (x * 8 + a) (by omega)
  rw [hm x hx, Nat.add_assoc, e, ← Nat.add_assoc]
  exact h1 x a hx ha
/-! processes and objects -/
def te_O (t np no : Nat) (pd ot ol : Nat → Int32) : Prop :=
  (np ≤ 8 ∧ no ≤ 16) ∧ (∀ i, i < np → te_ty t (pd i)) ∧ (∀ i, i < no → te_ty t (ot i) ∧ te_ty 4 (ol i))
theorem te_Opd {t np no : Nat} {pd ot ol : Nat → Int32} {p : Nat} {v : Int32} (h : te_O t np no pd ot ol) (hv : te_ty t v) : te_O t np no (upd pd p v) ot ol := by
  obtain ⟨h1, h2, h3⟩ := h
  refine ⟨h1, fun i hi => ?_, h3⟩
  by_cases q : i = p
  · subst q; rw [pk_us]; exact hv
  · rw [pk_un q]; exact h2 i hi
theorem te_Opn {t np no : Nat} {pd ot ol : Nat → Int32} {v : Int32} (h : te_O t np no pd ot ol) (hn : np < 8) (hv : te_ty t v) : te_O t (np + 1) no (upd pd np v) ot ol := by
  obtain ⟨⟨h0, h1⟩, h2, h3⟩ := h
  refine ⟨⟨hn, h1⟩, fun i hi => ?_, h3⟩
  by_cases q : i = np
  · subst q; rw [pk_us]; exact hv
  · rw [pk_un q]; exact h2 i (by omega)
theorem te_Oon {t np no : Nat} {pd ot ol : Nat → Int32} {v c : Int32} (h : te_O t np no pd ot ol) (hn : no < 16) (hv : te_ty t v) (hc : te_ty 4 c) : te_O t np (no + 1) pd (upd ot no v) (upd ol no c) := by
  obtain ⟨⟨h0, h1⟩, h2, h3⟩ := h
  refine ⟨⟨h0, hn⟩, h2, fun i hi => ?_⟩
  by_cases q : i = no
  · subst q; rw [pk_us, pk_us]; exact ⟨hv, hc⟩
  · rw [pk_un q, pk_un q]; exact h3 i (by omega)
/-! a shift down by one place -/
def te_sh (a : Nat → Int32) (i : Nat) : Nat → Int32 := fun j => if j < i then a (j + 1) else a j
theorem te_sh0 (a : Nat → Int32) : te_sh a 0 = a := funext fun j => if_neg (Nat.not_lt_zero j)
theorem te_shR (a : Nat → Int32) (i : Nat) : te_sh a i (i + 1) = a (i + 1) := if_neg (by omega)
theorem te_shS (a : Nat → Int32) (i : Nat) : upd (te_sh a i) i (a (i + 1)) = te_sh a (i + 1) := by
  funext j
  unfold upd te_sh
  by_cases h : j = i
  · subst h; rw [if_pos rfl, if_pos (by omega)]
  · rw [if_neg h]
    by_cases h2 : j < i
    · rw [if_pos h2, if_pos (by omega)]
    · rw [if_neg h2, if_neg (by omega)]
end
section
theorem te_PA {t ca cn cx : Nat} {mb rc rs rt rl rv mem aS aT aC aP aN ns nt nc nv nN xs xt xc xv xN : Nat → Int32} {a b d e : Int32}
    (h : te_P t 1 ca cn cx mb rc rs rt rl rv mem aS aT aC aP aN ns nt nc nv nN xs xt xc xv xN)
    (hc : ca < 24) (ha : te_tn t a) (hb : te_sn t b) :
    te_P t 1 (ca + 1) cn cx mb (upd rc 3 (nI (ca + 1))) (upd rs (72 + ca) a) (upd rt (72 + ca) b) (upd rl (72 + ca) d) (upd rv (72 + ca) e) mem (upd aS (24 + ca) a) (upd aT (24 + ca) b) (upd aC (24 + ca) d) (upd aP (24 + ca) e) (upd aN 1 (nI (ca + 1))) ns nt nc nv nN xs xt xc xv xN := by
  obtain ⟨h1, ⟨q1, q2, q3⟩, ⟨h3, h4, h5⟩, ⟨h6, h7, h8⟩, h9, h10, h11⟩ := h
  exact ⟨h1, ⟨hc, q2, q3⟩, ⟨pk_us, (pk_un (by decide)).trans h4, (pk_un (by decide)).trans h5⟩, ⟨pk_us, h7, h8⟩, te_lstP h9 ha hb trivial, te_lstM h10 (te_eq4u fun i hi => by omega) te_eq4r, te_lstM h11 (te_eq4u fun i hi => by omega) te_eq4r⟩
theorem te_QA {t ca cn cx : Nat} {mb rc rs rt rl rv mem aS aT aC aP aN ns nt nc nv nN xs xt xc xv xN : Nat → Int32} {a b d e z z' : Int32} {m : Nat}
    (h : te_P t 0 ca cn cx mb rc rs rt rl rv mem aS aT aC aP aN ns nt nc nv nN xs xt xc xv xN) :
    te_P t 0 ca cn cx mb (upd rc 3 z) (upd rs (72 + m) a) (upd rt (72 + m) b) (upd rl (72 + m) d) (upd rv (72 + m) e) mem (upd aS (24 + m) a) (upd aT (24 + m) b) (upd aC (24 + m) d) (upd aP (24 + m) e) (upd aN 1 z') ns nt nc nv nN xs xt xc xv xN := by
  obtain ⟨q1, q2, q3⟩ := h.2.1
  exact te_PM h (fun _ _ => rfl) (fun _ _ => rfl) ⟨pk_un (by decide), pk_un (by decide), pk_un (by decide)⟩ ⟨pk_un (by decide), rfl, rfl⟩ (te_eq4u fun i hi => by omega) (te_eq4u fun i hi => by omega) (te_eq4u fun i hi => by omega) (te_eq4u fun i hi => by omega) te_eq4r te_eq4r
theorem te_PN {t ca cn cx : Nat} {mb rc rs rt rl rv mem aS aT aC aP aN ns nt nc nv nN xs xt xc xv xN : Nat → Int32} {a b d e : Int32}
    (h : te_P t 1 ca cn cx mb rc rs rt rl rv mem aS aT aC aP aN ns nt nc nv nN xs xt xc xv xN)
    (hc : cn < 6) (ha : te_tn t a) (hb : te_sn t b) :
    te_P t 1 ca (cn + 1) cx mb (upd rc 4 (nI (cn + 1))) (upd rs (96 + cn) a) (upd rt (96 + cn) b) (upd rl (96 + cn) d) (upd rv (96 + cn) e) mem aS aT aC aP aN (upd ns (6 + cn) a) (upd nt (6 + cn) b) (upd nc (6 + cn) d) (upd nv (6 + cn) e) (upd nN 1 (nI (cn + 1))) xs xt xc xv xN := by
  obtain ⟨h1, ⟨q1, q2, q3⟩, ⟨h3, h4, h5⟩, ⟨h6, h7, h8⟩, h9, h10, h11⟩ := h
  exact ⟨h1, ⟨q1, hc, q3⟩, ⟨(pk_un (by decide)).trans h3, pk_us, (pk_un (by decide)).trans h5⟩, ⟨h6, pk_us, h8⟩, te_lstM h9 (te_eq4u fun i hi => by omega) te_eq4r, te_lstP h10 ha hb trivial, te_lstM h11 (te_eq4u fun i hi => by omega) te_eq4r⟩
theorem te_QN {t ca cn cx : Nat} {mb rc rs rt rl rv mem aS aT aC aP aN ns nt nc nv nN xs xt xc xv xN : Nat → Int32} {a b d e z z' : Int32} {m : Nat}
    (h : te_P t 0 ca cn cx mb rc rs rt rl rv mem aS aT aC aP aN ns nt nc nv nN xs xt xc xv xN) :
    te_P t 0 ca cn cx mb (upd rc 4 z) (upd rs (96 + m) a) (upd rt (96 + m) b) (upd rl (96 + m) d) (upd rv (96 + m) e) mem aS aT aC aP aN (upd ns (6 + m) a) (upd nt (6 + m) b) (upd nc (6 + m) d) (upd nv (6 + m) e) (upd nN 1 z') xs xt xc xv xN := by
  obtain ⟨q1, q2, q3⟩ := h.2.1
  exact te_PM h (fun _ _ => rfl) (fun _ _ => rfl) ⟨pk_un (by decide), pk_un (by decide), pk_un (by decide)⟩ ⟨rfl, pk_un (by decide), rfl⟩ (te_eq4u fun i hi => by omega) (te_eq4u fun i hi => by omega) (te_eq4u fun i hi => by omega) te_eq4r (te_eq4u fun i hi => by omega) te_eq4r
theorem te_PX {t ca cn cx : Nat} {mb rc rs rt rl rv mem aS aT aC aP aN ns nt nc nv nN xs xt xc xv xN : Nat → Int32} {a b d e : Int32}
    (h : te_P t 1 ca cn cx mb rc rs rt rl rv mem aS aT aC aP aN ns nt nc nv nN xs xt xc xv xN)
    (hc : cx < 12) (ha : te_tn t a) (hb : te_sn t b) (he : te_ty t e) :
    te_P t 1 ca cn (cx + 1) mb (upd rc 5 (nI (cx + 1))) (upd rs (120 + cx) a) (upd rt (120 + cx) b) (upd rl (120 + cx) d) (upd rv (120 + cx) e) mem aS aT aC aP aN ns nt nc nv nN (upd xs (12 + cx) a) (upd xt (12 + cx) b) (upd xc (12 + cx) d) (upd xv (12 + cx) e) (upd xN 1 (nI (cx + 1))) := by
  obtain ⟨h1, ⟨q1, q2, q3⟩, ⟨h3, h4, h5⟩, ⟨h6, h7, h8⟩, h9, h10, h11⟩ := h
  exact ⟨h1, ⟨q1, q2, hc⟩, ⟨(pk_un (by decide)).trans h3, (pk_un (by decide)).trans h4, pk_us⟩, ⟨h6, h7, pk_us⟩, te_lstM h9 (te_eq4u fun i hi => by omega) te_eq4r, te_lstM h10 (te_eq4u fun i hi => by omega) te_eq4r, te_lstP h11 ha hb he⟩
theorem te_QX {t ca cn cx : Nat} {mb rc rs rt rl rv mem aS aT aC aP aN ns nt nc nv nN xs xt xc xv xN : Nat → Int32} {a b d e z z' : Int32} {m : Nat}
    (h : te_P t 0 ca cn cx mb rc rs rt rl rv mem aS aT aC aP aN ns nt nc nv nN xs xt xc xv xN) :
    te_P t 0 ca cn cx mb (upd rc 5 z) (upd rs (120 + m) a) (upd rt (120 + m) b) (upd rl (120 + m) d) (upd rv (120 + m) e) mem aS aT aC aP aN ns nt nc nv nN (upd xs (12 + m) a) (upd xt (12 + m) b) (upd xc (12 + m) d) (upd xv (12 + m) e) (upd xN 1 z') := by
  obtain ⟨q1, q2, q3⟩ := h.2.1
  exact te_PM h (fun _ _ => rfl) (fun _ _ => rfl) ⟨pk_un (by decide), pk_un (by decide), pk_un (by decide)⟩ ⟨rfl, rfl, pk_un (by decide)⟩ (te_eq4u fun i hi => by omega) (te_eq4u fun i hi => by omega) (te_eq4u fun i hi => by omega) te_eq4r te_eq4r (te_eq4u fun i hi => by omega)
theorem te_PS {t ca cn cx : Nat} {mb rc rs rt rl rv mem aS aT aC aP aN ns nt nc nv nN xs xt xc xv xN : Nat → Int32} {x a : Nat} {m : Int32}
    (h : te_P t 1 ca cn cx mb rc rs rt rl rv mem aS aT aC aP aN ns nt nc nv nN xs xt xc xv xN)
    (hx : x < 12) (ha : a < 8) (hm : m = mb (12 + x) ||| ((1 : Int32) <<< (nI a &&& 31))) :
    te_P t 1 ca cn cx (upd mb (12 + x) m) rc rs rt rl rv (upd mem (96 + x * 8 + a) 1) aS aT aC aP aN ns nt nc nv nN xs xt xc xv xN := by
  obtain ⟨h1, h2⟩ := h
  refine ⟨fun x' a' hx' ha' => ?_, h2⟩
  have h1' := h1 x' a' hx' ha'
  by_cases e : x' = x
  · subst e
    rw [show 1 * 12 + x' = 12 + x' from rfl, pk_us, hm, te_bvs _ ha ha']
    by_cases f : a' = a
    · subst f
      rw [if_pos rfl, show 1 * 96 + x' * 8 + a' = 96 + x' * 8 + a' from rfl, pk_us]
    · rw [if_neg f, pk_un (show 1 * 96 + x' * 8 + a' ≠ 96 + x' * 8 + a by omega)]
      exact h1'
  · rw [pk_un (show 1 * 12 + x' ≠ 12 + x by omega), pk_un (show 1 * 96 + x' * 8 + a' ≠ 96 + x * 8 + a by omega)]
    exact h1'
theorem te_QS {t ca cn cx : Nat} {mb rc rs rt rl rv mem aS aT aC aP aN ns nt nc nv nN xs xt xc xv xN : Nat → Int32} {x j : Nat} {m y : Int32}
    (h : te_P t 0 ca cn cx mb rc rs rt rl rv mem aS aT aC aP aN ns nt nc nv nN xs xt xc xv xN) :
    te_P t 0 ca cn cx (upd mb (12 + x) m) rc rs rt rl rv (upd mem (96 + j) y) aS aT aC aP aN ns nt nc nv nN xs xt xc xv xN :=
  te_PM h (fun _ _ => pk_un (by omega)) (fun _ _ => pk_un (by omega)) ⟨rfl, rfl, rfl⟩ ⟨rfl, rfl, rfl⟩ te_eq4r te_eq4r te_eq4r te_eq4r te_eq4r te_eq4r
theorem te_PC {t : Nat} {rs rt rl rv aS aT aC aP ns nt nc nv xs xt xc xv mb' rc' mem' aN' nN' xN' : Nat → Int32}
    (hm : ∀ x, x < 12 → mb' (12 + x) = 0) (hM : ∀ j, j < 96 → mem' (96 + j) = 0) (hr : rc' 3 = 0 ∧ rc' 4 = 0 ∧ rc' 5 = 0) (hN : aN' 1 = 0 ∧ nN' 1 = 0 ∧ xN' 1 = 0) :
    te_P t 1 0 0 0 mb' rc' rs rt rl rv mem' aS aT aC aP aN' ns nt nc nv nN' xs xt xc xv xN' := by
  refine ⟨fun x a hx ha => ?_, ⟨by omega, by omega, by omega⟩, ⟨hr.1, hr.2.1, hr.2.2⟩, ⟨hN.1, hN.2.1, hN.2.2⟩, te_lst0, te_lst0, te_lst0⟩
  have e := hM (x * 8 + a) (by omega)
  rw [show 1 * 96 + x * 8 + a = 96 + (x * 8 + a) by omega, e, show mb' (1 * 12 + x) = 0 from hm x hx, te_bv0]
theorem te_QC {t ca cn cx : Nat} {mb rc rs rt rl rv mem aS aT aC aP aN ns nt nc nv nN xs xt xc xv xN : Nat → Int32} {mb' rc' mem' aN' nN' xN' : Nat → Int32}
    (h : te_P t 0 ca cn cx mb rc rs rt rl rv mem aS aT aC aP aN ns nt nc nv nN xs xt xc xv xN)
    (hm : ∀ x, x < 12 → mb' x = mb x) (hM : ∀ j, j < 96 → mem' j = mem j) (hr : rc' 0 = rc 0 ∧ rc' 1 = rc 1 ∧ rc' 2 = rc 2) (hN : aN' 0 = aN 0 ∧ nN' 0 = nN 0 ∧ xN' 0 = xN 0) :
    te_P t 0 ca cn cx mb' rc' rs rt rl rv mem' aS aT aC aP aN' ns nt nc nv nN' xs xt xc xv xN' :=
  te_PM h (fun x hx => by rw [show 0 * 12 + x = x by omega]; exact hm x hx) (fun j hj => by rw [show 0 * 96 + j = j by omega]; exact hM j hj) hr hN te_eq4r te_eq4r te_eq4r te_eq4r te_eq4r te_eq4r
end
section
/-! arguments: negative, or a natural -/
theorem te_neg (v : Int32) : v < 0 ∨ ∃ j : Nat, j < 2 ^ 31 ∧ v = nI j := by
  by_cases h : v < 0
  · exact Or.inl h
  · exact Or.inr (nI_of h)
theorem te_z : (0 : Int32).toInt = 0 := by decide
theorem te_nle {v : Int32} {a : Nat} (h : v < 0) (ha : a < 2 ^ 31) : ¬ nI a ≤ v := by
  intro q
  rw [Int32.lt_iff_toInt_lt, te_z] at h
  rw [Int32.le_iff_toInt_le, nI_toInt ha] at q
  omega
theorem te_lt {v : Int32} {a : Nat} (h : v < 0) (ha : a < 2 ^ 31) : v < nI a := by
  rw [Int32.lt_iff_toInt_lt, te_z] at h
  rw [Int32.lt_iff_toInt_lt, nI_toInt ha]
  omega
theorem te_le {v : Int32} {a : Nat} (h : v < 0) (ha : a < 2 ^ 31) : v ≤ nI a := by
  rw [Int32.lt_iff_toInt_lt, te_z] at h
  rw [Int32.le_iff_toInt_le, nI_toInt ha]
  omega
theorem te_ne {v : Int32} {a : Nat} (h : v < 0) (ha : a < 2 ^ 31) : ¬ v = nI a := by
  intro e
  subst e
  exact nI_pos ha h
theorem te_tyN {n : Nat} {v : Int32} (h : v < 0) (hn : n < 2 ^ 31) : ¬ te_ty n v := by
  intro ⟨j, hj, e⟩
  exact te_ne h (show j < 2 ^ 31 by omega) e
theorem te_tyI {n j : Nat} (hj : j < 2 ^ 31) (hn : n < 2 ^ 31) (h : n ≤ j) : ¬ te_ty n (nI j) := by
  intro ⟨i, hi, e⟩
  have := (nI_eq hj (by omega)).mp e
  omega
theorem te_atN {v : Int32} (h : v < 0) : ¬ te_at v := by
  intro ⟨j, hj, e⟩
  exact te_ne h (show 64 + j < 2 ^ 31 by omega) e
theorem te_atI {j : Nat} (hj : j < 2 ^ 31) (h : j < 64 ∨ 72 ≤ j) : ¬ te_at (nI j) := by
  intro ⟨i, hi, e⟩
  have := (nI_eq hj (show 64 + i < 2 ^ 31 by omega)).mp e
  omega
/-- v within 0 .. m -/
theorem te_rt {m : Nat} {v : Int32} (hm : m < 2 ^ 30) (h : te_ty (m + 1) v) : ¬ v < 0 ∧ v ≤ nI m := by
  obtain ⟨j, hj, rfl⟩ := h
  exact ⟨nI_pos (by omega), nI_le (by omega) (by omega)⟩
theorem te_rf {m : Nat} {v : Int32} (hm : m < 2 ^ 30) (h : ¬ te_ty (m + 1) v) (h0 : ¬ v < 0) : ¬ v ≤ nI m := by
  obtain ⟨j, hj, rfl⟩ := nI_of h0
  intro q
  have := (nI_leI hj (by omega)).mp q
  exact h ⟨j, by omega, rfl⟩
/-- perms: 1 .. 255 -/
def te_pm (v : Int32) : Prop := ∃ j, 1 ≤ j ∧ j ≤ 255 ∧ v = nI j
theorem te_pmN {v : Int32} (h : v < 0) : ¬ te_pm v := by
  intro ⟨j, _, hj, e⟩
  exact te_ne h (show j < 2 ^ 31 by omega) e
theorem te_pmI {j : Nat} (hj : j < 2 ^ 31) (h : j < 1 ∨ 255 < j) : ¬ te_pm (nI j) := by
  intro ⟨i, h1, h2, e⟩
  have := (nI_eq hj (show i < 2 ^ 31 by omega)).mp e
  omega
theorem te_pmt {v : Int32} (h : te_pm v) : ¬ v < 1 ∧ v ≤ 255 := by
  obtain ⟨j, h1, h2, rfl⟩ := h
  exact ⟨nI_nlt (b := 1) h1 (by omega), nI_le (b := 255) h2 (by decide)⟩
theorem te_pmf {v : Int32} (h : ¬ te_pm v) (h1 : ¬ v < 1) : ¬ v ≤ 255 := by
  intro q
  rcases te_neg v with n | ⟨j, hj, rfl⟩
  · exact h1 (te_lt (a := 1) n (by decide))
  · have a := (nI_leI (b := 255) hj (by decide)).mp q
    have b : 1 ≤ j := by
      rcases Nat.lt_or_ge j 1 with z | z
      · exact absurd (nI_lt (b := 1) z (by decide)) h1
      · exact z
    exact h ⟨j, b, a, rfl⟩
theorem te_vb0 : vp_nar .boolean 0 = 0 := rfl
theorem te_vb1 : vp_nar .boolean 1 = 1 := rfl
theorem te_vb {z : Int32} (h : z = 0 ∨ z = 1) : vp_nar .boolean z = z := by rcases h with rfl | rfl <;> rfl
theorem te_nb {z : Int32} (h : z = 0 ∨ z = 1) : narrow .boolean (.int z) = .int z := by rcases h with rfl | rfl <;> rfl
theorem te_nbb (b : Bool) : narrow .boolean (.int (te_b b)) = .int (te_b b) := by cases b <;> rfl
/-- places -/
theorem te_ml (w k x : Nat) {K : Int32} (hK : K = nI k) : nI w * K + nI x = nI (w * k + x) := by rw [hK, pk_mul, nI_add]
theorem te_dv {s x t : Nat} (hx : x < t) : (s * t + x) / t = s := by
  rw [Nat.add_comm, Nat.add_mul_div_right _ _ (by omega), Nat.div_eq_of_lt hx, Nat.zero_add]
theorem te_md {s x t : Nat} (hx : x < t) : (s * t + x) % t = x := by
  rw [Nat.add_comm, Nat.add_mul_mod_self_right, Nat.mod_eq_of_lt hx]
end
section
/-! the first violated pair, the first held entry -/
def te_none (t : Nat) (B : Nat → Nat → Int32) : Prop := ∀ s x, s < t → x < t → B s x = 0
def te_one (t : Nat) (B : Nat → Nat → Int32) (s x : Nat) : Prop :=
  (s < t ∧ x < t) ∧ ¬ B s x = 0 ∧ (∀ s' x', s' < s → x' < t → B s' x' = 0) ∧ (∀ x', x' < x → B s x' = 0)
theorem te_fnd (h : Nat) (M : Nat → Prop) : (∀ i, i < h → ¬ M i) ∨ ∃ i, i < h ∧ M i ∧ ∀ j, j < i → ¬ M j := by
  by_cases c : ∃ i, i < h ∧ M i
  · obtain ⟨i, ⟨h1, h2⟩, h3⟩ := pk_least (fun i => i < h ∧ M i) c
    exact Or.inr ⟨i, h1, h2, fun j hj m => h3 j hj ⟨by omega, m⟩⟩
  · exact Or.inl fun i hi m => c ⟨i, hi, m⟩
theorem te_pair (t : Nat) (B : Nat → Nat → Int32) : te_none t B ∨ ∃ s x, te_one t B s x := by
  rcases te_fnd t (fun s => ∃ x, x < t ∧ ¬ B s x = 0) with h | ⟨s, hs, ⟨x, hx, hb⟩, hl⟩
  · refine Or.inl fun s x hs hx => ?_
    exact Classical.byContradiction fun z => h s hs ⟨x, hx, z⟩
  · rcases te_fnd t (fun x => ¬ B s x = 0) with k | ⟨y, hy, hb', hl'⟩
    · exact absurd hb (k x hx)
    · refine Or.inr ⟨s, y, ⟨hs, hy⟩, hb', fun s' x' h1 h2 => ?_, fun x' h1 => ?_⟩
      · exact Classical.byContradiction fun z => hl s' h1 ⟨x', h2, z⟩
      · exact Classical.byContradiction fun z => hl' x' h1 z
theorem te_rows (c t : Nat) (B : Nat → Nat → Nat → Int32) : (∀ n, n < c → te_none t (B n)) ∨ ∃ n s x, n < c ∧ te_one t (B n) s x ∧ ∀ m, m < n → te_none t (B m) := by
  rcases te_fnd c (fun n => ∃ s x, te_one t (B n) s x) with h | ⟨n, hn, ⟨s, x, ho⟩, hl⟩
  · refine Or.inl fun n hn => ?_
    rcases te_pair t (B n) with z | z
    · exact z
    · exact absurd z (h n hn)
  · refine Or.inr ⟨n, s, x, hn, ho, fun m hm => ?_⟩
    rcases te_pair t (B m) with z | z
    · exact z
    · exact absurd z (hl m hm)
/-- the perms that break neverallow n at s, x -/
def te_bp (m : Nat → Int32) (na : Nat) (aS aT aC aP ns nt nc nv : Nat → Int32) (n s x : Nat) : Int32 :=
  if te_rm m 1 ns nt nc (6 + n) s x (nc (6 + n)) = true then te_vec m 1 24 na aS aT aC aP s x (nc (6 + n)) &&& nv (6 + n) else 0
theorem te_rmc (m : Nat → Int32) (w : Nat) (cs ct cc : Nat → Int32) (k s x : Nat) : te_rm m w cs ct cc k s x (cc k) = (te_nm m w (cs k) s s && te_nm m w (ct k) x s) := by
  unfold te_rm
  rw [decide_eq_true rfl, Bool.true_and]
def te_hit (S T C P : Nat → Int32) (s x c p : Int32) (i : Nat) : Prop := S i = s ∧ T i = x ∧ C i = c ∧ P i = p
end
section
section
variable {t cap np no h : Nat} {sq vi vs vt vp tot : Int32} {mb rc rs rt rl rv mem aS aT aC aP aN ns nt nc nv nN xs xt xc xv xN pd ot ol uS uT uC uP uK : Nat → Int32}

theorem te_tnF {v : Int32} (a : ¬ te_ty t v) (b : ¬ te_at v) : ¬ te_tn t v := fun z => z.elim a b
theorem te_bd {z : Int32} (q : z = 0 ∨ z = 1) : te_b (decide (z = 1)) = z := by rcases q with rfl | rfl <;> decide
theorem te_xTy {post : Int32 → Prop} {v : Int32} (ht : t ≤ 12) (f : te_ty t v → post 1) (g : ¬ te_ty t v → post 0) : wpX_isType post (nI t, nI cap, sq, vi, vs, vt, vp, nI np, nI no, nI h, tot, mb, rc, rs, rt, rl, rv, pd, ot, ol, uS, uT, uC, uP, uK) v := by
  rcases te_neg v with h0 | ⟨j, hj, rfl⟩
  · exact br_t h0 (g (te_tyN h0 (by omega)))
  · exact br_f (nI_pos hj) (pk_le t j (fun q => g (te_tyI hj (by omega) q)) (fun q => f ⟨j, q, rfl⟩))
theorem te_xPc {post : Int32 → Prop} {v : Int32} (hn : np ≤ 8) (f : te_ty np v → post 1) (g : ¬ te_ty np v → post 0) : wpX_isProcess post (nI t, nI cap, sq, vi, vs, vt, vp, nI np, nI no, nI h, tot, mb, rc, rs, rt, rl, rv, pd, ot, ol, uS, uT, uC, uP, uK) v := by
  rcases te_neg v with h0 | ⟨j, hj, rfl⟩
  · exact br_t h0 (g (te_tyN h0 (by omega)))
  · exact br_f (nI_pos hj) (pk_le np j (fun q => g (te_tyI hj (by omega) q)) (fun q => f ⟨j, q, rfl⟩))
theorem te_xOb {post : Int32 → Prop} {v : Int32} (hn : no ≤ 16) (f : te_ty no v → post 1) (g : ¬ te_ty no v → post 0) : wpX_isObject post (nI t, nI cap, sq, vi, vs, vt, vp, nI np, nI no, nI h, tot, mb, rc, rs, rt, rl, rv, pd, ot, ol, uS, uT, uC, uP, uK) v := by
  rcases te_neg v with h0 | ⟨j, hj, rfl⟩
  · exact br_t h0 (g (te_tyN h0 (by omega)))
  · exact br_f (nI_pos hj) (pk_le no j (fun q => g (te_tyI hj (by omega) q)) (fun q => f ⟨j, q, rfl⟩))
theorem te_xOc {post : Int32 → Prop} {v c : Int32} (hn : no ≤ 16) (f : ∀ j, j < no → v = nI j → ol j = c → post 1) (g : (∀ j, j < no → v = nI j → ¬ ol j = c) → post 0) : wpX_isObjectOfClass post (nI t, nI cap, sq, vi, vs, vt, vp, nI np, nI no, nI h, tot, mb, rc, rs, rt, rl, rv, pd, ot, ol, uS, uT, uC, uP, uK) v c := by
  unfold wpX_isObjectOfClass
  dsimp only
  refine te_xOb hn (fun q => br_f (by decide) ?_) (fun q => br_t rfl (g fun j hj e => absurd ⟨j, hj, e⟩ q))
  obtain ⟨j, hj, rfl⟩ := q
  rw [nI_clamp (show j < 2 ^ 31 by omega)]
  refine ⟨vp_in_nI (by omega) (by decide), br_c (fun q => f j hj rfl q) (fun q => g fun i hi e => ?_)⟩
  have := (nI_eq (show j < 2 ^ 31 by omega) (show i < 2 ^ 31 by omega)).mp e
  subst this
  exact q
theorem te_xAt {post : Int32 → Prop} {v : Int32} (f : te_ty 8 v → post 1) (g : ¬ te_ty 8 v → post 0) : wpX_isAttribute post v := by
  rcases te_neg v with h0 | ⟨j, hj, rfl⟩
  · exact br_t h0 (g (te_tyN h0 (by omega)))
  · exact br_f (nI_pos hj) (pk_le 8 j (fun q => g (te_tyI hj (by omega) q)) (fun q => f ⟨j, q, rfl⟩))
theorem te_xCl {post : Int32 → Prop} {v : Int32} (f : te_ty 4 v → post 1) (g : ¬ te_ty 4 v → post 0) : wpX_isClass post v := by
  rcases te_neg v with h0 | ⟨j, hj, rfl⟩
  · exact br_t h0 (g (te_tyN h0 (by omega)))
  · exact br_f (nI_pos hj) (pk_le 4 j (fun q => g (te_tyI hj (by omega) q)) (fun q => f ⟨j, q, rfl⟩))
theorem te_xPm {post : Int32 → Prop} {v : Int32} (f : te_pm v → post 1) (g : ¬ te_pm v → post 0) : wpX_isPerms post v := by
  rcases te_neg v with h0 | ⟨j, hj, rfl⟩
  · exact br_t (te_lt (a := 1) h0 (by decide)) (g (te_pmN h0))
  · exact pk_lt j 1 (fun q => g (te_pmI hj (Or.inl q))) (fun q => pk_lt 255 j (fun q2 => g (te_pmI hj (Or.inr q2))) (fun q2 => f ⟨j, q, q2, rfl⟩))
theorem te_xTn {post : Int32 → Prop} {v : Int32} (ht : t ≤ 12) (f : te_tn t v → post 1) (g : ¬ te_tn t v → post 0) : wpX_isTypeName post (nI t, nI cap, sq, vi, vs, vt, vp, nI np, nI no, nI h, tot, mb, rc, rs, rt, rl, rv, pd, ot, ol, uS, uT, uC, uP, uK) v := by
  unfold wpX_isTypeName
  dsimp only
  refine te_xTy ht (fun q => br_f (by decide) (f (Or.inl q))) (fun q => br_t rfl ?_)
  rcases te_neg v with h0 | ⟨j, hj, rfl⟩
  · exact br_t (te_lt (a := 64) h0 (by decide)) (g (te_tnF q (te_atN h0)))
  · exact pk_lt j 64 (fun q1 => g (te_tnF q (te_atI hj (Or.inl q1)))) (fun q1 => pk_le 72 j (fun q2 => g (te_tnF q (te_atI hj (Or.inr q2)))) (fun q2 => f (Or.inr ⟨j - 64, by omega, congrArg nI (by omega)⟩)))
def te_pr (t : Nat) (a b c d : Int32) : Prop := te_tn t a ∧ te_sn t b ∧ te_ty 4 c ∧ te_pm d
theorem te_xPr {post : Int32 → Prop} {a b c d : Int32} (ht : t ≤ 12) (f : te_pr t a b c d → post 1) (g : ¬ te_pr t a b c d → post 0) : wpX_isPermRule post (nI t, nI cap, sq, vi, vs, vt, vp, nI np, nI no, nI h, tot, mb, rc, rs, rt, rl, rv, pd, ot, ol, uS, uT, uC, uP, uK) a b c d := by
  have K : te_tn t a → te_sn t b → wX_isPermRule_22 post c d (nI t) (nI cap) sq vi vs vt vp (nI np) (nI no) (nI h) tot mb rc rs rt rl rv pd ot ol uS uT uC uP uK := by
    intro ha hb
    unfold wX_isPermRule_22
    exact te_xCl (fun hc => br_f (by decide) (te_xPm (fun hd => br_f (by decide) (f ⟨ha, hb, hc, hd⟩)) (fun hd => br_t rfl (g fun z => hd z.2.2.2)))) (fun hc => br_t rfl (g fun z => hc z.2.2.1))
  unfold wpX_isPermRule
  dsimp only
  refine te_xTn ht (fun ha => br_f (by decide) ?_) (fun ha => br_t rfl (g fun z => ha z.1))
  by_cases e : b = 99
  · exact br_t e (K ha (Or.inr e))
  · refine br_f e ?_
    exact te_xTn ht (fun hb => br_f (by decide) (K ha (Or.inl hb))) (fun hb => br_t rfl (g fun z => z.2.1.elim hb e))
theorem te_xFR {post : Int32 → Prop} {w l : Nat} (hp : post (nI ((w * 3 + l) * 24))) : wpX_firstRule post (nI w) (nI l) := by
  unfold wpX_firstRule wpX_listPlace
  rw [te_ml (K := 3) w 3 l rfl]
  show post (nI (w * 3 + l) * 24)
  rw [show nI (w * 3 + l) * 24 = nI ((w * 3 + l) * 24) from pk_mul _ 24]
  exact hp
theorem te_xLP {post : Int32 → Prop} {w l : Nat} (hp : post (nI (w * 3 + l))) : wpX_listPlace post (nI w) (nI l) := by
  unfold wpX_listPlace
  rw [te_ml (K := 3) w 3 l rfl]
  exact hp
theorem te_xCR {post : Int32 → Prop} {w l : Nat} (hw : w < 2) (hl : l < 3) (hp : post (rc (w * 3 + l))) : wpX_countRules post (nI t, nI cap, sq, vi, vs, vt, vp, nI np, nI no, nI h, tot, mb, rc, rs, rt, rl, rv, pd, ot, ol, uS, uT, uC, uP, uK) (nI w) (nI l) := by
  unfold wpX_countRules
  dsimp only
  refine te_xLP ⟨vp_in_nI (by omega) (by decide), ?_⟩
  rw [nI_clamp (show w * 3 + l < 2 ^ 31 by omega)]
  exact hp
theorem te_xIs {post : Int32 → Prop} {w x a : Nat} (hw : w < 2) (hx : x < 12) (ha : a < 8) (hp : post (te_bv (mb (w * 12 + x)) a)) : wpX_isMember post (nI t, nI cap, sq, vi, vs, vt, vp, nI np, nI no, nI h, tot, mb, rc, rs, rt, rl, rv, pd, ot, ol, uS, uT, uC, uP, uK) (nI w) (nI x) (nI a) := by
  unfold wpX_isMember
  dsimp only
  rw [te_ml (K := 12) w 12 x rfl]
  refine ⟨vp_in_nI (by omega) (by decide), ?_⟩
  rw [nI_clamp (show w * 12 + x < 2 ^ 31 by omega), te_bit _ ha]
  rcases te_bv01 (mb (w * 12 + x)) a with e | e
  · rw [e] at hp ⊢
    exact br_f (by decide) hp
  · rw [e] at hp ⊢
    exact br_t rfl hp
theorem te_xNm {post : Int32 → Prop} {w x s : Nat} {nm : Int32} (hm : ∀ x a, x < 12 → a < 8 → mem (w * 96 + x * 8 + a) = te_bv (mb (w * 12 + x)) a) (hw : w < 2) (ht : t ≤ 12) (hn : te_sn t nm) (hx : x < t) (hs : s < t)
    (hp : post (te_b (te_nm mem w nm x s))) : wpX_nameMatches post (nI t, nI cap, sq, vi, vs, vt, vp, nI np, nI no, nI h, tot, mb, rc, rs, rt, rl, rv, pd, ot, ol, uS, uT, uC, uP, uK) (nI w) nm (nI x) (nI s) := by
  unfold wpX_nameMatches
  dsimp only
  rcases hn with (⟨j, hj, rfl⟩ | ⟨a, ha, rfl⟩) | rfl
  · rw [te_nmT mem w x s (show j < 64 by omega) (show x < 64 by omega)] at hp
    refine br_f (te_n99 (by omega)) (br_t (nI_lt (b := 64) (by omega) (by decide)) (pk_eq j x (fun q => ?_) (fun q => ?_)))
    · rw [decide_eq_true q] at hp; exact hp
    · rw [decide_eq_false q] at hp; exact hp
  · rw [te_nmA mem w x s ha] at hp
    refine br_f (te_n99 (by omega)) (br_f (nI_nlt (b := 64) (by omega) (by omega)) ?_)
    rw [show nI (64 + a) - 64 = nI a from (pk_sub (b := 64) (by omega)).trans (congrArg nI (by omega))]
    refine te_xIs hw (by omega) ha ⟨te_nb (te_bv01 _ _), ?_⟩
    rw [hm x a (by omega) ha, te_bd (te_bv01 _ _)] at hp
    exact hp
  · rw [te_nmS] at hp
    refine br_t rfl (pk_eq x s (fun q => ?_) (fun q => ?_))
    · rw [decide_eq_true q] at hp; exact hp
    · rw [decide_eq_false q] at hp; exact hp
theorem te_xRm {post : Int32 → Prop} {w x s k k' : Nat} {c : Int32} {cs ct cc : Nat → Int32} (hm : ∀ x a, x < 12 → a < 8 → mem (w * 96 + x * 8 + a) = te_bv (mb (w * 12 + x)) a) (hw : w < 2) (ht : t ≤ 12) (hs : s < t) (hx : x < t) (hk : k < 144)
    (e1 : rs k = cs k') (e2 : rt k = ct k') (e3 : rl k = cc k') (n1 : te_tn t (cs k')) (n2 : te_sn t (ct k'))
    (hp : post (te_b (te_rm mem w cs ct cc k' s x c))) : wpX_ruleMatches post (nI t, nI cap, sq, vi, vs, vt, vp, nI np, nI no, nI h, tot, mb, rc, rs, rt, rl, rv, pd, ot, ol, uS, uT, uC, uP, uK) (nI w) (nI k) (nI s) (nI x) c := by
  unfold wpX_ruleMatches
  dsimp only
  rw [nI_clamp (show k < 2 ^ 31 by omega), e1, e2, e3]
  have hi : vp_in (nI k) 144 := vp_in_nI hk (by decide)
  unfold te_rm at hp
  refine ⟨hi, ?_⟩
  by_cases hc : cc k' = c
  · rw [decide_eq_true hc, Bool.true_and] at hp
    refine br_t hc ⟨hi, ?_⟩
    refine te_xNm hm hw ht (Or.inl n1) hs hs ?_
    cases q1 : te_nm mem w (cs k') s s
    · rw [q1, Bool.false_and] at hp
      exact br_t rfl hp
    · rw [q1, Bool.true_and] at hp
      refine br_f (by decide) ⟨hi, ?_⟩
      refine te_xNm hm hw ht n2 hx hs ?_
      cases q2 : te_nm mem w (ct k') x s
      · rw [q2] at hp
        exact br_t rfl hp
      · rw [q2] at hp
        exact br_f (by decide) hp
  · rw [decide_eq_false hc, Bool.false_and] at hp
    exact br_f hc hp
theorem te_orF {M : Nat → Bool} {V : Nat → Int32} {i : Nat} (q : M i = false) : te_or M V (i + 1) = te_or M V i := by
  show (if M i = true then _ else _) = _
  rw [q]
  rfl
theorem te_orT {M : Nat → Bool} {V : Nat → Int32} {i : Nat} (q : M i = true) : te_or M V (i + 1) = te_or M V i ||| V i := if_pos q
theorem te_fsF {M : Nat → Bool} {V : Nat → Int32} {n i : Nat} (q : M i = false) : te_fst M V (n + 1) i = te_fst M V n (i + 1) := by
  show (if M i = true then _ else _) = _
  rw [q]
  rfl
theorem te_fsT {M : Nat → Bool} {V : Nat → Int32} {n i : Nat} (q : M i = true) : te_fst M V (n + 1) i = V i := if_pos q
theorem te_xVL {post : Int32 → Prop} {Q : Int32 → Prop} {w x s xb yb n : Nat} {c : Int32} {cs ct cc cv : Nat → Int32} (hm : ∀ x a, x < 12 → a < 8 → mem (w * 96 + x * 8 + a) = te_bv (mb (w * 12 + x)) a) (hw : w < 2) (ht : t ≤ 12) (hs : s < t) (hx : x < t)
    (hL : te_lst Q t n xb yb rs rt rl rv cs ct cc cv) (hb : xb + n ≤ 144) (hp : post (te_vec mem w yb n cs ct cc cv s x c)) :
    ∀ d i, i + d = n → wX_allowedPerms_21 post (nI w) (nI s) (nI x) c (nI xb) (nI n) (nI t) (nI cap) sq vi vs vt vp (nI np) (nI no) (nI h) tot mb rc rs rt rl rv pd ot ol uS uT uC uP uK (d + 1) (te_or (fun i => te_rm mem w cs ct cc (yb + i) s x c) (fun i => cv (yb + i)) i) (nI i) := by
  intro d
  induction d with
  | zero =>
    intro i hi
    have e : i = n := by omega
    subst e
    exact br_t (nI_le (Nat.le_refl _) (by omega)) hp
  | succ d ih =>
    intro i hi
    obtain ⟨⟨e1, e2, e3, e4⟩, n1, n2, -⟩ := hL i (by omega)
    refine br_f (nI_ge (by omega) (by omega)) ?_
    rw [nI_add xb i]
    refine te_xRm hm hw ht hs hx (by omega) e1 e2 e3 n1 n2 ?_
    have k := ih (i + 1) (by omega)
    cases q : te_rm mem w cs ct cc (yb + i) s x c
    · rw [te_orF q] at k
      exact br_t rfl (nm_r (nI_1 i) k)
    · rw [te_orT q] at k
      refine br_f (by decide) ⟨vp_in_nI (by omega) (by decide), ?_⟩
      rw [nI_clamp (show xb + i < 2 ^ 31 by omega), e4]
      exact nm_e (nm_r (nI_1 i) k)
theorem te_xTL {post : Int32 → Prop} {Q : Int32 → Prop} {w x s xb yb n : Nat} {c : Int32} {cs ct cc cv : Nat → Int32} (hm : ∀ x a, x < 12 → a < 8 → mem (w * 96 + x * 8 + a) = te_bv (mb (w * 12 + x)) a) (hw : w < 2) (ht : t ≤ 12) (hs : s < t) (hx : x < t)
    (hL : te_lst Q t n xb yb rs rt rl rv cs ct cc cv) (hb : xb + n ≤ 144) :
    ∀ d i, i + d = n → post (te_fst (fun i => te_rm mem w cs ct cc (yb + i) s x c) (fun i => cv (yb + i)) d i) → wX_transitionType_18 post (nI w) (nI s) (nI x) c (nI xb) (nI n) (nI t) (nI cap) sq vi vs vt vp (nI np) (nI no) (nI h) tot mb rc rs rt rl rv pd ot ol uS uT uC uP uK (d + 1) (nI i) := by
  intro d
  induction d with
  | zero =>
    intro i hi hp
    have e : i = n := by omega
    subst e
    exact br_t (nI_le (Nat.le_refl _) (by omega)) hp
  | succ d ih =>
    intro i hi hp
    obtain ⟨⟨e1, e2, e3, e4⟩, n1, n2, -⟩ := hL i (by omega)
    refine br_f (nI_ge (by omega) (by omega)) ?_
    rw [nI_add xb i]
    refine te_xRm hm hw ht hs hx (by omega) e1 e2 e3 n1 n2 ?_
    cases q : te_rm mem w cs ct cc (yb + i) s x c
    · rw [te_fsF q] at hp
      exact br_t rfl (nm_r (nI_1 i) (ih (i + 1) (by omega) hp))
    · rw [te_fsT q] at hp
      refine br_f (by decide) ⟨vp_in_nI (by omega) (by decide), ?_⟩
      rw [nI_clamp (show xb + i < 2 ^ 31 by omega), e4]
      exact hp
theorem te_xVe {post : Int32 → Prop} {w x s ca cn cx : Nat} {c : Int32} (hP : te_P t w ca cn cx mb rc rs rt rl rv mem aS aT aC aP aN ns nt nc nv nN xs xt xc xv xN) (hw : w < 2) (ht : t ≤ 12) (hs : s < t) (hx : x < t)
    (hp : post (te_vec mem w (w * 24) ca aS aT aC aP s x c)) : wpX_allowedPerms post (nI t, nI cap, sq, vi, vs, vt, vp, nI np, nI no, nI h, tot, mb, rc, rs, rt, rl, rv, pd, ot, ol, uS, uT, uC, uP, uK) (nI w) (nI s) (nI x) c := by
  obtain ⟨hm, ⟨q1, q2, q3⟩, ⟨r1, r2, r3⟩, ⟨n1, n2, n3⟩, l1, l2, l3⟩ := hP
  unfold wpX_allowedPerms
  dsimp only
  refine te_xFR (l := 0) (te_xCR (l := 0) hw (by decide) ?_)
  rw [show rc (w * 3 + 0) = nI ca from r1, show (w * 3 + 0) * 24 = w * 72 by omega]
  exact ⟨_, te_xVL hm hw ht hs hx l1 (by omega) hp ca 0 (by omega)⟩
theorem te_xTr {post : Int32 → Prop} {w x s ca cn cx : Nat} {c : Int32} (hP : te_P t w ca cn cx mb rc rs rt rl rv mem aS aT aC aP aN ns nt nc nv nN xs xt xc xv xN) (hw : w < 2) (ht : t ≤ 12) (hs : s < t) (hx : x < t)
    (hp : post (te_tr mem w (w * 12) cx xs xt xc xv s x c)) : wpX_transitionType post (nI t, nI cap, sq, vi, vs, vt, vp, nI np, nI no, nI h, tot, mb, rc, rs, rt, rl, rv, pd, ot, ol, uS, uT, uC, uP, uK) (nI w) (nI s) (nI x) c := by
  obtain ⟨hm, ⟨q1, q2, q3⟩, ⟨r1, r2, r3⟩, ⟨n1, n2, n3⟩, l1, l2, l3⟩ := hP
  unfold wpX_transitionType
  dsimp only
  refine te_xFR (l := 2) (te_xCR (l := 2) hw (by decide) ?_)
  rw [show rc (w * 3 + 2) = nI cx from r3, show (w * 3 + 2) * 24 = w * 72 + 48 by omega]
  exact ⟨_, te_xTL hm hw ht hs hx l3 (by omega) cx 0 (by omega) hp⟩
theorem te_xLk {post : Int32 → Prop} {x s ca cn cx : Nat} {c p : Int32} (hP : te_P t 0 ca cn cx mb rc rs rt rl rv mem aS aT aC aP aN ns nt nc nv nN xs xt xc xv xN) (ht : t ≤ 12) (hs : s < t) (hx : x < t)
    (f : te_vec mem 0 0 ca aS aT aC aP s x c &&& p = 0 → post 1) (g : ¬ te_vec mem 0 0 ca aS aT aC aP s x c &&& p = 0 → post 0) : wpX_lacks post (nI t, nI cap, sq, vi, vs, vt, vp, nI np, nI no, nI h, tot, mb, rc, rs, rt, rl, rv, pd, ot, ol, uS, uT, uC, uP, uK) (nI s) (nI x) c p := by
  unfold wpX_lacks
  dsimp only
  exact te_xVe (w := 0) hP (by decide) ht hs hx (br_c f g)
theorem te_xTo {post : Int32 → Prop} {x s ca cn cx : Nat} {c p : Int32} (hP : te_P t 0 ca cn cx mb rc rs rt rl rv mem aS aT aC aP aN ns nt nc nv nN xs xt xc xv xN) (ht : t ≤ 12) (hs : s < t) (hx : x < t)
    (f : te_tr mem 0 0 cx xs xt xc xv s x c = -5 → post p) (g : ¬ te_tr mem 0 0 cx xs xt xc xv s x c = -5 → post (te_tr mem 0 0 cx xs xt xc xv s x c)) : wpX_transitionOr post (nI t, nI cap, sq, vi, vs, vt, vp, nI np, nI no, nI h, tot, mb, rc, rs, rt, rl, rv, pd, ot, ol, uS, uT, uC, uP, uK) (nI s) (nI x) c p := by
  unfold wpX_transitionOr
  dsimp only
  exact te_xTr (w := 0) hP (by decide) ht hs hx (br_c f g)
theorem te_xBr {post : Int32 → Prop} {x s n ca cn cx : Nat} (hP : te_P t 1 ca cn cx mb rc rs rt rl rv mem aS aT aC aP aN ns nt nc nv nN xs xt xc xv xN) (ht : t ≤ 12) (hn : n < cn) (hs : s < t) (hx : x < t)
    (hp : post (te_bp mem ca aS aT aC aP ns nt nc nv n s x)) : wpX_brokenPerms post (nI t, nI cap, sq, vi, vs, vt, vp, nI np, nI no, nI h, tot, mb, rc, rs, rt, rl, rv, pd, ot, ol, uS, uT, uC, uP, uK) (nI n) (nI s) (nI x) := by
  have hP' := hP
  obtain ⟨hm, ⟨q1, q2, q3⟩, ⟨r1, r2, r3⟩, ⟨n1, n2, n3⟩, l1, l2, l3⟩ := hP
  obtain ⟨⟨e1, e2, e3, e4⟩, m1, m2, -⟩ := l2 n hn
  have hi : vp_in (nI (96 + n)) 144 := vp_in_nI (by omega) (by decide)
  unfold wpX_brokenPerms
  dsimp only
  refine te_xFR (w := 1) (l := 1) (nm_r (nI_add 96 n) ⟨hi, ?_⟩)
  rw [nI_clamp (show 96 + n < 2 ^ 31 by omega)]
  refine nm_r (e3 : rl (96 + n) = nc (6 + n)) ?_
  refine te_xRm (w := 1) (k' := 6 + n) (cs := ns) (ct := nt) (cc := nc) hm (by decide) ht hs hx (by omega) e1 e2 e3 m1 m2 ?_
  unfold te_bp at hp
  cases q : te_rm mem 1 ns nt nc (6 + n) s x (nc (6 + n))
  · rw [q] at hp
    exact br_t rfl hp
  · rw [q] at hp
    refine br_f (by decide) (te_xVe (w := 1) hP' (by decide) ht hs hx ⟨hi, ?_⟩)
    rw [show rv (96 + n) = nv (6 + n) from e4]
    exact hp
end
end
section
section
variable {t cap np no h : Nat} {sq vi vs vt vp tot : Int32} {mb rc rs rt rl rv mem aS aT aC aP aN ns nt nc nv nN xs xt xc xv xN pd ot ol uS uT uC uP uK : Nat → Int32}

theorem te_rmN1 {m : Nat → Int32} {w k s x : Nat} {cs ct cc : Nat → Int32} {c : Int32} (q : ¬ cc k = c) : te_rm m w cs ct cc k s x c = false := by
  unfold te_rm
  rw [decide_eq_false q, Bool.false_and]
theorem te_rmN2 {m : Nat → Int32} {w k s x : Nat} {cs ct cc : Nat → Int32} {c : Int32} (q : te_nm m w (cs k) s s = false) : te_rm m w cs ct cc k s x c = false := by
  unfold te_rm
  rw [q, Bool.false_and, Bool.and_false]
theorem te_rmN3 {m : Nat → Int32} {w k s x : Nat} {cs ct cc : Nat → Int32} {c : Int32} (q : te_nm m w (ct k) x s = false) : te_rm m w cs ct cc k s x c = false := by
  unfold te_rm
  rw [q, Bool.and_false, Bool.and_false]
theorem te_rmY {m : Nat → Int32} {w k s x : Nat} {cs ct cc : Nat → Int32} {c : Int32} (q : cc k = c) (q1 : te_nm m w (cs k) s s = true) (q2 : te_nm m w (ct k) x s = true) : te_rm m w cs ct cc k s x c = true := by
  unfold te_rm
  rw [decide_eq_true q, q1, q2]
  rfl
theorem te_yTy {post : Int32 → Prop} {v : Int32} (ht : t ≤ 12) (f : te_ty t v → post 1) (g : ¬ te_ty t v → post 0) : wpY_isType post (nI t, nI cap, sq, vi, vs, vt, vp, nI np, nI no, nI h, tot, mem, aS, aT, aC, aP, aN, ns, nt, nc, nv, nN, xs, xt, xc, xv, xN, pd, ot, ol, uS, uT, uC, uP, uK) v := by
  rcases te_neg v with h0 | ⟨j, hj, rfl⟩
  · exact br_t h0 (g (te_tyN h0 (by omega)))
  · exact br_f (nI_pos hj) (pk_le t j (fun q => g (te_tyI hj (by omega) q)) (fun q => f ⟨j, q, rfl⟩))
theorem te_yAt {post : Int32 → Prop} {v : Int32} (f : te_at v → post 1) (g : ¬ te_at v → post 0) : wpY_isAttr post (nI t, nI cap, sq, vi, vs, vt, vp, nI np, nI no, nI h, tot, mem, aS, aT, aC, aP, aN, ns, nt, nc, nv, nN, xs, xt, xc, xv, xN, pd, ot, ol, uS, uT, uC, uP, uK) v := by
  rcases te_neg v with h0 | ⟨j, hj, rfl⟩
  · exact br_t (te_lt (a := 64) h0 (by decide)) (g (te_atN h0))
  · exact pk_lt j 64 (fun q1 => g (te_atI hj (Or.inl q1))) (fun q1 => pk_le 72 j (fun q2 => g (te_atI hj (Or.inr q2))) (fun q2 => f ⟨j - 64, by omega, congrArg nI (by omega)⟩))
theorem te_yTA {A B : Prop} {v : Int32} (ht : t ≤ 12) (f : te_tn t v → A) (g : ¬ te_tn t v → B) :
    wpY_isType (fun r => (r = 0 → wpY_isAttr (fun r' => (r' = 0 → B) ∧ (¬ r' = 0 → A)) (nI t, nI cap, sq, vi, vs, vt, vp, nI np, nI no, nI h, tot, mem, aS, aT, aC, aP, aN, ns, nt, nc, nv, nN, xs, xt, xc, xv, xN, pd, ot, ol, uS, uT, uC, uP, uK) v) ∧ (¬ r = 0 → A)) (nI t, nI cap, sq, vi, vs, vt, vp, nI np, nI no, nI h, tot, mem, aS, aT, aC, aP, aN, ns, nt, nc, nv, nN, xs, xt, xc, xv, xN, pd, ot, ol, uS, uT, uC, uP, uK) v :=
  te_yTy ht (fun q => br_f (by decide) (f (Or.inl q))) (fun q => br_t rfl (te_yAt (fun q2 => br_f (by decide) (f (Or.inr q2))) (fun q2 => br_t rfl (g (te_tnF q q2)))))
theorem te_ix (w x a : Nat) : nI w * 96 + nI x * 8 + nI (64 + a) - 64 = nI (w * 96 + x * 8 + a) := by
  rw [show nI w * 96 = nI (w * 96) from pk_mul w 96, show nI x * 8 = nI (x * 8) from pk_mul x 8, nI_add, nI_add]
  exact (pk_sub (b := 64) (by omega)).trans (congrArg nI (by omega))
theorem te_yNm {post : Int32 → Prop} {w x s : Nat} {nm : Int32} (hm : ∀ x a, x < 12 → a < 8 → mem (w * 96 + x * 8 + a) = te_bv (mb (w * 12 + x)) a) (hw : w < 2) (ht : t ≤ 12) (hn : te_sn t nm) (hx : x < t) (hs : s < t)
    (hp : post (te_b (te_nm mem w nm x s))) : wpY_matches post (nI t, nI cap, sq, vi, vs, vt, vp, nI np, nI no, nI h, tot, mem, aS, aT, aC, aP, aN, ns, nt, nc, nv, nN, xs, xt, xc, xv, xN, pd, ot, ol, uS, uT, uC, uP, uK) (nI w) nm (nI x) (nI s) := by
  unfold wpY_matches
  dsimp only
  rcases hn with (⟨j, hj, rfl⟩ | ⟨a, ha, rfl⟩) | rfl
  · rw [te_nmT mem w x s (show j < 64 by omega) (show x < 64 by omega)] at hp
    refine br_f (nI_pos (by omega)) (br_f (nI_ge hj (by omega)) (pk_eq j x (fun q => ?_) (fun q => ?_)))
    · rw [decide_eq_true q] at hp; exact hp
    · rw [decide_eq_false q] at hp; exact hp
  · rw [te_nmA mem w x s ha] at hp
    refine br_f (nI_pos (by omega)) (br_t (nI_le (by omega) (by omega)) ?_)
    unfold wY_matches_23
    refine te_yAt (fun _ => br_f (by decide) ?_) (fun z => absurd ⟨a, ha, rfl⟩ z)
    rw [te_ix w x a, nI_clamp (show w * 96 + x * 8 + a < 2 ^ 31 by omega)]
    have e := hm x a (by omega) ha
    rw [e] at hp ⊢
    rw [te_bd (te_bv01 _ _)] at hp
    exact ⟨vp_in_nI (by omega) (by decide), te_nb (te_bv01 _ _), hp⟩
  · rw [te_nmS] at hp
    refine br_f (by decide) (br_t (nI_le (b := 99) (by omega) (by decide)) ?_)
    unfold wY_matches_23
    refine te_yAt (fun z => absurd z (te_atI (j := 99) (by decide) (Or.inr (by decide)))) (fun _ => br_t rfl (br_t rfl (pk_eq x s (fun q => ?_) (fun q => ?_))))
    · rw [decide_eq_true q] at hp; exact hp
    · rw [decide_eq_false q] at hp; exact hp
theorem te_yVL {post : Int32 → Prop} {Q : Int32 → Prop} {w x s xb n : Nat} {c : Int32} (hm : ∀ x a, x < 12 → a < 8 → mem (w * 96 + x * 8 + a) = te_bv (mb (w * 12 + x)) a) (hw : w < 2) (ht : t ≤ 12) (hs : s < t) (hx : x < t)
    (hN : aN w = nI n) (hL : te_lst Q t n xb (w * 24) rs rt rl rv aS aT aC aP) (hb : n ≤ 24) (hp : post (te_vec mem w (w * 24) n aS aT aC aP s x c)) :
    ∀ d i, i + d = n → wY_vec_6 post (nI w) (nI s) (nI x) c (nI t) (nI cap) sq vi vs vt vp (nI np) (nI no) (nI h) tot mem aS aT aC aP aN ns nt nc nv nN xs xt xc xv xN pd ot ol uS uT uC uP uK (d + 1) (te_or (fun i => te_rm mem w aS aT aC (w * 24 + i) s x c) (fun i => aP (w * 24 + i)) i) (nI i) := by
  intro d
  induction d with
  | zero =>
    intro i hi
    have e : i = n := by omega
    subst e
    refine ⟨vp_in_nI hw (by decide), ?_⟩
    rw [nI_clamp (show w < 2 ^ 31 by omega), hN]
    exact br_t (nI_le (Nat.le_refl _) (by omega)) hp
  | succ d ih =>
    intro i hi'
    obtain ⟨-, n1, n2, -⟩ := hL i (by omega)
    have hi : vp_in (nI (w * 24 + i)) 48 := vp_in_nI (by omega) (by decide)
    refine ⟨vp_in_nI hw (by decide), ?_⟩
    rw [nI_clamp (show w < 2 ^ 31 by omega), hN]
    refine br_f (nI_ge (by omega) (by omega)) (nm_r (te_ml w 24 i rfl) ⟨hi, ?_⟩)
    rw [nI_clamp (show w * 24 + i < 2 ^ 31 by omega)]
    have k := ih (i + 1) (by omega)
    by_cases hc : aC (w * 24 + i) = c
    · refine br_t hc ⟨hi, te_yNm hm hw ht (Or.inl n1) hs hs ?_⟩
      cases q1 : te_nm mem w (aS (w * 24 + i)) s s
      · rw [te_orF (M := fun i => te_rm mem w aS aT aC (w * 24 + i) s x c) (i := i) (te_rmN2 q1)] at k
        exact br_t rfl (nm_r (nI_1 i) k)
      · refine br_f (by decide) ⟨hi, te_yNm hm hw ht n2 hx hs ?_⟩
        cases q2 : te_nm mem w (aT (w * 24 + i)) x s
        · rw [te_orF (M := fun i => te_rm mem w aS aT aC (w * 24 + i) s x c) (i := i) (te_rmN3 q2)] at k
          exact br_t rfl (nm_r (nI_1 i) k)
        · rw [te_orT (M := fun i => te_rm mem w aS aT aC (w * 24 + i) s x c) (i := i) (te_rmY hc q1 q2)] at k
          exact br_f (by decide) ⟨hi, nm_e (nm_r (nI_1 i) k)⟩
    · rw [te_orF (M := fun i => te_rm mem w aS aT aC (w * 24 + i) s x c) (i := i) (te_rmN1 hc)] at k
      exact br_f hc (nm_r (nI_1 i) k)
theorem te_yTL {post : Int32 → Prop} {Q : Int32 → Prop} {w x s xb n : Nat} {c : Int32} (hm : ∀ x a, x < 12 → a < 8 → mem (w * 96 + x * 8 + a) = te_bv (mb (w * 12 + x)) a) (hw : w < 2) (ht : t ≤ 12) (hs : s < t) (hx : x < t)
    (hN : xN w = nI n) (hL : te_lst Q t n xb (w * 12) rs rt rl rv xs xt xc xv) (hb : n ≤ 12) :
    ∀ d i, i + d = n → post (te_fst (fun i => te_rm mem w xs xt xc (w * 12 + i) s x c) (fun i => xv (w * 12 + i)) d i) → wY_transOf_3 post (nI w) (nI s) (nI x) c (nI t) (nI cap) sq vi vs vt vp (nI np) (nI no) (nI h) tot mem aS aT aC aP aN ns nt nc nv nN xs xt xc xv xN pd ot ol uS uT uC uP uK (d + 1) (nI i) := by
  intro d
  induction d with
  | zero =>
    intro i hi hp
    have e : i = n := by omega
    subst e
    refine ⟨vp_in_nI hw (by decide), ?_⟩
    rw [nI_clamp (show w < 2 ^ 31 by omega), hN]
    exact br_t (nI_le (Nat.le_refl _) (by omega)) hp
  | succ d ih =>
    intro i hi' hp
    obtain ⟨-, n1, n2, -⟩ := hL i (by omega)
    have hi : vp_in (nI (w * 12 + i)) 24 := vp_in_nI (by omega) (by decide)
    refine ⟨vp_in_nI hw (by decide), ?_⟩
    rw [nI_clamp (show w < 2 ^ 31 by omega), hN]
    refine br_f (nI_ge (by omega) (by omega)) (nm_r (te_ml w 12 i rfl) ⟨hi, ?_⟩)
    rw [nI_clamp (show w * 12 + i < 2 ^ 31 by omega)]
    
    by_cases hc : xc (w * 12 + i) = c
    · refine br_t hc ⟨hi, te_yNm hm hw ht (Or.inl n1) hs hs ?_⟩
      cases q1 : te_nm mem w (xs (w * 12 + i)) s s
      · rw [te_fsF (M := fun i => te_rm mem w xs xt xc (w * 12 + i) s x c) (i := i) (te_rmN2 q1)] at hp
        exact br_t rfl (nm_r (nI_1 i) (ih (i + 1) (by omega) hp))
      · refine br_f (by decide) ⟨hi, te_yNm hm hw ht n2 hx hs ?_⟩
        cases q2 : te_nm mem w (xt (w * 12 + i)) x s
        · rw [te_fsF (M := fun i => te_rm mem w xs xt xc (w * 12 + i) s x c) (i := i) (te_rmN3 q2)] at hp
          exact br_t rfl (nm_r (nI_1 i) (ih (i + 1) (by omega) hp))
        · rw [te_fsT (M := fun i => te_rm mem w xs xt xc (w * 12 + i) s x c) (i := i) (te_rmY hc q1 q2)] at hp
          exact br_f (by decide) ⟨hi, hp⟩
    · rw [te_fsF (M := fun i => te_rm mem w xs xt xc (w * 12 + i) s x c) (i := i) (te_rmN1 hc)] at hp
      exact br_f hc (nm_r (nI_1 i) (ih (i + 1) (by omega) hp))

theorem te_yVe {post : Int32 → Prop} {w x s ca cn cx : Nat} {c : Int32} (hP : te_P t w ca cn cx mb rc rs rt rl rv mem aS aT aC aP aN ns nt nc nv nN xs xt xc xv xN) (hw : w < 2) (ht : t ≤ 12) (hs : s < t) (hx : x < t)
    (hp : post (te_vec mem w (w * 24) ca aS aT aC aP s x c)) : wpY_vec post (nI t, nI cap, sq, vi, vs, vt, vp, nI np, nI no, nI h, tot, mem, aS, aT, aC, aP, aN, ns, nt, nc, nv, nN, xs, xt, xc, xv, xN, pd, ot, ol, uS, uT, uC, uP, uK) (nI w) (nI s) (nI x) c := by
  obtain ⟨hm, ⟨q1, q2, q3⟩, ⟨r1, r2, r3⟩, ⟨n1, n2, n3⟩, l1, l2, l3⟩ := hP
  exact ⟨_, te_yVL hm hw ht hs hx n1 l1 q1 hp ca 0 (by omega)⟩
theorem te_yTr {post : Int32 → Prop} {w x s ca cn cx : Nat} {c : Int32} (hP : te_P t w ca cn cx mb rc rs rt rl rv mem aS aT aC aP aN ns nt nc nv nN xs xt xc xv xN) (hw : w < 2) (ht : t ≤ 12) (hs : s < t) (hx : x < t)
    (hp : post (te_tr mem w (w * 12) cx xs xt xc xv s x c)) : wpY_transOf post (nI t, nI cap, sq, vi, vs, vt, vp, nI np, nI no, nI h, tot, mem, aS, aT, aC, aP, aN, ns, nt, nc, nv, nN, xs, xt, xc, xv, xN, pd, ot, ol, uS, uT, uC, uP, uK) (nI w) (nI s) (nI x) c := by
  obtain ⟨hm, ⟨q1, q2, q3⟩, ⟨r1, r2, r3⟩, ⟨n1, n2, n3⟩, l1, l2, l3⟩ := hP
  exact ⟨_, te_yTL hm hw ht hs hx n3 l3 q3 cx 0 (by omega) hp⟩
end
end
section
section
variable {t cap np no h : Nat} {sq vi vs vt vp tot : Int32} {mb rc rs rt rl rv mem aS aT aC aP aN ns nt nc nv nN xs xt xc xv xN pd ot ol uS uT uC uP uK : Nat → Int32}

theorem te_xFs {post : Int32 → Prop} {s x c p : Int32} {j m : Nat} (hh : h ≤ 16) (hj : j < h) (nh : ¬ te_hit uS uT uC uP s x c p j)
    (k : wX_findEntry_3 post s x c p (nI t) (nI cap) sq vi vs vt vp (nI np) (nI no) (nI h) tot mb rc rs rt rl rv pd ot ol uS uT uC uP uK m (nI (j + 1))) : wX_findEntry_3 post s x c p (nI t) (nI cap) sq vi vs vt vp (nI np) (nI no) (nI h) tot mb rc rs rt rl rv pd ot ol uS uT uC uP uK (m + 1) (nI j) := by
  have hi : vp_in (nI j) 16 := vp_in_nI (by omega) (by decide)
  refine br_f (nI_ge hj (by omega)) ?_
  rw [nI_clamp (show j < 2 ^ 31 by omega)]
  refine ⟨hi, ?_⟩
  by_cases a : uS j = s
  · refine br_t a ⟨hi, ?_⟩
    by_cases b : uT j = x
    · refine br_t b ⟨hi, ?_⟩
      by_cases d : uC j = c
      · refine br_t d ⟨hi, ?_⟩
        by_cases e : uP j = p
        · exact absurd ⟨a, b, d, e⟩ nh
        · exact br_f e (nm_r (nI_1 j) k)
      · exact br_f d (nm_r (nI_1 j) k)
    · exact br_f b (nm_r (nI_1 j) k)
  · exact br_f a (nm_r (nI_1 j) k)
theorem te_xFh {post : Int32 → Prop} {s x c p : Int32} {j m : Nat} (hh : h ≤ 16) (hj : j < h) (nh : te_hit uS uT uC uP s x c p j)
    (k : post (nI j)) : wX_findEntry_3 post s x c p (nI t) (nI cap) sq vi vs vt vp (nI np) (nI no) (nI h) tot mb rc rs rt rl rv pd ot ol uS uT uC uP uK (m + 1) (nI j) := by
  have hi : vp_in (nI j) 16 := vp_in_nI (by omega) (by decide)
  obtain ⟨a, b, d, e⟩ := nh
  refine br_f (nI_ge hj (by omega)) ?_
  rw [nI_clamp (show j < 2 ^ 31 by omega)]
  exact ⟨hi, br_t a ⟨hi, br_t b ⟨hi, br_t d ⟨hi, br_t e k⟩⟩⟩⟩
theorem te_xFiH {post : Int32 → Prop} {s x c p : Int32} {i : Nat} (hh : h ≤ 16) (hi : i < h) (nh : te_hit uS uT uC uP s x c p i) (nl : ∀ j, j < i → ¬ te_hit uS uT uC uP s x c p j)
    (k : post (nI i)) : wpX_findEntry post (nI t, nI cap, sq, vi, vs, vt, vp, nI np, nI no, nI h, tot, mb, rc, rs, rt, rl, rv, pd, ot, ol, uS, uT, uC, uP, uK) s x c p := by
  have L : ∀ d j, j + d = i → wX_findEntry_3 post s x c p (nI t) (nI cap) sq vi vs vt vp (nI np) (nI no) (nI h) tot mb rc rs rt rl rv pd ot ol uS uT uC uP uK (d + 1) (nI j) := by
    intro d
    induction d with
    | zero =>
      intro j hj
      have e : j = i := by omega
      subst e
      exact te_xFh hh hi nh k
    | succ d ih => exact fun j hj => te_xFs hh (by omega) (nl j (by omega)) (ih (j + 1) (by omega))
  exact ⟨_, L i 0 (by omega)⟩
theorem te_xFiN {post : Int32 → Prop} {s x c p : Int32} (hh : h ≤ 16) (nl : ∀ j, j < h → ¬ te_hit uS uT uC uP s x c p j)
    (k : post (-5)) : wpX_findEntry post (nI t, nI cap, sq, vi, vs, vt, vp, nI np, nI no, nI h, tot, mb, rc, rs, rt, rl, rv, pd, ot, ol, uS, uT, uC, uP, uK) s x c p := by
  have L : ∀ d j, j + d = h → wX_findEntry_3 post s x c p (nI t) (nI cap) sq vi vs vt vp (nI np) (nI no) (nI h) tot mb rc rs rt rl rv pd ot ol uS uT uC uP uK (d + 1) (nI j) := by
    intro d
    induction d with
    | zero =>
      intro j hj
      have e : j = h := by omega
      subst e
      exact br_t (nI_le (Nat.le_refl _) (by omega)) k
    | succ d ih => exact fun j hj => te_xFs hh (by omega) (nl j (by omega)) (ih (j + 1) (by omega))
  exact ⟨_, L h 0 (by omega)⟩
theorem te_xDL {post : SX → Prop} (hh : h ≤ 16) (k : post (nI t, nI cap, sq, vi, vs, vt, vp, nI np, nI no, nI (h - 1), tot, mb, rc, rs, rt, rl, rv, pd, ot, ol, te_sh uS (h - 1), te_sh uT (h - 1), te_sh uC (h - 1), te_sh uP (h - 1), te_sh uK (h - 1))) :
    ∀ d i, i + 1 + d = h → wX_dropOldestEntry_2 post (nI t) (nI cap) sq vi vs vt vp (nI np) (nI no) (nI h) tot (d + 1) (nI (i + 1)) mb rc rs rt rl rv pd ot ol (te_sh uS i) (te_sh uT i) (te_sh uC i) (te_sh uP i) (te_sh uK i) := by
  intro d
  induction d with
  | zero =>
    intro i hi
    have e : h = i + 1 := by omega
    subst e
    exact br_t (nI_le (Nat.le_refl _) (by omega)) (nm_r (nI_pred i) k)
  | succ d ih =>
    intro i hi
    have q := ih (i + 1) (by omega)
    have h1 : vp_in (nI (i + 1)) 16 := vp_in_nI (by omega) (by decide)
    have h2 : vp_in (nI i) 16 := vp_in_nI (by omega) (by decide)
    refine br_f (nI_ge (by omega) (by omega)) ?_
    rw [nI_pred i, nI_clamp (show i < 2 ^ 31 by omega), nI_clamp (show i + 1 < 2 ^ 31 by omega), te_shR, te_shR, te_shR, te_shR, te_shR]
    exact ⟨h1, h2, nm_r (te_shS uS i) ⟨h1, h2, nm_r (te_shS uT i) ⟨h1, h2, nm_r (te_shS uC i) ⟨h1, h2, nm_r (te_shS uP i) ⟨h1, h2, nm_r (te_shS uK i) (nm_r (nI_1 (i + 1)) q)⟩⟩⟩⟩⟩
theorem te_xDr {post : SX → Prop} (hh : h ≤ 16) (h0 : 0 < h) (k : post (nI t, nI cap, sq, vi, vs, vt, vp, nI np, nI no, nI (h - 1), tot, mb, rc, rs, rt, rl, rv, pd, ot, ol, te_sh uS (h - 1), te_sh uT (h - 1), te_sh uC (h - 1), te_sh uP (h - 1), te_sh uK (h - 1))) :
    wpX_dropOldestEntry post (nI t, nI cap, sq, vi, vs, vt, vp, nI np, nI no, nI h, tot, mb, rc, rs, rt, rl, rv, pd, ot, ol, uS, uT, uC, uP, uK) := by
  have q := te_xDL hh k (h - 1) 0 (by omega)
  rw [te_sh0, te_sh0, te_sh0, te_sh0, te_sh0] at q
  exact ⟨_, q⟩
theorem te_xAp {post : SX → Prop} {s x c p : Int32} (hh : h < 16) (k : post (nI t, nI cap, sq, vi, vs, vt, vp, nI np, nI no, nI (h + 1), tot, mb, rc, rs, rt, rl, rv, pd, ot, ol, upd uS h s, upd uT h x, upd uC h c, upd uP h p, upd uK h 1)) :
    wX_recordDenial_55 post s x c p (nI t) (nI cap) sq vi vs vt vp (nI np) (nI no) (nI h) tot mb rc rs rt rl rv pd ot ol uS uT uC uP uK := by
  have hi : vp_in (nI h) 16 := vp_in_nI hh (by decide)
  unfold wX_recordDenial_55
  rw [nI_clamp (show h < 2 ^ 31 by omega)]
  exact ⟨hi, nm_e ⟨hi, nm_e ⟨hi, nm_e ⟨hi, nm_e ⟨hi, nm_e (nm_r (nI_1 h) k)⟩⟩⟩⟩⟩
theorem te_xR1 {post : SX → Prop} {s x c p : Int32} {i : Nat} (hc : cap ≤ 16) (hh : h ≤ cap) (hi : i < h) (nh : te_hit uS uT uC uP s x c p i) (nl : ∀ j, j < i → ¬ te_hit uS uT uC uP s x c p j)
    (k : post (nI t, nI cap, sq, vi, vs, vt, vp, nI np, nI no, nI h, tot + 1, mb, rc, rs, rt, rl, rv, pd, ot, ol, uS, uT, uC, uP, upd uK i (uK i + 1))) : wpX_recordDenial post (nI t, nI cap, sq, vi, vs, vt, vp, nI np, nI no, nI h, tot, mb, rc, rs, rt, rl, rv, pd, ot, ol, uS, uT, uC, uP, uK) s x c p := by
  have hv : vp_in (nI i) 16 := vp_in_nI (by omega) (by decide)
  unfold wpX_recordDenial
  dsimp only
  refine nm_e (te_xFiH (by omega) hi nh nl (br_f ?_ ?_))
  · intro e
    have e2 : (nI i).toInt = (-5 : Int32).toInt := congrArg Int32.toInt e
    rw [nI_toInt (by omega), show (-5 : Int32).toInt = -5 by decide] at e2
    omega
  · rw [nI_clamp (show i < 2 ^ 31 by omega)]
    exact ⟨hv, hv, nm_e k⟩
theorem te_xR2 {post : SX → Prop} {s x c p : Int32} (hc : cap ≤ 16) (hh : h < cap) (nl : ∀ j, j < h → ¬ te_hit uS uT uC uP s x c p j)
    (k : post (nI t, nI cap, sq, vi, vs, vt, vp, nI np, nI no, nI (h + 1), tot + 1, mb, rc, rs, rt, rl, rv, pd, ot, ol, upd uS h s, upd uT h x, upd uC h c, upd uP h p, upd uK h 1)) : wpX_recordDenial post (nI t, nI cap, sq, vi, vs, vt, vp, nI np, nI no, nI h, tot, mb, rc, rs, rt, rl, rv, pd, ot, ol, uS, uT, uC, uP, uK) s x c p := by
  unfold wpX_recordDenial
  dsimp only
  exact nm_e (te_xFiN (by omega) nl (br_t rfl (br_t (nI_lt hh (by omega)) (te_xAp (by omega) k))))
theorem te_xR3 {post : SX → Prop} {s x c p : Int32} (hc4 : 4 ≤ cap) (hc : cap ≤ 16) (hh : h = cap) (nl : ∀ j, j < h → ¬ te_hit uS uT uC uP s x c p j)
    (k : post (nI t, nI cap, sq, vi, vs, vt, vp, nI np, nI no, nI h, tot + 1, mb, rc, rs, rt, rl, rv, pd, ot, ol, upd (te_sh uS (h - 1)) (h - 1) s, upd (te_sh uT (h - 1)) (h - 1) x, upd (te_sh uC (h - 1)) (h - 1) c, upd (te_sh uP (h - 1)) (h - 1) p, upd (te_sh uK (h - 1)) (h - 1) 1)) : wpX_recordDenial post (nI t, nI cap, sq, vi, vs, vt, vp, nI np, nI no, nI h, tot, mb, rc, rs, rt, rl, rv, pd, ot, ol, uS, uT, uC, uP, uK) s x c p := by
  unfold wpX_recordDenial
  dsimp only
  refine nm_e (te_xFiN (by omega) nl (br_t rfl (br_f (nI_nlt (by omega) (by omega)) (te_xDr (by omega) (by omega) ?_))))
  dsimp only
  refine te_xAp (by omega) ?_
  rw [show h - 1 + 1 = h by omega]
  exact k
/-! the reference -/
theorem te_yFs {post : SY → Prop} {s x c p : Int32} {j m : Nat} (hh : h ≤ 16) (hj : j < h) (nh : ¬ te_hit uS uT uC uP s x c p j)
    (k : wY_auditAdd_13 post s x c p (nI t) (nI cap) sq vi vs vt vp (nI np) (nI no) (nI h) tot mem aS aT aC aP aN ns nt nc nv nN xs xt xc xv xN pd ot ol uS uT uC uP uK m (nI (j + 1))) : wY_auditAdd_13 post s x c p (nI t) (nI cap) sq vi vs vt vp (nI np) (nI no) (nI h) tot mem aS aT aC aP aN ns nt nc nv nN xs xt xc xv xN pd ot ol uS uT uC uP uK (m + 1) (nI j) := by
  have hi : vp_in (nI j) 16 := vp_in_nI (by omega) (by decide)
  refine br_f (nI_ge hj (by omega)) ?_
  rw [nI_clamp (show j < 2 ^ 31 by omega)]
  refine ⟨hi, ?_⟩
  by_cases a : uS j = s
  · refine br_t a ⟨hi, ?_⟩
    by_cases b : uT j = x
    · refine br_t b ⟨hi, ?_⟩
      by_cases d : uC j = c
      · refine br_t d ⟨hi, ?_⟩
        by_cases e : uP j = p
        · exact absurd ⟨a, b, d, e⟩ nh
        · exact br_f e (nm_r (nI_1 j) k)
      · exact br_f d (nm_r (nI_1 j) k)
    · exact br_f b (nm_r (nI_1 j) k)
  · exact br_f a (nm_r (nI_1 j) k)
theorem te_yR1 {post : SY → Prop} {s x c p : Int32} {i : Nat} (hc : cap ≤ 16) (hh : h ≤ cap) (hi : i < h) (nh : te_hit uS uT uC uP s x c p i) (nl : ∀ j, j < i → ¬ te_hit uS uT uC uP s x c p j)
    (k : post (nI t, nI cap, sq, vi, vs, vt, vp, nI np, nI no, nI h, tot + 1, mem, aS, aT, aC, aP, aN, ns, nt, nc, nv, nN, xs, xt, xc, xv, xN, pd, ot, ol, uS, uT, uC, uP, upd uK i (uK i + 1))) : wpY_auditAdd post (nI t, nI cap, sq, vi, vs, vt, vp, nI np, nI no, nI h, tot, mem, aS, aT, aC, aP, aN, ns, nt, nc, nv, nN, xs, xt, xc, xv, xN, pd, ot, ol, uS, uT, uC, uP, uK) s x c p := by
  have hv : vp_in (nI i) 16 := vp_in_nI (by omega) (by decide)
  have L : ∀ d j, j + d = i → wY_auditAdd_13 post s x c p (nI t) (nI cap) sq vi vs vt vp (nI np) (nI no) (nI h) (tot + 1) mem aS aT aC aP aN ns nt nc nv nN xs xt xc xv xN pd ot ol uS uT uC uP uK (d + 1) (nI j) := by
    intro d
    induction d with
    | zero =>
      intro j hj
      have e : j = i := by omega
      subst e
      obtain ⟨a, b, d, e⟩ := nh
      refine br_f (nI_ge hi (by omega)) ?_
      rw [nI_clamp (show j < 2 ^ 31 by omega)]
      exact ⟨hv, br_t a ⟨hv, br_t b ⟨hv, br_t d ⟨hv, br_t e ⟨hv, hv, nm_e k⟩⟩⟩⟩⟩
    | succ d ih => exact fun j hj => te_yFs (by omega) (by omega) (nl j (by omega)) (ih (j + 1) (by omega))
  exact nm_e ⟨_, L i 0 (by omega)⟩
theorem te_yEn {post : SY → Prop} {s x c p : Int32} (hh : h ≤ 16) (nl : ∀ j, j < h → ¬ te_hit uS uT uC uP s x c p j)
    (k : wY_auditAdd_13 post s x c p (nI t) (nI cap) sq vi vs vt vp (nI np) (nI no) (nI h) (tot + 1) mem aS aT aC aP aN ns nt nc nv nN xs xt xc xv xN pd ot ol uS uT uC uP uK 1 (nI h)) : wpY_auditAdd post (nI t, nI cap, sq, vi, vs, vt, vp, nI np, nI no, nI h, tot, mem, aS, aT, aC, aP, aN, ns, nt, nc, nv, nN, xs, xt, xc, xv, xN, pd, ot, ol, uS, uT, uC, uP, uK) s x c p := by
  have L : ∀ d j, j + d = h → wY_auditAdd_13 post s x c p (nI t) (nI cap) sq vi vs vt vp (nI np) (nI no) (nI h) (tot + 1) mem aS aT aC aP aN ns nt nc nv nN xs xt xc xv xN pd ot ol uS uT uC uP uK (d + 1) (nI j) := by
    intro d
    induction d with
    | zero =>
      intro j hj
      have e : j = h := by omega
      subst e
      exact k
    | succ d ih => exact fun j hj => te_yFs hh (by omega) (nl j (by omega)) (ih (j + 1) (by omega))
  exact nm_e ⟨_, L h 0 (by omega)⟩
theorem te_yR2 {post : SY → Prop} {s x c p : Int32} (hc : cap ≤ 16) (hh : h < cap) (nl : ∀ j, j < h → ¬ te_hit uS uT uC uP s x c p j)
    (k : post (nI t, nI cap, sq, vi, vs, vt, vp, nI np, nI no, nI (h + 1), tot + 1, mem, aS, aT, aC, aP, aN, ns, nt, nc, nv, nN, xs, xt, xc, xv, xN, pd, ot, ol, upd uS h s, upd uT h x, upd uC h c, upd uP h p, upd uK h 1)) : wpY_auditAdd post (nI t, nI cap, sq, vi, vs, vt, vp, nI np, nI no, nI h, tot, mem, aS, aT, aC, aP, aN, ns, nt, nc, nv, nN, xs, xt, xc, xv, xN, pd, ot, ol, uS, uT, uC, uP, uK) s x c p := by
  have hi : vp_in (nI h) 16 := vp_in_nI (by omega) (by decide)
  refine te_yEn (by omega) nl (br_t (nI_le (Nat.le_refl _) (by omega)) (br_f (nI_ge hh (by omega)) ?_))
  rw [nI_clamp (show h < 2 ^ 31 by omega)]
  exact ⟨hi, nm_e ⟨hi, nm_e ⟨hi, nm_e ⟨hi, nm_e ⟨hi, nm_e (nm_r (nI_1 h) k)⟩⟩⟩⟩⟩
theorem te_yDL {post : SY → Prop} {s x c p : Int32} (hc4 : 4 ≤ cap) (hc : cap ≤ 16)
    (k : post (nI t, nI cap, sq, vi, vs, vt, vp, nI np, nI no, nI h, tot, mem, aS, aT, aC, aP, aN, ns, nt, nc, nv, nN, xs, xt, xc, xv, xN, pd, ot, ol, upd (te_sh uS (cap - 1)) (cap - 1) s, upd (te_sh uT (cap - 1)) (cap - 1) x, upd (te_sh uC (cap - 1)) (cap - 1) c, upd (te_sh uP (cap - 1)) (cap - 1) p, upd (te_sh uK (cap - 1)) (cap - 1) 1)) :
    ∀ d i, i + d = cap - 1 → wY_auditAdd_166 post s x c p (nI t) (nI cap) sq vi vs vt vp (nI np) (nI no) (nI h) tot (d + 1) (nI i) mem aS aT aC aP aN ns nt nc nv nN xs xt xc xv xN pd ot ol (te_sh uS i) (te_sh uT i) (te_sh uC i) (te_sh uP i) (te_sh uK i) := by
  have e1 : nI cap - 1 = nI (cap - 1) := pk_sub (b := 1) (by omega)
  intro d
  induction d with
  | zero =>
    intro i hi
    have e : cap - 1 = i := by omega
    rw [e] at k e1
    have hv : vp_in (nI i) 16 := vp_in_nI (by omega) (by decide)
    unfold wY_auditAdd_166
    rw [e1, nI_clamp (show i < 2 ^ 31 by omega)]
    exact br_t (nI_le (Nat.le_refl _) (by omega)) ⟨hv, nm_e ⟨hv, nm_e ⟨hv, nm_e ⟨hv, nm_e ⟨hv, nm_e k⟩⟩⟩⟩⟩
  | succ d ih =>
    intro i hi
    have q := ih (i + 1) (by omega)
    have h1 : vp_in (nI (i + 1)) 16 := vp_in_nI (by omega) (by decide)
    have h2 : vp_in (nI i) 16 := vp_in_nI (by omega) (by decide)
    unfold wY_auditAdd_166
    rw [e1]
    refine br_f (nI_ge (by omega) (by omega)) ?_
    rw [nI_1 i, nI_clamp (show i < 2 ^ 31 by omega), nI_clamp (show i + 1 < 2 ^ 31 by omega), te_shR, te_shR, te_shR, te_shR, te_shR]
    exact ⟨h1, h2, nm_r (te_shS uS i) ⟨h1, h2, nm_r (te_shS uT i) ⟨h1, h2, nm_r (te_shS uC i) ⟨h1, h2, nm_r (te_shS uP i) ⟨h1, h2, nm_r (te_shS uK i) (nm_e q)⟩⟩⟩⟩⟩
theorem te_yR3 {post : SY → Prop} {s x c p : Int32} (hc4 : 4 ≤ cap) (hc : cap ≤ 16) (hh : h = cap) (nl : ∀ j, j < h → ¬ te_hit uS uT uC uP s x c p j)
    (k : post (nI t, nI cap, sq, vi, vs, vt, vp, nI np, nI no, nI h, tot + 1, mem, aS, aT, aC, aP, aN, ns, nt, nc, nv, nN, xs, xt, xc, xv, xN, pd, ot, ol, upd (te_sh uS (h - 1)) (h - 1) s, upd (te_sh uT (h - 1)) (h - 1) x, upd (te_sh uC (h - 1)) (h - 1) c, upd (te_sh uP (h - 1)) (h - 1) p, upd (te_sh uK (h - 1)) (h - 1) 1)) : wpY_auditAdd post (nI t, nI cap, sq, vi, vs, vt, vp, nI np, nI no, nI h, tot, mem, aS, aT, aC, aP, aN, ns, nt, nc, nv, nN, xs, xt, xc, xv, xN, pd, ot, ol, uS, uT, uC, uP, uK) s x c p := by
  subst hh
  refine te_yEn (by omega) nl (br_t (nI_le (Nat.le_refl _) (by omega)) (br_t (nI_le (Nat.le_refl _) (by omega)) ?_))
  have q := te_yDL (post := post) (s := s) (x := x) (c := c) (p := p) hc4 hc k (h - 1) 0 (by omega)
  rw [te_sh0, te_sh0, te_sh0, te_sh0, te_sh0] at q
  exact ⟨_, q⟩
/-! one answer: both sides record the denial alike -/
theorem te_aud {mb rc rs rt rl rv mem aS aT aC aP aN ns nt nc nv nN xs xt xc xv xN : Nat → Int32} (hc4 : 4 ≤ cap) (hc : cap ≤ 16) (hh : h ≤ cap) (s x c p : Int32) :
    ∃ (h' : Nat) (S' T' C' P' K' : Nat → Int32), h' ≤ cap ∧
      (∀ post : SX → Prop, post (nI t, nI cap, sq, vi, vs, vt, vp, nI np, nI no, nI h', tot + 1, mb, rc, rs, rt, rl, rv, pd, ot, ol, S', T', C', P', K') → wpX_recordDenial post (nI t, nI cap, sq, vi, vs, vt, vp, nI np, nI no, nI h, tot, mb, rc, rs, rt, rl, rv, pd, ot, ol, uS, uT, uC, uP, uK) s x c p) ∧
      (∀ post : SY → Prop, post (nI t, nI cap, sq, vi, vs, vt, vp, nI np, nI no, nI h', tot + 1, mem, aS, aT, aC, aP, aN, ns, nt, nc, nv, nN, xs, xt, xc, xv, xN, pd, ot, ol, S', T', C', P', K') → wpY_auditAdd post (nI t, nI cap, sq, vi, vs, vt, vp, nI np, nI no, nI h, tot, mem, aS, aT, aC, aP, aN, ns, nt, nc, nv, nN, xs, xt, xc, xv, xN, pd, ot, ol, uS, uT, uC, uP, uK) s x c p) := by
  rcases te_fnd h (te_hit uS uT uC uP s x c p) with nl | ⟨i, hi, nh, nl⟩
  · rcases Nat.lt_or_ge h cap with q | q
    · exact ⟨h + 1, _, _, _, _, _, q, fun post k => te_xR2 hc q nl k, fun post k => te_yR2 hc q nl k⟩
    · exact ⟨h, _, _, _, _, _, hh, fun post k => te_xR3 hc4 hc (by omega) nl k, fun post k => te_yR3 hc4 hc (by omega) nl k⟩
  · exact ⟨h, _, _, _, _, _, hh, fun post k => te_xR1 hc hh hi nh nl k, fun post k => te_yR1 hc hh hi nh nl k⟩
end
end
section
section
variable {t cap np no h : Nat} {sq vi vs vt vp tot : Int32} {mb rc rs rt rl rv mem aS aT aC aP aN ns nt nc nv nN xs xt xc xv xN pd ot ol uS uT uC uP uK : Nat → Int32}

variable {ca cn cx : Nat}
theorem te_xSV {post : SX → Prop} {a b c d : Int32} (k : post (nI t, nI cap, sq, a, b, c, d, nI np, nI no, nI h, tot, mb, rc, rs, rt, rl, rv, pd, ot, ol, uS, uT, uC, uP, uK)) : wpX_setViolation post (nI t, nI cap, sq, vi, vs, vt, vp, nI np, nI no, nI h, tot, mb, rc, rs, rt, rl, rv, pd, ot, ol, uS, uT, uC, uP, uK) a b c d := k
theorem te_xCS {post : Int32 → SX → Prop} {J9 J16 : Int32 → Prop} {x1 : Int32} {n s x m : Nat} (hP : te_P t 1 ca cn cx mb rc rs rt rl rv mem aS aT aC aP aN ns nt nc nv nN xs xt xc xv xN) (ht : t ≤ 12) (hn : n < cn) (hs : s < t) (hx : x < t)
    (hz : (te_bp mem ca aS aT aC aP ns nt nc nv) n s x = 0 → wX_commit_27 post J9 J16 x1 (nI n) (nI s) (nI t) (nI cap) sq vi vs vt vp (nI np) (nI no) (nI h) tot mb rc rs rt rl rv pd ot ol uS uT uC uP uK m (nI (x + 1)))
    (hb : ¬ (te_bp mem ca aS aT aC aP ns nt nc nv) n s x = 0 → post (-3) (nI t, nI cap, sq, nI n, nI s, nI x, te_bp mem ca aS aT aC aP ns nt nc nv n s x, nI np, nI no, nI h, tot, mb, rc, rs, rt, rl, rv, pd, ot, ol, uS, uT, uC, uP, uK)) : wX_commit_27 post J9 J16 x1 (nI n) (nI s) (nI t) (nI cap) sq vi vs vt vp (nI np) (nI no) (nI h) tot mb rc rs rt rl rv pd ot ol uS uT uC uP uK (m + 1) (nI x) :=
  br_f (nI_ge hx (by omega)) (te_xBr hP ht hn hs hx (br_c (fun z => nm_r (nI_1 x) (hz z)) (fun z => te_xSV (hb z))))
theorem te_xC1 {post : Int32 → SX → Prop} {J9 J16 : Int32 → Prop} {x1 : Int32} {n s : Nat} (hP : te_P t 1 ca cn cx mb rc rs rt rl rv mem aS aT aC aP aN ns nt nc nv nN xs xt xc xv xN) (ht : t ≤ 12) (hn : n < cn) (hs : s < t)
    (hz : ∀ y, y < t → (te_bp mem ca aS aT aC aP ns nt nc nv) n s y = 0) (k : J16 (nI (s + 1))) : ∀ d x, x + d = t → wX_commit_27 post J9 J16 x1 (nI n) (nI s) (nI t) (nI cap) sq vi vs vt vp (nI np) (nI no) (nI h) tot mb rc rs rt rl rv pd ot ol uS uT uC uP uK (d + 1) (nI x) := by
  intro d
  induction d with
  | zero =>
    intro x hx
    exact br_t (nI_le (by omega) (by omega)) (nm_r (nI_1 s) k)
  | succ d ih => exact fun x hx => te_xCS hP ht hn hs (by omega) (fun _ => ih (x + 1) (by omega)) (fun z => absurd (hz x (by omega)) z)
theorem te_xC1h {post : Int32 → SX → Prop} {J9 J16 : Int32 → Prop} {x1 : Int32} {n s x0 : Nat} (hP : te_P t 1 ca cn cx mb rc rs rt rl rv mem aS aT aC aP aN ns nt nc nv nN xs xt xc xv xN) (ht : t ≤ 12) (hn : n < cn) (hs : s < t) (hx0 : x0 < t)
    (hz : ∀ y, y < x0 → (te_bp mem ca aS aT aC aP ns nt nc nv) n s y = 0) (hb : ¬ (te_bp mem ca aS aT aC aP ns nt nc nv) n s x0 = 0) (k : post (-3) (nI t, nI cap, sq, nI n, nI s, nI x0, te_bp mem ca aS aT aC aP ns nt nc nv n s x0, nI np, nI no, nI h, tot, mb, rc, rs, rt, rl, rv, pd, ot, ol, uS, uT, uC, uP, uK)) : ∀ d x, x + d = x0 → wX_commit_27 post J9 J16 x1 (nI n) (nI s) (nI t) (nI cap) sq vi vs vt vp (nI np) (nI no) (nI h) tot mb rc rs rt rl rv pd ot ol uS uT uC uP uK (d + 1) (nI x) := by
  intro d
  induction d with
  | zero =>
    intro x hx
    have e : x = x0 := by omega
    subst e
    exact te_xCS hP ht hn hs hx0 (fun z => absurd z hb) (fun _ => k)
  | succ d ih => exact fun x hx => te_xCS hP ht hn hs (by omega) (fun _ => ih (x + 1) (by omega)) (fun z => absurd (hz x (by omega)) z)
theorem te_xC2 {post : Int32 → SX → Prop} {J9 : Int32 → Prop} {x1 : Int32} {n : Nat} (hP : te_P t 1 ca cn cx mb rc rs rt rl rv mem aS aT aC aP aN ns nt nc nv nN xs xt xc xv xN) (ht : t ≤ 12) (hn : n < cn)
    (hz : te_none t ((te_bp mem ca aS aT aC aP ns nt nc nv) n)) (k : J9 (nI (n + 1))) : ∀ d s, s + d = t → wX_commit_16 post J9 x1 (nI n) (nI t) (nI cap) sq vi vs vt vp (nI np) (nI no) (nI h) tot mb rc rs rt rl rv pd ot ol uS uT uC uP uK (d + 1) (nI s) := by
  intro d
  induction d with
  | zero =>
    intro s hs
    exact br_t (nI_le (by omega) (by omega)) (nm_r (nI_1 n) k)
  | succ d ih =>
    intro s hs
    exact br_f (nI_ge (by omega) (by omega)) ⟨_, te_xC1 hP ht hn (by omega) (fun y hy => hz s y (by omega) hy) (ih (s + 1) (by omega)) t 0 (by omega)⟩
theorem te_xC2h {post : Int32 → SX → Prop} {J9 : Int32 → Prop} {x1 : Int32} {n s0 x0 : Nat} (hP : te_P t 1 ca cn cx mb rc rs rt rl rv mem aS aT aC aP aN ns nt nc nv nN xs xt xc xv xN) (ht : t ≤ 12) (hn : n < cn)
    (ho : te_one t ((te_bp mem ca aS aT aC aP ns nt nc nv) n) s0 x0) (k : post (-3) (nI t, nI cap, sq, nI n, nI s0, nI x0, te_bp mem ca aS aT aC aP ns nt nc nv n s0 x0, nI np, nI no, nI h, tot, mb, rc, rs, rt, rl, rv, pd, ot, ol, uS, uT, uC, uP, uK)) : ∀ d s, s + d = s0 → wX_commit_16 post J9 x1 (nI n) (nI t) (nI cap) sq vi vs vt vp (nI np) (nI no) (nI h) tot mb rc rs rt rl rv pd ot ol uS uT uC uP uK (d + 1) (nI s) := by
  obtain ⟨⟨hs0, hx0⟩, hb, hl, hr⟩ := ho
  intro d
  induction d with
  | zero =>
    intro s hs
    have e : s = s0 := by omega
    subst e
    exact br_f (nI_ge (by omega) (by omega)) ⟨_, te_xC1h hP ht hn hs0 hx0 hr hb k x0 0 (by omega)⟩
  | succ d ih =>
    intro s hs
    exact br_f (nI_ge (by omega) (by omega)) ⟨_, te_xC1 hP ht hn (by omega) (fun y hy => hl s y (by omega) hy) (ih (s + 1) (by omega)) t 0 (by omega)⟩
theorem te_xC3 {post : Int32 → SX → Prop} (hP : te_P t 1 ca cn cx mb rc rs rt rl rv mem aS aT aC aP aN ns nt nc nv nN xs xt xc xv xN) (ht : t ≤ 12)
    (hz : ∀ n, n < cn → te_none t ((te_bp mem ca aS aT aC aP ns nt nc nv) n)) (k : ∀ m, wX_commit_9 post (nI cn) (nI t) (nI cap) sq vi vs vt vp (nI np) (nI no) (nI h) tot mb rc rs rt rl rv pd ot ol uS uT uC uP uK (m + 1) (nI cn)) : ∀ d n, n + d = cn → wX_commit_9 post (nI cn) (nI t) (nI cap) sq vi vs vt vp (nI np) (nI no) (nI h) tot mb rc rs rt rl rv pd ot ol uS uT uC uP uK (d + 1) (nI n) := by
  have q := hP.2.1.2.1
  intro d
  induction d with
  | zero =>
    intro n hn
    have e : n = cn := by omega
    subst e
    exact k 0
  | succ d ih =>
    intro n hn
    exact br_f (nI_ge (by omega) (by omega)) ⟨_, te_xC2 hP ht (by omega) (hz n (by omega)) (ih (n + 1) (by omega)) t 0 (by omega)⟩
theorem te_xC3h {post : Int32 → SX → Prop} {n0 s0 x0 : Nat} (hP : te_P t 1 ca cn cx mb rc rs rt rl rv mem aS aT aC aP aN ns nt nc nv nN xs xt xc xv xN) (ht : t ≤ 12) (hn0 : n0 < cn)
    (hz : ∀ m, m < n0 → te_none t ((te_bp mem ca aS aT aC aP ns nt nc nv) m)) (ho : te_one t ((te_bp mem ca aS aT aC aP ns nt nc nv) n0) s0 x0) (k : post (-3) (nI t, nI cap, sq, nI n0, nI s0, nI x0, te_bp mem ca aS aT aC aP ns nt nc nv n0 s0 x0, nI np, nI no, nI h, tot, mb, rc, rs, rt, rl, rv, pd, ot, ol, uS, uT, uC, uP, uK)) : ∀ d n, n + d = n0 → wX_commit_9 post (nI cn) (nI t) (nI cap) sq vi vs vt vp (nI np) (nI no) (nI h) tot mb rc rs rt rl rv pd ot ol uS uT uC uP uK (d + 1) (nI n) := by
  have q := hP.2.1.2.1
  intro d
  induction d with
  | zero =>
    intro n hn
    have e : n = n0 := by omega
    subst e
    exact br_f (nI_ge (by omega) (by omega)) ⟨_, te_xC2h hP ht hn0 ho k s0 0 (by omega)⟩
  | succ d ih =>
    intro n hn
    exact br_f (nI_ge (by omega) (by omega)) ⟨_, te_xC2 hP ht (by omega) (hz n (by omega)) (ih (n + 1) (by omega)) t 0 (by omega)⟩
theorem te_xCoV {post : Int32 → SX → Prop} {n0 s0 x0 : Nat} (hP : te_P t 1 ca cn cx mb rc rs rt rl rv mem aS aT aC aP aN ns nt nc nv nN xs xt xc xv xN) (ht : t ≤ 12) (hn0 : n0 < cn)
    (hz : ∀ m, m < n0 → te_none t ((te_bp mem ca aS aT aC aP ns nt nc nv) m)) (ho : te_one t ((te_bp mem ca aS aT aC aP ns nt nc nv) n0) s0 x0) (k : post (-3) (nI t, nI cap, sq, nI n0, nI s0, nI x0, te_bp mem ca aS aT aC aP ns nt nc nv n0 s0 x0, nI np, nI no, nI h, tot, mb, rc, rs, rt, rl, rv, pd, ot, ol, uS, uT, uC, uP, uK)) : wpX_commit post (nI t, nI cap, sq, vi, vs, vt, vp, nI np, nI no, nI h, tot, mb, rc, rs, rt, rl, rv, pd, ot, ol, uS, uT, uC, uP, uK) := by
  unfold wpX_commit
  dsimp only
  refine te_xCR (w := 1) (l := 1) (by decide) (by decide) ?_
  rw [show rc (1 * 3 + 1) = nI cn from hP.2.2.1.2.1]
  exact ⟨_, te_xC3h hP ht hn0 hz ho k n0 0 (by omega)⟩
/-! copies -/
def te_cp (c i : Nat) (f' f : Nat → Int32) : Prop := (∀ j, j < i → f' j = f (c + j)) ∧ (∀ j, i ≤ j → f' j = f j)
theorem te_cp0 {c : Nat} {f : Nat → Int32} : te_cp c 0 f f := ⟨fun j hj => absurd hj (Nat.not_lt_zero _), fun _ _ => rfl⟩
theorem te_cpS {c i : Nat} {f' f : Nat → Int32} {v : Int32} (q : te_cp c i f' f) (hv : v = f' (c + i)) : te_cp c (i + 1) (upd f' i v) f := by
  refine ⟨fun j hj => ?_, fun j hj => ?_⟩
  · by_cases e : j = i
    · subst e
      rw [pk_us, hv]
      exact q.2 _ (by omega)
    · rw [pk_un e]
      exact q.1 j (by omega)
  · rw [pk_un (by omega)]
    exact q.2 j (by omega)
theorem te_xCM {post : SX → Prop} (k : ∀ mb', te_cp 12 12 mb' mb → post (nI t, nI cap, sq, vi, vs, vt, vp, nI np, nI no, nI h, tot, mb', rc, rs, rt, rl, rv, pd, ot, ol, uS, uT, uC, uP, uK)) : wpX_copyMembersToActive post (nI t, nI cap, sq, vi, vs, vt, vp, nI np, nI no, nI h, tot, mb, rc, rs, rt, rl, rv, pd, ot, ol, uS, uT, uC, uP, uK) := by
  refine loop_0 (fun n i s => wX_copyMembersToActive_2 post (nI t) (nI cap) sq vi vs vt vp (nI np) (nI no) (nI h) tot n (nI i) s rc rs rt rl rv pd ot ol uS uT uC uP uK) (fun i s => te_cp 12 i s mb) 12 mb te_cp0 ?_ ?_
  · intro n s hs
    exact br_t (nI_le (a := 12) (Nat.le_refl _) (by decide)) (k s hs)
  · intro n i s hi hs ih
    have e12 : (12 : Int32) + nI i = nI (12 + i) := nI_add 12 i
    have e0 : (0 : Int32) + nI i = nI i := (nI_add 0 i).trans (congrArg nI (Nat.zero_add i))
    refine br_f (nI_ge (b := 12) hi (by decide)) ?_
    rw [e12, e0, nI_clamp (show 12 + i < 2 ^ 31 by omega), nI_clamp (show i < 2 ^ 31 by omega)]
    exact ⟨vp_in_nI (by omega) (by decide), vp_in_nI (by omega) (by decide), nm_e (nm_r (nI_1 i) (ih _ (te_cpS hs rfl)))⟩
theorem te_xCI {post : SX → Prop} {J : Int32 → (Nat → Int32) → (Nat → Int32) → (Nat → Int32) → (Nat → Int32) → (Nat → Int32) → (Nat → Int32) → (Nat → Int32) → (Nat → Int32) → (Nat → Int32) → (Nat → Int32) → (Nat → Int32) → (Nat → Int32) → (Nat → Int32) → (Nat → Int32) → Prop} {l c : Nat} (hl : l < 3) (hc : c ≤ 24)
    (k : ∀ a b d e : Nat → Int32, te_eq4 c (l * 24) (72 + l * 24) a b d e rs rt rl rv → (∀ j, (j < l * 24 ∨ l * 24 + 24 ≤ j) → a j = rs j ∧ b j = rt j ∧ d j = rl j ∧ e j = rv j) → J (nI (l + 1)) mb (upd rc l (nI c)) a b d e pd ot ol uS uT uC uP uK) :
    ∃ n, wX_copyRulesToActive_30 post J (nI l) (nI c) (nI (l * 24)) (nI (72 + l * 24)) (nI t) (nI cap) sq vi vs vt vp (nI np) (nI no) (nI h) tot n 0 mb rc rs rt rl rv pd ot ol uS uT uC uP uK := by
  refine loop_0 (fun n i (s : (Nat → Int32) × (Nat → Int32) × (Nat → Int32) × (Nat → Int32)) => wX_copyRulesToActive_30 post J (nI l) (nI c) (nI (l * 24)) (nI (72 + l * 24)) (nI t) (nI cap) sq vi vs vt vp (nI np) (nI no) (nI h) tot n (nI i) mb rc s.1 s.2.1 s.2.2.1 s.2.2.2 pd ot ol uS uT uC uP uK)
    (fun i s => te_eq4 i (l * 24) (72 + l * 24) s.1 s.2.1 s.2.2.1 s.2.2.2 rs rt rl rv ∧ (∀ j, (j < l * 24 ∨ l * 24 + 24 ≤ j) → s.1 j = rs j ∧ s.2.1 j = rt j ∧ s.2.2.1 j = rl j ∧ s.2.2.2 j = rv j)) c (rs, rt, rl, rv) ⟨fun i hi => absurd hi (Nat.not_lt_zero _), fun _ _ => ⟨rfl, rfl, rfl, rfl⟩⟩ ?_ ?_
  · intro n s hs
    refine br_t (nI_le (Nat.le_refl _) (by omega)) (te_xLP (w := 0) ?_)
    rw [show 0 * 3 + l = l by omega]
    refine ⟨vp_in_nI (by omega) (by decide), ?_⟩
    rw [nI_clamp (show l < 2 ^ 31 by omega)]
    exact nm_e (nm_r (nI_1 l) (k _ _ _ _ hs.1 hs.2))
  · intro n i s hi hs ih
    obtain ⟨a, b, d, e⟩ := s
    obtain ⟨hs1, hs2⟩ := hs
    dsimp only at hs1 hs2 ih ⊢
    have v1 : vp_in (nI (72 + l * 24 + i)) 144 := vp_in_nI (by omega) (by decide)
    have v2 : vp_in (nI (l * 24 + i)) 144 := vp_in_nI (by omega) (by decide)
    refine br_f (nI_ge hi (by omega)) ?_
    rw [nI_add (72 + l * 24) i, nI_add (l * 24) i, nI_clamp (show 72 + l * 24 + i < 2 ^ 31 by omega), nI_clamp (show l * 24 + i < 2 ^ 31 by omega)]
    refine ⟨v1, v2, nm_e ⟨v1, v2, nm_e ⟨v1, v2, nm_e ⟨v1, v2, nm_e (nm_r (nI_1 i) (ih (upd a (l * 24 + i) (a (72 + l * 24 + i)), upd b (l * 24 + i) (b (72 + l * 24 + i)), upd d (l * 24 + i) (d (72 + l * 24 + i)), upd e (l * 24 + i) (e (72 + l * 24 + i))) ⟨?_, ?_⟩))⟩⟩⟩⟩
    · intro q hq
      dsimp only
      by_cases z : q = i
      · subst z
        rw [pk_us, pk_us, pk_us, pk_us]
        exact hs2 _ (by omega)
      · have z' : l * 24 + q ≠ l * 24 + i := by omega
        rw [pk_un z', pk_un z', pk_un z', pk_un z']
        exact hs1 q (by omega)
    · intro j hj
      dsimp only
      have z' : j ≠ l * 24 + i := by omega
      rw [pk_un z', pk_un z', pk_un z', pk_un z']
      exact hs2 j hj
theorem te_xCC {post : SX → Prop} {cm : Nat → Nat} (hcm : ∀ m, m < 3 → rc (3 + m) = nI (cm m) ∧ cm m ≤ 24)
    (k : ∀ z a b d e : Nat → Int32, (∀ m, m < 3 → z m = nI (cm m) ∧ te_eq4 (cm m) (m * 24) (72 + m * 24) a b d e rs rt rl rv) → (∀ m, 3 ≤ m → z m = rc m) → (∀ j, 72 ≤ j → a j = rs j ∧ b j = rt j ∧ d j = rl j ∧ e j = rv j) → post (nI t, nI cap, sq, vi, vs, vt, vp, nI np, nI no, nI h, tot, mb, z, a, b, d, e, pd, ot, ol, uS, uT, uC, uP, uK)) : wpX_copyRulesToActive post (nI t, nI cap, sq, vi, vs, vt, vp, nI np, nI no, nI h, tot, mb, rc, rs, rt, rl, rv, pd, ot, ol, uS, uT, uC, uP, uK) := by
  refine loop_0 (fun n i (s : (Nat → Int32) × (Nat → Int32) × (Nat → Int32) × (Nat → Int32) × (Nat → Int32)) => wX_copyRulesToActive_2 post (nI t) (nI cap) sq vi vs vt vp (nI np) (nI no) (nI h) tot n (nI i) mb s.1 s.2.1 s.2.2.1 s.2.2.2.1 s.2.2.2.2 pd ot ol uS uT uC uP uK)
    (fun i s => (∀ m, m < i → s.1 m = nI (cm m) ∧ te_eq4 (cm m) (m * 24) (72 + m * 24) s.2.1 s.2.2.1 s.2.2.2.1 s.2.2.2.2 rs rt rl rv) ∧ (∀ m, 3 ≤ m → s.1 m = rc m) ∧ (∀ j, 72 ≤ j → s.2.1 j = rs j ∧ s.2.2.1 j = rt j ∧ s.2.2.2.1 j = rl j ∧ s.2.2.2.2 j = rv j)) 3 (rc, rs, rt, rl, rv) ⟨fun i hi => absurd hi (Nat.not_lt_zero _), fun _ _ => rfl, fun _ _ => ⟨rfl, rfl, rfl, rfl⟩⟩ ?_ ?_
  · intro n s hs
    exact br_t (nI_le (a := 3) (Nat.le_refl _) (by decide)) (k _ _ _ _ _ hs.1 hs.2.1 hs.2.2)
  · intro n l s hl hs ih
    obtain ⟨z, a, b, d, e⟩ := s
    obtain ⟨hs1, hs2, hs3⟩ := hs
    obtain ⟨hc1, hc2⟩ := hcm l hl
    dsimp only at hs1 hs2 hs3 ih ⊢
    refine br_f (nI_ge (b := 3) hl (by decide)) (te_xCR (w := 1) (by decide) hl ?_)
    rw [show z (1 * 3 + l) = nI (cm l) from (hs2 (3 + l) (by omega)).trans hc1]
    refine te_xFR (w := 0) (te_xFR (w := 1) ?_)
    rw [show (0 * 3 + l) * 24 = l * 24 by omega, show (1 * 3 + l) * 24 = 72 + l * 24 by omega]
    refine te_xCI hl hc2 (fun a' b' d' e' g1 g2 => ih (upd z l (nI (cm l)), a', b', d', e') ⟨?_, ?_, ?_⟩)
    · intro m hm
      dsimp only
      by_cases q : m = l
      · subst q
        refine ⟨pk_us, fun i hi => ?_⟩
        obtain ⟨p1, p2, p3, p4⟩ := g1 i hi
        obtain ⟨r1, r2, r3, r4⟩ := hs3 (72 + m * 24 + i) (by omega)
        exact ⟨p1.trans r1, p2.trans r2, p3.trans r3, p4.trans r4⟩
      · obtain ⟨y1, y2⟩ := hs1 m (by omega)
        obtain ⟨-, y3⟩ := hcm m (by omega)
        refine ⟨(pk_un q).trans y1, fun i hi => ?_⟩
        obtain ⟨p1, p2, p3, p4⟩ := g2 (m * 24 + i) (Or.inl (by omega))
        obtain ⟨r1, r2, r3, r4⟩ := y2 i hi
        exact ⟨p1.trans r1, p2.trans r2, p3.trans r3, p4.trans r4⟩
    · intro m hm
      dsimp only
      exact (pk_un (by omega)).trans (hs2 m hm)
    · intro j hj
      dsimp only
      obtain ⟨p1, p2, p3, p4⟩ := g2 j (Or.inr (by omega))
      obtain ⟨r1, r2, r3, r4⟩ := hs3 j hj
      exact ⟨p1.trans r1, p2.trans r2, p3.trans r3, p4.trans r4⟩
theorem te_xCoN {post : Int32 → SX → Prop} (hP : te_P t 1 ca cn cx mb rc rs rt rl rv mem aS aT aC aP aN ns nt nc nv nN xs xt xc xv xN) (ht : t ≤ 12) (hz : ∀ n, n < cn → te_none t ((te_bp mem ca aS aT aC aP ns nt nc nv) n))
    (k : ∀ y z a b d e : Nat → Int32, te_cp 12 12 y mb → (z 0 = nI ca ∧ z 1 = nI cn ∧ z 2 = nI cx) → (∀ m, 3 ≤ m → z m = rc m) → te_eq4 ca 0 72 a b d e rs rt rl rv → te_eq4 cn 24 96 a b d e rs rt rl rv → te_eq4 cx 48 120 a b d e rs rt rl rv → (∀ j, 72 ≤ j → a j = rs j ∧ b j = rt j ∧ d j = rl j ∧ e j = rv j) → post (sq + 1) (nI t, nI cap, sq + 1, -5, -5, -5, -5, nI np, nI no, nI h, tot, y, z, a, b, d, e, pd, ot, ol, uS, uT, uC, uP, uK)) : wpX_commit post (nI t, nI cap, sq, vi, vs, vt, vp, nI np, nI no, nI h, tot, mb, rc, rs, rt, rl, rv, pd, ot, ol, uS, uT, uC, uP, uK) := by
  have hP' := hP
  obtain ⟨hm, ⟨q1, q2, q3⟩, ⟨r1, r2, r3⟩, -⟩ := hP
  unfold wpX_commit
  dsimp only
  refine te_xCR (w := 1) (l := 1) (by decide) (by decide) ?_
  rw [show rc (1 * 3 + 1) = nI cn from r2]
  refine ⟨_, te_xC3 hP' ht hz (fun m => br_t (nI_le (Nat.le_refl _) (by omega)) ?_) cn 0 (by omega)⟩
  refine te_xCM (fun y hy => ?_)
  dsimp only
  refine te_xCC (cm := fun m => if m = 0 then ca else if m = 1 then cn else cx) ?_ ?_
  · intro m hm3
    have c3 : m = 0 ∨ m = 1 ∨ m = 2 := by omega
    rcases c3 with rfl | rfl | rfl
    · exact ⟨r1, q1⟩
    · exact ⟨r2, show cn ≤ 24 by omega⟩
    · exact ⟨r3, show cx ≤ 24 by omega⟩
  · intro z a b d e g1 g2 g3
    dsimp only
    refine te_xSV (nm_e ?_)
    obtain ⟨u1, u2⟩ := g1 0 (by decide)
    obtain ⟨v1, v2⟩ := g1 1 (by decide)
    obtain ⟨w1, w2⟩ := g1 2 (by decide)
    exact k y z a b d e hy ⟨u1, v1, w1⟩ g2 u2 v2 w2 g3
end
end
section
section
variable {t cap np no h : Nat} {sq vi vs vt vp tot : Int32} {mb rc rs rt rl rv mem aS aT aC aP aN ns nt nc nv nN xs xt xc xv xN pd ot ol uS uT uC uP uK : Nat → Int32}

variable {ca cn cx : Nat}
theorem te_bpN1 {n s x : Nat} (q : te_nm mem 1 (ns (6 + n)) s s = false) : (te_bp mem ca aS aT aC aP ns nt nc nv) n s x = 0 := by
  unfold te_bp
  rw [te_rmN2 q]
  rfl
theorem te_bpN2 {n s x : Nat} (q : te_nm mem 1 (nt (6 + n)) x s = false) : (te_bp mem ca aS aT aC aP ns nt nc nv) n s x = 0 := by
  unfold te_bp
  rw [te_rmN3 q]
  rfl
theorem te_bpY {n s x : Nat} (q1 : te_nm mem 1 (ns (6 + n)) s s = true) (q2 : te_nm mem 1 (nt (6 + n)) x s = true) : (te_bp mem ca aS aT aC aP ns nt nc nv) n s x = te_vec mem 1 24 ca aS aT aC aP s x (nc (6 + n)) &&& nv (6 + n) := by
  unfold te_bp
  rw [te_rmY rfl q1 q2]
  rfl
theorem te_bpV {n s x : Nat} (q : ¬ (te_bp mem ca aS aT aC aP ns nt nc nv) n s x = 0) : (te_bp mem ca aS aT aC aP ns nt nc nv) n s x = te_vec mem 1 24 ca aS aT aC aP s x (nc (6 + n)) &&& nv (6 + n) := by
  cases q1 : te_nm mem 1 (ns (6 + n)) s s
  · exact absurd (te_bpN1 q1) q
  · cases q2 : te_nm mem 1 (nt (6 + n)) x s
    · exact absurd (te_bpN2 q2) q
    · exact te_bpY q1 q2
theorem te_yCS {post : Int32 → Prop} {J : Int32 → Prop} {n s x m : Nat} (hP : te_P t 1 ca cn cx mb rc rs rt rl rv mem aS aT aC aP aN ns nt nc nv nN xs xt xc xv xN) (ht : t ≤ 12) (hn : n < cn) (hs : s < t) (hx : x < t)
    (hz : (te_bp mem ca aS aT aC aP ns nt nc nv) n s x = 0 → wY_firstViol_18 post J (nI (6 + n)) (nI s) (nI t) (nI cap) sq vi vs vt vp (nI np) (nI no) (nI h) tot mem aS aT aC aP aN ns nt nc nv nN xs xt xc xv xN pd ot ol uS uT uC uP uK m (nI (x + 1)))
    (hb : ¬ (te_bp mem ca aS aT aC aP ns nt nc nv) n s x = 0 → post (nI (s * t + x))) : wY_firstViol_18 post J (nI (6 + n)) (nI s) (nI t) (nI cap) sq vi vs vt vp (nI np) (nI no) (nI h) tot mem aS aT aC aP aN ns nt nc nv nN xs xt xc xv xN pd ot ol uS uT uC uP uK (m + 1) (nI x) := by
  have hP' := hP
  obtain ⟨hm, ⟨q1, q2, q3⟩, -, -, -, l2, -⟩ := hP
  obtain ⟨-, m1, m2, -⟩ := l2 n hn
  have hi : vp_in (nI (6 + n)) 12 := vp_in_nI (by omega) (by decide)
  refine br_f (nI_ge hx (by omega)) ?_
  rw [nI_clamp (show 6 + n < 2 ^ 31 by omega)]
  refine ⟨hi, te_yNm (w := 1) hm (by decide) ht (Or.inl m1) hs hs ?_⟩
  show ((te_b (te_nm mem 1 (ns (6 + n)) s s) = 0 → _) ∧ _)
  cases z1 : te_nm mem 1 (ns (6 + n)) s s
  · exact br_t rfl (nm_r (nI_1 x) (hz (te_bpN1 z1)))
  · refine br_f (by decide) ⟨hi, te_yNm (w := 1) hm (by decide) ht m2 hx hs ?_⟩
    show ((te_b (te_nm mem 1 (nt (6 + n)) x s) = 0 → _) ∧ _)
    cases z2 : te_nm mem 1 (nt (6 + n)) x s
    · exact br_t rfl (nm_r (nI_1 x) (hz (te_bpN2 z2)))
    · refine br_f (by decide) ⟨hi, te_yVe (w := 1) hP' (by decide) ht hs hx ⟨hi, br_c (fun z => nm_r (nI_1 x) (hz ((te_bpY z1 z2).trans z))) (fun z => ?_)⟩⟩
      have q := hb (fun e => z ((te_bpY z1 z2).symm.trans e))
      rw [← nI_add, ← pk_mul] at q
      exact q
theorem te_yF1 {post : Int32 → Prop} {J : Int32 → Prop} {n s : Nat} (hP : te_P t 1 ca cn cx mb rc rs rt rl rv mem aS aT aC aP aN ns nt nc nv nN xs xt xc xv xN) (ht : t ≤ 12) (hn : n < cn) (hs : s < t)
    (hz : ∀ y, y < t → (te_bp mem ca aS aT aC aP ns nt nc nv) n s y = 0) (k : J (nI (s + 1))) : ∀ d x, x + d = t → wY_firstViol_18 post J (nI (6 + n)) (nI s) (nI t) (nI cap) sq vi vs vt vp (nI np) (nI no) (nI h) tot mem aS aT aC aP aN ns nt nc nv nN xs xt xc xv xN pd ot ol uS uT uC uP uK (d + 1) (nI x) := by
  intro d
  induction d with
  | zero =>
    intro x hx
    exact br_t (nI_le (by omega) (by omega)) (nm_r (nI_1 s) k)
  | succ d ih => exact fun x hx => te_yCS hP ht hn hs (by omega) (fun _ => ih (x + 1) (by omega)) (fun z => absurd (hz x (by omega)) z)
theorem te_yF1h {post : Int32 → Prop} {J : Int32 → Prop} {n s x0 : Nat} (hP : te_P t 1 ca cn cx mb rc rs rt rl rv mem aS aT aC aP aN ns nt nc nv nN xs xt xc xv xN) (ht : t ≤ 12) (hn : n < cn) (hs : s < t) (hx0 : x0 < t)
    (hz : ∀ y, y < x0 → (te_bp mem ca aS aT aC aP ns nt nc nv) n s y = 0) (hb : ¬ (te_bp mem ca aS aT aC aP ns nt nc nv) n s x0 = 0) (k : post (nI (s * t + x0))) : ∀ d x, x + d = x0 → wY_firstViol_18 post J (nI (6 + n)) (nI s) (nI t) (nI cap) sq vi vs vt vp (nI np) (nI no) (nI h) tot mem aS aT aC aP aN ns nt nc nv nN xs xt xc xv xN pd ot ol uS uT uC uP uK (d + 1) (nI x) := by
  intro d
  induction d with
  | zero =>
    intro x hx
    have e : x = x0 := by omega
    subst e
    exact te_yCS hP ht hn hs hx0 (fun z => absurd z hb) (fun _ => k)
  | succ d ih => exact fun x hx => te_yCS hP ht hn hs (by omega) (fun _ => ih (x + 1) (by omega)) (fun z => absurd (hz x (by omega)) z)
theorem te_yFN {post : Int32 → Prop} {n : Nat} (hP : te_P t 1 ca cn cx mb rc rs rt rl rv mem aS aT aC aP aN ns nt nc nv nN xs xt xc xv xN) (ht : t ≤ 12) (hn : n < cn)
    (hz : te_none t ((te_bp mem ca aS aT aC aP ns nt nc nv) n)) (k : post (-1)) : wpY_firstViol post (nI t, nI cap, sq, vi, vs, vt, vp, nI np, nI no, nI h, tot, mem, aS, aT, aC, aP, aN, ns, nt, nc, nv, nN, xs, xt, xc, xv, xN, pd, ot, ol, uS, uT, uC, uP, uK) (nI n) := by
  have L : ∀ d s, s + d = t → wY_firstViol_7 post (nI (6 + n)) (nI t) (nI cap) sq vi vs vt vp (nI np) (nI no) (nI h) tot mem aS aT aC aP aN ns nt nc nv nN xs xt xc xv xN pd ot ol uS uT uC uP uK (d + 1) (nI s) := by
    intro d
    induction d with
    | zero =>
      intro s hs
      exact br_t (nI_le (by omega) (by omega)) k
    | succ d ih =>
      intro s hs
      exact br_f (nI_ge (by omega) (by omega)) ⟨_, te_yF1 hP ht hn (by omega) (fun y hy => hz s y (by omega) hy) (ih (s + 1) (by omega)) t 0 (by omega)⟩
  exact nm_r (nI_add 6 n) ⟨_, L t 0 (by omega)⟩
theorem te_yFH {post : Int32 → Prop} {n s0 x0 : Nat} (hP : te_P t 1 ca cn cx mb rc rs rt rl rv mem aS aT aC aP aN ns nt nc nv nN xs xt xc xv xN) (ht : t ≤ 12) (hn : n < cn)
    (ho : te_one t ((te_bp mem ca aS aT aC aP ns nt nc nv) n) s0 x0) (k : post (nI (s0 * t + x0))) : wpY_firstViol post (nI t, nI cap, sq, vi, vs, vt, vp, nI np, nI no, nI h, tot, mem, aS, aT, aC, aP, aN, ns, nt, nc, nv, nN, xs, xt, xc, xv, xN, pd, ot, ol, uS, uT, uC, uP, uK) (nI n) := by
  obtain ⟨⟨hs0, hx0⟩, hb, hl, hr⟩ := ho
  have L : ∀ d s, s + d = s0 → wY_firstViol_7 post (nI (6 + n)) (nI t) (nI cap) sq vi vs vt vp (nI np) (nI no) (nI h) tot mem aS aT aC aP aN ns nt nc nv nN xs xt xc xv xN pd ot ol uS uT uC uP uK (d + 1) (nI s) := by
    intro d
    induction d with
    | zero =>
      intro s hs
      have e : s = s0 := by omega
      subst e
      exact br_f (nI_ge (by omega) (by omega)) ⟨_, te_yF1h hP ht hn hs0 hx0 hr hb k x0 0 (by omega)⟩
    | succ d ih =>
      intro s hs
      exact br_f (nI_ge (by omega) (by omega)) ⟨_, te_yF1 hP ht hn (by omega) (fun y hy => hl s y (by omega) hy) (ih (s + 1) (by omega)) t 0 (by omega)⟩
  exact nm_r (nI_add 6 n) ⟨_, L s0 0 (by omega)⟩
theorem te_ym1 : (-1 : Int32) < 0 := by decide
theorem te_yCoV {post : Int32 → SY → Prop} {n0 s0 x0 : Nat} (hP : te_P t 1 ca cn cx mb rc rs rt rl rv mem aS aT aC aP aN ns nt nc nv nN xs xt xc xv xN) (ht4 : 4 ≤ t) (ht : t ≤ 12) (hn0 : n0 < cn)
    (hz : ∀ m, m < n0 → te_none t ((te_bp mem ca aS aT aC aP ns nt nc nv) m)) (ho : te_one t ((te_bp mem ca aS aT aC aP ns nt nc nv) n0) s0 x0) (k : post (-3) (nI t, nI cap, sq, nI n0, nI s0, nI x0, te_bp mem ca aS aT aC aP ns nt nc nv n0 s0 x0, nI np, nI no, nI h, tot, mem, aS, aT, aC, aP, aN, ns, nt, nc, nv, nN, xs, xt, xc, xv, xN, pd, ot, ol, uS, uT, uC, uP, uK)) : wpY_commit post (nI t, nI cap, sq, vi, vs, vt, vp, nI np, nI no, nI h, tot, mem, aS, aT, aC, aP, aN, ns, nt, nc, nv, nN, xs, xt, xc, xv, xN, pd, ot, ol, uS, uT, uC, uP, uK) := by
  have q2 := hP.2.1.2.1
  have hN : nN 1 = nI cn := hP.2.2.2.1.2.1
  have hs0 := ho.1.1
  have hx0 := ho.1.2
  have hst : s0 * t + x0 < 2 ^ 31 := by
    have : s0 * t ≤ 12 * 12 := Nat.mul_le_mul (by omega) (by omega)
    omega
  have ht0 : ¬ nI t = 0 := nI_ne0 (by omega) (by omega)
  have hi : vp_in (nI (6 + n0)) 12 := vp_in_nI (by omega) (by decide)
  have L : ∀ d n, n + d = n0 → wY_commit_2 post (nI t) (nI cap) sq vi vs vt vp (nI np) (nI no) (nI h) tot mem aS aT aC aP aN ns nt nc nv nN xs xt xc xv xN pd ot ol uS uT uC uP uK (d + 1) (nI n) := by
    intro d
    induction d with
    | zero =>
      intro n hn
      have e : n = n0 := by omega
      subst e
      unfold wY_commit_2
      rw [hN]
      refine br_f (nI_ge (by omega) (by omega)) (te_yFH hP ht hn0 ho (br_f (nI_pos hst) ⟨ht0, ?_⟩))
      rw [pk_rem hst (by omega) (by omega), pk_div hst (by omega) (by omega), te_dv hx0, te_md hx0]
      refine nm_e ⟨ht0, nm_e (nm_r (nI_add 6 n) ⟨hi, ?_⟩)⟩
      rw [nI_clamp (show 6 + n < 2 ^ 31 by omega)]
      refine te_yVe (w := 1) hP (by decide) ht hs0 hx0 ⟨hi, nm_r (te_bpV ho.2.1).symm k⟩
    | succ d ih =>
      intro n hn
      unfold wY_commit_2
      rw [hN]
      exact br_f (nI_ge (by omega) (by omega)) (te_yFN hP ht (by omega) (hz n (by omega)) (br_t te_ym1 (nm_r (nI_1 n) (ih (n + 1) (by omega)))))
  exact ⟨_, L n0 0 (by omega)⟩
theorem te_m01 (hP : te_P t 1 ca cn cx mb rc rs rt rl rv mem aS aT aC aP aN ns nt nc nv nN xs xt xc xv xN) {j : Nat} (hj : j < 96) : mem (96 + j) = 0 ∨ mem (96 + j) = 1 := by
  have e := hP.1 (j / 8) (j % 8) (by omega) (by omega)
  rw [show 1 * 96 + j / 8 * 8 + j % 8 = 96 + j by omega] at e
  rw [e]
  exact te_bv01 _ _
theorem te_yK3 {post : Int32 → SY → Prop} (k : ∀ a b d e : Nat → Int32, te_cp 12 12 a xs → te_cp 12 12 b xt → te_cp 12 12 d xc → te_cp 12 12 e xv → post (sq + 1) (nI t, nI cap, sq + 1, -5, -5, -5, -5, nI np, nI no, nI h, tot, mem, aS, aT, aC, aP, upd aN 0 (aN 1), ns, nt, nc, nv, upd nN 0 (nN 1), a, b, d, e, upd xN 0 (xN 1), pd, ot, ol, uS, uT, uC, uP, uK)) :
    ∃ n, wY_commit_274 post (nI t) (nI cap) sq vi vs vt vp (nI np) (nI no) (nI h) tot n 0 mem aS aT aC aP aN ns nt nc nv nN xs xt xc xv xN pd ot ol uS uT uC uP uK := by
  refine loop_0 (fun n i (s : (Nat → Int32) × (Nat → Int32) × (Nat → Int32) × (Nat → Int32)) => wY_commit_274 post (nI t) (nI cap) sq vi vs vt vp (nI np) (nI no) (nI h) tot n (nI i) mem aS aT aC aP aN ns nt nc nv nN s.1 s.2.1 s.2.2.1 s.2.2.2 xN pd ot ol uS uT uC uP uK)
    (fun i s => te_cp 12 i s.1 xs ∧ te_cp 12 i s.2.1 xt ∧ te_cp 12 i s.2.2.1 xc ∧ te_cp 12 i s.2.2.2 xv) 12 (xs, xt, xc, xv) ⟨te_cp0, te_cp0, te_cp0, te_cp0⟩ ?_ ?_
  · intro n s hs
    exact br_t (nI_le (a := 12) (Nat.le_refl _) (by decide)) (nm_e (nm_e (nm_e (nm_e (k _ _ _ _ hs.1 hs.2.1 hs.2.2.1 hs.2.2.2)))))
  · intro n i s hi hs ih
    obtain ⟨a, b, d, e⟩ := s
    obtain ⟨h1, h2, h3, h4⟩ := hs
    dsimp only at h1 h2 h3 h4 ih ⊢
    have v1 : vp_in (nI (12 + i)) 24 := vp_in_nI (by omega) (by decide)
    have v2 : vp_in (nI i) 24 := vp_in_nI (by omega) (by decide)
    refine br_f (nI_ge (b := 12) hi (by decide)) ?_
    rw [show (12 : Int32) + nI i = nI (12 + i) from nI_add 12 i, nI_clamp (show 12 + i < 2 ^ 31 by omega), nI_clamp (show i < 2 ^ 31 by omega)]
    exact ⟨v1, v2, nm_e ⟨v1, v2, nm_e ⟨v1, v2, nm_e ⟨v1, v2, nm_e (nm_r (nI_1 i) (ih (upd a i (a (12 + i)), upd b i (b (12 + i)), upd d i (d (12 + i)), upd e i (e (12 + i))) ⟨te_cpS h1 rfl, te_cpS h2 rfl, te_cpS h3 rfl, te_cpS h4 rfl⟩))⟩⟩⟩⟩
theorem te_yK2 {post : Int32 → SY → Prop} (k : ∀ a b d e : Nat → Int32, te_cp 6 6 a ns → te_cp 6 6 b nt → te_cp 6 6 d nc → te_cp 6 6 e nv → ∃ n, wY_commit_274 post (nI t) (nI cap) sq vi vs vt vp (nI np) (nI no) (nI h) tot n 0 mem aS aT aC aP aN a b d e nN xs xt xc xv xN pd ot ol uS uT uC uP uK) :
    ∃ n, wY_commit_200 post (nI t) (nI cap) sq vi vs vt vp (nI np) (nI no) (nI h) tot n 0 mem aS aT aC aP aN ns nt nc nv nN xs xt xc xv xN pd ot ol uS uT uC uP uK := by
  refine loop_0 (fun n i (s : (Nat → Int32) × (Nat → Int32) × (Nat → Int32) × (Nat → Int32)) => wY_commit_200 post (nI t) (nI cap) sq vi vs vt vp (nI np) (nI no) (nI h) tot n (nI i) mem aS aT aC aP aN s.1 s.2.1 s.2.2.1 s.2.2.2 nN xs xt xc xv xN pd ot ol uS uT uC uP uK)
    (fun i s => te_cp 6 i s.1 ns ∧ te_cp 6 i s.2.1 nt ∧ te_cp 6 i s.2.2.1 nc ∧ te_cp 6 i s.2.2.2 nv) 6 (ns, nt, nc, nv) ⟨te_cp0, te_cp0, te_cp0, te_cp0⟩ ?_ ?_
  · intro n s hs
    exact br_t (nI_le (a := 6) (Nat.le_refl _) (by decide)) (k _ _ _ _ hs.1 hs.2.1 hs.2.2.1 hs.2.2.2)
  · intro n i s hi hs ih
    obtain ⟨a, b, d, e⟩ := s
    obtain ⟨h1, h2, h3, h4⟩ := hs
    dsimp only at h1 h2 h3 h4 ih ⊢
    have v1 : vp_in (nI (6 + i)) 12 := vp_in_nI (by omega) (by decide)
    have v2 : vp_in (nI i) 12 := vp_in_nI (by omega) (by decide)
    refine br_f (nI_ge (b := 6) hi (by decide)) ?_
    rw [show (6 : Int32) + nI i = nI (6 + i) from nI_add 6 i, nI_clamp (show 6 + i < 2 ^ 31 by omega), nI_clamp (show i < 2 ^ 31 by omega)]
    exact ⟨v1, v2, nm_e ⟨v1, v2, nm_e ⟨v1, v2, nm_e ⟨v1, v2, nm_e (nm_r (nI_1 i) (ih (upd a i (a (6 + i)), upd b i (b (6 + i)), upd d i (d (6 + i)), upd e i (e (6 + i))) ⟨te_cpS h1 rfl, te_cpS h2 rfl, te_cpS h3 rfl, te_cpS h4 rfl⟩))⟩⟩⟩⟩
theorem te_yK1 {post : Int32 → SY → Prop} (k : ∀ a b d e : Nat → Int32, te_cp 24 24 a aS → te_cp 24 24 b aT → te_cp 24 24 d aC → te_cp 24 24 e aP → ∃ n, wY_commit_200 post (nI t) (nI cap) sq vi vs vt vp (nI np) (nI no) (nI h) tot n 0 mem a b d e aN ns nt nc nv nN xs xt xc xv xN pd ot ol uS uT uC uP uK) :
    ∃ n, wY_commit_126 post (nI t) (nI cap) sq vi vs vt vp (nI np) (nI no) (nI h) tot n 0 mem aS aT aC aP aN ns nt nc nv nN xs xt xc xv xN pd ot ol uS uT uC uP uK := by
  refine loop_0 (fun n i (s : (Nat → Int32) × (Nat → Int32) × (Nat → Int32) × (Nat → Int32)) => wY_commit_126 post (nI t) (nI cap) sq vi vs vt vp (nI np) (nI no) (nI h) tot n (nI i) mem s.1 s.2.1 s.2.2.1 s.2.2.2 aN ns nt nc nv nN xs xt xc xv xN pd ot ol uS uT uC uP uK)
    (fun i s => te_cp 24 i s.1 aS ∧ te_cp 24 i s.2.1 aT ∧ te_cp 24 i s.2.2.1 aC ∧ te_cp 24 i s.2.2.2 aP) 24 (aS, aT, aC, aP) ⟨te_cp0, te_cp0, te_cp0, te_cp0⟩ ?_ ?_
  · intro n s hs
    exact br_t (nI_le (a := 24) (Nat.le_refl _) (by decide)) (k _ _ _ _ hs.1 hs.2.1 hs.2.2.1 hs.2.2.2)
  · intro n i s hi hs ih
    obtain ⟨a, b, d, e⟩ := s
    obtain ⟨h1, h2, h3, h4⟩ := hs
    dsimp only at h1 h2 h3 h4 ih ⊢
    have v1 : vp_in (nI (24 + i)) 48 := vp_in_nI (by omega) (by decide)
    have v2 : vp_in (nI i) 48 := vp_in_nI (by omega) (by decide)
    refine br_f (nI_ge (b := 24) hi (by decide)) ?_
    rw [show (24 : Int32) + nI i = nI (24 + i) from nI_add 24 i, nI_clamp (show 24 + i < 2 ^ 31 by omega), nI_clamp (show i < 2 ^ 31 by omega)]
    exact ⟨v1, v2, nm_e ⟨v1, v2, nm_e ⟨v1, v2, nm_e ⟨v1, v2, nm_e (nm_r (nI_1 i) (ih (upd a i (a (24 + i)), upd b i (b (24 + i)), upd d i (d (24 + i)), upd e i (e (24 + i))) ⟨te_cpS h1 rfl, te_cpS h2 rfl, te_cpS h3 rfl, te_cpS h4 rfl⟩))⟩⟩⟩⟩

theorem te_yCoN {post : Int32 → SY → Prop} (hP : te_P t 1 ca cn cx mb rc rs rt rl rv mem aS aT aC aP aN ns nt nc nv nN xs xt xc xv xN) (ht : t ≤ 12) (hz : ∀ n, n < cn → te_none t ((te_bp mem ca aS aT aC aP ns nt nc nv) n))
    (k : ∀ y a1 b1 d1 e1 a2 b2 d2 e2 a3 b3 d3 e3 : Nat → Int32, te_cp 96 96 y mem → (te_cp 24 24 a1 aS ∧ te_cp 24 24 b1 aT ∧ te_cp 24 24 d1 aC ∧ te_cp 24 24 e1 aP) → (te_cp 6 6 a2 ns ∧ te_cp 6 6 b2 nt ∧ te_cp 6 6 d2 nc ∧ te_cp 6 6 e2 nv) → (te_cp 12 12 a3 xs ∧ te_cp 12 12 b3 xt ∧ te_cp 12 12 d3 xc ∧ te_cp 12 12 e3 xv) → post (sq + 1) (nI t, nI cap, sq + 1, -5, -5, -5, -5, nI np, nI no, nI h, tot, y, a1, b1, d1, e1, upd aN 0 (aN 1), a2, b2, d2, e2, upd nN 0 (nN 1), a3, b3, d3, e3, upd xN 0 (xN 1), pd, ot, ol, uS, uT, uC, uP, uK)) : wpY_commit post (nI t, nI cap, sq, vi, vs, vt, vp, nI np, nI no, nI h, tot, mem, aS, aT, aC, aP, aN, ns, nt, nc, nv, nN, xs, xt, xc, xv, xN, pd, ot, ol, uS, uT, uC, uP, uK) := by
  have q2 := hP.2.1.2.1
  have hN : nN 1 = nI cn := hP.2.2.2.1.2.1
  have M : ∃ n, wY_commit_97 post (nI t) (nI cap) sq vi vs vt vp (nI np) (nI no) (nI h) tot n 0 mem aS aT aC aP aN ns nt nc nv nN xs xt xc xv xN pd ot ol uS uT uC uP uK := by
    refine loop_0 (fun n i s => wY_commit_97 post (nI t) (nI cap) sq vi vs vt vp (nI np) (nI no) (nI h) tot n (nI i) s aS aT aC aP aN ns nt nc nv nN xs xt xc xv xN pd ot ol uS uT uC uP uK) (fun i s => te_cp 96 i s mem) 96 mem te_cp0 ?_ ?_
    · intro n y hy
      exact br_t (nI_le (a := 96) (Nat.le_refl _) (by decide)) (te_yK1 (fun a1 b1 d1 e1 p1 p2 p3 p4 => te_yK2 (fun a2 b2 d2 e2 r1 r2 r3 r4 => te_yK3 (fun a3 b3 d3 e3 s1 s2 s3 s4 => k y a1 b1 d1 e1 a2 b2 d2 e2 a3 b3 d3 e3 hy ⟨p1, p2, p3, p4⟩ ⟨r1, r2, r3, r4⟩ ⟨s1, s2, s3, s4⟩))))
    · intro n i s hi hs ih
      have e : vp_nar .boolean (s (96 + i)) = s (96 + i) := by
        apply te_vb
        rw [hs.2 (96 + i) (by omega)]
        exact te_m01 hP hi
      refine br_f (nI_ge (b := 96) hi (by decide)) ?_
      rw [show (96 : Int32) + nI i = nI (96 + i) from nI_add 96 i, nI_clamp (show 96 + i < 2 ^ 31 by omega), nI_clamp (show i < 2 ^ 31 by omega), e]
      exact ⟨vp_in_nI (by omega) (by decide), vp_in_nI (by omega) (by decide), nm_e (nm_r (nI_1 i) (ih _ (te_cpS hs rfl)))⟩
  have L : ∀ d n, n + d = cn → wY_commit_2 post (nI t) (nI cap) sq vi vs vt vp (nI np) (nI no) (nI h) tot mem aS aT aC aP aN ns nt nc nv nN xs xt xc xv xN pd ot ol uS uT uC uP uK (d + 1) (nI n) := by
    intro d
    induction d with
    | zero =>
      intro n hn
      unfold wY_commit_2
      rw [hN]
      exact br_t (nI_le (by omega) (by omega)) M
    | succ d ih =>
      intro n hn
      unfold wY_commit_2
      rw [hN]
      exact br_f (nI_ge (by omega) (by omega)) (te_yFN hP ht (by omega) (hz n (by omega)) (br_t te_ym1 (nm_r (nI_1 n) (ih (n + 1) (by omega)))))
  exact ⟨_, L cn 0 (by omega)⟩
end
end
section
def te_I (t cap np no h : Nat) (mb rc rs rt rl rv mem aS aT aC aP aN ns nt nc nv nN xs xt xc xv xN pd ot ol : Nat → Int32) : Prop :=
  (4 ≤ t ∧ t ≤ 12 ∧ 4 ≤ cap ∧ cap ≤ 16 ∧ h ≤ cap) ∧ (∃ ca cn cx, te_P t 0 ca cn cx mb rc rs rt rl rv mem aS aT aC aP aN ns nt nc nv nN xs xt xc xv xN) ∧ (∃ ca cn cx, te_P t 1 ca cn cx mb rc rs rt rl rv mem aS aT aC aP aN ns nt nc nv nN xs xt xc xv xN) ∧ te_O t np no pd ot ol
def i_Rel (_ : Nat) (u : SX) (v : SY) : Prop :=
  ∃ (t cap np no h : Nat) (sq vi vs vt vp tot : Int32) (mb rc rs rt rl rv mem aS aT aC aP aN ns nt nc nv nN xs xt xc xv xN pd ot ol uS uT uC uP uK : Nat → Int32),
    u = (nI t, nI cap, sq, vi, vs, vt, vp, nI np, nI no, nI h, tot, mb, rc, rs, rt, rl, rv, pd, ot, ol, uS, uT, uC, uP, uK) ∧ v = (nI t, nI cap, sq, vi, vs, vt, vp, nI np, nI no, nI h, tot, mem, aS, aT, aC, aP, aN, ns, nt, nc, nv, nN, xs, xt, xc, xv, xN, pd, ot, ol, uS, uT, uC, uP, uK) ∧ te_I t cap np no h mb rc rs rt rl rv mem aS aT aC aP aN ns nt nc nv nN xs xt xc xv xN pd ot ol
theorem i_up {k : Nat} {u : SX} {v : SY} (h : i_Rel k u v) : i_Rel (k + 5) u v := h
section
variable {t cap np no h : Nat} {sq vi vs vt vp tot : Int32} {mb rc rs rt rl rv mem aS aT aC aP aN ns nt nc nv nN xs xt xc xv xN pd ot ol uS uT uC uP uK : Nat → Int32}

theorem te_mk {k : Nat} (q : te_I t cap np no h mb rc rs rt rl rv mem aS aT aC aP aN ns nt nc nv nN xs xt xc xv xN pd ot ol) : i_Rel k (nI t, nI cap, sq, vi, vs, vt, vp, nI np, nI no, nI h, tot, mb, rc, rs, rt, rl, rv, pd, ot, ol, uS, uT, uC, uP, uK) (nI t, nI cap, sq, vi, vs, vt, vp, nI np, nI no, nI h, tot, mem, aS, aT, aC, aP, aN, ns, nt, nc, nv, nN, xs, xt, xc, xv, xN, pd, ot, ol, uS, uT, uC, uP, uK) :=
  ⟨t, cap, np, no, h, sq, vi, vs, vt, vp, tot, mb, rc, rs, rt, rl, rv, mem, aS, aT, aC, aP, aN, ns, nt, nc, nv, nN, xs, xt, xc, xv, xN, pd, ot, ol, uS, uT, uC, uP, uK, rfl, rfl, q⟩
end
theorem te_gt {v a b : Int32} (h : a < v) (hab : ¬ a < b) : ¬ v = b := fun e => hab (e ▸ h)
/-! the constructors -/
def te_cl (v : Int32) (hi m : Nat) : Prop := (¬ 4 ≤ v ∧ m = 4) ∨ (4 ≤ v ∧ ¬ v ≤ nI hi ∧ m = hi) ∨ (4 ≤ v ∧ v ≤ nI hi ∧ v = nI m)
theorem te_clE (v : Int32) {hi : Nat} (h4 : 4 ≤ hi) (hh : hi < 2 ^ 31) : ∃ m, te_cl v hi m ∧ 4 ≤ m ∧ m ≤ hi := by
  rcases te_neg v with h0 | ⟨j, hj, rfl⟩
  · exact ⟨4, Or.inl ⟨te_nle (a := 4) h0 (by decide), rfl⟩, by omega, h4⟩
  · rcases Nat.lt_or_ge j 4 with a | a
    · exact ⟨4, Or.inl ⟨nI_ge (b := 4) a (by decide), rfl⟩, by omega, h4⟩
    · have a' : (4 : Int32) ≤ nI j := nI_le (a := 4) a hj
      rcases Nat.lt_or_ge hi j with b | b
      · exact ⟨hi, Or.inr (Or.inl ⟨a', nI_ge b hj, rfl⟩), h4, Nat.le_refl _⟩
      · exact ⟨j, Or.inr (Or.inr ⟨a', nI_le b hh, rfl⟩), a, b⟩
theorem te_clB {A : Int32 → Prop} {v H : Int32} {hi m : Nat} (c : te_cl v hi m) (k : A (nI m)) (hH : H = nI hi) : (4 ≤ v → (v ≤ H → A v) ∧ (¬ v ≤ H → A H)) ∧ (¬ 4 ≤ v → A 4) := by
  subst hH
  rcases c with ⟨a, rfl⟩ | ⟨a, b, rfl⟩ | ⟨a, b, rfl⟩
  · exact br_f a k
  · exact br_t a (br_f b k)
  · exact br_t a (br_t b k)
theorem te_xCp {post : Int32 → Prop} {v H : Int32} {hi m : Nat} (c : te_cl v hi m) (k : post (nI m)) (hH : H = nI hi) : wpX_clamp post v 4 H := te_clB (A := post) c k hH
theorem te_P00 {t w : Nat} : te_P t w 0 0 0 (fun _ => 0) (fun _ => 0) (fun _ => 0) (fun _ => 0) (fun _ => 0) (fun _ => 0) (fun _ => 0) (fun _ => 0) (fun _ => 0) (fun _ => 0) (fun _ => 0) (fun _ => 0) (fun _ => 0) (fun _ => 0) (fun _ => 0) (fun _ => 0) (fun _ => 0) (fun _ => 0) (fun _ => 0) (fun _ => 0) (fun _ => 0) (fun _ => 0) := by
  refine ⟨fun x a _ _ => (te_bv0 a).symm, ⟨by omega, by omega, by omega⟩, ⟨rfl, rfl, rfl⟩, ⟨rfl, rfl, rfl⟩, te_lst0, te_lst0, te_lst0⟩
theorem i_vc0 (k0 : Int32) (k1 : Int32) : wpX_init (fun u => wpY_init (fun v => i_Rel 2 u v) k0 k1) k0 k1 := by
  obtain ⟨m0, c0, l0, h0⟩ := te_clE k0 (hi := 12) (by decide) (by decide)
  obtain ⟨m1, c1, l1, h1⟩ := te_clE k1 (hi := 16) (by decide) (by decide)
  have F : i_Rel 2 (nI m0, nI m1, 0, -5, -5, -5, -5, 0, 0, 0, 0, fun _ => 0, fun _ => 0, fun _ => 0, fun _ => 0, fun _ => 0, fun _ => 0, fun _ => 0, fun _ => 0, fun _ => 0, fun _ => 0, fun _ => 0, fun _ => 0, fun _ => 0, fun _ => 0) (nI m0, nI m1, 0, -5, -5, -5, -5, 0, 0, 0, 0, fun _ => 0, fun _ => 0, fun _ => 0, fun _ => 0, fun _ => 0, fun _ => 0, fun _ => 0, fun _ => 0, fun _ => 0, fun _ => 0, fun _ => 0, fun _ => 0, fun _ => 0, fun _ => 0, fun _ => 0, fun _ => 0, fun _ => 0, fun _ => 0, fun _ => 0, fun _ => 0, fun _ => 0, fun _ => 0, fun _ => 0, fun _ => 0) :=
    te_mk (t := m0) (cap := m1) (np := 0) (no := 0) (h := 0) ⟨⟨l0, h0, l1, h1, by omega⟩, ⟨0, 0, 0, te_P00⟩, ⟨0, 0, 0, te_P00⟩, ⟨by omega, by omega⟩, fun i hi => absurd hi (Nat.not_lt_zero _), fun i hi => absurd hi (Nat.not_lt_zero _)⟩
  unfold wpX_init
  refine te_xCp (hi := 12) c0 ?_ rfl
  refine te_xCp (hi := 16) c1 ?_ rfl
  unfold wpY_init
  refine te_clB (A := fun z => wY_init_240 _ k1 z 0 0 0 (-5) (-5) (-5) (-5) 0 0 0 0 (fun _ => 0) (fun _ => 0) (fun _ => 0) (fun _ => 0) (fun _ => 0) (fun _ => 0) (fun _ => 0) (fun _ => 0) (fun _ => 0) (fun _ => 0) (fun _ => 0) (fun _ => 0) (fun _ => 0) (fun _ => 0) (fun _ => 0) (fun _ => 0) (fun _ => 0) (fun _ => 0) (fun _ => 0) (fun _ => 0) (fun _ => 0) (fun _ => 0) (fun _ => 0) (fun _ => 0)) (hi := 12) c0 ?_ rfl
  unfold wY_init_240
  exact te_clB (A := fun z => i_Rel 2 (nI m0, nI m1, 0, -5, -5, -5, -5, 0, 0, 0, 0, fun _ => 0, fun _ => 0, fun _ => 0, fun _ => 0, fun _ => 0, fun _ => 0, fun _ => 0, fun _ => 0, fun _ => 0, fun _ => 0, fun _ => 0, fun _ => 0, fun _ => 0, fun _ => 0) (nI m0, z, 0, -5, -5, -5, -5, 0, 0, 0, 0, fun _ => 0, fun _ => 0, fun _ => 0, fun _ => 0, fun _ => 0, fun _ => 0, fun _ => 0, fun _ => 0, fun _ => 0, fun _ => 0, fun _ => 0, fun _ => 0, fun _ => 0, fun _ => 0, fun _ => 0, fun _ => 0, fun _ => 0, fun _ => 0, fun _ => 0, fun _ => 0, fun _ => 0, fun _ => 0, fun _ => 0, fun _ => 0)) (hi := 16) c1 F rfl
theorem i_vc_policyInfo {k : Nat} {u : SX} {v : SY} (I : i_Rel k u v) (hk : k + 5 ≤ 2562) (v1 : Int32) : wpX_policyInfo (fun r => wpY_policyInfo (fun r' => r' = r ∧ i_Rel (k + 5) u v) v v1) u v1 := by
  have R : i_Rel (k + 5) u v := I
  obtain ⟨t, cap, np, no, h, sq, vi, vs, vt, vp, tot, mb, rc, rs, rt, rl, rv, mem, aS, aT, aC, aP, aN, ns, nt, nc, nv, nN, xs, xt, xc, xv, xN, pd, ot, ol, uS, uT, uC, uP, uK, rfl, rfl, ⟨ht4, ht, hc4, hc, hh⟩, ⟨ca0, cn0, cx0, P0⟩, ⟨ca1, cn1, cx1, P1⟩, O⟩ := I
  obtain ⟨-, -, ⟨r1, r2, r3⟩, ⟨n1, n2, n3⟩, -⟩ := P1
  obtain ⟨-, -, ⟨r4, r5, r6⟩, ⟨n4, n5, n6⟩, -⟩ := P0
  unfold wpX_policyInfo
  dsimp only
  by_cases a : v1 < 0
  · refine br_t a ?_
    unfold wpY_policyInfo
    dsimp only
    exact br_f (te_ne (a := 0) a (by decide)) (br_f (te_ne (a := 1) a (by decide)) (br_f (te_ne (a := 2) a (by decide)) (br_f (te_ne (a := 3) a (by decide)) (br_f (te_ne (a := 4) a (by decide)) (br_f (te_ne (a := 5) a (by decide)) (br_f (te_ne (a := 6) a (by decide)) (br_f (te_ne (a := 7) a (by decide)) (br_f (te_ne (a := 8) a (by decide)) (br_f (te_ne (a := 9) a (by decide)) (br_f (te_ne (a := 10) a (by decide)) (br_f (te_ne (a := 11) a (by decide)) (br_f (te_ne (a := 12) a (by decide)) (br_f (te_ne (a := 13) a (by decide)) (⟨rfl, R⟩))))))))))))))
  · refine br_f a ?_
    by_cases b : 13 < v1
    · refine br_t b ?_
      unfold wpY_policyInfo
      dsimp only
      exact br_f (te_gt (b := 0) b (by decide)) (br_f (te_gt (b := 1) b (by decide)) (br_f (te_gt (b := 2) b (by decide)) (br_f (te_gt (b := 3) b (by decide)) (br_f (te_gt (b := 4) b (by decide)) (br_f (te_gt (b := 5) b (by decide)) (br_f (te_gt (b := 6) b (by decide)) (br_f (te_gt (b := 7) b (by decide)) (br_f (te_gt (b := 8) b (by decide)) (br_f (te_gt (b := 9) b (by decide)) (br_f (te_gt (b := 10) b (by decide)) (br_f (te_gt (b := 11) b (by decide)) (br_f (te_gt (b := 12) b (by decide)) (br_f (te_gt (b := 13) b (by decide)) (⟨rfl, R⟩))))))))))))))
    · refine br_f b ?_
      by_cases e0 : v1 = 0
      · refine br_t e0 ?_
        unfold wpY_policyInfo
        dsimp only
        exact br_t e0 ⟨rfl, R⟩
      refine br_f e0 ?_
      by_cases e1 : v1 = 1
      · refine br_t e1 ?_
        unfold wpY_policyInfo
        dsimp only
        exact br_f e0 (br_t e1 ⟨rfl, R⟩)
      refine br_f e1 ?_
      by_cases e2 : v1 = 2
      · refine br_t e2 ?_
        unfold wpY_policyInfo
        dsimp only
        exact br_f e0 (br_f e1 (br_t e2 ⟨rfl, R⟩))
      refine br_f e2 ?_
      by_cases e3 : v1 = 3
      · refine br_t e3 ?_
        unfold wpY_policyInfo
        dsimp only
        exact br_f e0 (br_f e1 (br_f e2 (br_t e3 ⟨rfl, R⟩)))
      refine br_f e3 ?_
      by_cases e4 : v1 = 4
      · refine br_t e4 ?_
        unfold wpY_policyInfo
        dsimp only
        exact br_f e0 (br_f e1 (br_f e2 (br_f e3 (br_t e4 ⟨rfl, R⟩))))
      refine br_f e4 ?_
      by_cases e5 : v1 = 5
      · refine br_t e5 (te_xCR (w := 1) (l := 0) (by decide) (by decide) ?_)
        unfold wpY_policyInfo
        dsimp only
        exact br_f e0 (br_f e1 (br_f e2 (br_f e3 (br_f e4 (br_t e5 ⟨n1.trans (Eq.symm r1), R⟩)))))
      refine br_f e5 ?_
      by_cases e6 : v1 = 6
      · refine br_t e6 (te_xCR (w := 1) (l := 1) (by decide) (by decide) ?_)
        unfold wpY_policyInfo
        dsimp only
        exact br_f e0 (br_f e1 (br_f e2 (br_f e3 (br_f e4 (br_f e5 (br_t e6 ⟨n2.trans (Eq.symm r2), R⟩))))))
      refine br_f e6 ?_
      by_cases e7 : v1 = 7
      · refine br_t e7 (te_xCR (w := 1) (l := 2) (by decide) (by decide) ?_)
        unfold wpY_policyInfo
        dsimp only
        exact br_f e0 (br_f e1 (br_f e2 (br_f e3 (br_f e4 (br_f e5 (br_f e6 (br_t e7 ⟨n3.trans (Eq.symm r3), R⟩)))))))
      refine br_f e7 ?_
      by_cases e8 : v1 = 8
      · refine br_t e8 (te_xCR (w := 0) (l := 0) (by decide) (by decide) ?_)
        unfold wpY_policyInfo
        dsimp only
        exact br_f e0 (br_f e1 (br_f e2 (br_f e3 (br_f e4 (br_f e5 (br_f e6 (br_f e7 (br_t e8 ⟨n4.trans (Eq.symm r4), R⟩))))))))
      refine br_f e8 ?_
      by_cases e9 : v1 = 9
      · refine br_t e9 (te_xCR (w := 0) (l := 1) (by decide) (by decide) ?_)
        unfold wpY_policyInfo
        dsimp only
        exact br_f e0 (br_f e1 (br_f e2 (br_f e3 (br_f e4 (br_f e5 (br_f e6 (br_f e7 (br_f e8 (br_t e9 ⟨n5.trans (Eq.symm r5), R⟩)))))))))
      refine br_f e9 ?_
      by_cases e10 : v1 = 10
      · refine br_t e10 (te_xCR (w := 0) (l := 2) (by decide) (by decide) ?_)
        unfold wpY_policyInfo
        dsimp only
        exact br_f e0 (br_f e1 (br_f e2 (br_f e3 (br_f e4 (br_f e5 (br_f e6 (br_f e7 (br_f e8 (br_f e9 (br_t e10 ⟨n6.trans (Eq.symm r6), R⟩))))))))))
      refine br_f e10 ?_
      by_cases e11 : v1 = 11
      · refine br_t e11 ?_
        unfold wpY_policyInfo
        dsimp only
        exact br_f e0 (br_f e1 (br_f e2 (br_f e3 (br_f e4 (br_f e5 (br_f e6 (br_f e7 (br_f e8 (br_f e9 (br_f e10 (br_t e11 ⟨rfl, R⟩)))))))))))
      refine br_f e11 ?_
      by_cases e12 : v1 = 12
      · refine br_t e12 ?_
        unfold wpY_policyInfo
        dsimp only
        exact br_f e0 (br_f e1 (br_f e2 (br_f e3 (br_f e4 (br_f e5 (br_f e6 (br_f e7 (br_f e8 (br_f e9 (br_f e10 (br_f e11 (br_t e12 ⟨rfl, R⟩))))))))))))
      refine br_f e12 ?_
      by_cases e13 : v1 = 13
      · refine br_t e13 ?_
        unfold wpY_policyInfo
        dsimp only
        exact br_f e0 (br_f e1 (br_f e2 (br_f e3 (br_f e4 (br_f e5 (br_f e6 (br_f e7 (br_f e8 (br_f e9 (br_f e10 (br_f e11 (br_f e12 (br_t e13 ⟨rfl, R⟩)))))))))))))
      refine br_f e13 ?_
      trivial
theorem i_vc_label {k : Nat} {u : SX} {v : SY} (I : i_Rel k u v) (hk : k + 5 ≤ 2562) (v1 : Int32) (v2 : Int32) : wpX_label (fun r => wpY_label (fun r' => r' = r ∧ i_Rel (k + 5) u v) v v1 v2) u v1 v2 := by
  have R : i_Rel (k + 5) u v := I
  obtain ⟨t, cap, np, no, h, sq, vi, vs, vt, vp, tot, mb, rc, rs, rt, rl, rv, mem, aS, aT, aC, aP, aN, ns, nt, nc, nv, nN, xs, xt, xc, xv, xN, pd, ot, ol, uS, uT, uC, uP, uK, rfl, rfl, ⟨ht4, ht, hc4, hc, hh⟩, ⟨ca0, cn0, cx0, P0⟩, ⟨ca1, cn1, cx1, P1⟩, O⟩ := I
  obtain ⟨⟨o1, o2⟩, -⟩ := O
  unfold wpX_label
  dsimp only
  by_cases a : v1 < 0
  · refine br_t a ?_
    unfold wpY_label
    dsimp only
    exact br_f (te_ne (a := 0) a (by decide)) (br_f (te_ne (a := 1) a (by decide)) (br_f (te_ne (a := 2) a (by decide)) ⟨rfl, R⟩))
  · refine br_f a ?_
    by_cases b : 2 < v1
    · refine br_t b ?_
      unfold wpY_label
      dsimp only
      exact br_f (te_gt (b := 0) b (by decide)) (br_f (te_gt (b := 1) b (by decide)) (br_f (te_gt (b := 2) b (by decide)) ⟨rfl, R⟩))
    · refine br_f b ?_
      by_cases e0 : v1 = 0
      · refine br_t e0 (te_xPc o1 (fun q => br_f (by decide) ?_) (fun q => br_t rfl ?_))
        · obtain ⟨j, hj, rfl⟩ := q
          refine ⟨vp_in_nI (by omega) (by decide), ?_⟩
          unfold wpY_label
          dsimp only
          rw [nI_clamp (show j < 2 ^ 31 by omega)]
          exact br_t e0 (br_f (nI_pos (by omega)) (br_t (nI_lt hj (by omega)) ⟨vp_in_nI (by omega) (by decide), rfl, R⟩))
        · unfold wpY_label
          dsimp only
          refine br_t e0 ?_
          rcases te_neg v2 with z | ⟨j, hj, rfl⟩
          · exact br_t z ⟨rfl, R⟩
          · exact br_f (nI_pos hj) (pk_lt j np (fun w => absurd ⟨j, w, rfl⟩ q) (fun _ => ⟨rfl, R⟩))
      refine br_f e0 ?_
      by_cases e1 : v1 = 1
      · refine br_t e1 (te_xOb o2 (fun q => br_f (by decide) ?_) (fun q => br_t rfl ?_))
        · obtain ⟨j, hj, rfl⟩ := q
          refine ⟨vp_in_nI (by omega) (by decide), ?_⟩
          unfold wpY_label wY_label_35
          dsimp only
          rw [nI_clamp (show j < 2 ^ 31 by omega)]
          exact br_f e0 (br_t e1 (br_f (nI_pos (by omega)) (br_t (nI_lt hj (by omega)) (br_t e1 ⟨vp_in_nI (by omega) (by decide), rfl, R⟩))))
        · unfold wpY_label wY_label_35
          dsimp only
          refine br_f e0 (br_t e1 ?_)
          rcases te_neg v2 with z | ⟨j, hj, rfl⟩
          · exact br_t z ⟨rfl, R⟩
          · exact br_f (nI_pos hj) (pk_lt j no (fun w => absurd ⟨j, w, rfl⟩ q) (fun _ => ⟨rfl, R⟩))
      refine br_f e1 ?_
      by_cases e2 : v1 = 2
      · refine br_t e2 (te_xOb o2 (fun q => br_f (by decide) ?_) (fun q => br_t rfl ?_))
        · obtain ⟨j, hj, rfl⟩ := q
          refine ⟨vp_in_nI (by omega) (by decide), ?_⟩
          unfold wpY_label wY_label_35
          dsimp only
          rw [nI_clamp (show j < 2 ^ 31 by omega)]
          exact br_f e0 (br_f e1 (br_t e2 (br_f (nI_pos (by omega)) (br_t (nI_lt hj (by omega)) (br_f e1 ⟨vp_in_nI (by omega) (by decide), rfl, R⟩)))))
        · unfold wpY_label wY_label_35
          dsimp only
          refine br_f e0 (br_f e1 (br_t e2 ?_))
          rcases te_neg v2 with z | ⟨j, hj, rfl⟩
          · exact br_t z ⟨rfl, R⟩
          · exact br_f (nI_pos hj) (pk_lt j no (fun w => absurd ⟨j, w, rfl⟩ q) (fun _ => ⟨rfl, R⟩))
      exact br_f e2 trivial
theorem i_vc_audit {k : Nat} {u : SX} {v : SY} (I : i_Rel k u v) (hk : k + 5 ≤ 2562) (v1 : Int32) (v2 : Int32) : wpX_audit (fun r => wpY_audit (fun r' => r' = r ∧ i_Rel (k + 5) u v) v v1 v2) u v1 v2 := by
  have R : i_Rel (k + 5) u v := I
  obtain ⟨t, cap, np, no, h, sq, vi, vs, vt, vp, tot, mb, rc, rs, rt, rl, rv, mem, aS, aT, aC, aP, aN, ns, nt, nc, nv, nN, xs, xt, xc, xv, xN, pd, ot, ol, uS, uT, uC, uP, uK, rfl, rfl, ⟨ht4, ht, hc4, hc, hh⟩, ⟨ca0, cn0, cx0, P0⟩, ⟨ca1, cn1, cx1, P1⟩, O⟩ := I
  unfold wpX_audit
  dsimp only
  by_cases e5 : v2 = 5
  · refine br_t e5 ?_
    unfold wpY_audit
    dsimp only
    exact br_t e5 ⟨rfl, R⟩
  refine br_f e5 ?_
  by_cases e6 : v2 = 6
  · refine br_t e6 ?_
    unfold wpY_audit
    dsimp only
    exact br_f e5 (br_t e6 ⟨rfl, R⟩)
  refine br_f e6 ?_
  have YF : (v1 < 0 ∨ ¬ v1 < nI h) → wpY_audit (fun r' => r' = -1 ∧ i_Rel (k + 5) (nI t, nI cap, sq, vi, vs, vt, vp, nI np, nI no, nI h, tot, mb, rc, rs, rt, rl, rv, pd, ot, ol, uS, uT, uC, uP, uK) (nI t, nI cap, sq, vi, vs, vt, vp, nI np, nI no, nI h, tot, mem, aS, aT, aC, aP, aN, ns, nt, nc, nv, nN, xs, xt, xc, xv, xN, pd, ot, ol, uS, uT, uC, uP, uK)) (nI t, nI cap, sq, vi, vs, vt, vp, nI np, nI no, nI h, tot, mem, aS, aT, aC, aP, aN, ns, nt, nc, nv, nN, xs, xt, xc, xv, xN, pd, ot, ol, uS, uT, uC, uP, uK) v1 v2 := by
    intro q
    unfold wpY_audit
    dsimp only
    refine br_f e5 (br_f e6 (br_c (fun _ => ⟨rfl, R⟩) (fun _ => br_c (fun _ => ?_) (fun _ => ⟨rfl, R⟩))))
    by_cases z : v1 < 0
    · exact br_t z ⟨rfl, R⟩
    · exact br_f z (br_f (q.resolve_left z) ⟨rfl, R⟩)
  rcases te_neg v1 with a | ⟨i, hi, rfl⟩
  · exact br_t a (YF (Or.inl a))
  refine br_f (nI_pos hi) ?_
  by_cases b : nI i < nI h
  · have hi' : i < h := (nI_ltI hi (by omega)).mp b
    have vin : vp_in (nI i) 16 := vp_in_nI (by omega) (by decide)
    have nn := nI_pos hi
    refine br_t b ?_
    rw [nI_clamp hi]
    by_cases c : v2 < 0
    · refine br_t c ?_
      unfold wpY_audit
      dsimp only
      exact br_f e5 (br_f e6 (br_t c ⟨rfl, R⟩))
    refine br_f c ?_
    by_cases d : 4 < v2
    · refine br_t d ?_
      unfold wpY_audit
      dsimp only
      exact br_f e5 (br_f e6 (br_f c (br_f (fun z => Int32.not_lt.mpr z d) ⟨rfl, R⟩)))
    have d' : v2 ≤ 4 := Int32.not_lt.mp d
    refine br_f d ?_
    by_cases e0x : v2 = 0
    · refine br_t e0x ⟨vin, ?_⟩
      unfold wpY_audit
      dsimp only
      rw [nI_clamp hi]
      exact br_f e5 (br_f e6 (br_f c (br_t d' (br_f nn (br_t b (br_t e0x ⟨vin, rfl, R⟩))))))
    refine br_f e0x ?_
    by_cases e1x : v2 = 1
    · refine br_t e1x ⟨vin, ?_⟩
      unfold wpY_audit
      dsimp only
      rw [nI_clamp hi]
      exact br_f e5 (br_f e6 (br_f c (br_t d' (br_f nn (br_t b (br_f e0x (br_t e1x ⟨vin, rfl, R⟩)))))))
    refine br_f e1x ?_
    by_cases e2x : v2 = 2
    · refine br_t e2x ⟨vin, ?_⟩
      unfold wpY_audit
      dsimp only
      rw [nI_clamp hi]
      exact br_f e5 (br_f e6 (br_f c (br_t d' (br_f nn (br_t b (br_f e0x (br_f e1x (br_t e2x ⟨vin, rfl, R⟩))))))))
    refine br_f e2x ?_
    by_cases e3x : v2 = 3
    · refine br_t e3x ⟨vin, ?_⟩
      unfold wpY_audit
      dsimp only
      rw [nI_clamp hi]
      exact br_f e5 (br_f e6 (br_f c (br_t d' (br_f nn (br_t b (br_f e0x (br_f e1x (br_f e2x (br_t e3x ⟨vin, rfl, R⟩)))))))))
    refine br_f e3x ?_
    by_cases e4x : v2 = 4
    · refine br_t e4x ⟨vin, ?_⟩
      unfold wpY_audit
      dsimp only
      rw [nI_clamp hi]
      exact br_f e5 (br_f e6 (br_f c (br_t d' (br_f nn (br_t b (br_f e0x (br_f e1x (br_f e2x (br_f e3x (⟨vin, rfl, R⟩))))))))))
    refine br_f e4x ?_
    trivial
  · exact br_f b (YF (Or.inr b))
end
section
theorem te_rgT {A B : Prop} {m : Nat} {v M : Int32} (hm : m < 2 ^ 30) (hM : M = nI m) (q : te_ty (m + 1) v) (a : A) : (v < 0 → B) ∧ (¬ v < 0 → ((v ≤ M → A) ∧ (¬ v ≤ M → B))) := by
  subst hM
  exact br_f (te_rt hm q).1 (br_t (te_rt hm q).2 a)
theorem te_rgF {A B : Prop} {m : Nat} {v M : Int32} (hm : m < 2 ^ 30) (hM : M = nI m) (q : ¬ te_ty (m + 1) v) (b : B) : (v < 0 → B) ∧ (¬ v < 0 → ((v ≤ M → A) ∧ (¬ v ≤ M → B))) := by
  subst hM
  exact br_c (fun _ => b) (fun z => br_f (te_rf hm q z) b)
theorem te_pgT {A B : Prop} {v : Int32} (q : te_pm v) (a : A) : (v < 1 → B) ∧ (¬ v < 1 → ((v ≤ 255 → A) ∧ (¬ v ≤ 255 → B))) := br_f (te_pmt q).1 (br_t (te_pmt q).2 a)
theorem te_pgF {A B : Prop} {v : Int32} (q : ¬ te_pm v) (b : B) : (v < 1 → B) ∧ (¬ v < 1 → ((v ≤ 255 → A) ∧ (¬ v ≤ 255 → B))) := br_c (fun _ => b) (fun z => br_f (te_pmf q z) b)
section
variable {t cap np no h : Nat} {sq vi vs vt vp tot : Int32} {mb rc rs rt rl rv mem aS aT aC aP aN ns nt nc nv nN xs xt xc xv xN pd ot ol uS uT uC uP uK : Nat → Int32}

theorem te_QM {ca cn cx x j : Nat} {m y : Int32} (q : te_P t 0 ca cn cx mb rc rs rt rl rv mem aS aT aC aP aN ns nt nc nv nN xs xt xc xv xN) (hj : 96 ≤ j) : te_P t 0 ca cn cx (upd mb (12 + x) m) rc rs rt rl rv (upd mem j y) aS aT aC aP aN ns nt nc nv nN xs xt xc xv xN :=
  te_PM q (fun _ _ => pk_un (by omega)) (fun _ _ => pk_un (by omega)) ⟨rfl, rfl, rfl⟩ ⟨rfl, rfl, rfl⟩ te_eq4r te_eq4r te_eq4r te_eq4r te_eq4r te_eq4r
theorem te_xAs {post : Int32 → SX → Prop} {l c C : Nat} {a b d e : Int32} (hl : l < 3) (hc : rc (3 + l) = nI c) (hC : C ≤ 24) (hcC : c ≤ C)
    (f : c < C → post (nI c) (nI t, nI cap, sq, vi, vs, vt, vp, nI np, nI no, nI h, tot, mb, upd rc (3 + l) (nI (c + 1)), upd rs (72 + l * 24 + c) a, upd rt (72 + l * 24 + c) b, upd rl (72 + l * 24 + c) d, upd rv (72 + l * 24 + c) e, pd, ot, ol, uS, uT, uC, uP, uK))
    (g : c = C → post (-2) (nI t, nI cap, sq, vi, vs, vt, vp, nI np, nI no, nI h, tot, mb, rc, rs, rt, rl, rv, pd, ot, ol, uS, uT, uC, uP, uK)) : wpX_appendStaged post (nI t, nI cap, sq, vi, vs, vt, vp, nI np, nI no, nI h, tot, mb, rc, rs, rt, rl, rv, pd, ot, ol, uS, uT, uC, uP, uK) (nI l) (nI C) a b d e := by
  have hi : vp_in (nI (72 + l * 24 + c)) 144 ∨ ¬ c < C := by
    by_cases q : c < C
    · exact Or.inl (vp_in_nI (by omega) (by decide))
    · exact Or.inr q
  unfold wpX_appendStaged
  dsimp only
  refine te_xCR (w := 1) (by decide) hl ?_
  rw [show rc (1 * 3 + l) = nI c from hc]
  refine pk_lt c C (fun q => ?_) (fun q => g (by omega))
  have hi := hi.resolve_right (fun z => z q)
  refine te_xFR (w := 1) ?_
  rw [show (1 * 3 + l) * 24 = 72 + l * 24 by omega]
  refine nm_r (nI_add (72 + l * 24) c) ?_
  rw [nI_clamp (show 72 + l * 24 + c < 2 ^ 31 by omega)]
  refine ⟨hi, nm_e ⟨hi, nm_e ⟨hi, nm_e ⟨hi, nm_e (te_xLP (w := 1) ?_)⟩⟩⟩⟩
  refine ⟨vp_in_nI (by omega) (by decide), ?_⟩
  rw [nI_clamp (show 1 * 3 + l < 2 ^ 31 by omega), nI_1 c]
  exact nm_e (f q)
theorem te_xClr {post : SX → Prop} (k : ∀ y z : Nat → Int32, (∀ x, x < 12 → y (12 + x) = 0) → (∀ x, x < 12 → y x = mb x) → (∀ m, m < 3 → z (3 + m) = 0) → (∀ m, m < 3 → z m = rc m) → post (nI t, nI cap, sq, vi, vs, vt, vp, nI np, nI no, nI h, tot, y, z, rs, rt, rl, rv, pd, ot, ol, uS, uT, uC, uP, uK)) : wpX_stageClear post (nI t, nI cap, sq, vi, vs, vt, vp, nI np, nI no, nI h, tot, mb, rc, rs, rt, rl, rv, pd, ot, ol, uS, uT, uC, uP, uK) := by
  refine loop_0 (fun n i s => wX_stageClear_2 post (nI t) (nI cap) sq vi vs vt vp (nI np) (nI no) (nI h) tot n (nI i) s rc rs rt rl rv pd ot ol uS uT uC uP uK) (fun i s => (∀ x, x < i → s (12 + x) = 0) ∧ (∀ x, x < 12 → s x = mb x)) 12 mb ⟨fun i hi => absurd hi (Nat.not_lt_zero _), fun _ _ => rfl⟩ ?_ ?_
  · intro n y hy
    refine br_t (nI_le (a := 12) (Nat.le_refl _) (by decide)) ?_
    refine loop_0 (fun n i s => wX_stageClear_26 post (nI t) (nI cap) sq vi vs vt vp (nI np) (nI no) (nI h) tot n (nI i) y s rs rt rl rv pd ot ol uS uT uC uP uK) (fun i s => (∀ m, m < i → s (3 + m) = 0) ∧ (∀ m, m < 3 → s m = rc m)) 3 rc ⟨fun i hi => absurd hi (Nat.not_lt_zero _), fun _ _ => rfl⟩ ?_ ?_
    · intro n z hz
      exact br_t (nI_le (a := 3) (Nat.le_refl _) (by decide)) (k y z hy.1 hy.2 hz.1 hz.2)
    · intro n i z hi hz ih
      refine br_f (nI_ge (b := 3) hi (by decide)) (te_xLP (w := 1) ⟨vp_in_nI (by omega) (by decide), ?_⟩)
      rw [nI_clamp (show 1 * 3 + i < 2 ^ 31 by omega)]
      refine nm_e (nm_r (nI_1 i) (ih _ ⟨fun m hm => ?_, fun m hm => ?_⟩))
      · by_cases q : m = i
        · subst q
          exact pk_us
        · rw [pk_un (by omega)]
          exact hz.1 m (by omega)
      · rw [pk_un (by omega)]
        exact hz.2 m hm
  · intro n i y hi hy ih
    refine br_f (nI_ge (b := 12) hi (by decide)) ?_
    rw [show (12 : Int32) + nI i = nI (12 + i) from nI_add 12 i, nI_clamp (show 12 + i < 2 ^ 31 by omega)]
    refine ⟨vp_in_nI (by omega) (by decide), nm_e (nm_r (nI_1 i) (ih _ ⟨fun m hm => ?_, fun m hm => ?_⟩))⟩
    · by_cases q : m = i
      · subst q
        exact pk_us
      · rw [pk_un (by omega)]
        exact hy.1 m (by omega)
    · rw [pk_un (by omega)]
      exact hy.2 m hm
theorem te_yClr {post : SY → Prop} (k : ∀ y : Nat → Int32, (∀ j, j < 96 → y (96 + j) = 0) → (∀ j, j < 96 → y j = mem j) → post (nI t, nI cap, sq, vi, vs, vt, vp, nI np, nI no, nI h, tot, y, aS, aT, aC, aP, upd aN 1 0, ns, nt, nc, nv, upd nN 1 0, xs, xt, xc, xv, upd xN 1 0, pd, ot, ol, uS, uT, uC, uP, uK)) : wpY_stageClear post (nI t, nI cap, sq, vi, vs, vt, vp, nI np, nI no, nI h, tot, mem, aS, aT, aC, aP, aN, ns, nt, nc, nv, nN, xs, xt, xc, xv, xN, pd, ot, ol, uS, uT, uC, uP, uK) := by
  refine loop_0 (fun n i s => wY_stageClear_3 post (nI t) (nI cap) sq vi vs vt vp (nI np) (nI no) (nI h) tot n (nI (96 + i)) s aS aT aC aP aN ns nt nc nv nN xs xt xc xv xN pd ot ol uS uT uC uP uK) (fun i s => (∀ x, x < i → s (96 + x) = 0) ∧ (∀ x, x < 96 → s x = mem x)) 96 mem ⟨fun i hi => absurd hi (Nat.not_lt_zero _), fun _ _ => rfl⟩ ?_ ?_
  · intro n y hy
    exact br_t (nI_le (a := 192) (Nat.le_refl _) (by decide)) (nm_e (nm_e (nm_e (k y hy.1 hy.2))))
  · intro n i y hi hy ih
    refine br_f (nI_ge (b := 192) (by omega) (by decide)) ?_
    rw [nI_clamp (show 96 + i < 2 ^ 31 by omega), te_vb0]
    refine ⟨vp_in_nI (by omega) (by decide), nm_e (nm_r (nI_1 (96 + i)) (ih _ ⟨fun m hm => ?_, fun m hm => ?_⟩))⟩
    · by_cases q : m = i
      · subst q
        exact pk_us
      · rw [pk_un (by omega)]
        exact hy.1 m (by omega)
    · rw [pk_un (by omega)]
      exact hy.2 m hm
end
theorem i_vc_stageMember {k : Nat} {u : SX} {v : SY} (I : i_Rel k u v) (hk : k + 5 ≤ 2562) (v1 : Int32) (v2 : Int32) : wpX_stageMember (fun r u' => wpY_stageMember (fun r' v' => r' = r ∧ i_Rel (k + 5) u' v') v v1 v2) u v1 v2 := by
  have R : i_Rel (k + 5) u v := I
  obtain ⟨t, cap, np, no, h, sq, vi, vs, vt, vp, tot, mb, rc, rs, rt, rl, rv, mem, aS, aT, aC, aP, aN, ns, nt, nc, nv, nN, xs, xt, xc, xv, xN, pd, ot, ol, uS, uT, uC, uP, uK, rfl, rfl, ⟨ht4, ht, hc4, hc, hh⟩, ⟨ca0, cn0, cx0, P0⟩, ⟨ca1, cn1, cx1, P1⟩, O⟩ := I
  unfold wpX_stageMember
  dsimp only
  refine te_xTy ht (fun q1 => br_f (by decide) ?_) (fun q1 => br_t rfl ?_)
  · obtain ⟨x, hx, rfl⟩ := q1
    refine te_xAt (fun q2 => br_f (by decide) ?_) (fun q2 => br_t rfl ?_)
    · obtain ⟨a, ha, rfl⟩ := q2
      have hX : x < 12 := by omega
      have em : mem (96 + x * 8 + a) = te_bv (mb (12 + x)) a := P1.1 x a hX ha
      have i1 : vp_in (nI (96 + x * 8 + a)) 192 := vp_in_nI (by omega) (by decide)
      have i2 : vp_in (nI (12 + x)) 24 := vp_in_nI (by omega) (by decide)
      have e12 : (12 : Int32) + nI x = nI (12 + x) := nI_add 12 x
      have e96 : (96 : Int32) + nI x * 8 + nI a = nI (96 + x * 8 + a) := by
        rw [show nI x * 8 = nI (x * 8) from pk_mul x 8, show (96 : Int32) + nI (x * 8) = nI (96 + x * 8) from nI_add 96 _, nI_add]
      refine te_xIs (w := 1) (by decide) hX ha ?_
      rcases te_bv01 (mb (12 + x)) a with e | e
      · refine br_t e ?_
        rw [e12, nI_clamp (show 12 + x < 2 ^ 31 by omega)]
        refine ⟨i2, i2, nm_e ?_⟩
        unfold wpY_stageMember
        dsimp only
        refine te_yTy ht (fun _ => br_f (by decide) (br_f (nI_pos (by omega)) (br_t (nI_le (b := 7) (by omega) (by decide)) (nm_r e96 ⟨i1, ?_⟩)))) (fun z => absurd ⟨x, hx, rfl⟩ z)
        rw [nI_clamp (show 96 + x * 8 + a < 2 ^ 31 by omega), te_vb1]
        exact br_t (em.trans e) ⟨i1, nm_e ⟨rfl, te_mk ⟨⟨ht4, ht, hc4, hc, hh⟩, ⟨_, _, _, te_QM P0 (by omega)⟩, ⟨_, _, _, te_PS P1 hX ha rfl⟩, O⟩⟩⟩
      · refine br_f (fun z => absurd (e.symm.trans z) (by decide)) ?_
        unfold wpY_stageMember
        dsimp only
        refine te_yTy ht (fun _ => br_f (by decide) (br_f (nI_pos (by omega)) (br_t (nI_le (b := 7) (by omega) (by decide)) (nm_r e96 ⟨i1, ?_⟩)))) (fun z => absurd ⟨x, hx, rfl⟩ z)
        rw [nI_clamp (show 96 + x * 8 + a < 2 ^ 31 by omega)]
        exact br_f (fun z => absurd ((em.trans e).symm.trans z) (by decide)) ⟨rfl, R⟩
    · unfold wpY_stageMember
      dsimp only
      exact te_yTy ht (fun _ => br_f (by decide) (te_rgF (m := 7) (by decide) rfl q2 ⟨rfl, R⟩)) (fun z => absurd ⟨x, hx, rfl⟩ z)
  · unfold wpY_stageMember
    dsimp only
    exact te_yTy ht (fun z => absurd z q1) (fun _ => br_t rfl ⟨rfl, R⟩)
theorem i_vc_stageAllow {k : Nat} {u : SX} {v : SY} (I : i_Rel k u v) (hk : k + 5 ≤ 2562) (v1 : Int32) (v2 : Int32) (v3 : Int32) (v4 : Int32) : wpX_stageAllow (fun r u' => wpY_stageAllow (fun r' v' => r' = r ∧ i_Rel (k + 5) u' v') v v1 v2 v3 v4) u v1 v2 v3 v4 := by
  have R : i_Rel (k + 5) u v := I
  obtain ⟨t, cap, np, no, h, sq, vi, vs, vt, vp, tot, mb, rc, rs, rt, rl, rv, mem, aS, aT, aC, aP, aN, ns, nt, nc, nv, nN, xs, xt, xc, xv, xN, pd, ot, ol, uS, uT, uC, uP, uK, rfl, rfl, ⟨ht4, ht, hc4, hc, hh⟩, ⟨ca0, cn0, cx0, P0⟩, ⟨ca1, cn1, cx1, P1⟩, O⟩ := I
  have hr : rc (3 + 0) = nI ca1 := P1.2.2.1.1
  have hN : aN 1 = nI ca1 := P1.2.2.2.1.1
  have hcn : ca1 ≤ 24 := P1.2.1.1
  unfold wpX_stageAllow
  dsimp only
  refine te_xPr ht (fun q => br_f (by decide) ?_) (fun q => br_t rfl ?_)
  · obtain ⟨qa, qb, qc, qd⟩ := q
    refine te_xAs (l := 0) (c := ca1) (C := 24) (by decide) hr (by decide) hcn (fun q => ?_) (fun q => ?_)
    · have hi : vp_in (nI (24 + ca1)) 48 := vp_in_nI (by omega) (by decide)
      dsimp only
      have K : wY_stageAllow_42 (fun r' v' => r' = nI ca1 ∧ i_Rel (k + 5) (nI t, nI cap, sq, vi, vs, vt, vp, nI np, nI no, nI h, tot, mb, upd rc (3 + 0) (nI (ca1 + 1)), upd rs (72 + 0 * 24 + ca1) v1, upd rt (72 + 0 * 24 + ca1) v2, upd rl (72 + 0 * 24 + ca1) v3, upd rv (72 + 0 * 24 + ca1) v4, pd, ot, ol, uS, uT, uC, uP, uK) v') v1 v2 v3 v4 (nI t) (nI cap) sq vi vs vt vp (nI np) (nI no) (nI h) tot mem aS aT aC aP aN ns nt nc nv nN xs xt xc xv xN pd ot ol uS uT uC uP uK := by
        unfold wY_stageAllow_42
        rw [hN]
        refine te_rgT (m := 3) (by decide) rfl qc (te_pgT qd (pk_eq ca1 24 (fun e => absurd e (by omega)) (fun _ => nm_e (nm_r (nI_add 24 ca1) ?_))))
        rw [nI_clamp (show 24 + ca1 < 2 ^ 31 by omega), nI_1 ca1]
        exact ⟨hi, nm_e ⟨hi, nm_e ⟨hi, nm_e ⟨hi, nm_e (nm_e ⟨rfl, te_mk ⟨⟨ht4, ht, hc4, hc, hh⟩, ⟨_, _, _, te_QA P0⟩, ⟨_, _, _, te_PA P1 q qa qb⟩, O⟩⟩)⟩⟩⟩⟩
      unfold wpY_stageAllow
      dsimp only
      refine te_yTA ht (fun _ => ?_) (fun z => absurd qa z)
      unfold wY_stageAllow_18
      exact te_yTA ht (fun _ => K) (fun z => br_t (qb.resolve_left z) K)
    · dsimp only
      have K : wY_stageAllow_42 (fun r' v' => r' = -2 ∧ i_Rel (k + 5) (nI t, nI cap, sq, vi, vs, vt, vp, nI np, nI no, nI h, tot, mb, rc, rs, rt, rl, rv, pd, ot, ol, uS, uT, uC, uP, uK) v') v1 v2 v3 v4 (nI t) (nI cap) sq vi vs vt vp (nI np) (nI no) (nI h) tot mem aS aT aC aP aN ns nt nc nv nN xs xt xc xv xN pd ot ol uS uT uC uP uK := by
        unfold wY_stageAllow_42
        rw [hN]
        exact te_rgT (m := 3) (by decide) rfl qc (te_pgT qd (pk_eq ca1 24 (fun _ => ⟨rfl, R⟩) (fun e => absurd q e)))
      unfold wpY_stageAllow
      dsimp only
      refine te_yTA ht (fun _ => ?_) (fun z => absurd qa z)
      unfold wY_stageAllow_18
      exact te_yTA ht (fun _ => K) (fun z => br_t (qb.resolve_left z) K)
  · have K : te_tn t v1 → te_sn t v2 → wY_stageAllow_42 (fun r' v' => r' = -1 ∧ i_Rel (k + 5) (nI t, nI cap, sq, vi, vs, vt, vp, nI np, nI no, nI h, tot, mb, rc, rs, rt, rl, rv, pd, ot, ol, uS, uT, uC, uP, uK) v') v1 v2 v3 v4 (nI t) (nI cap) sq vi vs vt vp (nI np) (nI no) (nI h) tot mem aS aT aC aP aN ns nt nc nv nN xs xt xc xv xN pd ot ol uS uT uC uP uK := by
      intro qa qb
      unfold wY_stageAllow_42
      by_cases qc : te_ty 4 v3
      · refine te_rgT (m := 3) (by decide) rfl qc ?_
        by_cases qd : te_pm v4
        · exact absurd ⟨qa, qb, qc, qd⟩ q
        · exact te_pgF qd ⟨rfl, R⟩
      · exact te_rgF (m := 3) (by decide) rfl qc ⟨rfl, R⟩
    unfold wpY_stageAllow
    dsimp only
    refine te_yTA ht (fun qa => ?_) (fun _ => ⟨rfl, R⟩)
    unfold wY_stageAllow_18
    exact te_yTA ht (fun qb => K qa (Or.inl qb)) (fun _ => br_c (fun e => K qa (Or.inr e)) (fun _ => ⟨rfl, R⟩))
theorem i_vc_stageNeverallow {k : Nat} {u : SX} {v : SY} (I : i_Rel k u v) (hk : k + 5 ≤ 2562) (v1 : Int32) (v2 : Int32) (v3 : Int32) (v4 : Int32) : wpX_stageNeverallow (fun r u' => wpY_stageNeverallow (fun r' v' => r' = r ∧ i_Rel (k + 5) u' v') v v1 v2 v3 v4) u v1 v2 v3 v4 := by
  have R : i_Rel (k + 5) u v := I
  obtain ⟨t, cap, np, no, h, sq, vi, vs, vt, vp, tot, mb, rc, rs, rt, rl, rv, mem, aS, aT, aC, aP, aN, ns, nt, nc, nv, nN, xs, xt, xc, xv, xN, pd, ot, ol, uS, uT, uC, uP, uK, rfl, rfl, ⟨ht4, ht, hc4, hc, hh⟩, ⟨ca0, cn0, cx0, P0⟩, ⟨ca1, cn1, cx1, P1⟩, O⟩ := I
  have hr : rc (3 + 1) = nI cn1 := P1.2.2.1.2.1
  have hN : nN 1 = nI cn1 := P1.2.2.2.1.2.1
  have hcn : cn1 ≤ 6 := P1.2.1.2.1
  unfold wpX_stageNeverallow
  dsimp only
  refine te_xPr ht (fun q => br_f (by decide) ?_) (fun q => br_t rfl ?_)
  · obtain ⟨qa, qb, qc, qd⟩ := q
    refine te_xAs (l := 1) (c := cn1) (C := 6) (by decide) hr (by decide) hcn (fun q => ?_) (fun q => ?_)
    · have hi : vp_in (nI (6 + cn1)) 12 := vp_in_nI (by omega) (by decide)
      dsimp only
      have K : wY_stageNeverallow_42 (fun r' v' => r' = nI cn1 ∧ i_Rel (k + 5) (nI t, nI cap, sq, vi, vs, vt, vp, nI np, nI no, nI h, tot, mb, upd rc (3 + 1) (nI (cn1 + 1)), upd rs (72 + 1 * 24 + cn1) v1, upd rt (72 + 1 * 24 + cn1) v2, upd rl (72 + 1 * 24 + cn1) v3, upd rv (72 + 1 * 24 + cn1) v4, pd, ot, ol, uS, uT, uC, uP, uK) v') v1 v2 v3 v4 (nI t) (nI cap) sq vi vs vt vp (nI np) (nI no) (nI h) tot mem aS aT aC aP aN ns nt nc nv nN xs xt xc xv xN pd ot ol uS uT uC uP uK := by
        unfold wY_stageNeverallow_42
        rw [hN]
        refine te_rgT (m := 3) (by decide) rfl qc (te_pgT qd (pk_eq cn1 6 (fun e => absurd e (by omega)) (fun _ => nm_e (nm_r (nI_add 6 cn1) ?_))))
        rw [nI_clamp (show 6 + cn1 < 2 ^ 31 by omega), nI_1 cn1]
        exact ⟨hi, nm_e ⟨hi, nm_e ⟨hi, nm_e ⟨hi, nm_e (nm_e ⟨rfl, te_mk ⟨⟨ht4, ht, hc4, hc, hh⟩, ⟨_, _, _, te_QN P0⟩, ⟨_, _, _, te_PN P1 q qa qb⟩, O⟩⟩)⟩⟩⟩⟩
      unfold wpY_stageNeverallow
      dsimp only
      refine te_yTA ht (fun _ => ?_) (fun z => absurd qa z)
      unfold wY_stageNeverallow_18
      exact te_yTA ht (fun _ => K) (fun z => br_t (qb.resolve_left z) K)
    · dsimp only
      have K : wY_stageNeverallow_42 (fun r' v' => r' = -2 ∧ i_Rel (k + 5) (nI t, nI cap, sq, vi, vs, vt, vp, nI np, nI no, nI h, tot, mb, rc, rs, rt, rl, rv, pd, ot, ol, uS, uT, uC, uP, uK) v') v1 v2 v3 v4 (nI t) (nI cap) sq vi vs vt vp (nI np) (nI no) (nI h) tot mem aS aT aC aP aN ns nt nc nv nN xs xt xc xv xN pd ot ol uS uT uC uP uK := by
        unfold wY_stageNeverallow_42
        rw [hN]
        exact te_rgT (m := 3) (by decide) rfl qc (te_pgT qd (pk_eq cn1 6 (fun _ => ⟨rfl, R⟩) (fun e => absurd q e)))
      unfold wpY_stageNeverallow
      dsimp only
      refine te_yTA ht (fun _ => ?_) (fun z => absurd qa z)
      unfold wY_stageNeverallow_18
      exact te_yTA ht (fun _ => K) (fun z => br_t (qb.resolve_left z) K)
  · have K : te_tn t v1 → te_sn t v2 → wY_stageNeverallow_42 (fun r' v' => r' = -1 ∧ i_Rel (k + 5) (nI t, nI cap, sq, vi, vs, vt, vp, nI np, nI no, nI h, tot, mb, rc, rs, rt, rl, rv, pd, ot, ol, uS, uT, uC, uP, uK) v') v1 v2 v3 v4 (nI t) (nI cap) sq vi vs vt vp (nI np) (nI no) (nI h) tot mem aS aT aC aP aN ns nt nc nv nN xs xt xc xv xN pd ot ol uS uT uC uP uK := by
      intro qa qb
      unfold wY_stageNeverallow_42
      by_cases qc : te_ty 4 v3
      · refine te_rgT (m := 3) (by decide) rfl qc ?_
        by_cases qd : te_pm v4
        · exact absurd ⟨qa, qb, qc, qd⟩ q
        · exact te_pgF qd ⟨rfl, R⟩
      · exact te_rgF (m := 3) (by decide) rfl qc ⟨rfl, R⟩
    unfold wpY_stageNeverallow
    dsimp only
    refine te_yTA ht (fun qa => ?_) (fun _ => ⟨rfl, R⟩)
    unfold wY_stageNeverallow_18
    exact te_yTA ht (fun qb => K qa (Or.inl qb)) (fun _ => br_c (fun e => K qa (Or.inr e)) (fun _ => ⟨rfl, R⟩))
theorem i_vc_stageTransition {k : Nat} {u : SX} {v : SY} (I : i_Rel k u v) (hk : k + 5 ≤ 2562) (v1 : Int32) (v2 : Int32) (v3 : Int32) (v4 : Int32) : wpX_stageTransition (fun r u' => wpY_stageTransition (fun r' v' => r' = r ∧ i_Rel (k + 5) u' v') v v1 v2 v3 v4) u v1 v2 v3 v4 := by
  have R : i_Rel (k + 5) u v := I
  obtain ⟨t, cap, np, no, h, sq, vi, vs, vt, vp, tot, mb, rc, rs, rt, rl, rv, mem, aS, aT, aC, aP, aN, ns, nt, nc, nv, nN, xs, xt, xc, xv, xN, pd, ot, ol, uS, uT, uC, uP, uK, rfl, rfl, ⟨ht4, ht, hc4, hc, hh⟩, ⟨ca0, cn0, cx0, P0⟩, ⟨ca1, cn1, cx1, P1⟩, O⟩ := I
  have hr : rc (3 + 2) = nI cx1 := P1.2.2.1.2.2
  have hN : xN 1 = nI cx1 := P1.2.2.2.1.2.2
  have hcn : cx1 ≤ 12 := P1.2.1.2.2
  unfold wpX_stageTransition
  dsimp only
  have F : ∀ {r : Int32}, r = -1 → (¬ (te_tn t v1 ∧ te_tn t v2 ∧ te_ty 4 v3 ∧ te_ty t v4)) → wpY_stageTransition (fun r' v' => r' = r ∧ i_Rel (k + 5) (nI t, nI cap, sq, vi, vs, vt, vp, nI np, nI no, nI h, tot, mb, rc, rs, rt, rl, rv, pd, ot, ol, uS, uT, uC, uP, uK) v') (nI t, nI cap, sq, vi, vs, vt, vp, nI np, nI no, nI h, tot, mem, aS, aT, aC, aP, aN, ns, nt, nc, nv, nN, xs, xt, xc, xv, xN, pd, ot, ol, uS, uT, uC, uP, uK) v1 v2 v3 v4 := by
    intro r er q
    subst er
    unfold wpY_stageTransition
    dsimp only
    refine te_yTA ht (fun qa => ?_) (fun _ => ⟨rfl, R⟩)
    unfold wY_stageTransition_18
    refine te_yTA ht (fun qb => ?_) (fun _ => ⟨rfl, R⟩)
    unfold wY_stageTransition_36
    by_cases qc : te_ty 4 v3
    · refine te_rgT (m := 3) (by decide) rfl qc ?_
      exact te_yTy ht (fun qd => absurd ⟨qa, qb, qc, qd⟩ q) (fun _ => br_t rfl ⟨rfl, R⟩)
    · exact te_rgF (m := 3) (by decide) rfl qc ⟨rfl, R⟩
  refine te_xTn ht (fun qa => br_f (by decide) ?_) (fun qa => br_t rfl (F rfl fun z => qa z.1))
  refine te_xTn ht (fun qb => br_f (by decide) ?_) (fun qb => br_t rfl (F rfl fun z => qb z.2.1))
  refine te_xCl (fun qc => br_f (by decide) ?_) (fun qc => br_t rfl (F rfl fun z => qc z.2.2.1))
  refine te_xTy ht (fun qd => br_f (by decide) ?_) (fun qd => br_t rfl (F rfl fun z => qd z.2.2.2))
  refine te_xAs (l := 2) (c := cx1) (C := 12) (by decide) hr (by decide) hcn (fun q => ?_) (fun q => ?_)
  · have hi : vp_in (nI (12 + cx1)) 24 := vp_in_nI (by omega) (by decide)
    dsimp only
    unfold wpY_stageTransition
    dsimp only
    refine te_yTA ht (fun _ => ?_) (fun z => absurd qa z)
    unfold wY_stageTransition_18
    refine te_yTA ht (fun _ => ?_) (fun z => absurd qb z)
    unfold wY_stageTransition_36
    rw [hN]
    refine te_rgT (m := 3) (by decide) rfl qc (te_yTy ht (fun _ => br_f (by decide) (pk_eq cx1 12 (fun e => absurd e (by omega)) (fun _ => nm_e (nm_r (nI_add 12 cx1) ?_)))) (fun z => absurd qd z))
    rw [nI_clamp (show 12 + cx1 < 2 ^ 31 by omega), nI_1 cx1]
    exact ⟨hi, nm_e ⟨hi, nm_e ⟨hi, nm_e ⟨hi, nm_e (nm_e ⟨rfl, te_mk ⟨⟨ht4, ht, hc4, hc, hh⟩, ⟨_, _, _, te_QX P0⟩, ⟨_, _, _, te_PX P1 q qa (Or.inl qb) qd⟩, O⟩⟩)⟩⟩⟩⟩
  · dsimp only
    unfold wpY_stageTransition
    dsimp only
    refine te_yTA ht (fun _ => ?_) (fun z => absurd qa z)
    unfold wY_stageTransition_18
    refine te_yTA ht (fun _ => ?_) (fun z => absurd qb z)
    unfold wY_stageTransition_36
    rw [hN]
    exact te_rgT (m := 3) (by decide) rfl qc (te_yTy ht (fun _ => br_f (by decide) (pk_eq cx1 12 (fun _ => ⟨rfl, R⟩) (fun e => absurd q e))) (fun z => absurd qd z))
theorem i_vc_stageClear {k : Nat} {u : SX} {v : SY} (I : i_Rel k u v) (hk : k + 5 ≤ 2562) : wpX_stageClear (fun u' => wpY_stageClear (fun v' => i_Rel (k + 5) u' v') v) u := by
  have R : i_Rel (k + 5) u v := I
  obtain ⟨t, cap, np, no, h, sq, vi, vs, vt, vp, tot, mb, rc, rs, rt, rl, rv, mem, aS, aT, aC, aP, aN, ns, nt, nc, nv, nN, xs, xt, xc, xv, xN, pd, ot, ol, uS, uT, uC, uP, uK, rfl, rfl, ⟨ht4, ht, hc4, hc, hh⟩, ⟨ca0, cn0, cx0, P0⟩, ⟨ca1, cn1, cx1, P1⟩, O⟩ := I
  refine te_xClr (fun y z g1 g2 g3 g4 => te_yClr (fun y' f1 f2 => te_mk ⟨⟨ht4, ht, hc4, hc, hh⟩, ⟨ca0, cn0, cx0, ?_⟩, ⟨0, 0, 0, ?_⟩, O⟩))
  · exact te_QC P0 g2 f2 ⟨g4 0 (by decide), g4 1 (by decide), g4 2 (by decide)⟩ ⟨pk_un (by decide), pk_un (by decide), pk_un (by decide)⟩
  · exact te_PC g1 f1 ⟨g3 0 (by decide), g3 1 (by decide), g3 2 (by decide)⟩ ⟨pk_us, pk_us, pk_us⟩
theorem i_vc_commit {k : Nat} {u : SX} {v : SY} (I : i_Rel k u v) (hk : k + 5 ≤ 2562) : wpX_commit (fun r u' => wpY_commit (fun r' v' => r' = r ∧ i_Rel (k + 5) u' v') v) u := by
  have R : i_Rel (k + 5) u v := I
  obtain ⟨t, cap, np, no, h, sq, vi, vs, vt, vp, tot, mb, rc, rs, rt, rl, rv, mem, aS, aT, aC, aP, aN, ns, nt, nc, nv, nN, xs, xt, xc, xv, xN, pd, ot, ol, uS, uT, uC, uP, uK, rfl, rfl, ⟨ht4, ht, hc4, hc, hh⟩, ⟨ca0, cn0, cx0, P0⟩, ⟨ca1, cn1, cx1, P1⟩, O⟩ := I
  rcases te_rows cn1 t (te_bp mem ca1 aS aT aC aP ns nt nc nv) with hz | ⟨n, s, x, hn, ho, hl⟩
  · refine te_xCoN P1 ht hz (fun y z a b d e hy hz3 hz' e1 e2 e3 hj => te_yCoN P1 ht hz (fun y' a1 b1 d1 e1' a2 b2 d2 e2' a3 b3 d3 e3' hy' p1 p2 p3 => ⟨rfl, te_mk ⟨⟨ht4, ht, hc4, hc, hh⟩, ⟨ca1, cn1, cx1, ?_⟩, ⟨ca1, cn1, cx1, ?_⟩, O⟩⟩))
    · have P1' := P1
      obtain ⟨-, ⟨q1, q2, q3⟩, ⟨r1, r2, r3⟩, -⟩ := P1'
      refine te_PM P1 (fun x hx => ?_) (fun j hj => ?_) ⟨hz3.1.trans r1.symm, hz3.2.1.trans r2.symm, hz3.2.2.trans r3.symm⟩ ⟨pk_us, pk_us, pk_us⟩ e1 e2 e3 (fun i hi => ?_) (fun i hi => ?_) (fun i hi => ?_)
      · rw [show 0 * 12 + x = x by omega]
        exact hy.1 x hx
      · rw [show 0 * 96 + j = j by omega]
        exact hy'.1 j hj
      · rw [show 0 * 24 + i = i by omega]
        exact ⟨p1.1.1 i (by omega), p1.2.1.1 i (by omega), p1.2.2.1.1 i (by omega), p1.2.2.2.1 i (by omega)⟩
      · rw [show 0 * 6 + i = i by omega]
        exact ⟨p2.1.1 i (by omega), p2.2.1.1 i (by omega), p2.2.2.1.1 i (by omega), p2.2.2.2.1 i (by omega)⟩
      · rw [show 0 * 12 + i = i by omega]
        exact ⟨p3.1.1 i (by omega), p3.2.1.1 i (by omega), p3.2.2.1.1 i (by omega), p3.2.2.2.1 i (by omega)⟩
    · exact te_PM P1 (fun x hx => hy.2 _ (by omega)) (fun j hj => hy'.2 _ (by omega)) ⟨hz' 3 (by decide), hz' 4 (by decide), hz' 5 (by decide)⟩ ⟨pk_un (by decide), pk_un (by decide), pk_un (by decide)⟩ (fun i hi => hj _ (by omega)) (fun i hi => hj _ (by omega)) (fun i hi => hj _ (by omega)) (fun i hi => ⟨p1.1.2 _ (by omega), p1.2.1.2 _ (by omega), p1.2.2.1.2 _ (by omega), p1.2.2.2.2 _ (by omega)⟩) (fun i hi => ⟨p2.1.2 _ (by omega), p2.2.1.2 _ (by omega), p2.2.2.1.2 _ (by omega), p2.2.2.2.2 _ (by omega)⟩) (fun i hi => ⟨p3.1.2 _ (by omega), p3.2.1.2 _ (by omega), p3.2.2.1.2 _ (by omega), p3.2.2.2.2 _ (by omega)⟩)
  · exact te_xCoV P1 ht hn hl ho (te_yCoV P1 ht4 ht hn hl ho ⟨rfl, te_mk ⟨⟨ht4, ht, hc4, hc, hh⟩, ⟨_, _, _, P0⟩, ⟨_, _, _, P1⟩, O⟩⟩)
end
section
section
variable {t cap np no h : Nat} {sq vi vs vt vp tot : Int32} {mb rc rs rt rl rv mem aS aT aC aP aN ns nt nc nv nN xs xt xc xv xN pd ot ol uS uT uC uP uK : Nat → Int32}

theorem te_xQM {post : Int32 → Prop} {w ca cn cx : Nat} {va vb : Int32} (hP : te_P t w ca cn cx mb rc rs rt rl rv mem aS aT aC aP aN ns nt nc nv nN xs xt xc xv xN) (hw : w < 2) (ht : t ≤ 12)
    (f : ∀ x a, x < t → a < 8 → va = nI x → vb = nI a → post (mem (w * 96 + x * 8 + a))) (g : ¬ (te_ty t va ∧ te_ty 8 vb) → post (-1)) : wpX_queryMember post (nI t, nI cap, sq, vi, vs, vt, vp, nI np, nI no, nI h, tot, mb, rc, rs, rt, rl, rv, pd, ot, ol, uS, uT, uC, uP, uK) (nI w) va vb := by
  unfold wpX_queryMember
  dsimp only
  refine te_xTy ht (fun q1 => br_f (by decide) ?_) (fun q1 => br_t rfl (g fun z => q1 z.1))
  refine te_xAt (fun q2 => br_f (by decide) ?_) (fun q2 => br_t rfl (g fun z => q2 z.2))
  obtain ⟨x, hx, rfl⟩ := q1
  obtain ⟨a, ha, rfl⟩ := q2
  have k := f x a hx ha rfl rfl
  rw [hP.1 x a (by omega) ha] at k
  refine te_xIs hw (by omega) ha ?_
  rcases te_bv01 (mb (w * 12 + x)) a with e | e
  · rw [e] at k ⊢
    exact br_t rfl k
  · rw [e] at k ⊢
    exact br_f (by decide) k
theorem te_ix2 (w x a : Nat) : nI w * 96 + nI x * 8 + nI a = nI (w * 96 + x * 8 + a) := by
  rw [show nI w * 96 = nI (w * 96) from pk_mul w 96, show nI x * 8 = nI (x * 8) from pk_mul x 8, nI_add, nI_add]
theorem te_yQ38 {post : Int32 → Prop} {w ca cn cx x a : Nat} (hP : te_P t w ca cn cx mb rc rs rt rl rv mem aS aT aC aP aN ns nt nc nv nN xs xt xc xv xN) (hw : w < 2) (ht : t ≤ 12) (hx : x < t) (ha : a < 8) (k : post (mem (w * 96 + x * 8 + a))) : wY_policyQuery_38 post (nI x) (nI a) (nI w) (nI t) (nI cap) sq vi vs vt vp (nI np) (nI no) (nI h) tot mem aS aT aC aP aN ns nt nc nv nN xs xt xc xv xN pd ot ol uS uT uC uP uK := by
  unfold wY_policyQuery_38
  rw [te_ix2, nI_clamp (show w * 96 + x * 8 + a < 2 ^ 31 by omega)]
  refine ⟨vp_in_nI (by omega) (by decide), ?_⟩
  rw [hP.1 x a (by omega) ha] at k ⊢
  rcases te_bv01 (mb (w * 12 + x)) a with e | e
  · rw [e] at k ⊢
    exact br_t rfl k
  · rw [e] at k ⊢
    exact br_f (by decide) k
theorem te_yQMT {post : Int32 → Prop} {w ca cn cx x a : Nat} {x1 : Int32} (hP : te_P t w ca cn cx mb rc rs rt rl rv mem aS aT aC aP aN ns nt nc nv nN xs xt xc xv xN) (hw : w < 2) (ht : t ≤ 12) (hx : x < t) (ha : a < 8) (hk : (x1 = 0 ∧ w = 0) ∨ (¬ x1 = 0 ∧ w = 1))
    (k : post (mem (w * 96 + x * 8 + a))) : wY_policyQuery_9 post x1 (nI x) (nI a) (nI t) (nI cap) sq vi vs vt vp (nI np) (nI no) (nI h) tot mem aS aT aC aP aN ns nt nc nv nN xs xt xc xv xN pd ot ol uS uT uC uP uK := by
  have K := te_yQ38 (cap := cap) (np := np) (no := no) (h := h) (sq := sq) (vi := vi) (vs := vs) (vt := vt) (vp := vp) (tot := tot) (pd := pd) (ot := ot) (ol := ol) (uS := uS) (uT := uT) (uC := uC) (uP := uP) (uK := uK) hP hw ht hx ha k
  unfold wY_policyQuery_9
  refine te_yTy ht (fun _ => br_f (by decide) (te_rgT (m := 7) (by decide) rfl ⟨a, ha, rfl⟩ ?_)) (fun z => absurd ⟨x, hx, rfl⟩ z)
  rcases hk with ⟨e, rfl⟩ | ⟨e, rfl⟩
  · exact br_t e K
  · exact br_f e K
theorem te_yQMF {post : Int32 → Prop} {va vb x1 : Int32} (ht : t ≤ 12) (q : ¬ (te_ty t va ∧ te_ty 8 vb)) (k : post (-1)) : wY_policyQuery_9 post x1 va vb (nI t) (nI cap) sq vi vs vt vp (nI np) (nI no) (nI h) tot mem aS aT aC aP aN ns nt nc nv nN xs xt xc xv xN pd ot ol uS uT uC uP uK := by
  unfold wY_policyQuery_9
  refine te_yTy ht (fun q1 => br_f (by decide) (te_rgF (m := 7) (by decide) rfl (fun z => q ⟨q1, z⟩) k)) (fun _ => br_t rfl k)
theorem te_xQT {post : Int32 → Prop} {w ca cn cx : Nat} {va vb vc : Int32} (hP : te_P t w ca cn cx mb rc rs rt rl rv mem aS aT aC aP aN ns nt nc nv nN xs xt xc xv xN) (hw : w < 2) (ht : t ≤ 12)
    (f : ∀ s x, s < t → x < t → va = nI s → vb = nI x → te_ty 4 vc → post (te_tr mem w (w * 12) cx xs xt xc xv s x vc)) (g : ¬ (te_ty t va ∧ te_ty t vb ∧ te_ty 4 vc) → post (-1)) : wpX_queryTransition post (nI t, nI cap, sq, vi, vs, vt, vp, nI np, nI no, nI h, tot, mb, rc, rs, rt, rl, rv, pd, ot, ol, uS, uT, uC, uP, uK) (nI w) va vb vc := by
  unfold wpX_queryTransition
  dsimp only
  refine te_xTy ht (fun q1 => br_f (by decide) ?_) (fun q1 => br_t rfl (g fun z => q1 z.1))
  refine te_xTy ht (fun q2 => br_f (by decide) ?_) (fun q2 => br_t rfl (g fun z => q2 z.2.1))
  refine te_xCl (fun q3 => br_f (by decide) ?_) (fun q3 => br_t rfl (g fun z => q3 z.2.2))
  obtain ⟨s, hs, rfl⟩ := q1
  obtain ⟨x, hx, rfl⟩ := q2
  exact te_xTr hP hw ht hs hx (f s x hs hx rfl rfl q3)
theorem te_yQTT {post : Int32 → Prop} {w ca cn cx s x : Nat} {vc x1 : Int32} (hP : te_P t w ca cn cx mb rc rs rt rl rv mem aS aT aC aP aN ns nt nc nv nN xs xt xc xv xN) (hw : w < 2) (ht : t ≤ 12) (hs : s < t) (hx : x < t) (q3 : te_ty 4 vc) (hk : (x1 = 2 ∧ w = 0) ∨ (¬ x1 = 2 ∧ w = 1))
    (k : post (te_tr mem w (w * 12) cx xs xt xc xv s x vc)) : wY_policyQuery_76 post x1 (nI s) (nI x) vc (nI t) (nI cap) sq vi vs vt vp (nI np) (nI no) (nI h) tot mem aS aT aC aP aN ns nt nc nv nN xs xt xc xv xN pd ot ol uS uT uC uP uK := by
  have K : wY_policyQuery_115 post (nI s) (nI x) vc (nI w) (nI t) (nI cap) sq vi vs vt vp (nI np) (nI no) (nI h) tot mem aS aT aC aP aN ns nt nc nv nN xs xt xc xv xN pd ot ol uS uT uC uP uK := te_yTr hP hw ht hs hx k
  unfold wY_policyQuery_76
  refine te_yTy ht (fun _ => br_f (by decide) (te_yTy ht (fun _ => br_f (by decide) (te_rgT (m := 3) (by decide) rfl q3 ?_)) (fun z => absurd ⟨x, hx, rfl⟩ z))) (fun z => absurd ⟨s, hs, rfl⟩ z)
  rcases hk with ⟨e, rfl⟩ | ⟨e, rfl⟩
  · exact br_t e K
  · exact br_f e K
theorem te_yQTF {post : Int32 → Prop} {va vb vc x1 : Int32} (ht : t ≤ 12) (q : ¬ (te_ty t va ∧ te_ty t vb ∧ te_ty 4 vc)) (k : post (-1)) : wY_policyQuery_76 post x1 va vb vc (nI t) (nI cap) sq vi vs vt vp (nI np) (nI no) (nI h) tot mem aS aT aC aP aN ns nt nc nv nN xs xt xc xv xN pd ot ol uS uT uC uP uK := by
  unfold wY_policyQuery_76
  refine te_yTy ht (fun q1 => br_f (by decide) (te_yTy ht (fun q2 => br_f (by decide) (te_rgF (m := 3) (by decide) rfl (fun z => q ⟨q1, q2, z⟩) k)) (fun _ => br_t rfl k))) (fun _ => br_t rfl k)
end
theorem i_vc_policyQuery {k : Nat} {u : SX} {v : SY} (I : i_Rel k u v) (hk : k + 5 ≤ 2562) (v1 : Int32) (v2 : Int32) (v3 : Int32) (v4 : Int32) : wpX_policyQuery (fun r => wpY_policyQuery (fun r' => r' = r ∧ i_Rel (k + 5) u v) v v1 v2 v3 v4) u v1 v2 v3 v4 := by
  have R : i_Rel (k + 5) u v := I
  obtain ⟨t, cap, np, no, h, sq, vi, vs, vt, vp, tot, mb, rc, rs, rt, rl, rv, mem, aS, aT, aC, aP, aN, ns, nt, nc, nv, nN, xs, xt, xc, xv, xN, pd, ot, ol, uS, uT, uC, uP, uK, rfl, rfl, ⟨ht4, ht, hc4, hc, hh⟩, ⟨ca0, cn0, cx0, P0⟩, ⟨ca1, cn1, cx1, P1⟩, O⟩ := I
  unfold wpX_policyQuery
  dsimp only
  by_cases a : v1 < 0
  · refine br_t a ?_
    unfold wpY_policyQuery
    dsimp only
    exact br_f (te_ne (a := 0) a (by decide)) (br_f (te_ne (a := 1) a (by decide)) (br_f (te_ne (a := 2) a (by decide)) (br_f (te_ne (a := 3) a (by decide)) ⟨rfl, R⟩)))
  refine br_f a ?_
  by_cases b : 3 < v1
  · refine br_t b ?_
    unfold wpY_policyQuery
    dsimp only
    exact br_f (te_gt (b := 0) b (by decide)) (br_f (te_gt (b := 1) b (by decide)) (br_f (te_gt (b := 2) b (by decide)) (br_f (te_gt (b := 3) b (by decide)) ⟨rfl, R⟩)))
  refine br_f b ?_
  by_cases e0 : v1 = 0
  · refine br_t e0 (te_xQM (w := 0) P0 (by decide) ht (fun x a hx ha e1 e2 => ?_) (fun q => ?_))
    · subst e1 e2
      unfold wpY_policyQuery
      dsimp only
      exact (br_t e0 (te_yQMT (w := 0) P0 (by decide) ht hx ha (Or.inl ⟨e0, rfl⟩) ⟨rfl, R⟩))
    · unfold wpY_policyQuery
      dsimp only
      exact (br_t e0 (te_yQMF ht q ⟨rfl, R⟩))
  refine br_f e0 ?_
  by_cases e1 : v1 = 1
  · refine br_t e1 (te_xQM (w := 1) P1 (by decide) ht (fun x a hx ha e1 e2 => ?_) (fun q => ?_))
    · subst e1 e2
      unfold wpY_policyQuery
      dsimp only
      exact (br_f e0 (br_t e1 (te_yQMT (w := 1) P1 (by decide) ht hx ha (Or.inr ⟨e0, rfl⟩) ⟨rfl, R⟩)))
    · unfold wpY_policyQuery
      dsimp only
      exact (br_f e0 (br_t e1 (te_yQMF ht q ⟨rfl, R⟩)))
  refine br_f e1 ?_
  by_cases e2 : v1 = 2
  · refine br_t e2 (te_xQT (w := 0) P0 (by decide) ht (fun s x hs hx e1 e2 q3 => ?_) (fun q => ?_))
    · subst e1 e2
      unfold wpY_policyQuery
      dsimp only
      exact (br_f e0 (br_f e1 (br_t e2 (te_yQTT (w := 0) P0 (by decide) ht hs hx q3 (Or.inl ⟨e2, rfl⟩) ⟨rfl, R⟩))))
    · unfold wpY_policyQuery
      dsimp only
      exact (br_f e0 (br_f e1 (br_t e2 (te_yQTF ht q ⟨rfl, R⟩))))
  refine br_f e2 ?_
  by_cases e3 : v1 = 3
  · refine br_t e3 (te_xQT (w := 1) P1 (by decide) ht (fun s x hs hx e1 e2 q3 => ?_) (fun q => ?_))
    · subst e1 e2
      unfold wpY_policyQuery
      dsimp only
      exact (br_f e0 (br_f e1 (br_f e2 (br_t e3 (te_yQTT (w := 1) P1 (by decide) ht hs hx q3 (Or.inr ⟨e2, rfl⟩) ⟨rfl, R⟩)))))
    · unfold wpY_policyQuery
      dsimp only
      exact (br_f e0 (br_f e1 (br_f e2 (br_t e3 (te_yQTF ht q ⟨rfl, R⟩)))))
  refine br_f e3 ?_
  trivial
theorem i_vc_decide {k : Nat} {u : SX} {v : SY} (I : i_Rel k u v) (hk : k + 5 ≤ 2562) (v1 : Int32) (v2 : Int32) (v3 : Int32) (v4 : Int32) : wpX_decide (fun r => wpY_decide (fun r' => r' = r ∧ i_Rel (k + 5) u v) v v1 v2 v3 v4) u v1 v2 v3 v4 := by
  have R : i_Rel (k + 5) u v := I
  obtain ⟨t, cap, np, no, h, sq, vi, vs, vt, vp, tot, mb, rc, rs, rt, rl, rv, mem, aS, aT, aC, aP, aN, ns, nt, nc, nv, nN, xs, xt, xc, xv, xN, pd, ot, ol, uS, uT, uC, uP, uK, rfl, rfl, ⟨ht4, ht, hc4, hc, hh⟩, ⟨ca0, cn0, cx0, P0⟩, ⟨ca1, cn1, cx1, P1⟩, O⟩ := I
  have F : ∀ {r : Int32}, r = -1 → ¬ (te_ty t v1 ∧ te_ty t v2 ∧ te_ty 4 v3 ∧ (v4 = 0 ∨ v4 = 1)) → wpY_decide (fun r' => r' = r ∧ i_Rel (k + 5) (nI t, nI cap, sq, vi, vs, vt, vp, nI np, nI no, nI h, tot, mb, rc, rs, rt, rl, rv, pd, ot, ol, uS, uT, uC, uP, uK) (nI t, nI cap, sq, vi, vs, vt, vp, nI np, nI no, nI h, tot, mem, aS, aT, aC, aP, aN, ns, nt, nc, nv, nN, xs, xt, xc, xv, xN, pd, ot, ol, uS, uT, uC, uP, uK)) (nI t, nI cap, sq, vi, vs, vt, vp, nI np, nI no, nI h, tot, mem, aS, aT, aC, aP, aN, ns, nt, nc, nv, nN, xs, xt, xc, xv, xN, pd, ot, ol, uS, uT, uC, uP, uK) v1 v2 v3 v4 := by
    intro r er q
    subst er
    unfold wpY_decide
    dsimp only
    refine te_yTy ht (fun q1 => br_f (by decide) ?_) (fun _ => br_t rfl ⟨rfl, R⟩)
    refine te_yTy ht (fun q2 => br_f (by decide) ?_) (fun _ => br_t rfl ⟨rfl, R⟩)
    by_cases q3 : te_ty 4 v3
    · exact te_rgT (m := 3) (by decide) rfl q3 (br_c (fun e => absurd ⟨q1, q2, q3, Or.inl e⟩ q) (fun _ => br_c (fun e => absurd ⟨q1, q2, q3, Or.inr e⟩ q) (fun _ => ⟨rfl, R⟩)))
    · exact te_rgF (m := 3) (by decide) rfl q3 ⟨rfl, R⟩
  unfold wpX_decide
  dsimp only
  refine te_xTy ht (fun q1 => br_f (by decide) ?_) (fun q1 => br_t rfl (F rfl fun z => q1 z.1))
  refine te_xTy ht (fun q2 => br_f (by decide) ?_) (fun q2 => br_t rfl (F rfl fun z => q2 z.2.1))
  refine te_xCl (fun q3 => br_f (by decide) ?_) (fun q3 => br_t rfl (F rfl fun z => q3 z.2.2.1))
  by_cases e0 : v4 = 0
  · refine br_t e0 ?_
    obtain ⟨s, hs, rfl⟩ := q1
    obtain ⟨x, hx, rfl⟩ := q2
    subst e0
    unfold wX_decide_38
    refine te_xVe (w := 0) P0 (by decide) ht hs hx ?_
    unfold wpY_decide
    dsimp only
    refine te_yTy ht (fun _ => br_f (by decide) ?_) (fun z => absurd ⟨s, hs, rfl⟩ z)
    refine te_yTy ht (fun _ => br_f (by decide) ?_) (fun z => absurd ⟨x, hx, rfl⟩ z)
    refine te_rgT (m := 3) (by decide) rfl q3 (br_t rfl ?_)
    unfold wY_decide_40
    exact te_yVe (w := 0) P0 (by decide) ht hs hx ⟨rfl, R⟩
  refine br_f e0 ?_
  by_cases e1 : v4 = 1
  · refine br_t e1 ?_
    obtain ⟨s, hs, rfl⟩ := q1
    obtain ⟨x, hx, rfl⟩ := q2
    subst e1
    unfold wX_decide_38
    refine te_xVe (w := 1) P1 (by decide) ht hs hx ?_
    unfold wpY_decide
    dsimp only
    refine te_yTy ht (fun _ => br_f (by decide) ?_) (fun z => absurd ⟨s, hs, rfl⟩ z)
    refine te_yTy ht (fun _ => br_f (by decide) ?_) (fun z => absurd ⟨x, hx, rfl⟩ z)
    refine te_rgT (m := 3) (by decide) rfl q3 (br_f e0 (br_t rfl ?_))
    unfold wY_decide_40
    exact te_yVe (w := 1) P1 (by decide) ht hs hx ⟨rfl, R⟩
  refine br_f e1 (F rfl fun z => z.2.2.2.elim e0 e1)
theorem i_vc_spawn {k : Nat} {u : SX} {v : SY} (I : i_Rel k u v) (hk : k + 5 ≤ 2562) (v1 : Int32) : wpX_spawn (fun r u' => wpY_spawn (fun r' v' => r' = r ∧ i_Rel (k + 5) u' v') v v1) u v1 := by
  have R : i_Rel (k + 5) u v := I
  obtain ⟨t, cap, np, no, h, sq, vi, vs, vt, vp, tot, mb, rc, rs, rt, rl, rv, mem, aS, aT, aC, aP, aN, ns, nt, nc, nv, nN, xs, xt, xc, xv, xN, pd, ot, ol, uS, uT, uC, uP, uK, rfl, rfl, ⟨ht4, ht, hc4, hc, hh⟩, ⟨ca0, cn0, cx0, P0⟩, ⟨ca1, cn1, cx1, P1⟩, O⟩ := I
  have o1 : np ≤ 8 := O.1.1
  unfold wpX_spawn
  dsimp only
  refine te_xTy ht (fun q1 => br_f (by decide) ?_) (fun q1 => br_t rfl ?_)
  · refine pk_lt np 8 (fun q => ?_) (fun q => ?_)
    · have vin : vp_in (nI np) 8 := vp_in_nI q (by decide)
      rw [nI_clamp (show np < 2 ^ 31 by omega)]
      refine ⟨vin, nm_e (nm_r (nI_1 np) ?_)⟩
      unfold wpY_spawn
      dsimp only
      refine te_yTy ht (fun _ => br_f (by decide) (pk_eq np 8 (fun e => absurd e (by omega)) (fun _ => ?_))) (fun z => absurd q1 z)
      rw [nI_clamp (show np < 2 ^ 31 by omega)]
      exact ⟨vin, nm_e (nm_r (nI_1 np) ⟨nI_pred np, te_mk ⟨⟨ht4, ht, hc4, hc, hh⟩, ⟨_, _, _, P0⟩, ⟨_, _, _, P1⟩, te_Opn O q q1⟩⟩)⟩
    · unfold wpY_spawn
      dsimp only
      exact te_yTy ht (fun _ => br_f (by decide) (pk_eq np 8 (fun _ => ⟨rfl, R⟩) (fun e => absurd (show np = 8 by omega) e))) (fun z => absurd q1 z)
  · unfold wpY_spawn
    dsimp only
    exact te_yTy ht (fun z => absurd z q1) (fun _ => br_t rfl ⟨rfl, R⟩)
section
variable {t cap np no h : Nat} {sq vi vs vt vp tot : Int32} {mb rc rs rt rl rv mem aS aT aC aP aN ns nt nc nv nN xs xt xc xv xN pd ot ol uS uT uC uP uK : Nat → Int32}
theorem te_xAO {post : Int32 → SX → Prop} {a c : Int32} (hn : no < 16) (k : post (nI no) (nI t, nI cap, sq, vi, vs, vt, vp, nI np, nI (no + 1), nI h, tot, mb, rc, rs, rt, rl, rv, pd, upd ot no a, upd ol no c, uS, uT, uC, uP, uK)) : wpX_addObject post (nI t, nI cap, sq, vi, vs, vt, vp, nI np, nI no, nI h, tot, mb, rc, rs, rt, rl, rv, pd, ot, ol, uS, uT, uC, uP, uK) a c := by
  have vin : vp_in (nI no) 16 := vp_in_nI hn (by decide)
  unfold wpX_addObject
  dsimp only
  rw [nI_clamp (show no < 2 ^ 31 by omega)]
  exact ⟨vin, nm_e ⟨vin, nm_e (nm_r (nI_1 no) k)⟩⟩
end
theorem i_vc_makeObject {k : Nat} {u : SX} {v : SY} (I : i_Rel k u v) (hk : k + 5 ≤ 2562) (v1 : Int32) (v2 : Int32) : wpX_makeObject (fun r u' => wpY_makeObject (fun r' v' => r' = r ∧ i_Rel (k + 5) u' v') v v1 v2) u v1 v2 := by
  have R : i_Rel (k + 5) u v := I
  obtain ⟨t, cap, np, no, h, sq, vi, vs, vt, vp, tot, mb, rc, rs, rt, rl, rv, mem, aS, aT, aC, aP, aN, ns, nt, nc, nv, nN, xs, xt, xc, xv, xN, pd, ot, ol, uS, uT, uC, uP, uK, rfl, rfl, ⟨ht4, ht, hc4, hc, hh⟩, ⟨ca0, cn0, cx0, P0⟩, ⟨ca1, cn1, cx1, P1⟩, O⟩ := I
  have o2 : no ≤ 16 := O.1.2
  unfold wpX_makeObject
  dsimp only
  refine te_xTy ht (fun q1 => br_f (by decide) ?_) (fun q1 => br_t rfl ?_)
  · refine te_xCl (fun q2 => br_f (by decide) ?_) (fun q2 => br_t rfl ?_)
    · refine pk_lt no 16 (fun q => ?_) (fun q => ?_)
      · have vin : vp_in (nI no) 16 := vp_in_nI q (by decide)
        refine te_xAO q ?_
        dsimp only
        unfold wpY_makeObject
        dsimp only
        refine te_yTy ht (fun _ => br_f (by decide) (te_rgT (m := 3) (by decide) rfl q2 (pk_eq no 16 (fun e => absurd e (by omega)) (fun _ => ?_)))) (fun z => absurd q1 z)
        rw [nI_clamp (show no < 2 ^ 31 by omega)]
        exact ⟨vin, nm_e ⟨vin, nm_e (nm_r (nI_1 no) ⟨nI_pred no, te_mk ⟨⟨ht4, ht, hc4, hc, hh⟩, ⟨_, _, _, P0⟩, ⟨_, _, _, P1⟩, te_Oon O q q1 q2⟩⟩)⟩⟩
      · unfold wpY_makeObject
        dsimp only
        exact te_yTy ht (fun _ => br_f (by decide) (te_rgT (m := 3) (by decide) rfl q2 (pk_eq no 16 (fun _ => ⟨rfl, R⟩) (fun e => absurd (show no = 16 by omega) e)))) (fun z => absurd q1 z)
    · unfold wpY_makeObject
      dsimp only
      exact te_yTy ht (fun _ => br_f (by decide) (te_rgF (m := 3) (by decide) rfl q2 ⟨rfl, R⟩)) (fun z => absurd q1 z)
  · unfold wpY_makeObject
    dsimp only
    exact te_yTy ht (fun z => absurd z q1) (fun _ => br_t rfl ⟨rfl, R⟩)
end
section
section
variable {t cap np no h : Nat} {sq vi vs vt vp tot : Int32} {mb rc rs rt rl rv mem aS aT aC aP aN ns nt nc nv nN xs xt xc xv xN pd ot ol uS uT uC uP uK : Nat → Int32}

variable {ca cn cx : Nat}
theorem te_nx {s x d : Nat} {c : Int32} (hP : te_P t 0 ca cn cx mb rc rs rt rl rv mem aS aT aC aP aN ns nt nc nv nN xs xt xc xv xN) (hd : d < t) : ∃ nx, nx < t ∧ ((te_tr mem 0 0 cx xs xt xc xv s x c = -5 ∧ nx = d) ∨ (¬ te_tr mem 0 0 cx xs xt xc xv s x c = -5 ∧ te_tr mem 0 0 cx xs xt xc xv s x c = nI nx)) := by
  have l3 := hP.2.2.2.2.2.2
  by_cases e : te_tr mem 0 0 cx xs xt xc xv s x c = -5
  · exact ⟨d, hd, Or.inl ⟨e, rfl⟩⟩
  · have q : te_tr mem 0 0 cx xs xt xc xv s x c = -5 ∨ te_ty t (te_tr mem 0 0 cx xs xt xc xv s x c) := te_fstQ (Q := te_ty t) cx 0 (fun j hj => (l3 j (by omega)).2.2.2)
    obtain ⟨j, hj, ej⟩ := q.resolve_left e
    exact ⟨j, hj, Or.inr ⟨e, ej⟩⟩
theorem te_xTo2 {post : Int32 → Prop} {s x d nx : Nat} {c : Int32} (hP : te_P t 0 ca cn cx mb rc rs rt rl rv mem aS aT aC aP aN ns nt nc nv nN xs xt xc xv xN) (ht : t ≤ 12) (hs : s < t) (hx : x < t) (hn : ((te_tr mem 0 0 cx xs xt xc xv s x c = -5 ∧ nx = d) ∨ (¬ te_tr mem 0 0 cx xs xt xc xv s x c = -5 ∧ te_tr mem 0 0 cx xs xt xc xv s x c = nI nx))) (k : post (nI nx)) : wpX_transitionOr post (nI t, nI cap, sq, vi, vs, vt, vp, nI np, nI no, nI h, tot, mb, rc, rs, rt, rl, rv, pd, ot, ol, uS, uT, uC, uP, uK) (nI s) (nI x) c (nI d) := by
  rcases hn with ⟨e, rfl⟩ | ⟨e, e2⟩
  · exact te_xTo hP ht hs hx (fun _ => k) (fun z => absurd e z)
  · refine te_xTo hP ht hs hx (fun z => absurd z e) (fun _ => ?_)
    rw [e2]
    exact k
theorem te_yTo {K : Int32 → Prop} {s x d nx : Nat} {c : Int32} (hP : te_P t 0 ca cn cx mb rc rs rt rl rv mem aS aT aC aP aN ns nt nc nv nN xs xt xc xv xN) (ht : t ≤ 12) (hs : s < t) (hx : x < t) (hn : ((te_tr mem 0 0 cx xs xt xc xv s x c = -5 ∧ nx = d) ∨ (¬ te_tr mem 0 0 cx xs xt xc xv s x c = -5 ∧ te_tr mem 0 0 cx xs xt xc xv s x c = nI nx))) (k : K (nI nx)) : wpY_transOf (fun r => (r = -5 → K (nI d)) ∧ (¬ r = -5 → K r)) (nI t, nI cap, sq, vi, vs, vt, vp, nI np, nI no, nI h, tot, mem, aS, aT, aC, aP, aN, ns, nt, nc, nv, nN, xs, xt, xc, xv, xN, pd, ot, ol, uS, uT, uC, uP, uK) 0 (nI s) (nI x) c := by
  refine te_yTr (w := 0) hP (by decide) ht hs hx ?_
  rcases hn with ⟨e, rfl⟩ | ⟨e, e2⟩
  · exact br_t e k
  · refine br_f e ?_
    rw [show te_tr mem 0 (0 * 12) cx xs xt xc xv s x c = nI nx from e2]
    exact k
theorem te_xEx {post : Int32 → SX → Prop} {p j d f nx : Nat} (hP : te_P t 0 ca cn cx mb rc rs rt rl rv mem aS aT aC aP aN ns nt nc nv nN xs xt xc xv xN) (ht : t ≤ 12) (o1 : np ≤ 8) (o2 : no ≤ 16) (hp : p < np) (hj : j < no) (ej : ol j = 0) (ed : pd p = nI d) (ef : ot j = nI f) (hd : d < t) (hf : f < t) (hn : nx < t) (hnx : ((te_tr mem 0 0 cx xs xt xc xv d f 2 = -5 ∧ nx = d) ∨ (¬ te_tr mem 0 0 cx xs xt xc xv d f 2 = -5 ∧ te_tr mem 0 0 cx xs xt xc xv d f 2 = nI nx)))
    (l1 : te_vec mem 0 0 ca aS aT aC aP d f 0 &&& 4 = 0 → ∀ Q : SX → Prop, (∀ (h1 tot1 : Int32) (S1 T1 C1 P1 K1 : Nat → Int32), post (-4) (nI t, nI cap, sq, vi, vs, vt, vp, nI np, nI no, h1, tot1, mb, rc, rs, rt, rl, rv, pd, ot, ol, S1, T1, C1, P1, K1) → Q (nI t, nI cap, sq, vi, vs, vt, vp, nI np, nI no, h1, tot1, mb, rc, rs, rt, rl, rv, pd, ot, ol, S1, T1, C1, P1, K1)) → wpX_recordDenial Q (nI t, nI cap, sq, vi, vs, vt, vp, nI np, nI no, nI h, tot, mb, rc, rs, rt, rl, rv, pd, ot, ol, uS, uT, uC, uP, uK) (nI d) (nI f) 0 4)
    (l2 : ¬ te_vec mem 0 0 ca aS aT aC aP d f 0 &&& 4 = 0 → nx = d → post (nI nx) (nI t, nI cap, sq, vi, vs, vt, vp, nI np, nI no, nI h, tot, mb, rc, rs, rt, rl, rv, upd pd p (nI nx), ot, ol, uS, uT, uC, uP, uK))
    (l3 : ¬ te_vec mem 0 0 ca aS aT aC aP d f 0 &&& 4 = 0 → nx ≠ d → te_vec mem 0 0 ca aS aT aC aP d nx 2 &&& 16 = 0 → ∀ Q : SX → Prop, (∀ (h1 tot1 : Int32) (S1 T1 C1 P1 K1 : Nat → Int32), post (-4) (nI t, nI cap, sq, vi, vs, vt, vp, nI np, nI no, h1, tot1, mb, rc, rs, rt, rl, rv, pd, ot, ol, S1, T1, C1, P1, K1) → Q (nI t, nI cap, sq, vi, vs, vt, vp, nI np, nI no, h1, tot1, mb, rc, rs, rt, rl, rv, pd, ot, ol, S1, T1, C1, P1, K1)) → wpX_recordDenial Q (nI t, nI cap, sq, vi, vs, vt, vp, nI np, nI no, nI h, tot, mb, rc, rs, rt, rl, rv, pd, ot, ol, uS, uT, uC, uP, uK) (nI d) (nI nx) 2 16)
    (l4 : ¬ te_vec mem 0 0 ca aS aT aC aP d f 0 &&& 4 = 0 → nx ≠ d → ¬ te_vec mem 0 0 ca aS aT aC aP d nx 2 &&& 16 = 0 → te_vec mem 0 0 ca aS aT aC aP nx f 0 &&& 32 = 0 → ∀ Q : SX → Prop, (∀ (h1 tot1 : Int32) (S1 T1 C1 P1 K1 : Nat → Int32), post (-4) (nI t, nI cap, sq, vi, vs, vt, vp, nI np, nI no, h1, tot1, mb, rc, rs, rt, rl, rv, pd, ot, ol, S1, T1, C1, P1, K1) → Q (nI t, nI cap, sq, vi, vs, vt, vp, nI np, nI no, h1, tot1, mb, rc, rs, rt, rl, rv, pd, ot, ol, S1, T1, C1, P1, K1)) → wpX_recordDenial Q (nI t, nI cap, sq, vi, vs, vt, vp, nI np, nI no, nI h, tot, mb, rc, rs, rt, rl, rv, pd, ot, ol, uS, uT, uC, uP, uK) (nI nx) (nI f) 0 32)
    (l5 : ¬ te_vec mem 0 0 ca aS aT aC aP d f 0 &&& 4 = 0 → nx ≠ d → ¬ te_vec mem 0 0 ca aS aT aC aP d nx 2 &&& 16 = 0 → ¬ te_vec mem 0 0 ca aS aT aC aP nx f 0 &&& 32 = 0 → post (nI nx) (nI t, nI cap, sq, vi, vs, vt, vp, nI np, nI no, nI h, tot, mb, rc, rs, rt, rl, rv, upd pd p (nI nx), ot, ol, uS, uT, uC, uP, uK)) : wpX_exec post (nI t, nI cap, sq, vi, vs, vt, vp, nI np, nI no, nI h, tot, mb, rc, rs, rt, rl, rv, pd, ot, ol, uS, uT, uC, uP, uK) (nI p) (nI j) := by
  have vp' : vp_in (nI p) 8 := vp_in_nI (by omega) (by decide)
  have vj : vp_in (nI j) 16 := vp_in_nI (by omega) (by decide)
  unfold wpX_exec
  dsimp only
  refine te_xPc o1 (fun _ => br_f (by decide) ?_) (fun z => absurd ⟨p, hp, rfl⟩ z)
  refine te_xOc o2 (fun _ _ _ _ => br_f (by decide) ?_) (fun z => absurd ej (z j hj rfl))
  rw [nI_clamp (show p < 2 ^ 31 by omega), nI_clamp (show j < 2 ^ 31 by omega)]
  refine ⟨vp', nm_r ed ⟨vj, nm_r ef ?_⟩⟩
  refine te_xLk hP ht hd hf (fun c1 => br_f (by decide) ?_) (fun c1 => br_t rfl ?_)
  · unfold wpX_deny
    dsimp only
    exact l1 c1 _ (fun _ _ _ _ _ _ _ z => z)
  · refine te_xTo2 hP ht hd hf hnx (pk_eq nx d (fun e => ⟨vp', nm_e (l2 c1 e)⟩) (fun e => ?_))
    refine te_xLk hP ht hd hn (fun c2 => br_f (by decide) ?_) (fun c2 => br_t rfl ?_)
    · unfold wpX_deny
      dsimp only
      exact l3 c1 e c2 _ (fun _ _ _ _ _ _ _ z => z)
    · refine te_xLk hP ht hn hf (fun c3 => br_f (by decide) ?_) (fun c3 => br_t rfl ⟨vp', nm_e (l5 c1 e c2 c3)⟩)
      unfold wpX_deny
      dsimp only
      exact l4 c1 e c2 c3 _ (fun _ _ _ _ _ _ _ z => z)
theorem te_yEx {post : Int32 → SY → Prop} {p j d f nx : Nat} (hP : te_P t 0 ca cn cx mb rc rs rt rl rv mem aS aT aC aP aN ns nt nc nv nN xs xt xc xv xN) (ht : t ≤ 12) (o1 : np ≤ 8) (o2 : no ≤ 16) (hp : p < np) (hj : j < no) (ej : ol j = 0) (ed : pd p = nI d) (ef : ot j = nI f) (hd : d < t) (hf : f < t) (hn : nx < t) (hnx : ((te_tr mem 0 0 cx xs xt xc xv d f 2 = -5 ∧ nx = d) ∨ (¬ te_tr mem 0 0 cx xs xt xc xv d f 2 = -5 ∧ te_tr mem 0 0 cx xs xt xc xv d f 2 = nI nx)))
    (l1 : te_vec mem 0 0 ca aS aT aC aP d f 0 &&& 4 = 0 → ∀ Q : SY → Prop, (∀ (h1 tot1 : Int32) (S1 T1 C1 P1 K1 : Nat → Int32), post (-4) (nI t, nI cap, sq, vi, vs, vt, vp, nI np, nI no, h1, tot1, mem, aS, aT, aC, aP, aN, ns, nt, nc, nv, nN, xs, xt, xc, xv, xN, pd, ot, ol, S1, T1, C1, P1, K1) → Q (nI t, nI cap, sq, vi, vs, vt, vp, nI np, nI no, h1, tot1, mem, aS, aT, aC, aP, aN, ns, nt, nc, nv, nN, xs, xt, xc, xv, xN, pd, ot, ol, S1, T1, C1, P1, K1)) → wpY_auditAdd Q (nI t, nI cap, sq, vi, vs, vt, vp, nI np, nI no, nI h, tot, mem, aS, aT, aC, aP, aN, ns, nt, nc, nv, nN, xs, xt, xc, xv, xN, pd, ot, ol, uS, uT, uC, uP, uK) (nI d) (nI f) 0 4)
    (l2 : ¬ te_vec mem 0 0 ca aS aT aC aP d f 0 &&& 4 = 0 → nx = d → post (nI nx) (nI t, nI cap, sq, vi, vs, vt, vp, nI np, nI no, nI h, tot, mem, aS, aT, aC, aP, aN, ns, nt, nc, nv, nN, xs, xt, xc, xv, xN, upd pd p (nI nx), ot, ol, uS, uT, uC, uP, uK))
    (l3 : ¬ te_vec mem 0 0 ca aS aT aC aP d f 0 &&& 4 = 0 → nx ≠ d → te_vec mem 0 0 ca aS aT aC aP d nx 2 &&& 16 = 0 → ∀ Q : SY → Prop, (∀ (h1 tot1 : Int32) (S1 T1 C1 P1 K1 : Nat → Int32), post (-4) (nI t, nI cap, sq, vi, vs, vt, vp, nI np, nI no, h1, tot1, mem, aS, aT, aC, aP, aN, ns, nt, nc, nv, nN, xs, xt, xc, xv, xN, pd, ot, ol, S1, T1, C1, P1, K1) → Q (nI t, nI cap, sq, vi, vs, vt, vp, nI np, nI no, h1, tot1, mem, aS, aT, aC, aP, aN, ns, nt, nc, nv, nN, xs, xt, xc, xv, xN, pd, ot, ol, S1, T1, C1, P1, K1)) → wpY_auditAdd Q (nI t, nI cap, sq, vi, vs, vt, vp, nI np, nI no, nI h, tot, mem, aS, aT, aC, aP, aN, ns, nt, nc, nv, nN, xs, xt, xc, xv, xN, pd, ot, ol, uS, uT, uC, uP, uK) (nI d) (nI nx) 2 16)
    (l4 : ¬ te_vec mem 0 0 ca aS aT aC aP d f 0 &&& 4 = 0 → nx ≠ d → ¬ te_vec mem 0 0 ca aS aT aC aP d nx 2 &&& 16 = 0 → te_vec mem 0 0 ca aS aT aC aP nx f 0 &&& 32 = 0 → ∀ Q : SY → Prop, (∀ (h1 tot1 : Int32) (S1 T1 C1 P1 K1 : Nat → Int32), post (-4) (nI t, nI cap, sq, vi, vs, vt, vp, nI np, nI no, h1, tot1, mem, aS, aT, aC, aP, aN, ns, nt, nc, nv, nN, xs, xt, xc, xv, xN, pd, ot, ol, S1, T1, C1, P1, K1) → Q (nI t, nI cap, sq, vi, vs, vt, vp, nI np, nI no, h1, tot1, mem, aS, aT, aC, aP, aN, ns, nt, nc, nv, nN, xs, xt, xc, xv, xN, pd, ot, ol, S1, T1, C1, P1, K1)) → wpY_auditAdd Q (nI t, nI cap, sq, vi, vs, vt, vp, nI np, nI no, nI h, tot, mem, aS, aT, aC, aP, aN, ns, nt, nc, nv, nN, xs, xt, xc, xv, xN, pd, ot, ol, uS, uT, uC, uP, uK) (nI nx) (nI f) 0 32)
    (l5 : ¬ te_vec mem 0 0 ca aS aT aC aP d f 0 &&& 4 = 0 → nx ≠ d → ¬ te_vec mem 0 0 ca aS aT aC aP d nx 2 &&& 16 = 0 → ¬ te_vec mem 0 0 ca aS aT aC aP nx f 0 &&& 32 = 0 → post (nI nx) (nI t, nI cap, sq, vi, vs, vt, vp, nI np, nI no, nI h, tot, mem, aS, aT, aC, aP, aN, ns, nt, nc, nv, nN, xs, xt, xc, xv, xN, upd pd p (nI nx), ot, ol, uS, uT, uC, uP, uK)) : wpY_exec post (nI t, nI cap, sq, vi, vs, vt, vp, nI np, nI no, nI h, tot, mem, aS, aT, aC, aP, aN, ns, nt, nc, nv, nN, xs, xt, xc, xv, xN, pd, ot, ol, uS, uT, uC, uP, uK) (nI p) (nI j) := by
  have vp' : vp_in (nI p) 8 := vp_in_nI (by omega) (by decide)
  have vj : vp_in (nI j) 16 := vp_in_nI (by omega) (by decide)
  unfold wpY_exec
  dsimp only
  rw [nI_clamp (show p < 2 ^ 31 by omega), nI_clamp (show j < 2 ^ 31 by omega)]
  refine br_f (nI_pos (by omega)) (br_f (nI_ge hp (by omega)) (br_f (nI_pos (by omega)) (br_t (nI_lt hj (by omega)) ⟨vj, br_t ej ⟨vp', nm_r ed ⟨vj, nm_r ef ?_⟩⟩⟩)))
  refine te_yVe (w := 0) hP (by decide) ht hd hf (br_c (fun c1 => l1 c1 _ (fun _ _ _ _ _ _ _ z => z)) (fun c1 => ?_))
  refine te_yTo (K := fun z => wY_exec_99 post (nI p) (nI d) (nI f) z (nI t) (nI cap) sq vi vs vt vp (nI np) (nI no) (nI h) tot mem aS aT aC aP aN ns nt nc nv nN xs xt xc xv xN pd ot ol uS uT uC uP uK) hP ht hd hf hnx ?_
  unfold wY_exec_99
  rw [nI_clamp (show p < 2 ^ 31 by omega)]
  refine pk_eq nx d (fun e => ⟨vp', nm_e (l2 c1 e)⟩) (fun e => ?_)
  refine te_yVe (w := 0) hP (by decide) ht hd hn (br_c (fun c2 => l3 c1 e c2 _ (fun _ _ _ _ _ _ _ z => z)) (fun c2 => ?_))
  exact te_yVe (w := 0) hP (by decide) ht hn hf (br_c (fun c3 => l4 c1 e c2 c3 _ (fun _ _ _ _ _ _ _ z => z)) (fun c3 => ⟨vp', nm_e (l5 c1 e c2 c3)⟩))
theorem te_c3T {A B : Prop} {v : Int32} (q : te_ty 4 v) (q2 : ¬ v = 2) (a : A) : (v = 0 → A) ∧ (¬ v = 0 → ((v = 1 → A) ∧ (¬ v = 1 → ((v = 3 → A) ∧ (¬ v = 3 → B))))) := by
  refine br_c (fun _ => a) (fun z0 => br_c (fun _ => a) (fun z1 => br_c (fun _ => a) (fun z3 => ?_)))
  obtain ⟨i, hi, rfl⟩ := q
  have c4 : i = 0 ∨ i = 1 ∨ i = 2 ∨ i = 3 := by omega
  rcases c4 with rfl | rfl | rfl | rfl
  · exact absurd rfl z0
  · exact absurd rfl z1
  · exact absurd rfl q2
  · exact absurd rfl z3
theorem te_c3F {A B : Prop} {v : Int32} (q : ¬ (te_ty 4 v ∧ ¬ v = 2)) (b : B) : (v = 0 → A) ∧ (¬ v = 0 → ((v = 1 → A) ∧ (¬ v = 1 → ((v = 3 → A) ∧ (¬ v = 3 → B))))) := by
  refine br_c (fun z => absurd ⟨⟨0, by decide, z⟩, ?_⟩ q) (fun _ => br_c (fun z => absurd ⟨⟨1, by decide, z⟩, ?_⟩ q) (fun _ => br_c (fun z => absurd ⟨⟨3, by decide, z⟩, ?_⟩ q) (fun _ => b)))
  · subst z; decide
  · subst z; decide
  · subst z; decide
theorem te_xCt {post : Int32 → SX → Prop} {p j d f nx : Nat} {c : Int32} (hP : te_P t 0 ca cn cx mb rc rs rt rl rv mem aS aT aC aP aN ns nt nc nv nN xs xt xc xv xN) (ht : t ≤ 12) (o1 : np ≤ 8) (o2 : no ≤ 16) (hp : p < np) (hj : j < no) (ej : ol j = 1) (ed : pd p = nI d) (ef : ot j = nI f) (hd : d < t) (hf : f < t) (hn : nx < t) (hnx : ((te_tr mem 0 0 cx xs xt xc xv d f c = -5 ∧ nx = f) ∨ (¬ te_tr mem 0 0 cx xs xt xc xv d f c = -5 ∧ te_tr mem 0 0 cx xs xt xc xv d f c = nI nx))) (qc : te_ty 4 c) (qc2 : ¬ c = 2)
    (l0 : no = 16 → post (-2) (nI t, nI cap, sq, vi, vs, vt, vp, nI np, nI no, nI h, tot, mb, rc, rs, rt, rl, rv, pd, ot, ol, uS, uT, uC, uP, uK))
    (l1 : no < 16 → te_vec mem 0 0 ca aS aT aC aP d f 1 &&& 64 = 0 → ∀ Q : SX → Prop, (∀ (h1 tot1 : Int32) (S1 T1 C1 P1 K1 : Nat → Int32), post (-4) (nI t, nI cap, sq, vi, vs, vt, vp, nI np, nI no, h1, tot1, mb, rc, rs, rt, rl, rv, pd, ot, ol, S1, T1, C1, P1, K1) → Q (nI t, nI cap, sq, vi, vs, vt, vp, nI np, nI no, h1, tot1, mb, rc, rs, rt, rl, rv, pd, ot, ol, S1, T1, C1, P1, K1)) → wpX_recordDenial Q (nI t, nI cap, sq, vi, vs, vt, vp, nI np, nI no, nI h, tot, mb, rc, rs, rt, rl, rv, pd, ot, ol, uS, uT, uC, uP, uK) (nI d) (nI f) 1 64)
    (l2 : no < 16 → ¬ te_vec mem 0 0 ca aS aT aC aP d f 1 &&& 64 = 0 → te_vec mem 0 0 ca aS aT aC aP d nx c &&& 8 = 0 → ∀ Q : SX → Prop, (∀ (h1 tot1 : Int32) (S1 T1 C1 P1 K1 : Nat → Int32), post (-4) (nI t, nI cap, sq, vi, vs, vt, vp, nI np, nI no, h1, tot1, mb, rc, rs, rt, rl, rv, pd, ot, ol, S1, T1, C1, P1, K1) → Q (nI t, nI cap, sq, vi, vs, vt, vp, nI np, nI no, h1, tot1, mb, rc, rs, rt, rl, rv, pd, ot, ol, S1, T1, C1, P1, K1)) → wpX_recordDenial Q (nI t, nI cap, sq, vi, vs, vt, vp, nI np, nI no, nI h, tot, mb, rc, rs, rt, rl, rv, pd, ot, ol, uS, uT, uC, uP, uK) (nI d) (nI nx) c 8)
    (l3 : no < 16 → ¬ te_vec mem 0 0 ca aS aT aC aP d f 1 &&& 64 = 0 → ¬ te_vec mem 0 0 ca aS aT aC aP d nx c &&& 8 = 0 → post (nI no) (nI t, nI cap, sq, vi, vs, vt, vp, nI np, nI (no + 1), nI h, tot, mb, rc, rs, rt, rl, rv, pd, upd ot no (nI nx), upd ol no c, uS, uT, uC, uP, uK)) : wpX_create post (nI t, nI cap, sq, vi, vs, vt, vp, nI np, nI no, nI h, tot, mb, rc, rs, rt, rl, rv, pd, ot, ol, uS, uT, uC, uP, uK) (nI p) (nI j) c := by
  have vp' : vp_in (nI p) 8 := vp_in_nI (by omega) (by decide)
  have vj : vp_in (nI j) 16 := vp_in_nI (by omega) (by decide)
  unfold wpX_create
  dsimp only
  refine te_xPc o1 (fun _ => br_f (by decide) ?_) (fun z => absurd ⟨p, hp, rfl⟩ z)
  refine te_xOc o2 (fun _ _ _ _ => br_f (by decide) ?_) (fun z => absurd ej (z j hj rfl))
  refine te_xCl (fun _ => br_f (by decide) (br_f qc2 ?_)) (fun z => absurd qc z)
  rw [nI_clamp (show p < 2 ^ 31 by omega), nI_clamp (show j < 2 ^ 31 by omega)]
  refine pk_lt no 16 (fun q => ⟨vp', nm_r ed ⟨vj, nm_r ef ?_⟩⟩) (fun q => l0 (by omega))
  refine te_xLk hP ht hd hf (fun c1 => br_f (by decide) ?_) (fun c1 => br_t rfl ?_)
  · unfold wpX_deny
    dsimp only
    exact l1 q c1 _ (fun _ _ _ _ _ _ _ z => z)
  · refine te_xTo2 hP ht hd hf hnx ?_
    refine te_xLk hP ht hd hn (fun c2 => br_f (by decide) ?_) (fun c2 => br_t rfl (te_xAO q (l3 q c1 c2)))
    unfold wpX_deny
    dsimp only
    exact l2 q c1 c2 _ (fun _ _ _ _ _ _ _ z => z)
theorem te_yCt {post : Int32 → SY → Prop} {p j d f nx : Nat} {c : Int32} (hP : te_P t 0 ca cn cx mb rc rs rt rl rv mem aS aT aC aP aN ns nt nc nv nN xs xt xc xv xN) (ht : t ≤ 12) (o1 : np ≤ 8) (o2 : no ≤ 16) (hp : p < np) (hj : j < no) (ej : ol j = 1) (ed : pd p = nI d) (ef : ot j = nI f) (hd : d < t) (hf : f < t) (hn : nx < t) (hnx : ((te_tr mem 0 0 cx xs xt xc xv d f c = -5 ∧ nx = f) ∨ (¬ te_tr mem 0 0 cx xs xt xc xv d f c = -5 ∧ te_tr mem 0 0 cx xs xt xc xv d f c = nI nx))) (qc : te_ty 4 c) (qc2 : ¬ c = 2)
    (l0 : no = 16 → post (-2) (nI t, nI cap, sq, vi, vs, vt, vp, nI np, nI no, nI h, tot, mem, aS, aT, aC, aP, aN, ns, nt, nc, nv, nN, xs, xt, xc, xv, xN, pd, ot, ol, uS, uT, uC, uP, uK))
    (l1 : no < 16 → te_vec mem 0 0 ca aS aT aC aP d f 1 &&& 64 = 0 → ∀ Q : SY → Prop, (∀ (h1 tot1 : Int32) (S1 T1 C1 P1 K1 : Nat → Int32), post (-4) (nI t, nI cap, sq, vi, vs, vt, vp, nI np, nI no, h1, tot1, mem, aS, aT, aC, aP, aN, ns, nt, nc, nv, nN, xs, xt, xc, xv, xN, pd, ot, ol, S1, T1, C1, P1, K1) → Q (nI t, nI cap, sq, vi, vs, vt, vp, nI np, nI no, h1, tot1, mem, aS, aT, aC, aP, aN, ns, nt, nc, nv, nN, xs, xt, xc, xv, xN, pd, ot, ol, S1, T1, C1, P1, K1)) → wpY_auditAdd Q (nI t, nI cap, sq, vi, vs, vt, vp, nI np, nI no, nI h, tot, mem, aS, aT, aC, aP, aN, ns, nt, nc, nv, nN, xs, xt, xc, xv, xN, pd, ot, ol, uS, uT, uC, uP, uK) (nI d) (nI f) 1 64)
    (l2 : no < 16 → ¬ te_vec mem 0 0 ca aS aT aC aP d f 1 &&& 64 = 0 → te_vec mem 0 0 ca aS aT aC aP d nx c &&& 8 = 0 → ∀ Q : SY → Prop, (∀ (h1 tot1 : Int32) (S1 T1 C1 P1 K1 : Nat → Int32), post (-4) (nI t, nI cap, sq, vi, vs, vt, vp, nI np, nI no, h1, tot1, mem, aS, aT, aC, aP, aN, ns, nt, nc, nv, nN, xs, xt, xc, xv, xN, pd, ot, ol, S1, T1, C1, P1, K1) → Q (nI t, nI cap, sq, vi, vs, vt, vp, nI np, nI no, h1, tot1, mem, aS, aT, aC, aP, aN, ns, nt, nc, nv, nN, xs, xt, xc, xv, xN, pd, ot, ol, S1, T1, C1, P1, K1)) → wpY_auditAdd Q (nI t, nI cap, sq, vi, vs, vt, vp, nI np, nI no, nI h, tot, mem, aS, aT, aC, aP, aN, ns, nt, nc, nv, nN, xs, xt, xc, xv, xN, pd, ot, ol, uS, uT, uC, uP, uK) (nI d) (nI nx) c 8)
    (l3 : no < 16 → ¬ te_vec mem 0 0 ca aS aT aC aP d f 1 &&& 64 = 0 → ¬ te_vec mem 0 0 ca aS aT aC aP d nx c &&& 8 = 0 → post (nI (no + 1) - 1) (nI t, nI cap, sq, vi, vs, vt, vp, nI np, nI (no + 1), nI h, tot, mem, aS, aT, aC, aP, aN, ns, nt, nc, nv, nN, xs, xt, xc, xv, xN, pd, upd ot no (nI nx), upd ol no c, uS, uT, uC, uP, uK)) : wpY_create post (nI t, nI cap, sq, vi, vs, vt, vp, nI np, nI no, nI h, tot, mem, aS, aT, aC, aP, aN, ns, nt, nc, nv, nN, xs, xt, xc, xv, xN, pd, ot, ol, uS, uT, uC, uP, uK) (nI p) (nI j) c := by
  have vp' : vp_in (nI p) 8 := vp_in_nI (by omega) (by decide)
  have vj : vp_in (nI j) 16 := vp_in_nI (by omega) (by decide)
  have K : wY_create_56 post (nI p) (nI j) c (nI t) (nI cap) sq vi vs vt vp (nI np) (nI no) (nI h) tot mem aS aT aC aP aN ns nt nc nv nN xs xt xc xv xN pd ot ol uS uT uC uP uK := by
    unfold wY_create_56
    rw [nI_clamp (show p < 2 ^ 31 by omega), nI_clamp (show j < 2 ^ 31 by omega)]
    refine pk_eq no 16 (fun q => l0 q) (fun q => ⟨vp', nm_r ed ⟨vj, nm_r ef ?_⟩⟩)
    have q' : no < 16 := by omega
    have vn : vp_in (nI no) 16 := vp_in_nI q' (by decide)
    refine te_yVe (w := 0) hP (by decide) ht hd hf (br_c (fun c1 => l1 q' c1 _ (fun _ _ _ _ _ _ _ z => z)) (fun c1 => ?_))
    refine te_yTo (K := fun z => wY_create_137 post c (nI d) z (nI t) (nI cap) sq vi vs vt vp (nI np) (nI no) (nI h) tot mem aS aT aC aP aN ns nt nc nv nN xs xt xc xv xN pd ot ol uS uT uC uP uK) hP ht hd hf hnx ?_
    unfold wY_create_137
    rw [nI_clamp (show no < 2 ^ 31 by omega)]
    exact te_yVe (w := 0) hP (by decide) ht hd hn (br_c (fun c2 => l2 q' c1 c2 _ (fun _ _ _ _ _ _ _ z => z)) (fun c2 => ⟨vn, nm_e ⟨vn, nm_e (nm_r (nI_1 no) (l3 q' c1 c2))⟩⟩))
  unfold wpY_create
  dsimp only
  rw [nI_clamp (show j < 2 ^ 31 by omega)]
  exact br_f (nI_pos (by omega)) (br_t (nI_lt hp (by omega)) (br_f (nI_pos (by omega)) (br_t (nI_lt hj (by omega)) ⟨vj, br_t ej (te_c3T qc qc2 K)⟩)))
theorem te_xCk {post : Int32 → SX → Prop} {p j d f : Nat} {c q : Int32} (hP : te_P t 0 ca cn cx mb rc rs rt rl rv mem aS aT aC aP aN ns nt nc nv nN xs xt xc xv xN) (ht : t ≤ 12) (o1 : np ≤ 8) (o2 : no ≤ 16) (hp : p < np) (hj : j < no) (ed : pd p = nI d) (ef : ot j = nI f) (ec : ol j = c) (hd : d < t) (hf : f < t) (qq : te_pm q)
    (l1 : (q &&& (te_vec mem 0 0 ca aS aT aC aP d f c ^^^ (-1))) = 0 → post (q &&& (te_vec mem 0 0 ca aS aT aC aP d f c ^^^ (-1))) (nI t, nI cap, sq, vi, vs, vt, vp, nI np, nI no, nI h, tot, mb, rc, rs, rt, rl, rv, pd, ot, ol, uS, uT, uC, uP, uK))
    (l2 : ¬ (q &&& (te_vec mem 0 0 ca aS aT aC aP d f c ^^^ (-1))) = 0 → ∀ Q : SX → Prop, (∀ (h1 tot1 : Int32) (S1 T1 C1 P1 K1 : Nat → Int32), post (q &&& (te_vec mem 0 0 ca aS aT aC aP d f c ^^^ (-1))) (nI t, nI cap, sq, vi, vs, vt, vp, nI np, nI no, h1, tot1, mb, rc, rs, rt, rl, rv, pd, ot, ol, S1, T1, C1, P1, K1) → Q (nI t, nI cap, sq, vi, vs, vt, vp, nI np, nI no, h1, tot1, mb, rc, rs, rt, rl, rv, pd, ot, ol, S1, T1, C1, P1, K1)) → wpX_recordDenial Q (nI t, nI cap, sq, vi, vs, vt, vp, nI np, nI no, nI h, tot, mb, rc, rs, rt, rl, rv, pd, ot, ol, uS, uT, uC, uP, uK) (nI d) (nI f) c (q &&& (te_vec mem 0 0 ca aS aT aC aP d f c ^^^ (-1)))) : wpX_check post (nI t, nI cap, sq, vi, vs, vt, vp, nI np, nI no, nI h, tot, mb, rc, rs, rt, rl, rv, pd, ot, ol, uS, uT, uC, uP, uK) (nI p) (nI j) q := by
  have vp' : vp_in (nI p) 8 := vp_in_nI (by omega) (by decide)
  have vj : vp_in (nI j) 16 := vp_in_nI (by omega) (by decide)
  unfold wpX_check
  dsimp only
  refine te_xPc o1 (fun _ => br_f (by decide) ?_) (fun z => absurd ⟨p, hp, rfl⟩ z)
  refine te_xOb o2 (fun _ => br_f (by decide) ?_) (fun z => absurd ⟨j, hj, rfl⟩ z)
  refine te_xPm (fun _ => br_f (by decide) ?_) (fun z => absurd qq z)
  rw [nI_clamp (show p < 2 ^ 31 by omega), nI_clamp (show j < 2 ^ 31 by omega)]
  refine ⟨vp', nm_r ed ⟨vj, nm_r ef ⟨vj, nm_r ec ?_⟩⟩⟩
  exact te_xVe (w := 0) hP (by decide) ht hd hf (nm_e (br_c (fun z => l1 z) (fun z => l2 z _ (fun _ _ _ _ _ _ _ z => z))))
theorem te_yCk {post : Int32 → SY → Prop} {p j d f : Nat} {c q : Int32} (hP : te_P t 0 ca cn cx mb rc rs rt rl rv mem aS aT aC aP aN ns nt nc nv nN xs xt xc xv xN) (ht : t ≤ 12) (o1 : np ≤ 8) (o2 : no ≤ 16) (hp : p < np) (hj : j < no) (ed : pd p = nI d) (ef : ot j = nI f) (ec : ol j = c) (hd : d < t) (hf : f < t) (qq : te_pm q)
    (l1 : (q &&& (te_vec mem 0 0 ca aS aT aC aP d f c ^^^ (-1))) = 0 → post (q &&& (te_vec mem 0 0 ca aS aT aC aP d f c ^^^ (-1))) (nI t, nI cap, sq, vi, vs, vt, vp, nI np, nI no, nI h, tot, mem, aS, aT, aC, aP, aN, ns, nt, nc, nv, nN, xs, xt, xc, xv, xN, pd, ot, ol, uS, uT, uC, uP, uK))
    (l2 : ¬ (q &&& (te_vec mem 0 0 ca aS aT aC aP d f c ^^^ (-1))) = 0 → ∀ Q : SY → Prop, (∀ (h1 tot1 : Int32) (S1 T1 C1 P1 K1 : Nat → Int32), post (q &&& (te_vec mem 0 0 ca aS aT aC aP d f c ^^^ (-1))) (nI t, nI cap, sq, vi, vs, vt, vp, nI np, nI no, h1, tot1, mem, aS, aT, aC, aP, aN, ns, nt, nc, nv, nN, xs, xt, xc, xv, xN, pd, ot, ol, S1, T1, C1, P1, K1) → Q (nI t, nI cap, sq, vi, vs, vt, vp, nI np, nI no, h1, tot1, mem, aS, aT, aC, aP, aN, ns, nt, nc, nv, nN, xs, xt, xc, xv, xN, pd, ot, ol, S1, T1, C1, P1, K1)) → wpY_auditAdd Q (nI t, nI cap, sq, vi, vs, vt, vp, nI np, nI no, nI h, tot, mem, aS, aT, aC, aP, aN, ns, nt, nc, nv, nN, xs, xt, xc, xv, xN, pd, ot, ol, uS, uT, uC, uP, uK) (nI d) (nI f) c (q &&& (te_vec mem 0 0 ca aS aT aC aP d f c ^^^ (-1)))) : wpY_check post (nI t, nI cap, sq, vi, vs, vt, vp, nI np, nI no, nI h, tot, mem, aS, aT, aC, aP, aN, ns, nt, nc, nv, nN, xs, xt, xc, xv, xN, pd, ot, ol, uS, uT, uC, uP, uK) (nI p) (nI j) q := by
  have vp' : vp_in (nI p) 8 := vp_in_nI (by omega) (by decide)
  have vj : vp_in (nI j) 16 := vp_in_nI (by omega) (by decide)
  unfold wpY_check
  dsimp only
  rw [nI_clamp (show p < 2 ^ 31 by omega), nI_clamp (show j < 2 ^ 31 by omega)]
  refine br_f (nI_pos (by omega)) (br_f (nI_ge hp (by omega)) (br_f (nI_pos (by omega)) (br_t (nI_lt hj (by omega)) (te_pgT qq ⟨vp', nm_r ed ⟨vj, nm_r ef ⟨vj, nm_r ec ?_⟩⟩⟩))))
  exact te_yVe (w := 0) hP (by decide) ht hd hf (nm_e (br_c (fun z => l1 z) (fun z => l2 z _ (fun _ _ _ _ _ _ _ z => z))))
end
theorem i_vc_exec {k : Nat} {u : SX} {v : SY} (I : i_Rel k u v) (hk : k + 5 ≤ 2562) (v1 : Int32) (v2 : Int32) : wpX_exec (fun r u' => wpY_exec (fun r' v' => r' = r ∧ i_Rel (k + 5) u' v') v v1 v2) u v1 v2 := by
  have R : i_Rel (k + 5) u v := I
  obtain ⟨t, cap, np, no, h, sq, vi, vs, vt, vp, tot, mb, rc, rs, rt, rl, rv, mem, aS, aT, aC, aP, aN, ns, nt, nc, nv, nN, xs, xt, xc, xv, xN, pd, ot, ol, uS, uT, uC, uP, uK, rfl, rfl, ⟨ht4, ht, hc4, hc, hh⟩, ⟨ca0, cn0, cx0, P0⟩, ⟨ca1, cn1, cx1, P1⟩, O⟩ := I
  have O' := O
  obtain ⟨⟨o1, o2⟩, o3, o4⟩ := O'
  by_cases ok : te_ty np v1 ∧ ∃ j, j < no ∧ v2 = nI j ∧ ol j = 0
  · obtain ⟨⟨p, hp, rfl⟩, j, hj, rfl, ej⟩ := ok
    obtain ⟨d, hd, ed⟩ := o3 p hp
    obtain ⟨⟨f, hf, ef⟩, -⟩ := o4 j hj
    obtain ⟨nx, hn, hnx⟩ := te_nx (s := d) (x := f) (c := 2) P0 hd
    refine te_xEx P0 ht o1 o2 hp hj ej ed ef hd hf hn hnx (fun c1 Q hQ => ?_) (fun c1 e => ?_) (fun c1 e c2 Q hQ => ?_) (fun c1 e c2 c3 Q hQ => ?_) (fun c1 e c2 c3 => ?_)
    · obtain ⟨h1, S1, T1, C1, Q1, K1, hh1, HX, HY⟩ := te_aud (t := t) (cap := cap) (np := np) (no := no) (h := h) (sq := sq) (vi := vi) (vs := vs) (vt := vt) (vp := vp) (tot := tot) (mb := mb) (rc := rc) (rs := rs) (rt := rt) (rl := rl) (rv := rv) (mem := mem) (aS := aS) (aT := aT) (aC := aC) (aP := aP) (aN := aN) (ns := ns) (nt := nt) (nc := nc) (nv := nv) (nN := nN) (xs := xs) (xt := xt) (xc := xc) (xv := xv) (xN := xN) (pd := pd) (ot := ot) (ol := ol) (uS := uS) (uT := uT) (uC := uC) (uP := uP) (uK := uK) hc4 hc hh (nI d) (nI f) 0 4
      exact HX Q (hQ _ _ _ _ _ _ _ (te_yEx P0 ht o1 o2 hp hj ej ed ef hd hf hn hnx (fun _ Q' hQ' => HY Q' (hQ' _ _ _ _ _ _ _ ⟨rfl, te_mk ⟨⟨ht4, ht, hc4, hc, hh1⟩, ⟨_, _, _, P0⟩, ⟨_, _, _, P1⟩, O⟩⟩)) (fun z => absurd c1 z) (fun z => absurd c1 z) (fun z => absurd c1 z) (fun z => absurd c1 z)))
    · exact te_yEx P0 ht o1 o2 hp hj ej ed ef hd hf hn hnx (fun z => absurd z c1) (fun _ _ => ⟨rfl, te_mk ⟨⟨ht4, ht, hc4, hc, hh⟩, ⟨_, _, _, P0⟩, ⟨_, _, _, P1⟩, te_Opd O ⟨nx, hn, rfl⟩⟩⟩) (fun _ z => absurd e z) (fun _ z => absurd e z) (fun _ z => absurd e z)
    · obtain ⟨h1, S1, T1, C1, Q1, K1, hh1, HX, HY⟩ := te_aud (t := t) (cap := cap) (np := np) (no := no) (h := h) (sq := sq) (vi := vi) (vs := vs) (vt := vt) (vp := vp) (tot := tot) (mb := mb) (rc := rc) (rs := rs) (rt := rt) (rl := rl) (rv := rv) (mem := mem) (aS := aS) (aT := aT) (aC := aC) (aP := aP) (aN := aN) (ns := ns) (nt := nt) (nc := nc) (nv := nv) (nN := nN) (xs := xs) (xt := xt) (xc := xc) (xv := xv) (xN := xN) (pd := pd) (ot := ot) (ol := ol) (uS := uS) (uT := uT) (uC := uC) (uP := uP) (uK := uK) hc4 hc hh (nI d) (nI nx) 2 16
      exact HX Q (hQ _ _ _ _ _ _ _ (te_yEx P0 ht o1 o2 hp hj ej ed ef hd hf hn hnx (fun z => absurd z c1) (fun _ z => absurd z e) (fun _ _ _ Q' hQ' => HY Q' (hQ' _ _ _ _ _ _ _ ⟨rfl, te_mk ⟨⟨ht4, ht, hc4, hc, hh1⟩, ⟨_, _, _, P0⟩, ⟨_, _, _, P1⟩, O⟩⟩)) (fun _ _ z => absurd c2 z) (fun _ _ z => absurd c2 z)))
    · obtain ⟨h1, S1, T1, C1, Q1, K1, hh1, HX, HY⟩ := te_aud (t := t) (cap := cap) (np := np) (no := no) (h := h) (sq := sq) (vi := vi) (vs := vs) (vt := vt) (vp := vp) (tot := tot) (mb := mb) (rc := rc) (rs := rs) (rt := rt) (rl := rl) (rv := rv) (mem := mem) (aS := aS) (aT := aT) (aC := aC) (aP := aP) (aN := aN) (ns := ns) (nt := nt) (nc := nc) (nv := nv) (nN := nN) (xs := xs) (xt := xt) (xc := xc) (xv := xv) (xN := xN) (pd := pd) (ot := ot) (ol := ol) (uS := uS) (uT := uT) (uC := uC) (uP := uP) (uK := uK) hc4 hc hh (nI nx) (nI f) 0 32
      exact HX Q (hQ _ _ _ _ _ _ _ (te_yEx P0 ht o1 o2 hp hj ej ed ef hd hf hn hnx (fun z => absurd z c1) (fun _ z => absurd z e) (fun _ _ z => absurd z c2) (fun _ _ _ _ Q' hQ' => HY Q' (hQ' _ _ _ _ _ _ _ ⟨rfl, te_mk ⟨⟨ht4, ht, hc4, hc, hh1⟩, ⟨_, _, _, P0⟩, ⟨_, _, _, P1⟩, O⟩⟩)) (fun _ _ _ z => absurd c3 z)))
    · exact te_yEx P0 ht o1 o2 hp hj ej ed ef hd hf hn hnx (fun z => absurd z c1) (fun _ z => absurd z e) (fun _ _ z => absurd z c2) (fun _ _ _ z => absurd z c3) (fun _ _ _ _ => ⟨rfl, te_mk ⟨⟨ht4, ht, hc4, hc, hh⟩, ⟨_, _, _, P0⟩, ⟨_, _, _, P1⟩, te_Opd O ⟨nx, hn, rfl⟩⟩⟩)
  · have FY : wpY_exec (fun r' v' => r' = -1 ∧ i_Rel (k + 5) (nI t, nI cap, sq, vi, vs, vt, vp, nI np, nI no, nI h, tot, mb, rc, rs, rt, rl, rv, pd, ot, ol, uS, uT, uC, uP, uK) v') (nI t, nI cap, sq, vi, vs, vt, vp, nI np, nI no, nI h, tot, mem, aS, aT, aC, aP, aN, ns, nt, nc, nv, nN, xs, xt, xc, xv, xN, pd, ot, ol, uS, uT, uC, uP, uK) v1 v2 := by
      unfold wpY_exec
      dsimp only
      rcases te_neg v1 with a | ⟨p, hp, rfl⟩
      · exact br_t a ⟨rfl, R⟩
      refine br_f (nI_pos hp) (pk_le np p (fun _ => ⟨rfl, R⟩) (fun hp' => ?_))
      rcases te_neg v2 with a | ⟨j, hj, rfl⟩
      · exact br_t a ⟨rfl, R⟩
      refine br_f (nI_pos hj) (pk_lt j no (fun hj' => ⟨vp_in_nI (by omega) (by decide), ?_⟩) (fun _ => ⟨rfl, R⟩))
      rw [nI_clamp hj]
      exact br_c (fun e => absurd ⟨⟨p, hp', rfl⟩, j, hj', rfl, e⟩ ok) (fun _ => ⟨rfl, R⟩)
    unfold wpX_exec
    dsimp only
    exact te_xPc o1 (fun q1 => br_f (by decide) (te_xOc o2 (fun j hj e ec => absurd ⟨q1, j, hj, e, ec⟩ ok) (fun _ => br_t rfl FY))) (fun _ => br_t rfl FY)
theorem i_vc_create {k : Nat} {u : SX} {v : SY} (I : i_Rel k u v) (hk : k + 5 ≤ 2562) (v1 : Int32) (v2 : Int32) (v3 : Int32) : wpX_create (fun r u' => wpY_create (fun r' v' => r' = r ∧ i_Rel (k + 5) u' v') v v1 v2 v3) u v1 v2 v3 := by
  have R : i_Rel (k + 5) u v := I
  obtain ⟨t, cap, np, no, h, sq, vi, vs, vt, vp, tot, mb, rc, rs, rt, rl, rv, mem, aS, aT, aC, aP, aN, ns, nt, nc, nv, nN, xs, xt, xc, xv, xN, pd, ot, ol, uS, uT, uC, uP, uK, rfl, rfl, ⟨ht4, ht, hc4, hc, hh⟩, ⟨ca0, cn0, cx0, P0⟩, ⟨ca1, cn1, cx1, P1⟩, O⟩ := I
  have O' := O
  obtain ⟨⟨o1, o2⟩, o3, o4⟩ := O'
  by_cases ok : te_ty np v1 ∧ (∃ j, j < no ∧ v2 = nI j ∧ ol j = 1) ∧ te_ty 4 v3 ∧ ¬ v3 = 2
  · obtain ⟨⟨p, hp, rfl⟩, ⟨j, hj, rfl, ej⟩, q3, q4⟩ := ok
    obtain ⟨d, hd, ed⟩ := o3 p hp
    obtain ⟨⟨f, hf, ef⟩, -⟩ := o4 j hj
    obtain ⟨nx, hn, hnx⟩ := te_nx (s := d) (x := f) (c := v3) P0 hf
    refine te_xCt P0 ht o1 o2 hp hj ej ed ef hd hf hn hnx q3 q4 (fun q => ?_) (fun q c1 Q hQ => ?_) (fun q c1 c2 Q hQ => ?_) (fun q c1 c2 => ?_)
    · exact te_yCt P0 ht o1 o2 hp hj ej ed ef hd hf hn hnx q3 q4 (fun _ => ⟨rfl, R⟩) (fun z => absurd q (by omega)) (fun z => absurd q (by omega)) (fun z => absurd q (by omega))
    · obtain ⟨h1, S1, T1, C1, Q1, K1, hh1, HX, HY⟩ := te_aud (t := t) (cap := cap) (np := np) (no := no) (h := h) (sq := sq) (vi := vi) (vs := vs) (vt := vt) (vp := vp) (tot := tot) (mb := mb) (rc := rc) (rs := rs) (rt := rt) (rl := rl) (rv := rv) (mem := mem) (aS := aS) (aT := aT) (aC := aC) (aP := aP) (aN := aN) (ns := ns) (nt := nt) (nc := nc) (nv := nv) (nN := nN) (xs := xs) (xt := xt) (xc := xc) (xv := xv) (xN := xN) (pd := pd) (ot := ot) (ol := ol) (uS := uS) (uT := uT) (uC := uC) (uP := uP) (uK := uK) hc4 hc hh (nI d) (nI f) 1 64
      exact HX Q (hQ _ _ _ _ _ _ _ (te_yCt P0 ht o1 o2 hp hj ej ed ef hd hf hn hnx q3 q4 (fun z => absurd q (by omega)) (fun _ _ Q' hQ' => HY Q' (hQ' _ _ _ _ _ _ _ ⟨rfl, te_mk ⟨⟨ht4, ht, hc4, hc, hh1⟩, ⟨_, _, _, P0⟩, ⟨_, _, _, P1⟩, O⟩⟩)) (fun _ z => absurd c1 z) (fun _ z => absurd c1 z)))
    · obtain ⟨h1, S1, T1, C1, Q1, K1, hh1, HX, HY⟩ := te_aud (t := t) (cap := cap) (np := np) (no := no) (h := h) (sq := sq) (vi := vi) (vs := vs) (vt := vt) (vp := vp) (tot := tot) (mb := mb) (rc := rc) (rs := rs) (rt := rt) (rl := rl) (rv := rv) (mem := mem) (aS := aS) (aT := aT) (aC := aC) (aP := aP) (aN := aN) (ns := ns) (nt := nt) (nc := nc) (nv := nv) (nN := nN) (xs := xs) (xt := xt) (xc := xc) (xv := xv) (xN := xN) (pd := pd) (ot := ot) (ol := ol) (uS := uS) (uT := uT) (uC := uC) (uP := uP) (uK := uK) hc4 hc hh (nI d) (nI nx) v3 8
      exact HX Q (hQ _ _ _ _ _ _ _ (te_yCt P0 ht o1 o2 hp hj ej ed ef hd hf hn hnx q3 q4 (fun z => absurd q (by omega)) (fun _ z => absurd z c1) (fun _ _ _ Q' hQ' => HY Q' (hQ' _ _ _ _ _ _ _ ⟨rfl, te_mk ⟨⟨ht4, ht, hc4, hc, hh1⟩, ⟨_, _, _, P0⟩, ⟨_, _, _, P1⟩, O⟩⟩)) (fun _ _ z => absurd c2 z)))
    · exact te_yCt P0 ht o1 o2 hp hj ej ed ef hd hf hn hnx q3 q4 (fun z => absurd q (by omega)) (fun _ z => absurd z c1) (fun _ _ z => absurd z c2) (fun _ _ _ => ⟨nI_pred no, te_mk ⟨⟨ht4, ht, hc4, hc, hh⟩, ⟨_, _, _, P0⟩, ⟨_, _, _, P1⟩, te_Oon O q ⟨nx, hn, rfl⟩ q3⟩⟩)
  · have FY : wpY_create (fun r' v' => r' = -1 ∧ i_Rel (k + 5) (nI t, nI cap, sq, vi, vs, vt, vp, nI np, nI no, nI h, tot, mb, rc, rs, rt, rl, rv, pd, ot, ol, uS, uT, uC, uP, uK) v') (nI t, nI cap, sq, vi, vs, vt, vp, nI np, nI no, nI h, tot, mem, aS, aT, aC, aP, aN, ns, nt, nc, nv, nN, xs, xt, xc, xv, xN, pd, ot, ol, uS, uT, uC, uP, uK) v1 v2 v3 := by
      unfold wpY_create
      dsimp only
      rcases te_neg v1 with a | ⟨p, hp, rfl⟩
      · exact br_t a ⟨rfl, R⟩
      refine br_f (nI_pos hp) (pk_lt p np (fun hp' => ?_) (fun _ => ⟨rfl, R⟩))
      rcases te_neg v2 with a | ⟨j, hj, rfl⟩
      · exact br_t a ⟨rfl, R⟩
      refine br_f (nI_pos hj) (pk_lt j no (fun hj' => ⟨vp_in_nI (by omega) (by decide), ?_⟩) (fun _ => ⟨rfl, R⟩))
      rw [nI_clamp hj]
      exact br_c (fun e => te_c3F (fun z => ok ⟨⟨p, hp', rfl⟩, ⟨j, hj', rfl, e⟩, z.1, z.2⟩) ⟨rfl, R⟩) (fun _ => ⟨rfl, R⟩)
    unfold wpX_create
    dsimp only
    exact te_xPc o1 (fun q1 => br_f (by decide) (te_xOc o2 (fun j hj e ec => br_f (by decide) (te_xCl (fun q3 => br_f (by decide) (br_c (fun _ => FY) (fun z => absurd ⟨q1, ⟨j, hj, e, ec⟩, q3, z⟩ ok))) (fun _ => br_t rfl FY))) (fun _ => br_t rfl FY))) (fun _ => br_t rfl FY)
theorem i_vc_check {k : Nat} {u : SX} {v : SY} (I : i_Rel k u v) (hk : k + 5 ≤ 2562) (v1 : Int32) (v2 : Int32) (v3 : Int32) : wpX_check (fun r u' => wpY_check (fun r' v' => r' = r ∧ i_Rel (k + 5) u' v') v v1 v2 v3) u v1 v2 v3 := by
  have R : i_Rel (k + 5) u v := I
  obtain ⟨t, cap, np, no, h, sq, vi, vs, vt, vp, tot, mb, rc, rs, rt, rl, rv, mem, aS, aT, aC, aP, aN, ns, nt, nc, nv, nN, xs, xt, xc, xv, xN, pd, ot, ol, uS, uT, uC, uP, uK, rfl, rfl, ⟨ht4, ht, hc4, hc, hh⟩, ⟨ca0, cn0, cx0, P0⟩, ⟨ca1, cn1, cx1, P1⟩, O⟩ := I
  have O' := O
  obtain ⟨⟨o1, o2⟩, o3, o4⟩ := O'
  by_cases ok : te_ty np v1 ∧ te_ty no v2 ∧ te_pm v3
  · obtain ⟨⟨p, hp, rfl⟩, ⟨j, hj, rfl⟩, q3⟩ := ok
    obtain ⟨d, hd, ed⟩ := o3 p hp
    obtain ⟨⟨f, hf, ef⟩, -⟩ := o4 j hj
    refine te_xCk P0 ht o1 o2 hp hj ed ef rfl hd hf q3 (fun z => ?_) (fun z Q hQ => ?_)
    · exact te_yCk P0 ht o1 o2 hp hj ed ef rfl hd hf q3 (fun _ => ⟨rfl, R⟩) (fun y => absurd z y)
    · obtain ⟨h1, S1, T1, C1, Q1, K1, hh1, HX, HY⟩ := te_aud (t := t) (cap := cap) (np := np) (no := no) (h := h) (sq := sq) (vi := vi) (vs := vs) (vt := vt) (vp := vp) (tot := tot) (mb := mb) (rc := rc) (rs := rs) (rt := rt) (rl := rl) (rv := rv) (mem := mem) (aS := aS) (aT := aT) (aC := aC) (aP := aP) (aN := aN) (ns := ns) (nt := nt) (nc := nc) (nv := nv) (nN := nN) (xs := xs) (xt := xt) (xc := xc) (xv := xv) (xN := xN) (pd := pd) (ot := ot) (ol := ol) (uS := uS) (uT := uT) (uC := uC) (uP := uP) (uK := uK) hc4 hc hh (nI d) (nI f) (ol j) (v3 &&& (te_vec mem 0 0 ca0 aS aT aC aP d f (ol j) ^^^ (-1)))
      exact HX Q (hQ _ _ _ _ _ _ _ (te_yCk P0 ht o1 o2 hp hj ed ef rfl hd hf q3 (fun y => absurd y z) (fun _ Q' hQ' => HY Q' (hQ' _ _ _ _ _ _ _ ⟨rfl, te_mk ⟨⟨ht4, ht, hc4, hc, hh1⟩, ⟨_, _, _, P0⟩, ⟨_, _, _, P1⟩, O⟩⟩))))
  · have FY : wpY_check (fun r' v' => r' = -1 ∧ i_Rel (k + 5) (nI t, nI cap, sq, vi, vs, vt, vp, nI np, nI no, nI h, tot, mb, rc, rs, rt, rl, rv, pd, ot, ol, uS, uT, uC, uP, uK) v') (nI t, nI cap, sq, vi, vs, vt, vp, nI np, nI no, nI h, tot, mem, aS, aT, aC, aP, aN, ns, nt, nc, nv, nN, xs, xt, xc, xv, xN, pd, ot, ol, uS, uT, uC, uP, uK) v1 v2 v3 := by
      unfold wpY_check
      dsimp only
      rcases te_neg v1 with a | ⟨p, hp, rfl⟩
      · exact br_t a ⟨rfl, R⟩
      refine br_f (nI_pos hp) (pk_le np p (fun _ => ⟨rfl, R⟩) (fun hp' => ?_))
      rcases te_neg v2 with a | ⟨j, hj, rfl⟩
      · exact br_t a ⟨rfl, R⟩
      exact br_f (nI_pos hj) (pk_lt j no (fun hj' => te_pgF (fun z => ok ⟨⟨p, hp', rfl⟩, ⟨j, hj', rfl⟩, z⟩) ⟨rfl, R⟩) (fun _ => ⟨rfl, R⟩))
    unfold wpX_check
    dsimp only
    exact te_xPc o1 (fun q1 => br_f (by decide) (te_xOb o2 (fun q2 => br_f (by decide) (te_xPm (fun q3 => absurd ⟨q1, q2, q3⟩ ok) (fun _ => br_t rfl FY))) (fun _ => br_t rfl FY))) (fun _ => br_t rfl FY)
end
