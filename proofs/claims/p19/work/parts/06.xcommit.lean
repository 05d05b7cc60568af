section
variable {t cap np no h : Nat} {sq vi vs vt vp tot : Int32} {mb rc rs rt rl rv mem aS aT aC aP aN ns nt nc nv nN xs xt xc xv xN pd ot ol uS uT uC uP uK : Nat → Int32}

variable {ca cn cx : Nat}
theorem te_xSV {post : St2 → Prop} {a b c d : Int32} (k : post (nI t, nI cap, sq, a, b, c, d, nI np, nI no, nI h, tot, mb, rc, rs, rt, rl, rv, pd, ot, ol, uS, uT, uC, uP, uK)) : wpX_setViolation post (nI t, nI cap, sq, vi, vs, vt, vp, nI np, nI no, nI h, tot, mb, rc, rs, rt, rl, rv, pd, ot, ol, uS, uT, uC, uP, uK) a b c d := k
theorem te_xCS {post : Int32 → St2 → Prop} {J9 J16 : Int32 → Prop} {x1 : Int32} {n s x m : Nat} (hP : te_P t 1 ca cn cx mb rc rs rt rl rv mem aS aT aC aP aN ns nt nc nv nN xs xt xc xv xN) (ht : t ≤ 12) (hn : n < cn) (hs : s < t) (hx : x < t)
    (hz : (te_bp mem ca aS aT aC aP ns nt nc nv) n s x = 0 → wX_commit_27 post J9 J16 x1 (nI n) (nI s) (nI t) (nI cap) sq vi vs vt vp (nI np) (nI no) (nI h) tot mb rc rs rt rl rv pd ot ol uS uT uC uP uK m (nI (x + 1)))
    (hb : ¬ (te_bp mem ca aS aT aC aP ns nt nc nv) n s x = 0 → post (-3) (nI t, nI cap, sq, nI n, nI s, nI x, te_bp mem ca aS aT aC aP ns nt nc nv n s x, nI np, nI no, nI h, tot, mb, rc, rs, rt, rl, rv, pd, ot, ol, uS, uT, uC, uP, uK)) : wX_commit_27 post J9 J16 x1 (nI n) (nI s) (nI t) (nI cap) sq vi vs vt vp (nI np) (nI no) (nI h) tot mb rc rs rt rl rv pd ot ol uS uT uC uP uK (m + 1) (nI x) :=
  br_f (nI_ge hx (by omega)) (te_xBr hP ht hn hs hx (br_c (fun z => nm_r (nI_1 x) (hz z)) (fun z => te_xSV (hb z))))
theorem te_xC1 {post : Int32 → St2 → Prop} {J9 J16 : Int32 → Prop} {x1 : Int32} {n s : Nat} (hP : te_P t 1 ca cn cx mb rc rs rt rl rv mem aS aT aC aP aN ns nt nc nv nN xs xt xc xv xN) (ht : t ≤ 12) (hn : n < cn) (hs : s < t)
    (hz : ∀ y, y < t → (te_bp mem ca aS aT aC aP ns nt nc nv) n s y = 0) (k : J16 (nI (s + 1))) : ∀ d x, x + d = t → wX_commit_27 post J9 J16 x1 (nI n) (nI s) (nI t) (nI cap) sq vi vs vt vp (nI np) (nI no) (nI h) tot mb rc rs rt rl rv pd ot ol uS uT uC uP uK (d + 1) (nI x) := by
  intro d
  induction d with
  | zero =>
    intro x hx
    exact br_t (nI_le (by omega) (by omega)) (nm_r (nI_1 s) k)
  | succ d ih => exact fun x hx => te_xCS hP ht hn hs (by omega) (fun _ => ih (x + 1) (by omega)) (fun z => absurd (hz x (by omega)) z)
theorem te_xC1h {post : Int32 → St2 → Prop} {J9 J16 : Int32 → Prop} {x1 : Int32} {n s x0 : Nat} (hP : te_P t 1 ca cn cx mb rc rs rt rl rv mem aS aT aC aP aN ns nt nc nv nN xs xt xc xv xN) (ht : t ≤ 12) (hn : n < cn) (hs : s < t) (hx0 : x0 < t)
    (hz : ∀ y, y < x0 → (te_bp mem ca aS aT aC aP ns nt nc nv) n s y = 0) (hb : ¬ (te_bp mem ca aS aT aC aP ns nt nc nv) n s x0 = 0) (k : post (-3) (nI t, nI cap, sq, nI n, nI s, nI x0, te_bp mem ca aS aT aC aP ns nt nc nv n s x0, nI np, nI no, nI h, tot, mb, rc, rs, rt, rl, rv, pd, ot, ol, uS, uT, uC, uP, uK)) : ∀ d x, x + d = x0 → wX_commit_27 post J9 J16 x1 (nI n) (nI s) (nI t) (nI cap) sq vi vs vt vp (nI np) (nI no) (nI h) tot mb rc rs rt rl rv pd ot ol uS uT uC uP uK (d + 1) (nI x) := by
  intro d
  induction d with
  | zero =>
    intro x hx
    have e : x = x0 := by omega
    subst e
    exact te_xCS hP ht hn hs hx0 (fun z => absurd z hb) (fun _ => k)
  | succ d ih => exact fun x hx => te_xCS hP ht hn hs (by omega) (fun _ => ih (x + 1) (by omega)) (fun z => absurd (hz x (by omega)) z)
theorem te_xC2 {post : Int32 → St2 → Prop} {J9 : Int32 → Prop} {x1 : Int32} {n : Nat} (hP : te_P t 1 ca cn cx mb rc rs rt rl rv mem aS aT aC aP aN ns nt nc nv nN xs xt xc xv xN) (ht : t ≤ 12) (hn : n < cn)
    (hz : te_none t ((te_bp mem ca aS aT aC aP ns nt nc nv) n)) (k : J9 (nI (n + 1))) : ∀ d s, s + d = t → wX_commit_16 post J9 x1 (nI n) (nI t) (nI cap) sq vi vs vt vp (nI np) (nI no) (nI h) tot mb rc rs rt rl rv pd ot ol uS uT uC uP uK (d + 1) (nI s) := by
  intro d
  induction d with
  | zero =>
    intro s hs
    exact br_t (nI_le (by omega) (by omega)) (nm_r (nI_1 n) k)
  | succ d ih =>
    intro s hs
    exact br_f (nI_ge (by omega) (by omega)) ⟨_, te_xC1 hP ht hn (by omega) (fun y hy => hz s y (by omega) hy) (ih (s + 1) (by omega)) t 0 (by omega)⟩
theorem te_xC2h {post : Int32 → St2 → Prop} {J9 : Int32 → Prop} {x1 : Int32} {n s0 x0 : Nat} (hP : te_P t 1 ca cn cx mb rc rs rt rl rv mem aS aT aC aP aN ns nt nc nv nN xs xt xc xv xN) (ht : t ≤ 12) (hn : n < cn)
    (ho : te_one t ((te_bp mem ca aS aT aC aP ns nt nc nv) n) s0 x0) (k : post (-3) (nI t, nI cap, sq, nI n, nI s0, nI x0, te_bp mem ca aS aT aC aP ns nt nc nv n s0 x0, nI np, nI no, nI h, tot, mb, rc, rs, rt, rl, rv, pd, ot, ol, uS, uT, uC, uP, uK)) : ∀ d s, s + d = s0 → wX_commit_16 post J9 x1 (nI n) (nI t) (nI cap) sq vi vs vt vp (nI np) (nI no) (nI h) tot mb rc rs rt rl rv pd ot ol uS uT uC uP uK (d + 1) (nI s) := by
  obtain ⟨⟨hs0, hx0⟩, hb, hl, hr⟩ := ho
  intro d
  induction d with
  | zero =>
    intro s hs
    have e : s = s0 := by omega
    subst e
    exact br_f (nI_ge (by omega) (by omega)) ⟨_, te_xC1h hP ht hn hs0 hx0 hr hb k x0 0 (by omega)⟩
  | succ d ih =>
    intro s hs
    exact br_f (nI_ge (by omega) (by omega)) ⟨_, te_xC1 hP ht hn (by omega) (fun y hy => hl s y (by omega) hy) (ih (s + 1) (by omega)) t 0 (by omega)⟩
theorem te_xC3 {post : Int32 → St2 → Prop} (hP : te_P t 1 ca cn cx mb rc rs rt rl rv mem aS aT aC aP aN ns nt nc nv nN xs xt xc xv xN) (ht : t ≤ 12)
    (hz : ∀ n, n < cn → te_none t ((te_bp mem ca aS aT aC aP ns nt nc nv) n)) (k : ∀ m, wX_commit_9 post (nI cn) (nI t) (nI cap) sq vi vs vt vp (nI np) (nI no) (nI h) tot mb rc rs rt rl rv pd ot ol uS uT uC uP uK (m + 1) (nI cn)) : ∀ d n, n + d = cn → wX_commit_9 post (nI cn) (nI t) (nI cap) sq vi vs vt vp (nI np) (nI no) (nI h) tot mb rc rs rt rl rv pd ot ol uS uT uC uP uK (d + 1) (nI n) := by
  have q := hP.2.1.2.1
  intro d
  induction d with
  | zero =>
    intro n hn
    have e : n = cn := by omega
    subst e
    exact k 0
  | succ d ih =>
    intro n hn
    exact br_f (nI_ge (by omega) (by omega)) ⟨_, te_xC2 hP ht (by omega) (hz n (by omega)) (ih (n + 1) (by omega)) t 0 (by omega)⟩
theorem te_xC3h {post : Int32 → St2 → Prop} {n0 s0 x0 : Nat} (hP : te_P t 1 ca cn cx mb rc rs rt rl rv mem aS aT aC aP aN ns nt nc nv nN xs xt xc xv xN) (ht : t ≤ 12) (hn0 : n0 < cn)
    (hz : ∀ m, m < n0 → te_none t ((te_bp mem ca aS aT aC aP ns nt nc nv) m)) (ho : te_one t ((te_bp mem ca aS aT aC aP ns nt nc nv) n0) s0 x0) (k : post (-3) (nI t, nI cap, sq, nI n0, nI s0, nI x0, te_bp mem ca aS aT aC aP ns nt nc nv n0 s0 x0, nI np, nI no, nI h, tot, mb, rc, rs, rt, rl, rv, pd, ot, ol, uS, uT, uC, uP, uK)) : ∀ d n, n + d = n0 → wX_commit_9 post (nI cn) (nI t) (nI cap) sq vi vs vt vp (nI np) (nI no) (nI h) tot mb rc rs rt rl rv pd ot ol uS uT uC uP uK (d + 1) (nI n) := by
  have q := hP.2.1.2.1
  intro d
  induction d with
  | zero =>
    intro n hn
    have e : n = n0 := by omega
    subst e
    exact br_f (nI_ge (by omega) (by omega)) ⟨_, te_xC2h hP ht hn0 ho k s0 0 (by omega)⟩
  | succ d ih =>
    intro n hn
    exact br_f (nI_ge (by omega) (by omega)) ⟨_, te_xC2 hP ht (by omega) (hz n (by omega)) (ih (n + 1) (by omega)) t 0 (by omega)⟩
theorem te_xCoV {post : Int32 → St2 → Prop} {n0 s0 x0 : Nat} (hP : te_P t 1 ca cn cx mb rc rs rt rl rv mem aS aT aC aP aN ns nt nc nv nN xs xt xc xv xN) (ht : t ≤ 12) (hn0 : n0 < cn)
    (hz : ∀ m, m < n0 → te_none t ((te_bp mem ca aS aT aC aP ns nt nc nv) m)) (ho : te_one t ((te_bp mem ca aS aT aC aP ns nt nc nv) n0) s0 x0) (k : post (-3) (nI t, nI cap, sq, nI n0, nI s0, nI x0, te_bp mem ca aS aT aC aP ns nt nc nv n0 s0 x0, nI np, nI no, nI h, tot, mb, rc, rs, rt, rl, rv, pd, ot, ol, uS, uT, uC, uP, uK)) : wpX_commit post (nI t, nI cap, sq, vi, vs, vt, vp, nI np, nI no, nI h, tot, mb, rc, rs, rt, rl, rv, pd, ot, ol, uS, uT, uC, uP, uK) := by
  unfold wpX_commit
  dsimp only
  refine te_xCR (w := 1) (l := 1) (by decide) (by decide) ?_
  rw [show rc (1 * 3 + 1) = nI cn from hP.2.2.1.2.1]
  exact ⟨_, te_xC3h hP ht hn0 hz ho k n0 0 (by omega)⟩
/-! copies -/
def te_cp (c i : Nat) (f' f : Nat → Int32) : Prop := (∀ j, j < i → f' j = f (c + j)) ∧ (∀ j, i ≤ j → f' j = f j)
theorem te_cp0 {c : Nat} {f : Nat → Int32} : te_cp c 0 f f := ⟨fun j hj => absurd hj (Nat.not_lt_zero _), fun _ _ => rfl⟩
theorem te_cpS {c i : Nat} {f' f : Nat → Int32} {v : Int32} (q : te_cp c i f' f) (hv : v = f' (c + i)) : te_cp c (i + 1) (upd f' i v) f := by
  refine ⟨fun j hj => ?_, fun j hj => ?_⟩
  · by_cases e : j = i
    · subst e
      rw [pk_us, hv]
      exact q.2 _ (by omega)
    · rw [pk_un e]
      exact q.1 j (by omega)
  · rw [pk_un (by omega)]
    exact q.2 j (by omega)
theorem te_xCM {post : St2 → Prop} (k : ∀ mb', te_cp 12 12 mb' mb → post (nI t, nI cap, sq, vi, vs, vt, vp, nI np, nI no, nI h, tot, mb', rc, rs, rt, rl, rv, pd, ot, ol, uS, uT, uC, uP, uK)) : wpX_copyMembersToActive post (nI t, nI cap, sq, vi, vs, vt, vp, nI np, nI no, nI h, tot, mb, rc, rs, rt, rl, rv, pd, ot, ol, uS, uT, uC, uP, uK) := by
  refine loop_0 (fun n i s => wX_copyMembersToActive_2 post (nI t) (nI cap) sq vi vs vt vp (nI np) (nI no) (nI h) tot n (nI i) s rc rs rt rl rv pd ot ol uS uT uC uP uK) (fun i s => te_cp 12 i s mb) 12 mb te_cp0 ?_ ?_
  · intro n s hs
    exact br_t (nI_le (a := 12) (Nat.le_refl _) (by decide)) (k s hs)
  · intro n i s hi hs ih
    have e12 : (12 : Int32) + nI i = nI (12 + i) := nI_add 12 i
    have e0 : (0 : Int32) + nI i = nI i := (nI_add 0 i).trans (congrArg nI (Nat.zero_add i))
    refine br_f (nI_ge (b := 12) hi (by decide)) ?_
    rw [e12, e0, nI_clamp (show 12 + i < 2 ^ 31 by omega), nI_clamp (show i < 2 ^ 31 by omega)]
    exact ⟨vp_in_nI (by omega) (by decide), vp_in_nI (by omega) (by decide), nm_e (nm_r (nI_1 i) (ih _ (te_cpS hs rfl)))⟩
theorem te_xCI {post : St2 → Prop} {J : Int32 → (Nat → Int32) → (Nat → Int32) → (Nat → Int32) → (Nat → Int32) → (Nat → Int32) → (Nat → Int32) → (Nat → Int32) → (Nat → Int32) → (Nat → Int32) → (Nat → Int32) → (Nat → Int32) → (Nat → Int32) → (Nat → Int32) → (Nat → Int32) → Prop} {l c : Nat} (hl : l < 3) (hc : c ≤ 24)
    (k : ∀ a b d e : Nat → Int32, te_eq4 c (l * 24) (72 + l * 24) a b d e rs rt rl rv → (∀ j, (j < l * 24 ∨ l * 24 + 24 ≤ j) → a j = rs j ∧ b j = rt j ∧ d j = rl j ∧ e j = rv j) → J (nI (l + 1)) mb (upd rc l (nI c)) a b d e pd ot ol uS uT uC uP uK) :
    ∃ n, wX_copyRulesToActive_30 post J (nI l) (nI c) (nI (l * 24)) (nI (72 + l * 24)) (nI t) (nI cap) sq vi vs vt vp (nI np) (nI no) (nI h) tot n 0 mb rc rs rt rl rv pd ot ol uS uT uC uP uK := by
  refine loop_0 (fun n i (s : (Nat → Int32) × (Nat → Int32) × (Nat → Int32) × (Nat → Int32)) => wX_copyRulesToActive_30 post J (nI l) (nI c) (nI (l * 24)) (nI (72 + l * 24)) (nI t) (nI cap) sq vi vs vt vp (nI np) (nI no) (nI h) tot n (nI i) mb rc s.1 s.2.1 s.2.2.1 s.2.2.2 pd ot ol uS uT uC uP uK)
    (fun i s => te_eq4 i (l * 24) (72 + l * 24) s.1 s.2.1 s.2.2.1 s.2.2.2 rs rt rl rv ∧ (∀ j, (j < l * 24 ∨ l * 24 + 24 ≤ j) → s.1 j = rs j ∧ s.2.1 j = rt j ∧ s.2.2.1 j = rl j ∧ s.2.2.2 j = rv j)) c (rs, rt, rl, rv) ⟨fun i hi => absurd hi (Nat.not_lt_zero _), fun _ _ => ⟨rfl, rfl, rfl, rfl⟩⟩ ?_ ?_
  · intro n s hs
    refine br_t (nI_le (Nat.le_refl _) (by omega)) (te_xLP (w := 0) ?_)
    rw [show 0 * 3 + l = l by omega]
    refine ⟨vp_in_nI (by omega) (by decide), ?_⟩
    rw [nI_clamp (show l < 2 ^ 31 by omega)]
    exact nm_e (nm_r (nI_1 l) (k _ _ _ _ hs.1 hs.2))
  · intro n i s hi hs ih
    obtain ⟨a, b, d, e⟩ := s
    obtain ⟨hs1, hs2⟩ := hs
    dsimp only at hs1 hs2 ih ⊢
    have v1 : vp_in (nI (72 + l * 24 + i)) 144 := vp_in_nI (by omega) (by decide)
    have v2 : vp_in (nI (l * 24 + i)) 144 := vp_in_nI (by omega) (by decide)
    refine br_f (nI_ge hi (by omega)) ?_
    rw [nI_add (72 + l * 24) i, nI_add (l * 24) i, nI_clamp (show 72 + l * 24 + i < 2 ^ 31 by omega), nI_clamp (show l * 24 + i < 2 ^ 31 by omega)]
    refine ⟨v1, v2, nm_e ⟨v1, v2, nm_e ⟨v1, v2, nm_e ⟨v1, v2, nm_e (nm_r (nI_1 i) (ih (upd a (l * 24 + i) (a (72 + l * 24 + i)), upd b (l * 24 + i) (b (72 + l * 24 + i)), upd d (l * 24 + i) (d (72 + l * 24 + i)), upd e (l * 24 + i) (e (72 + l * 24 + i))) ⟨?_, ?_⟩))⟩⟩⟩⟩
    · intro q hq
      dsimp only
      by_cases z : q = i
      · subst z
        rw [pk_us, pk_us, pk_us, pk_us]
        exact hs2 _ (by omega)
      · have z' : l * 24 + q ≠ l * 24 + i := by omega
        rw [pk_un z', pk_un z', pk_un z', pk_un z']
        exact hs1 q (by omega)
    · intro j hj
      dsimp only
      have z' : j ≠ l * 24 + i := by omega
      rw [pk_un z', pk_un z', pk_un z', pk_un z']
      exact hs2 j hj
theorem te_xCC {post : St2 → Prop} {cm : Nat → Nat} (hcm : ∀ m, m < 3 → rc (3 + m) = nI (cm m) ∧ cm m ≤ 24)
    (k : ∀ z a b d e : Nat → Int32, (∀ m, m < 3 → z m = nI (cm m) ∧ te_eq4 (cm m) (m * 24) (72 + m * 24) a b d e rs rt rl rv) → (∀ m, 3 ≤ m → z m = rc m) → (∀ j, 72 ≤ j → a j = rs j ∧ b j = rt j ∧ d j = rl j ∧ e j = rv j) → post (nI t, nI cap, sq, vi, vs, vt, vp, nI np, nI no, nI h, tot, mb, z, a, b, d, e, pd, ot, ol, uS, uT, uC, uP, uK)) : wpX_copyRulesToActive post (nI t, nI cap, sq, vi, vs, vt, vp, nI np, nI no, nI h, tot, mb, rc, rs, rt, rl, rv, pd, ot, ol, uS, uT, uC, uP, uK) := by
  refine loop_0 (fun n i (s : (Nat → Int32) × (Nat → Int32) × (Nat → Int32) × (Nat → Int32) × (Nat → Int32)) => wX_copyRulesToActive_2 post (nI t) (nI cap) sq vi vs vt vp (nI np) (nI no) (nI h) tot n (nI i) mb s.1 s.2.1 s.2.2.1 s.2.2.2.1 s.2.2.2.2 pd ot ol uS uT uC uP uK)
    (fun i s => (∀ m, m < i → s.1 m = nI (cm m) ∧ te_eq4 (cm m) (m * 24) (72 + m * 24) s.2.1 s.2.2.1 s.2.2.2.1 s.2.2.2.2 rs rt rl rv) ∧ (∀ m, 3 ≤ m → s.1 m = rc m) ∧ (∀ j, 72 ≤ j → s.2.1 j = rs j ∧ s.2.2.1 j = rt j ∧ s.2.2.2.1 j = rl j ∧ s.2.2.2.2 j = rv j)) 3 (rc, rs, rt, rl, rv) ⟨fun i hi => absurd hi (Nat.not_lt_zero _), fun _ _ => rfl, fun _ _ => ⟨rfl, rfl, rfl, rfl⟩⟩ ?_ ?_
  · intro n s hs
    exact br_t (nI_le (a := 3) (Nat.le_refl _) (by decide)) (k _ _ _ _ _ hs.1 hs.2.1 hs.2.2)
  · intro n l s hl hs ih
    obtain ⟨z, a, b, d, e⟩ := s
    obtain ⟨hs1, hs2, hs3⟩ := hs
    obtain ⟨hc1, hc2⟩ := hcm l hl
    dsimp only at hs1 hs2 hs3 ih ⊢
    refine br_f (nI_ge (b := 3) hl (by decide)) (te_xCR (w := 1) (by decide) hl ?_)
    rw [show z (1 * 3 + l) = nI (cm l) from (hs2 (3 + l) (by omega)).trans hc1]
    refine te_xFR (w := 0) (te_xFR (w := 1) ?_)
    rw [show (0 * 3 + l) * 24 = l * 24 by omega, show (1 * 3 + l) * 24 = 72 + l * 24 by omega]
    refine te_xCI hl hc2 (fun a' b' d' e' g1 g2 => ih (upd z l (nI (cm l)), a', b', d', e') ⟨?_, ?_, ?_⟩)
    · intro m hm
      dsimp only
      by_cases q : m = l
      · subst q
        refine ⟨pk_us, fun i hi => ?_⟩
        obtain ⟨p1, p2, p3, p4⟩ := g1 i hi
        obtain ⟨r1, r2, r3, r4⟩ := hs3 (72 + m * 24 + i) (by omega)
        exact ⟨p1.trans r1, p2.trans r2, p3.trans r3, p4.trans r4⟩
      · obtain ⟨y1, y2⟩ := hs1 m (by omega)
        obtain ⟨-, y3⟩ := hcm m (by omega)
        refine ⟨(pk_un q).trans y1, fun i hi => ?_⟩
        obtain ⟨p1, p2, p3, p4⟩ := g2 (m * 24 + i) (Or.inl (by omega))
        obtain ⟨r1, r2, r3, r4⟩ := y2 i hi
        exact ⟨p1.trans r1, p2.trans r2, p3.trans r3, p4.trans r4⟩
    · intro m hm
      dsimp only
      exact (pk_un (by omega)).trans (hs2 m hm)
    · intro j hj
      dsimp only
      obtain ⟨p1, p2, p3, p4⟩ := g2 j (Or.inr (by omega))
      obtain ⟨r1, r2, r3, r4⟩ := hs3 j hj
      exact ⟨p1.trans r1, p2.trans r2, p3.trans r3, p4.trans r4⟩
theorem te_xCoN {post : Int32 → St2 → Prop} (hP : te_P t 1 ca cn cx mb rc rs rt rl rv mem aS aT aC aP aN ns nt nc nv nN xs xt xc xv xN) (ht : t ≤ 12) (hz : ∀ n, n < cn → te_none t ((te_bp mem ca aS aT aC aP ns nt nc nv) n))
    (k : ∀ y z a b d e : Nat → Int32, te_cp 12 12 y mb → (z 0 = nI ca ∧ z 1 = nI cn ∧ z 2 = nI cx) → (∀ m, 3 ≤ m → z m = rc m) → te_eq4 ca 0 72 a b d e rs rt rl rv → te_eq4 cn 24 96 a b d e rs rt rl rv → te_eq4 cx 48 120 a b d e rs rt rl rv → (∀ j, 72 ≤ j → a j = rs j ∧ b j = rt j ∧ d j = rl j ∧ e j = rv j) → post (sq + 1) (nI t, nI cap, sq + 1, -5, -5, -5, -5, nI np, nI no, nI h, tot, y, z, a, b, d, e, pd, ot, ol, uS, uT, uC, uP, uK)) : wpX_commit post (nI t, nI cap, sq, vi, vs, vt, vp, nI np, nI no, nI h, tot, mb, rc, rs, rt, rl, rv, pd, ot, ol, uS, uT, uC, uP, uK) := by
  have hP' := hP
  obtain ⟨hm, ⟨q1, q2, q3⟩, ⟨r1, r2, r3⟩, -⟩ := hP
  unfold wpX_commit
  dsimp only
  refine te_xCR (w := 1) (l := 1) (by decide) (by decide) ?_
  rw [show rc (1 * 3 + 1) = nI cn from r2]
  refine ⟨_, te_xC3 hP' ht hz (fun m => br_t (nI_le (Nat.le_refl _) (by omega)) ?_) cn 0 (by omega)⟩
  refine te_xCM (fun y hy => ?_)
  dsimp only
  refine te_xCC (cm := fun m => if m = 0 then ca else if m = 1 then cn else cx) ?_ ?_
  · intro m hm3
    have c3 : m = 0 ∨ m = 1 ∨ m = 2 := by omega
    rcases c3 with rfl | rfl | rfl
    · exact ⟨r1, q1⟩
    · exact ⟨r2, show cn ≤ 24 by omega⟩
    · exact ⟨r3, show cx ≤ 24 by omega⟩
  · intro z a b d e g1 g2 g3
    dsimp only
    refine te_xSV (nm_e ?_)
    obtain ⟨u1, u2⟩ := g1 0 (by decide)
    obtain ⟨v1, v2⟩ := g1 1 (by decide)
    obtain ⟨w1, w2⟩ := g1 2 (by decide)
    exact k y z a b d e hy ⟨u1, v1, w1⟩ g2 u2 v2 w2 g3
end
