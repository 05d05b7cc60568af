section
variable {t cap np no h : Nat} {sq vi vs vt vp tot : Int32} {mb rc rs rt rl rv mem aS aT aC aP aN ns nt nc nv nN xs xt xc xv xN pd ot ol uS uT uC uP uK : Nat → Int32}

variable {ca cn cx : Nat}
theorem te_bpN1 {n s x : Nat} (q : te_nm mem 1 (ns (6 + n)) s s = false) : (te_bp mem ca aS aT aC aP ns nt nc nv) n s x = 0 := by
  unfold te_bp
  rw [te_rmN2 q]
  rfl
theorem te_bpN2 {n s x : Nat} (q : te_nm mem 1 (nt (6 + n)) x s = false) : (te_bp mem ca aS aT aC aP ns nt nc nv) n s x = 0 := by
  unfold te_bp
  rw [te_rmN3 q]
  rfl
theorem te_bpY {n s x : Nat} (q1 : te_nm mem 1 (ns (6 + n)) s s = true) (q2 : te_nm mem 1 (nt (6 + n)) x s = true) : (te_bp mem ca aS aT aC aP ns nt nc nv) n s x = te_vec mem 1 24 ca aS aT aC aP s x (nc (6 + n)) &&& nv (6 + n) := by
  unfold te_bp
  rw [te_rmY rfl q1 q2]
  rfl
theorem te_bpV {n s x : Nat} (q : ¬ (te_bp mem ca aS aT aC aP ns nt nc nv) n s x = 0) : (te_bp mem ca aS aT aC aP ns nt nc nv) n s x = te_vec mem 1 24 ca aS aT aC aP s x (nc (6 + n)) &&& nv (6 + n) := by
  cases q1 : te_nm mem 1 (ns (6 + n)) s s
  · exact absurd (te_bpN1 q1) q
  · cases q2 : te_nm mem 1 (nt (6 + n)) x s
    · exact absurd (te_bpN2 q2) q
    · exact te_bpY q1 q2
theorem te_yCS {post : Int32 → Prop} {J : Int32 → Prop} {n s x m : Nat} (hP : te_P t 1 ca cn cx mb rc rs rt rl rv mem aS aT aC aP aN ns nt nc nv nN xs xt xc xv xN) (ht : t ≤ 12) (hn : n < cn) (hs : s < t) (hx : x < t)
    (hz : (te_bp mem ca aS aT aC aP ns nt nc nv) n s x = 0 → wY_firstViol_18 post J (nI (6 + n)) (nI s) (nI t) (nI cap) sq vi vs vt vp (nI np) (nI no) (nI h) tot mem aS aT aC aP aN ns nt nc nv nN xs xt xc xv xN pd ot ol uS uT uC uP uK m (nI (x + 1)))
    (hb : ¬ (te_bp mem ca aS aT aC aP ns nt nc nv) n s x = 0 → post (nI (s * t + x))) : wY_firstViol_18 post J (nI (6 + n)) (nI s) (nI t) (nI cap) sq vi vs vt vp (nI np) (nI no) (nI h) tot mem aS aT aC aP aN ns nt nc nv nN xs xt xc xv xN pd ot ol uS uT uC uP uK (m + 1) (nI x) := by
  have hP' := hP
  obtain ⟨hm, ⟨q1, q2, q3⟩, -, -, -, l2, -⟩ := hP
  obtain ⟨-, m1, m2, -⟩ := l2 n hn
  have hi : vp_in (nI (6 + n)) 12 := vp_in_nI (by omega) (by decide)
  refine br_f (nI_ge hx (by omega)) ?_
  rw [nI_clamp (show 6 + n < 2 ^ 31 by omega)]
  refine ⟨hi, te_yNm (w := 1) hm (by decide) ht (Or.inl m1) hs hs ?_⟩
  show ((te_b (te_nm mem 1 (ns (6 + n)) s s) = 0 → _) ∧ _)
  cases z1 : te_nm mem 1 (ns (6 + n)) s s
  · exact br_t rfl (nm_r (nI_1 x) (hz (te_bpN1 z1)))
  · refine br_f (by decide) ⟨hi, te_yNm (w := 1) hm (by decide) ht m2 hx hs ?_⟩
    show ((te_b (te_nm mem 1 (nt (6 + n)) x s) = 0 → _) ∧ _)
    cases z2 : te_nm mem 1 (nt (6 + n)) x s
    · exact br_t rfl (nm_r (nI_1 x) (hz (te_bpN2 z2)))
    · refine br_f (by decide) ⟨hi, te_yVe (w := 1) hP' (by decide) ht hs hx ⟨hi, br_c (fun z => nm_r (nI_1 x) (hz ((te_bpY z1 z2).trans z))) (fun z => ?_)⟩⟩
      have q := hb (fun e => z ((te_bpY z1 z2).symm.trans e))
      rw [← nI_add, ← pk_mul] at q
      exact q
theorem te_yF1 {post : Int32 → Prop} {J : Int32 → Prop} {n s : Nat} (hP : te_P t 1 ca cn cx mb rc rs rt rl rv mem aS aT aC aP aN ns nt nc nv nN xs xt xc xv xN) (ht : t ≤ 12) (hn : n < cn) (hs : s < t)
    (hz : ∀ y, y < t → (te_bp mem ca aS aT aC aP ns nt nc nv) n s y = 0) (k : J (nI (s + 1))) : ∀ d x, x + d = t → wY_firstViol_18 post J (nI (6 + n)) (nI s) (nI t) (nI cap) sq vi vs vt vp (nI np) (nI no) (nI h) tot mem aS aT aC aP aN ns nt nc nv nN xs xt xc xv xN pd ot ol uS uT uC uP uK (d + 1) (nI x) := by
  intro d
  induction d with
  | zero =>
    intro x hx
    exact br_t (nI_le (by omega) (by omega)) (nm_r (nI_1 s) k)
  | succ d ih => exact fun x hx => te_yCS hP ht hn hs (by omega) (fun _ => ih (x + 1) (by omega)) (fun z => absurd (hz x (by omega)) z)
theorem te_yF1h {post : Int32 → Prop} {J : Int32 → Prop} {n s x0 : Nat} (hP : te_P t 1 ca cn cx mb rc rs rt rl rv mem aS aT aC aP aN ns nt nc nv nN xs xt xc xv xN) (ht : t ≤ 12) (hn : n < cn) (hs : s < t) (hx0 : x0 < t)
    (hz : ∀ y, y < x0 → (te_bp mem ca aS aT aC aP ns nt nc nv) n s y = 0) (hb : ¬ (te_bp mem ca aS aT aC aP ns nt nc nv) n s x0 = 0) (k : post (nI (s * t + x0))) : ∀ d x, x + d = x0 → wY_firstViol_18 post J (nI (6 + n)) (nI s) (nI t) (nI cap) sq vi vs vt vp (nI np) (nI no) (nI h) tot mem aS aT aC aP aN ns nt nc nv nN xs xt xc xv xN pd ot ol uS uT uC uP uK (d + 1) (nI x) := by
  intro d
  induction d with
  | zero =>
    intro x hx
    have e : x = x0 := by omega
    subst e
    exact te_yCS hP ht hn hs hx0 (fun z => absurd z hb) (fun _ => k)
  | succ d ih => exact fun x hx => te_yCS hP ht hn hs (by omega) (fun _ => ih (x + 1) (by omega)) (fun z => absurd (hz x (by omega)) z)
theorem te_yFN {post : Int32 → Prop} {n : Nat} (hP : te_P t 1 ca cn cx mb rc rs rt rl rv mem aS aT aC aP aN ns nt nc nv nN xs xt xc xv xN) (ht : t ≤ 12) (hn : n < cn)
    (hz : te_none t ((te_bp mem ca aS aT aC aP ns nt nc nv) n)) (k : post (-1)) : wpY_firstViol post (nI t, nI cap, sq, vi, vs, vt, vp, nI np, nI no, nI h, tot, mem, aS, aT, aC, aP, aN, ns, nt, nc, nv, nN, xs, xt, xc, xv, xN, pd, ot, ol, uS, uT, uC, uP, uK) (nI n) := by
  have L : ∀ d s, s + d = t → wY_firstViol_7 post (nI (6 + n)) (nI t) (nI cap) sq vi vs vt vp (nI np) (nI no) (nI h) tot mem aS aT aC aP aN ns nt nc nv nN xs xt xc xv xN pd ot ol uS uT uC uP uK (d + 1) (nI s) := by
    intro d
    induction d with
    | zero =>
      intro s hs
      exact br_t (nI_le (by omega) (by omega)) k
    | succ d ih =>
      intro s hs
      exact br_f (nI_ge (by omega) (by omega)) ⟨_, te_yF1 hP ht hn (by omega) (fun y hy => hz s y (by omega) hy) (ih (s + 1) (by omega)) t 0 (by omega)⟩
  exact nm_r (nI_add 6 n) ⟨_, L t 0 (by omega)⟩
theorem te_yFH {post : Int32 → Prop} {n s0 x0 : Nat} (hP : te_P t 1 ca cn cx mb rc rs rt rl rv mem aS aT aC aP aN ns nt nc nv nN xs xt xc xv xN) (ht : t ≤ 12) (hn : n < cn)
    (ho : te_one t ((te_bp mem ca aS aT aC aP ns nt nc nv) n) s0 x0) (k : post (nI (s0 * t + x0))) : wpY_firstViol post (nI t, nI cap, sq, vi, vs, vt, vp, nI np, nI no, nI h, tot, mem, aS, aT, aC, aP, aN, ns, nt, nc, nv, nN, xs, xt, xc, xv, xN, pd, ot, ol, uS, uT, uC, uP, uK) (nI n) := by
  obtain ⟨⟨hs0, hx0⟩, hb, hl, hr⟩ := ho
  have L : ∀ d s, s + d = s0 → wY_firstViol_7 post (nI (6 + n)) (nI t) (nI cap) sq vi vs vt vp (nI np) (nI no) (nI h) tot mem aS aT aC aP aN ns nt nc nv nN xs xt xc xv xN pd ot ol uS uT uC uP uK (d + 1) (nI s) := by
    intro d
    induction d with
    | zero =>
      intro s hs
      have e : s = s0 := by omega
      subst e
      exact br_f (nI_ge (by omega) (by omega)) ⟨_, te_yF1h hP ht hn hs0 hx0 hr hb k x0 0 (by omega)⟩
    | succ d ih =>
      intro s hs
      exact br_f (nI_ge (by omega) (by omega)) ⟨_, te_yF1 hP ht hn (by omega) (fun y hy => hl s y (by omega) hy) (ih (s + 1) (by omega)) t 0 (by omega)⟩
  exact nm_r (nI_add 6 n) ⟨_, L s0 0 (by omega)⟩
theorem te_ym1 : (-1 : Int32) < 0 := by decide
theorem te_yCoV {post : Int32 → SY → Prop} {n0 s0 x0 : Nat} (hP : te_P t 1 ca cn cx mb rc rs rt rl rv mem aS aT aC aP aN ns nt nc nv nN xs xt xc xv xN) (ht4 : 4 ≤ t) (ht : t ≤ 12) (hn0 : n0 < cn)
    (hz : ∀ m, m < n0 → te_none t ((te_bp mem ca aS aT aC aP ns nt nc nv) m)) (ho : te_one t ((te_bp mem ca aS aT aC aP ns nt nc nv) n0) s0 x0) (k : post (-3) (nI t, nI cap, sq, nI n0, nI s0, nI x0, te_bp mem ca aS aT aC aP ns nt nc nv n0 s0 x0, nI np, nI no, nI h, tot, mem, aS, aT, aC, aP, aN, ns, nt, nc, nv, nN, xs, xt, xc, xv, xN, pd, ot, ol, uS, uT, uC, uP, uK)) : wpY_commit post (nI t, nI cap, sq, vi, vs, vt, vp, nI np, nI no, nI h, tot, mem, aS, aT, aC, aP, aN, ns, nt, nc, nv, nN, xs, xt, xc, xv, xN, pd, ot, ol, uS, uT, uC, uP, uK) := by
  have q2 := hP.2.1.2.1
  have hN : nN 1 = nI cn := hP.2.2.2.1.2.1
  have hs0 := ho.1.1
  have hx0 := ho.1.2
  have hst : s0 * t + x0 < 2 ^ 31 := by
    have : s0 * t ≤ 12 * 12 := Nat.mul_le_mul (by omega) (by omega)
    omega
  have ht0 : ¬ nI t = 0 := nI_ne0 (by omega) (by omega)
  have hi : vp_in (nI (6 + n0)) 12 := vp_in_nI (by omega) (by decide)
  have L : ∀ d n, n + d = n0 → wY_commit_2 post (nI t) (nI cap) sq vi vs vt vp (nI np) (nI no) (nI h) tot mem aS aT aC aP aN ns nt nc nv nN xs xt xc xv xN pd ot ol uS uT uC uP uK (d + 1) (nI n) := by
    intro d
    induction d with
    | zero =>
      intro n hn
      have e : n = n0 := by omega
      subst e
      unfold wY_commit_2
      rw [hN]
      refine br_f (nI_ge (by omega) (by omega)) (te_yFH hP ht hn0 ho (br_f (nI_pos hst) ⟨ht0, ?_⟩))
      rw [pk_rem hst (by omega) (by omega), pk_div hst (by omega) (by omega), te_dv hx0, te_md hx0]
      refine nm_e ⟨ht0, nm_e (nm_r (nI_add 6 n) ⟨hi, ?_⟩)⟩
      rw [nI_clamp (show 6 + n < 2 ^ 31 by omega)]
      refine te_yVe (w := 1) hP (by decide) ht hs0 hx0 ⟨hi, nm_r (te_bpV ho.2.1).symm k⟩
    | succ d ih =>
      intro n hn
      unfold wY_commit_2
      rw [hN]
      exact br_f (nI_ge (by omega) (by omega)) (te_yFN hP ht (by omega) (hz n (by omega)) (br_t te_ym1 (nm_r (nI_1 n) (ih (n + 1) (by omega)))))
  exact ⟨_, L n0 0 (by omega)⟩
theorem te_m01 (hP : te_P t 1 ca cn cx mb rc rs rt rl rv mem aS aT aC aP aN ns nt nc nv nN xs xt xc xv xN) {j : Nat} (hj : j < 96) : mem (96 + j) = 0 ∨ mem (96 + j) = 1 := by
  have e := hP.1 (j / 8) (j % 8) (by omega) (by omega)
  rw [show 1 * 96 + j / 8 * 8 + j % 8 = 96 + j by omega] at e
  rw [e]
  exact te_bv01 _ _
theorem te_yK3 {post : Int32 → SY → Prop} (k : ∀ a b d e : Nat → Int32, te_cp 12 12 a xs → te_cp 12 12 b xt → te_cp 12 12 d xc → te_cp 12 12 e xv → post (sq + 1) (nI t, nI cap, sq + 1, -5, -5, -5, -5, nI np, nI no, nI h, tot, mem, aS, aT, aC, aP, upd aN 0 (aN 1), ns, nt, nc, nv, upd nN 0 (nN 1), a, b, d, e, upd xN 0 (xN 1), pd, ot, ol, uS, uT, uC, uP, uK)) :
    ∃ n, wY_commit_274 post (nI t) (nI cap) sq vi vs vt vp (nI np) (nI no) (nI h) tot n 0 mem aS aT aC aP aN ns nt nc nv nN xs xt xc xv xN pd ot ol uS uT uC uP uK := by
  refine loop_0 (fun n i (s : (Nat → Int32) × (Nat → Int32) × (Nat → Int32) × (Nat → Int32)) => wY_commit_274 post (nI t) (nI cap) sq vi vs vt vp (nI np) (nI no) (nI h) tot n (nI i) mem aS aT aC aP aN ns nt nc nv nN s.1 s.2.1 s.2.2.1 s.2.2.2 xN pd ot ol uS uT uC uP uK)
    (fun i s => te_cp 12 i s.1 xs ∧ te_cp 12 i s.2.1 xt ∧ te_cp 12 i s.2.2.1 xc ∧ te_cp 12 i s.2.2.2 xv) 12 (xs, xt, xc, xv) ⟨te_cp0, te_cp0, te_cp0, te_cp0⟩ ?_ ?_
  · intro n s hs
    exact br_t (nI_le (a := 12) (Nat.le_refl _) (by decide)) (nm_e (nm_e (nm_e (nm_e (k _ _ _ _ hs.1 hs.2.1 hs.2.2.1 hs.2.2.2)))))
  · intro n i s hi hs ih
    obtain ⟨a, b, d, e⟩ := s
    obtain ⟨h1, h2, h3, h4⟩ := hs
    dsimp only at h1 h2 h3 h4 ih ⊢
    have v1 : vp_in (nI (12 + i)) 24 := vp_in_nI (by omega) (by decide)
    have v2 : vp_in (nI i) 24 := vp_in_nI (by omega) (by decide)
    refine br_f (nI_ge (b := 12) hi (by decide)) ?_
    rw [show (12 : Int32) + nI i = nI (12 + i) from nI_add 12 i, nI_clamp (show 12 + i < 2 ^ 31 by omega), nI_clamp (show i < 2 ^ 31 by omega)]
    exact ⟨v1, v2, nm_e ⟨v1, v2, nm_e ⟨v1, v2, nm_e ⟨v1, v2, nm_e (nm_r (nI_1 i) (ih (upd a i (a (12 + i)), upd b i (b (12 + i)), upd d i (d (12 + i)), upd e i (e (12 + i))) ⟨te_cpS h1 rfl, te_cpS h2 rfl, te_cpS h3 rfl, te_cpS h4 rfl⟩))⟩⟩⟩⟩
theorem te_yK2 {post : Int32 → SY → Prop} (k : ∀ a b d e : Nat → Int32, te_cp 6 6 a ns → te_cp 6 6 b nt → te_cp 6 6 d nc → te_cp 6 6 e nv → ∃ n, wY_commit_274 post (nI t) (nI cap) sq vi vs vt vp (nI np) (nI no) (nI h) tot n 0 mem aS aT aC aP aN a b d e nN xs xt xc xv xN pd ot ol uS uT uC uP uK) :
    ∃ n, wY_commit_200 post (nI t) (nI cap) sq vi vs vt vp (nI np) (nI no) (nI h) tot n 0 mem aS aT aC aP aN ns nt nc nv nN xs xt xc xv xN pd ot ol uS uT uC uP uK := by
  refine loop_0 (fun n i (s : (Nat → Int32) × (Nat → Int32) × (Nat → Int32) × (Nat → Int32)) => wY_commit_200 post (nI t) (nI cap) sq vi vs vt vp (nI np) (nI no) (nI h) tot n (nI i) mem aS aT aC aP aN s.1 s.2.1 s.2.2.1 s.2.2.2 nN xs xt xc xv xN pd ot ol uS uT uC uP uK)
    (fun i s => te_cp 6 i s.1 ns ∧ te_cp 6 i s.2.1 nt ∧ te_cp 6 i s.2.2.1 nc ∧ te_cp 6 i s.2.2.2 nv) 6 (ns, nt, nc, nv) ⟨te_cp0, te_cp0, te_cp0, te_cp0⟩ ?_ ?_
  · intro n s hs
    exact br_t (nI_le (a := 6) (Nat.le_refl _) (by decide)) (k _ _ _ _ hs.1 hs.2.1 hs.2.2.1 hs.2.2.2)
  · intro n i s hi hs ih
    obtain ⟨a, b, d, e⟩ := s
    obtain ⟨h1, h2, h3, h4⟩ := hs
    dsimp only at h1 h2 h3 h4 ih ⊢
    have v1 : vp_in (nI (6 + i)) 12 := vp_in_nI (by omega) (by decide)
    have v2 : vp_in (nI i) 12 := vp_in_nI (by omega) (by decide)
    refine br_f (nI_ge (b := 6) hi (by decide)) ?_
    rw [show (6 : Int32) + nI i = nI (6 + i) from nI_add 6 i, nI_clamp (show 6 + i < 2 ^ 31 by omega), nI_clamp (show i < 2 ^ 31 by omega)]
    exact ⟨v1, v2, nm_e ⟨v1, v2, nm_e ⟨v1, v2, nm_e ⟨v1, v2, nm_e (nm_r (nI_1 i) (ih (upd a i (a (6 + i)), upd b i (b (6 + i)), upd d i (d (6 + i)), upd e i (e (6 + i))) ⟨te_cpS h1 rfl, te_cpS h2 rfl, te_cpS h3 rfl, te_cpS h4 rfl⟩))⟩⟩⟩⟩
theorem te_yK1 {post : Int32 → SY → Prop} (k : ∀ a b d e : Nat → Int32, te_cp 24 24 a aS → te_cp 24 24 b aT → te_cp 24 24 d aC → te_cp 24 24 e aP → ∃ n, wY_commit_200 post (nI t) (nI cap) sq vi vs vt vp (nI np) (nI no) (nI h) tot n 0 mem a b d e aN ns nt nc nv nN xs xt xc xv xN pd ot ol uS uT uC uP uK) :
    ∃ n, wY_commit_126 post (nI t) (nI cap) sq vi vs vt vp (nI np) (nI no) (nI h) tot n 0 mem aS aT aC aP aN ns nt nc nv nN xs xt xc xv xN pd ot ol uS uT uC uP uK := by
  refine loop_0 (fun n i (s : (Nat → Int32) × (Nat → Int32) × (Nat → Int32) × (Nat → Int32)) => wY_commit_126 post (nI t) (nI cap) sq vi vs vt vp (nI np) (nI no) (nI h) tot n (nI i) mem s.1 s.2.1 s.2.2.1 s.2.2.2 aN ns nt nc nv nN xs xt xc xv xN pd ot ol uS uT uC uP uK)
    (fun i s => te_cp 24 i s.1 aS ∧ te_cp 24 i s.2.1 aT ∧ te_cp 24 i s.2.2.1 aC ∧ te_cp 24 i s.2.2.2 aP) 24 (aS, aT, aC, aP) ⟨te_cp0, te_cp0, te_cp0, te_cp0⟩ ?_ ?_
  · intro n s hs
    exact br_t (nI_le (a := 24) (Nat.le_refl _) (by decide)) (k _ _ _ _ hs.1 hs.2.1 hs.2.2.1 hs.2.2.2)
  · intro n i s hi hs ih
    obtain ⟨a, b, d, e⟩ := s
    obtain ⟨h1, h2, h3, h4⟩ := hs
    dsimp only at h1 h2 h3 h4 ih ⊢
    have v1 : vp_in (nI (24 + i)) 48 := vp_in_nI (by omega) (by decide)
    have v2 : vp_in (nI i) 48 := vp_in_nI (by omega) (by decide)
    refine br_f (nI_ge (b := 24) hi (by decide)) ?_
    rw [show (24 : Int32) + nI i = nI (24 + i) from nI_add 24 i, nI_clamp (show 24 + i < 2 ^ 31 by omega), nI_clamp (show i < 2 ^ 31 by omega)]
    exact ⟨v1, v2, nm_e ⟨v1, v2, nm_e ⟨v1, v2, nm_e ⟨v1, v2, nm_e (nm_r (nI_1 i) (ih (upd a i (a (24 + i)), upd b i (b (24 + i)), upd d i (d (24 + i)), upd e i (e (24 + i))) ⟨te_cpS h1 rfl, te_cpS h2 rfl, te_cpS h3 rfl, te_cpS h4 rfl⟩))⟩⟩⟩⟩

theorem te_yCoN {post : Int32 → SY → Prop} (hP : te_P t 1 ca cn cx mb rc rs rt rl rv mem aS aT aC aP aN ns nt nc nv nN xs xt xc xv xN) (ht : t ≤ 12) (hz : ∀ n, n < cn → te_none t ((te_bp mem ca aS aT aC aP ns nt nc nv) n))
    (k : ∀ y a1 b1 d1 e1 a2 b2 d2 e2 a3 b3 d3 e3 : Nat → Int32, te_cp 96 96 y mem → (te_cp 24 24 a1 aS ∧ te_cp 24 24 b1 aT ∧ te_cp 24 24 d1 aC ∧ te_cp 24 24 e1 aP) → (te_cp 6 6 a2 ns ∧ te_cp 6 6 b2 nt ∧ te_cp 6 6 d2 nc ∧ te_cp 6 6 e2 nv) → (te_cp 12 12 a3 xs ∧ te_cp 12 12 b3 xt ∧ te_cp 12 12 d3 xc ∧ te_cp 12 12 e3 xv) → post (sq + 1) (nI t, nI cap, sq + 1, -5, -5, -5, -5, nI np, nI no, nI h, tot, y, a1, b1, d1, e1, upd aN 0 (aN 1), a2, b2, d2, e2, upd nN 0 (nN 1), a3, b3, d3, e3, upd xN 0 (xN 1), pd, ot, ol, uS, uT, uC, uP, uK)) : wpY_commit post (nI t, nI cap, sq, vi, vs, vt, vp, nI np, nI no, nI h, tot, mem, aS, aT, aC, aP, aN, ns, nt, nc, nv, nN, xs, xt, xc, xv, xN, pd, ot, ol, uS, uT, uC, uP, uK) := by
  have q2 := hP.2.1.2.1
  have hN : nN 1 = nI cn := hP.2.2.2.1.2.1
  have M : ∃ n, wY_commit_97 post (nI t) (nI cap) sq vi vs vt vp (nI np) (nI no) (nI h) tot n 0 mem aS aT aC aP aN ns nt nc nv nN xs xt xc xv xN pd ot ol uS uT uC uP uK := by
    refine loop_0 (fun n i s => wY_commit_97 post (nI t) (nI cap) sq vi vs vt vp (nI np) (nI no) (nI h) tot n (nI i) s aS aT aC aP aN ns nt nc nv nN xs xt xc xv xN pd ot ol uS uT uC uP uK) (fun i s => te_cp 96 i s mem) 96 mem te_cp0 ?_ ?_
    · intro n y hy
      exact br_t (nI_le (a := 96) (Nat.le_refl _) (by decide)) (te_yK1 (fun a1 b1 d1 e1 p1 p2 p3 p4 => te_yK2 (fun a2 b2 d2 e2 r1 r2 r3 r4 => te_yK3 (fun a3 b3 d3 e3 s1 s2 s3 s4 => k y a1 b1 d1 e1 a2 b2 d2 e2 a3 b3 d3 e3 hy ⟨p1, p2, p3, p4⟩ ⟨r1, r2, r3, r4⟩ ⟨s1, s2, s3, s4⟩))))
    · intro n i s hi hs ih
      have e : vp_nar .boolean (s (96 + i)) = s (96 + i) := by
        apply te_vb
        rw [hs.2 (96 + i) (by omega)]
        exact te_m01 hP hi
      refine br_f (nI_ge (b := 96) hi (by decide)) ?_
      rw [show (96 : Int32) + nI i = nI (96 + i) from nI_add 96 i, nI_clamp (show 96 + i < 2 ^ 31 by omega), nI_clamp (show i < 2 ^ 31 by omega), e]
      exact ⟨vp_in_nI (by omega) (by decide), vp_in_nI (by omega) (by decide), nm_e (nm_r (nI_1 i) (ih _ (te_cpS hs rfl)))⟩
  have L : ∀ d n, n + d = cn → wY_commit_2 post (nI t) (nI cap) sq vi vs vt vp (nI np) (nI no) (nI h) tot mem aS aT aC aP aN ns nt nc nv nN xs xt xc xv xN pd ot ol uS uT uC uP uK (d + 1) (nI n) := by
    intro d
    induction d with
    | zero =>
      intro n hn
      unfold wY_commit_2
      rw [hN]
      exact br_t (nI_le (by omega) (by omega)) M
    | succ d ih =>
      intro n hn
      unfold wY_commit_2
      rw [hN]
      exact br_f (nI_ge (by omega) (by omega)) (te_yFN hP ht (by omega) (hz n (by omega)) (br_t te_ym1 (nm_r (nI_1 n) (ih (n + 1) (by omega)))))
  exact ⟨_, L cn 0 (by omega)⟩
end
