theorem te_knl (o a : Nat) : te_kn o a ≤ 5 := by
  unfold te_kn
  by_cases h1 : 2 < o
  · rw [if_pos h1]
    by_cases h2 : o = 3
    · rw [if_pos h2]; decide
    rw [if_neg h2]
    by_cases h3 : o = 9
    · rw [if_pos h3]; decide
    rw [if_neg h3]
    by_cases h4 : o = 4
    · rw [if_pos h4]; decide
    rw [if_neg h4]
    by_cases h5 : o = 5
    · rw [if_pos h5]; decide
    rw [if_neg h5]
    by_cases h6 : 7 < o
    · rw [if_pos h6]
      by_cases h7 : a = 0
      · rw [if_pos h7]; decide
      · rw [if_neg h7]; decide
    · rw [if_neg h6]; decide
  · rw [if_neg h1]; decide
section
variable {L : Nat} {zs : Nat → Int32} {h : Nat} {sq vi vs vt vp tot : Int32} {mb rc rs rt rl rv mem aS aT aC aP aN ns nt nc nv nN xs xt xc xv xN pd ot ol uS uT uC uP uK : Nat → Int32} {ca cn cx : Nat}
variable {post : Int32 → Prop} {J93 : Int32 → Int32 → Int32 → Int32 → Int32 → Int32 → Int32 → Int32 → Int32 → Int32 → Int32 → Int32 → Int32 → Int32 → Int32 → (Nat → Int32) → (Nat → Int32) → (Nat → Int32) → (Nat → Int32) → (Nat → Int32) → (Nat → Int32) → (Nat → Int32) → (Nat → Int32) → (Nat → Int32) → (Nat → Int32) → (Nat → Int32) → (Nat → Int32) → (Nat → Int32) → (Nat → Int32) → Prop} {J456 J465 J474 : Int32 → Int32 → Int32 → Int32 → Int32 → Int32 → Int32 → Int32 → Int32 → Int32 → Int32 → Int32 → (Nat → Int32) → (Nat → Int32) → (Nat → Int32) → (Nat → Int32) → (Nat → Int32) → (Nat → Int32) → (Nat → Int32) → (Nat → Int32) → (Nat → Int32) → (Nat → Int32) → (Nat → Int32) → (Nat → Int32) → (Nat → Int32) → (Nat → Int32) → Prop} {J715 : Int32 → Int32 → Prop} {J828 : Int32 → Prop} {x2 x3 x4 x5 x6 x7 x8 M : Int32} {kc ks : Nat}

theorem te_c837 {src tgt pv x10 x11 : Int32} {s c : Nat} (hP : te_P 4 0 ca cn cx mb rc rs rt rl rv mem aS aT aC aP aN ns nt nc nv nN xs xt xc xv xN) (hM : te_MK M mem) (hs1 : te_ln src) (hs2 : te_ln tgt) (hs : s < 4) (hc : c < 4)
    (nvh : ∀ x, x < 4 → te_nm mem 0 src s s = true → te_nm mem 0 tgt x s = true → te_vec mem 0 0 ca aS aT aC aP s x (nI c) &&& pv = 0) (k : J828 (nI (s + 1))) :
    ∀ d x, x + d = 4 → wL_law_837 post L zs J93 J715 J828 x2 x3 x4 x5 x6 x8 M x10 x11 src tgt (nI c) pv (nI s) kc ks (nI 4) (nI 8) sq vi vs vt vp (nI 4) (nI 16) (nI h) tot mb rc rs rt rl rv pd ot ol uS uT uC uP uK (d + 1) (nI x) := by
  intro d
  induction d with
  | zero =>
    intro x hx
    exact br_t (nI_le (a := 4) (by omega) (by omega)) (nm_r (nI_1 s) k)
  | succ d ih =>
    intro x hx
    have ih' := ih (x + 1) (by omega)
    refine br_f (nI_ge (b := 4) (by omega) (by decide)) (te_lMt hM hs1 hs hs ?_)
    cases q1 : te_nm mem 0 src s s
    · exact br_t rfl (nm_r (nI_1 x) ih')
    · refine br_f (by decide) (te_lMt hM hs2 (by omega) hs ?_)
      cases q2 : te_nm mem 0 tgt x s
      · exact br_t rfl (nm_r (nI_1 x) ih')
      · exact br_f (by decide) (te_oD hP (by decide) hs (by omega) hc (br_t (nvh x (by omega) q1 q2) (nm_r (nI_1 x) ih')))
theorem te_c828 {src tgt pv : Int32} {c p j : Nat} (hP : te_P 4 0 ca cn cx mb rc rs rt rl rv mem aS aT aC aP aN ns nt nc nv nN xs xt xc xv xN) (hM : te_MK M mem) (hs1 : te_ln src) (hs2 : te_ln tgt) (hc : c < 4)
    (nvh : ∀ s x, s < 4 → x < 4 → te_nm mem 0 src s s = true → te_nm mem 0 tgt x s = true → te_vec mem 0 0 ca aS aT aC aP s x (nI c) &&& pv = 0) (k : J715 (nI (p + 1)) (nI (j + 1))) :
    ∀ d s, s + d = 4 → wL_law_828 post L zs J93 J715 x2 x3 x4 x5 x6 x8 M (nI p) (nI j) src tgt (nI c) pv kc ks (nI 4) (nI 8) sq vi vs vt vp (nI 4) (nI 16) (nI h) tot mb rc rs rt rl rv pd ot ol uS uT uC uP uK (d + 1) (nI s) := by
  intro d
  induction d with
  | zero =>
    intro s hs
    exact br_t (nI_le (a := 4) (by omega) (by omega)) (nm_r (nI_1 p) (nm_r (nI_1 j) k))
  | succ d ih =>
    intro s hs
    exact br_f (nI_ge (b := 4) (by omega) (by decide)) ⟨_, te_c837 hP hM hs1 hs2 (by omega) hc (fun x hx => nvh s x (by omega) hx) (ih (s + 1) (by omega)) 4 0 (by omega)⟩
theorem te_c715 {cc cp : Nat} (hL : L ≤ 260) (hcp : cp < 100) (hP : te_P 4 0 ca cn cx mb rc rs rt rl rv mem aS aT aC aP aN ns nt nc nv nN xs xt xc xv xN) (hM : te_MK M mem) (g3 : te_GR (te_dK L zs) 2 6 cc (cp - 1) cn 0 (te_dS L zs) (te_dT L zs) (te_dC L zs) (te_dV L zs) ns nt nc nv) (nvh : ∀ n s x, n < cn → s < 4 → x < 4 → te_nm mem 0 (ns n) s s = true → te_nm mem 0 (nt n) x s = true → te_vec mem 0 0 ca aS aT aC aP s x (nc n) &&& nv n = 0)
    (k : J93 x3 x4 x5 (x6 + 1) (nI 4) (nI 8) sq vi vs vt vp (nI 4) (nI 16) (nI h) tot mb rc rs rt rl rv pd ot ol uS uT uC uP uK) :
    ∀ d j, j + d = cp - 1 → cc ≤ j → wL_law_715 post L zs J93 x2 x3 x4 x5 x6 (te_im cp) M kc ks (nI 4) (nI 8) sq vi vs vt vp (nI 4) (nI 16) (nI h) tot mb rc rs rt rl rv pd ot ol uS uT uC uP uK (d + 1) (nI (te_ct (te_dK L zs) 2 cc j)) (nI j) := by
  intro d
  induction d with
  | zero =>
    intro j hj hcj
    exact br_t ((te_imle (by omega) (by omega)).mpr (by omega)) (nm_e k)
  | succ d ih =>
    intro j hj hcj
    have ih' := ih (j + 1) (by omega) (by omega)
    have hct := te_ctle (K := te_dK L zs) (k := 2) (a := cc) j
    refine br_f (fun z => absurd ((te_imle (by omega) (by omega)).mp z) (by omega)) (nm_r (pk_mul 5 j) ?_)
    refine te_lCe (5 * j) hL (by omega) ?_ rfl
    refine te_lCe (5 * j + 1) hL (by omega) ?_ (nI_1 _)
    refine te_lKd (pk_eq (te_dK L zs j) 2 (fun k2 => ?_) (fun k2 => nm_r (nI_1 j) ?_) (by rfl) (by rfl) ?_ (by decide))
    · rw [te_ctY hcj k2] at ih'
      refine pk_le 6 (te_ct (te_dK L zs) 2 cc j) (fun q => nm_r (nI_1 _) (nm_r (nI_1 j) ih')) (fun q => ?_)
      refine te_lCe (5 * j + 1) hL (by omega) ?_ (nI_1 _)
      refine te_lMd 8 (by decide) (by decide) (fun l1 => te_lSr l1 ?_)
      refine te_lCe (5 * j + 2) hL (by omega) ?_ (nI_add _ 2)
      refine te_lMd 9 (by decide) (by decide) (fun l2 => te_lTg l2 ?_)
      refine te_lCe (5 * j + 3) hL (by omega) ?_ (nI_add _ 3)
      refine te_lMd 4 (by decide) (by decide) (fun l3 => ?_)
      refine te_lCe (5 * j + 4) hL (by omega) ?_ (nI_add _ 4)
      refine te_lMd 5 (by decide) (by decide) (fun l4 => nm_e ⟨_, te_c828 hP hM (te_srL l1) (te_tgL l2) l3 (fun s x hs hx m1 m2 => ?_) ih' 4 0 (by omega)⟩)
      obtain ⟨w1, w2, w3, w4⟩ := g3.2 j hcj (by omega) k2 q
      rw [Nat.zero_add] at w1 w2 w3 w4
      have hlt := te_ctl (K := te_dK L zs) (k := 2) hcj (show j < cp - 1 by omega) k2
      have hcn : (te_ct (te_dK L zs) 2 cc j) < cn := by
        have := g3.1
        omega
      have r := nvh _ s x hcn hs hx
      rw [w1, w2, w3, w4] at r
      exact r m1 m2
    · rw [te_ctN k2] at ih'
      exact ih'
    · have : te_dK L zs j ≤ 5 := te_knl _ _
      omega
theorem te_c490 {cc cp s x c : Nat} (hL : L ≤ 260) (hcp : cp < 100) (hP : te_P 4 0 ca cn cx mb rc rs rt rl rv mem aS aT aC aP aN ns nt nc nv nN xs xt xc xv xN) (hM : te_MK M mem) (g2 : te_GR (te_dK L zs) 0 24 cc (cp - 1) ca 0 (te_dS L zs) (te_dT L zs) (te_dC L zs) (te_dP L zs) aS aT aC aP) (hs : s < 4) (hx : x < 4) (hc : c < 4) (hh : h ≤ 8)
    (hpd : ∀ p, p < 4 → pd p = nI p) (hot : ∀ x c, x < 4 → c < 4 → ot (4 * x + c) = nI x ∧ ol (4 * x + c) = nI c)
    (k : ∀ (h1 : Nat) (tot1 : Int32) (S1 T1 C1 P1 K1 : Nat → Int32), h1 ≤ 8 → J474 (nI (c + 1)) (nI 4) (nI 8) sq vi vs vt vp (nI 4) (nI 16) (nI h1) tot1 mb rc rs rt rl rv pd ot ol S1 T1 C1 P1 K1) :
    ∀ d j, j + d = cp - 1 → cc ≤ j → wL_law_490 post L zs J93 J456 J465 J474 x2 x3 x4 x5 x6 x7 (te_im cp) M (nI s) (nI x) (nI c) kc ks (nI 4) (nI 8) sq vi vs vt vp (nI 4) (nI 16) (nI h) tot mb rc rs rt rl rv pd ot ol uS uT uC uP uK (d + 1) (te_or (fun i => te_rm mem 0 aS aT aC (0 + i) s x (nI c)) (fun i => aP (0 + i)) (min 24 (te_ct (te_dK L zs) 0 cc j))) (nI (te_ct (te_dK L zs) 0 cc j)) (nI j) := by
  intro d
  induction d with
  | zero =>
    intro j hj hcj
    have ej : j = cp - 1 := by omega
    have eca : min 24 (te_ct (te_dK L zs) 0 cc j) = ca := by rw [ej]; exact g2.1.symm
    rw [eca]
    refine br_t ((te_imle (by omega) (by omega)).mpr (by omega)) (te_oD hP (by decide) hs hx hc (br_t rfl ?_))
    rw [show (4 : Int32) * nI x + nI c = nI (4 * x + c) from (congrArg (· + nI c) (pk_mul 4 x)).trans (nI_add _ _)]
    refine te_oK hP (by decide) (by decide) (by decide) hh (by decide) (by decide) hs (by omega) (hpd s hs) (hot x c hx hc).1 (hot x c hx hc).2 hs hx (fun h1 tot1 S1 T1 C1 P1 K1 q => ?_)
    exact br_t rfl (nm_r (nI_1 c) (k h1 tot1 S1 T1 C1 P1 K1 q))
  | succ d ih =>
    intro j hj hcj
    have ih' := ih (j + 1) (by omega) (by omega)
    have hct := te_ctle (K := te_dK L zs) (k := 0) (a := cc) j
    refine br_f (fun z => absurd ((te_imle (by omega) (by omega)).mp z) (by omega)) (nm_r (pk_mul 5 j) ?_)
    refine te_lCe (5 * j) hL (by omega) ?_ rfl
    refine te_lCe (5 * j + 1) hL (by omega) ?_ (nI_1 _)
    refine te_lKd (pk_eq (te_dK L zs j) 0 (fun k0 => ?_) (fun k0 => nm_r (nI_1 j) ?_) (by rfl) (by rfl) ?_ (by decide))
    · rw [te_ctY hcj k0] at ih'
      refine pk_le 24 (te_ct (te_dK L zs) 0 cc j) (fun q => nm_r (nI_1 _) (nm_r (nI_1 j) ?_)) (fun q => ?_)
      · rw [show min 24 ((te_ct (te_dK L zs) 0 cc j) + 1) = min 24 (te_ct (te_dK L zs) 0 cc j) by omega] at ih'
        exact ih'
      obtain ⟨w1, w2, w3, w4⟩ := g2.2 j hcj (by omega) k0 q
      rw [show min 24 ((te_ct (te_dK L zs) 0 cc j) + 1) = (te_ct (te_dK L zs) 0 cc j) + 1 by omega] at ih'
      rw [show min 24 (te_ct (te_dK L zs) 0 cc j) = (te_ct (te_dK L zs) 0 cc j) by omega]
      have NO : te_rm mem 0 aS aT aC (0 + (te_ct (te_dK L zs) 0 cc j)) s x (nI c) = false → ∀ y1 y2, y1 = nI (te_ct (te_dK L zs) 0 cc j) + 1 → y2 = nI j + 1 → wL_law_490 post L zs J93 J456 J465 J474 x2 x3 x4 x5 x6 x7 (te_im cp) M (nI s) (nI x) (nI c) kc ks (nI 4) (nI 8) sq vi vs vt vp (nI 4) (nI 16) (nI h) tot mb rc rs rt rl rv pd ot ol uS uT uC uP uK (d + 1) (te_or (fun i => te_rm mem 0 aS aT aC (0 + i) s x (nI c)) (fun i => aP (0 + i)) (te_ct (te_dK L zs) 0 cc j)) y1 y2 := by
        intro e y1 y2 e1 e2
        rw [te_orF (M := (fun i => te_rm mem 0 aS aT aC (0 + i) s x (nI c))) (i := (te_ct (te_dK L zs) 0 cc j)) e] at ih'
        rw [e1, e2, nI_1, nI_1]
        exact ih'
      refine te_lCe (5 * j + 1) hL (by omega) ?_ (nI_1 _)
      refine te_lMd 8 (by decide) (by decide) (fun l1 => te_lSr l1 ?_)
      refine te_lCe (5 * j + 2) hL (by omega) ?_ (nI_add _ 2)
      refine te_lMd 9 (by decide) (by decide) (fun l2 => te_lTg l2 ?_)
      refine te_lCe (5 * j + 3) hL (by omega) ?_ (nI_add _ 3)
      refine te_lMd 4 (by decide) (by decide) (fun l3 => ?_)
      refine br_c (fun ec => ?_) (fun ec => fun y1 e1 y2 e2 => NO (te_rmN1 (by rw [w3]; exact ec)) y1 y2 e1 e2)
      refine te_lMt hM (te_srL l1) hs hs ?_
      cases q1 : te_nm mem 0 (te_dS L zs j) s s
      · have q1' := q1
        rw [← w1] at q1'
        have q3 : te_b (te_nm mem 0 (te_sr (te_mo (te_ce L zs (5 * j + 1)) 8)) s s) = 0 := congrArg te_b q1
        exact br_t q3 (fun y1 e1 y2 e2 => NO (te_rmN2 q1') y1 y2 e1 e2)
      · have q1' := q1
        rw [← w1] at q1'
        have q3 : te_b (te_nm mem 0 (te_sr (te_mo (te_ce L zs (5 * j + 1)) 8)) s s) = 1 := congrArg te_b q1
        refine br_f (fun z => absurd (q3.symm.trans z) (by decide)) (te_lMt hM (te_tgL l2) hx hs ?_)
        cases q2 : te_nm mem 0 (te_dT L zs j) x s
        · have q2' := q2
          rw [← w2] at q2'
          have q4 : te_b (te_nm mem 0 (te_tg (te_mo (te_ce L zs (5 * j + 2)) 9)) x s) = 0 := congrArg te_b q2
          exact br_t q4 (fun y1 e1 y2 e2 => NO (te_rmN3 q2') y1 y2 e1 e2)
        · have q2' := q2
          rw [← w2] at q2'
          have q4 : te_b (te_nm mem 0 (te_tg (te_mo (te_ce L zs (5 * j + 2)) 9)) x s) = 1 := congrArg te_b q2
          refine br_f (fun z => absurd (q4.symm.trans z) (by decide)) ?_
          refine te_lCe (5 * j + 4) hL (by omega) ?_ (nI_add _ 4)
          refine te_lMd 15 (by decide) (by decide) (fun l5 => ?_)
          rw [te_orT (M := (fun i => te_rm mem 0 aS aT aC (0 + i) s x (nI c))) (i := (te_ct (te_dK L zs) 0 cc j)) (te_rmY (by rw [w3]; exact ec) q1' q2'), w4] at ih'
          exact nm_e (nm_r (nI_1 _) (nm_r (nI_1 j) ih'))
    · rw [te_ctN k0] at ih'
      exact ih'
    · have : te_dK L zs j ≤ 5 := te_knl _ _
      omega
theorem te_c474 {cc cp s x : Nat} (hL : L ≤ 260) (hcp : cp < 100) (hP : te_P 4 0 ca cn cx mb rc rs rt rl rv mem aS aT aC aP aN ns nt nc nv nN xs xt xc xv xN) (hM : te_MK M mem) (g2 : te_GR (te_dK L zs) 0 24 cc (cp - 1) ca 0 (te_dS L zs) (te_dT L zs) (te_dC L zs) (te_dP L zs) aS aT aC aP) (hcc : cc ≤ cp - 1)
    (hpd : ∀ p, p < 4 → pd p = nI p) (hot : ∀ x c, x < 4 → c < 4 → ot (4 * x + c) = nI x ∧ ol (4 * x + c) = nI c) (hs : s < 4) (hx : x < 4)
    (k : ∀ (h : Nat) (tot : Int32) (uS uT uC uP uK : Nat → Int32), h ≤ 8 → J465 (nI (x + 1)) (nI 4) (nI 8) sq vi vs vt vp (nI 4) (nI 16) (nI h) tot mb rc rs rt rl rv pd ot ol uS uT uC uP uK) :
    ∀ d c, c + d = 4 → ∀ (h : Nat) (tot : Int32) (uS uT uC uP uK : Nat → Int32), h ≤ 8 → wL_law_474 post L zs J93 J456 J465 x2 x3 x4 x5 x6 (nI cc) (te_im cp) M (nI s) (nI x) kc ks (d + 1) (nI c) (nI 4) (nI 8) sq vi vs vt vp (nI 4) (nI 16) (nI h) tot mb rc rs rt rl rv pd ot ol uS uT uC uP uK := by
  intro d
  induction d with
  | zero =>
    intro c hc h tot uS uT uC uP uK hh
    exact br_t (nI_le (a := 4) (by omega) (by omega)) (nm_r (nI_1 x) (k h tot uS uT uC uP uK hh))
  | succ d ih =>
    intro c hc h tot uS uT uC uP uK hh
    refine br_f (nI_ge (b := 4) (by omega) (by decide)) ?_
    have q := te_c490 (post := post) (J93 := J93) (J456 := J456) (J465 := J465) (x2 := x2) (x3 := x3) (x4 := x4) (x5 := x5) (x6 := x6) (x7 := nI cc) (kc := kc) (ks := ks) (sq := sq) (vi := vi) (vs := vs) (vt := vt) (vp := vp) (tot := tot) (uS := uS) (uT := uT) (uC := uC) (uP := uP) (uK := uK) hL hcp hP hM g2 hs hx (show c < 4 by omega) hh hpd hot (fun h1 tot1 S1 T1 C1 P1 K1 z => ih (c + 1) (by omega) h1 tot1 S1 T1 C1 P1 K1 z) (cp - 1 - cc) cc (by omega) (Nat.le_refl _)
    rw [te_ctz cc (Nat.le_refl _)] at q
    exact ⟨_, q⟩
theorem te_c465 {cc cp s : Nat} (hL : L ≤ 260) (hcp : cp < 100) (hP : te_P 4 0 ca cn cx mb rc rs rt rl rv mem aS aT aC aP aN ns nt nc nv nN xs xt xc xv xN) (hM : te_MK M mem) (g2 : te_GR (te_dK L zs) 0 24 cc (cp - 1) ca 0 (te_dS L zs) (te_dT L zs) (te_dC L zs) (te_dP L zs) aS aT aC aP) (hcc : cc ≤ cp - 1)
    (hpd : ∀ p, p < 4 → pd p = nI p) (hot : ∀ x c, x < 4 → c < 4 → ot (4 * x + c) = nI x ∧ ol (4 * x + c) = nI c) (hs : s < 4)
    (k : ∀ (h : Nat) (tot : Int32) (uS uT uC uP uK : Nat → Int32), h ≤ 8 → J456 (nI (s + 1)) (nI 4) (nI 8) sq vi vs vt vp (nI 4) (nI 16) (nI h) tot mb rc rs rt rl rv pd ot ol uS uT uC uP uK) :
    ∀ d x, x + d = 4 → ∀ (h : Nat) (tot : Int32) (uS uT uC uP uK : Nat → Int32), h ≤ 8 → wL_law_465 post L zs J93 J456 x2 x3 x4 x5 x6 (nI cc) (te_im cp) M (nI s) kc ks (d + 1) (nI x) (nI 4) (nI 8) sq vi vs vt vp (nI 4) (nI 16) (nI h) tot mb rc rs rt rl rv pd ot ol uS uT uC uP uK := by
  intro d
  induction d with
  | zero =>
    intro x hx h tot uS uT uC uP uK hh
    exact br_t (nI_le (a := 4) (by omega) (by omega)) (nm_r (nI_1 s) (k h tot uS uT uC uP uK hh))
  | succ d ih =>
    intro x hx h tot uS uT uC uP uK hh
    exact br_f (nI_ge (b := 4) (by omega) (by decide)) ⟨_, te_c474 hL hcp hP hM g2 hcc hpd hot hs (by omega) (fun h1 tot1 S1 T1 C1 P1 K1 z => ih (x + 1) (by omega) h1 tot1 S1 T1 C1 P1 K1 z) 4 0 (by omega) h tot uS uT uC uP uK hh⟩
theorem te_c456 {cc cp : Nat} (hL : L ≤ 260) (hcp : cp < 100) (hP : te_P 4 0 ca cn cx mb rc rs rt rl rv mem aS aT aC aP aN ns nt nc nv nN xs xt xc xv xN) (hM : te_MK M mem) (g2 : te_GR (te_dK L zs) 0 24 cc (cp - 1) ca 0 (te_dS L zs) (te_dT L zs) (te_dC L zs) (te_dP L zs) aS aT aC aP) (hcc : cc ≤ cp - 1)
    (hpd : ∀ p, p < 4 → pd p = nI p) (hot : ∀ x c, x < 4 → c < 4 → ot (4 * x + c) = nI x ∧ ol (4 * x + c) = nI c) (g3 : te_GR (te_dK L zs) 2 6 cc (cp - 1) cn 0 (te_dS L zs) (te_dT L zs) (te_dC L zs) (te_dV L zs) ns nt nc nv) (nvh : ∀ n s x, n < cn → s < 4 → x < 4 → te_nm mem 0 (ns n) s s = true → te_nm mem 0 (nt n) x s = true → te_vec mem 0 0 ca aS aT aC aP s x (nc n) &&& nv n = 0)
    (k : ∀ (h : Nat) (tot : Int32) (uS uT uC uP uK : Nat → Int32), h ≤ 8 → J93 x3 x4 x5 (x6 + 1) (nI 4) (nI 8) sq vi vs vt vp (nI 4) (nI 16) (nI h) tot mb rc rs rt rl rv pd ot ol uS uT uC uP uK) :
    ∀ d s, s + d = 4 → ∀ (h : Nat) (tot : Int32) (uS uT uC uP uK : Nat → Int32), h ≤ 8 → wL_law_456 post L zs J93 x2 x3 x4 x5 x6 (nI cc) (te_im cp) M kc ks (d + 1) (nI s) (nI 4) (nI 8) sq vi vs vt vp (nI 4) (nI 16) (nI h) tot mb rc rs rt rl rv pd ot ol uS uT uC uP uK := by
  intro d
  induction d with
  | zero =>
    intro s hs h tot uS uT uC uP uK hh
    refine br_t (nI_le (a := 4) (by omega) (by omega)) ?_
    have q := te_c715 (post := post) (J93 := J93) (x2 := x2) (x3 := x3) (x4 := x4) (x5 := x5) (x6 := x6) (kc := kc) (ks := ks) hL hcp hP hM g3 nvh (k h tot uS uT uC uP uK hh) (cp - 1 - cc) cc (by omega) (Nat.le_refl _)
    rw [te_ctz cc (Nat.le_refl _)] at q
    exact ⟨_, q⟩
  | succ d ih =>
    intro s hs h tot uS uT uC uP uK hh
    exact br_f (nI_ge (b := 4) (by omega) (by decide)) ⟨_, te_c465 hL hcp hP hM g2 hcc hpd hot (by omega) (fun h1 tot1 S1 T1 C1 P1 K1 z => ih (s + 1) (by omega) h1 tot1 S1 T1 C1 P1 K1 z) 4 0 (by omega) h tot uS uT uC uP uK hh⟩
/-- the mask of the steps cc .. j - 1 -/
def te_mk (L : Nat) (zs : Nat → Int32) (cc j : Nat) (M : Int32) : Prop := ∀ x q, x < 4 → q < 4 → (bt M (q * 4 + x) = true ↔ te_GE (te_dK L zs) (te_dM L zs) (te_dA L zs) cc j x q)
theorem te_mk0 {cc : Nat} : te_mk L zs cc cc 0 := by
  intro x q hx hq
  rw [b_0]
  exact ⟨fun z => absurd z (by decide), fun z => absurd z te_GE0⟩
theorem te_mkS {cc j : Nat} {M : Int32} (g : te_mk L zs cc j M) (e : ¬ te_dK L zs j = 1) : te_mk L zs cc (j + 1) M :=
  fun x q hx hq => (g x q hx hq).trans (te_GEs (fun z => e z.1)).symm
theorem te_mkP {cc j : Nat} {M : Int32} (g : te_mk L zs cc j M) (hj : cc ≤ j) (e : te_dK L zs j = 1) (hm : te_dM L zs j < 4) (ha : te_dA L zs j < 4) : te_mk L zs cc (j + 1) (M ||| ((1 : Int32) <<< (nI (te_dA L zs j * 4 + te_dM L zs j) &&& 31))) := by
  intro x q hx hq
  rw [b_or, b_shl _ (by omega) 1 (show q * 4 + x < 32 by omega), te_1b _ (show q * 4 + x - (te_dA L zs j * 4 + te_dM L zs j) < 32 by omega)]
  by_cases z : te_dM L zs j = x ∧ te_dA L zs j = q
  · obtain ⟨z1, z2⟩ := z
    rw [z1, z2, Nat.sub_self]
    exact ⟨fun _ => ⟨j, hj, by omega, e, z1, z2⟩, fun _ => by simp⟩
  · have f : (decide (te_dA L zs j * 4 + te_dM L zs j ≤ q * 4 + x) && decide (q * 4 + x - (te_dA L zs j * 4 + te_dM L zs j) = 0)) = false := by
      by_cases y : te_dA L zs j * 4 + te_dM L zs j ≤ q * 4 + x
      · rw [decide_eq_false (show ¬ q * 4 + x - (te_dA L zs j * 4 + te_dM L zs j) = 0 by omega), Bool.and_false]
      · rw [decide_eq_false y, Bool.false_and]
    rw [f, Bool.or_false]
    exact (g x q hx hq).trans (te_GEs (fun y => z y.2)).symm
theorem te_c379 {cc cp : Nat} (hL : L ≤ 260) (hcp : cp < 100) (hP : te_P 4 0 ca cn cx mb rc rs rt rl rv mem aS aT aC aP aN ns nt nc nv nN xs xt xc xv xN) (g1 : te_GM (te_dK L zs) (te_dM L zs) (te_dA L zs) cc (cp - 1) 0 mem) (g2 : te_GR (te_dK L zs) 0 24 cc (cp - 1) ca 0 (te_dS L zs) (te_dT L zs) (te_dC L zs) (te_dP L zs) aS aT aC aP) (g3 : te_GR (te_dK L zs) 2 6 cc (cp - 1) cn 0 (te_dS L zs) (te_dT L zs) (te_dC L zs) (te_dV L zs) ns nt nc nv) (nvh : ∀ n s x, n < cn → s < 4 → x < 4 → te_nm mem 0 (ns n) s s = true → te_nm mem 0 (nt n) x s = true → te_vec mem 0 0 ca aS aT aC aP s x (nc n) &&& nv n = 0) (hcc : cc ≤ cp - 1) (hh : h ≤ 8)
    (hpd : ∀ p, p < 4 → pd p = nI p) (hot : ∀ x c, x < 4 → c < 4 → ot (4 * x + c) = nI x ∧ ol (4 * x + c) = nI c)
    (k : ∀ (h : Nat) (tot : Int32) (uS uT uC uP uK : Nat → Int32), h ≤ 8 → J93 x3 x4 x5 (x6 + 1) (nI 4) (nI 8) sq vi vs vt vp (nI 4) (nI 16) (nI h) tot mb rc rs rt rl rv pd ot ol uS uT uC uP uK) :
    ∀ d j M, j + d = cp - 1 → cc ≤ j → te_mk L zs cc j M → wL_law_379 post L zs J93 x2 x3 x4 x5 x6 (nI cc) (te_im cp) kc ks (nI 4) (nI 8) sq vi vs vt vp (nI 4) (nI 16) (nI h) tot mb rc rs rt rl rv pd ot ol uS uT uC uP uK (d + 1) M (nI j) := by
  intro d
  induction d with
  | zero =>
    intro j M hj hcj g
    have ej : j = cp - 1 := by omega
    rw [ej] at g
    have hM : te_MK M mem := fun x q hx hq => (g x q hx hq).trans (g1 x q hx hq).symm
    exact br_t ((te_imle (by omega) (by omega)).mpr (by omega)) ⟨_, te_c456 hL hcp hP hM g2 hcc hpd hot g3 nvh k 4 0 (by omega) h tot uS uT uC uP uK hh⟩
  | succ d ih =>
    intro j M hj hcj g
    refine br_f (fun z => absurd ((te_imle (by omega) (by omega)).mp z) (by omega)) (nm_r (pk_mul 5 j) ?_)
    refine te_lCe (5 * j) hL (by omega) ?_ rfl
    refine te_lCe (5 * j + 1) hL (by omega) ?_ (nI_1 _)
    refine te_lKd (pk_eq (te_dK L zs j) 1 (fun k0 => ?_) (fun k0 => nm_r (nI_1 j) (ih (j + 1) M (by omega) (by omega) (te_mkS g k0))) (by rfl) (by rfl) ?_ (by decide))
    · refine te_lCe (5 * j + 3) hL (by omega) ?_ (nI_add _ 3)
      refine te_lMd 4 (by decide) (by decide) (fun l1 => ?_)
      refine te_lCe (5 * j + 2) hL (by omega) ?_ (nI_add _ 2)
      refine te_lMd 4 (by decide) (by decide) (fun l2 => ?_)
      rw [te_ml (K := 4) _ 4 _ rfl]
      exact nm_e (nm_r (nI_1 j) (ih (j + 1) _ (by omega) (by omega) (te_mkP g hcj k0 l2 l1)))
    · have : te_dK L zs j ≤ 5 := te_knl _ _
      omega
theorem te_c362 {cc cp : Nat} (hL : L ≤ 260) (hcp : cp < 100) (hA : te_Ag L zs cc (cp - 1) mb rc rs rt rl rv) (hcc : cc ≤ cp - 1) (hh : h ≤ 8)
    (hpd : ∀ p, p < 4 → pd p = nI p) (hot : ∀ x c, x < 4 → c < 4 → ot (4 * x + c) = nI x ∧ ol (4 * x + c) = nI c)
    (k : ∀ (h : Nat) (tot : Int32) (uS uT uC uP uK : Nat → Int32), h ≤ 8 → J93 x3 (te_im cc) (te_im cp) (x6 + 1) (nI 4) (nI 8) sq vi vs vt vp (nI 4) (nI 16) (nI h) tot mb rc rs rt rl rv pd ot ol uS uT uC uP uK) :
    wL_law_362 post L zs J93 x2 x3 (te_im cc) (te_im cp) x6 kc ks (nI 4) (nI 8) sq vi vs vt vp (nI 4) (nI 16) (nI h) tot mb rc rs rt rl rv pd ot ol uS uT uC uP uK := by
  obtain ⟨ca, cn, cx, mem, aS, aT, aC, aP, aN, ns, nt, nc, nv, nN, xs, xt, xc, xv, xN, hP, g1, g2, g3, nvh⟩ := hA
  exact nm_r (te_im1 cc) ⟨_, te_c379 hL hcp hP g1 g2 g3 nvh hcc hh hpd hot k (cp - 1 - cc) cc 0 (by omega) (Nat.le_refl _) te_mk0⟩
end
