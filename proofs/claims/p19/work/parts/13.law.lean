section
variable {L : Nat} {zs : Nat → Int32} {pd ot ol : Nat → Int32} {post : Int32 → Prop} {kc ks : Nat}
theorem te_c93 (hL : L ≤ 260) (hp : post 1) (hpd : ∀ p, p < 4 → pd p = nI p) (hot : ∀ x c, x < 4 → c < 4 → ot (4 * x + c) = nI x ∧ ol (4 * x + c) = nI c) :
    ∀ (d m lc cc cp sn h : Nat) (vi vs vt vp tot : Int32) (mb rc rs rt rl rv uS uT uC uP uK : Nat → Int32), m + d = L / 5 + 1 → te_Sg L zs lc (m - 1) mb rc rs rt rl rv → te_Ag L zs cc (cp - 1) mb rc rs rt rl rv → lc ≤ m - 1 → cc ≤ cp - 1 → cp ≤ m - 1 → sn ≤ m - 1 → h ≤ 8 →
      wL_law_93 post L zs (nI (L / 5)) kc ks (d + 1) (te_im lc) (te_im cc) (te_im cp) (te_im m) (nI 4) (nI 8) (nI sn) vi vs vt vp (nI 4) (nI 16) (nI h) tot mb rc rs rt rl rv pd ot ol uS uT uC uP uK := by
  intro d
  induction d with
  | zero =>
    intro m lc cc cp sn h vi vs vt vp tot mb rc rs rt rl rv uS uT uC uP uK hm hS hA h1 h2 h3 h4 hh
    have e : m = L / 5 + 1 := by omega
    subst e
    refine br_t ?_ hp
    rw [te_imS]
    exact nI_le (Nat.le_refl _) (by omega)
  | succ d ih =>
    intro m lc cc cp sn h vi vs vt vp tot mb rc rs rt rl rv uS uT uC uP uK hm hS hA h1 h2 h3 h4 hh
    cases m with
    | zero =>
      refine br_f (te_nle te_imN (by omega)) (br_t te_imN (te_c362 hL (by omega) hA h2 hh hpd hot (fun h tot uS uT uC uP uK hh => ?_)))
      have q := ih 1 lc cc cp sn h vi vs vt vp tot mb rc rs rt rl rv uS uT uC uP uK (by omega) hS hA h1 h2 h3 h4 hh
      rw [te_imS] at q
      rw [te_im1]
      exact q
    | succ i =>
      have hS : te_Sg L zs lc i mb rc rs rt rl rv := hS
      have FF : ∀ (lc' cc' cp' sn' : Nat) (vi vs vt vp : Int32) (mb rc rs rt rl rv : Nat → Int32), te_Sg L zs lc' (i + 1) mb rc rs rt rl rv → te_Ag L zs cc' (cp' - 1) mb rc rs rt rl rv → lc' ≤ i + 1 → cc' ≤ cp' - 1 → cp' ≤ i + 1 → sn' ≤ i + 1 →
          wL_law_362 post L zs (wL_law_93 post L zs (nI (L / 5)) kc ks (d + 1)) (nI (L / 5)) (te_im lc') (te_im cc') (te_im cp') (nI i) kc ks (nI 4) (nI 8) (nI sn') vi vs vt vp (nI 4) (nI 16) (nI h) tot mb rc rs rt rl rv pd ot ol uS uT uC uP uK := by
        intro lc' cc' cp' sn' vi vs vt vp mb rc rs rt rl rv s1 a1 b1 b2 b3 b4
        refine te_c362 hL (by omega) a1 b2 hh hpd hot (fun h tot uS uT uC uP uK hh => ?_)
        have q := ih (i + 2) lc' cc' cp' sn' h vi vs vt vp tot mb rc rs rt rl rv uS uT uC uP uK (by omega) s1 a1 b1 b2 b3 b4 hh
        rw [te_imS] at q
        rw [nI_1 i]
        exact q
      rw [te_imS i]
      refine br_f (nI_ge (by omega) (by omega)) (br_f (nI_pos (by omega)) (nm_r (pk_mul 5 i) ?_))
      refine te_lCe (5 * i + 1) hL (by omega) ?_ (nI_1 _)
      refine te_lCe (5 * i + 2) hL (by omega) ?_ (nI_add _ 2)
      refine te_lCe (5 * i + 3) hL (by omega) ?_ (nI_add _ 3)
      refine te_lCe (5 * i + 4) hL (by omega) ?_ (nI_add _ 4)
      refine te_lCe (5 * i) hL (by omega) ?_ rfl
      have hk5 : te_dK L zs i ≤ 5 := te_knl _ _
      refine te_lKd (pk_eq (te_dK L zs i) 0 (fun k0 => ?_) (fun k0 => ?_) (by rfl) (by rfl) (by omega) (by decide))
      · refine te_lMd 8 (by decide) (by decide) (fun l1 => te_lSr l1 (te_lMd 9 (by decide) (by decide) (fun l2 => te_lTg l2 (te_lMd 4 (by decide) (by decide) (fun l3 => te_lMd 15 (by decide) (by decide) (fun l4 => ?_))))))
        exact te_s0 (by omega) hS hA h1 k0 (fun r mb rc rs rt rl rv s1 a1 => FF lc cc cp sn vi vs vt vp mb rc rs rt rl rv s1 a1 (by omega) h2 (by omega) (by omega))
      refine pk_eq (te_dK L zs i) 1 (fun k1 => ?_) (fun k1 => ?_) (by rfl) (by rfl) (by omega) (by decide)
      · refine te_lMd 4 (by decide) (by decide) (fun l1 => te_lMd 4 (by decide) (by decide) (fun l2 => ?_))
        exact te_s1 (by omega) hS hA h1 k1 (fun r mb rc rs rt rl rv s1 a1 => FF lc cc cp sn vi vs vt vp mb rc rs rt rl rv s1 a1 (by omega) h2 (by omega) (by omega))
      refine pk_eq (te_dK L zs i) 2 (fun k2 => ?_) (fun k2 => ?_) (by rfl) (by rfl) (by omega) (by decide)
      · refine te_lMd 8 (by decide) (by decide) (fun l1 => te_lSr l1 (te_lMd 9 (by decide) (by decide) (fun l2 => te_lTg l2 (te_lMd 4 (by decide) (by decide) (fun l3 => te_lMd 5 (by decide) (by decide) (fun l4 => ?_))))))
        exact te_s2 (by omega) hS hA h1 k2 (fun r mb rc rs rt rl rv s1 a1 => FF lc cc cp sn vi vs vt vp mb rc rs rt rl rv s1 a1 (by omega) h2 (by omega) (by omega))
      refine pk_eq (te_dK L zs i) 3 (fun k3 => ?_) (fun k3 => ?_) (by rfl) (by rfl) (by omega) (by decide)
      · refine te_lMd 8 (by decide) (by decide) (fun l1 => te_lSr l1 (te_lMd 8 (by decide) (by decide) (fun l2 => te_lSr l2 (te_lMd 4 (by decide) (by decide) (fun l3 => te_lMd 4 (by decide) (by decide) (fun l4 => ?_))))))
        exact te_s3 (by omega) hS hA h1 k3 (fun r mb rc rs rt rl rv s1 a1 => FF lc cc cp sn vi vs vt vp mb rc rs rt rl rv s1 a1 (by omega) h2 (by omega) (by omega)) l1 l2 l3 l4
      refine pk_eq (te_dK L zs i) 4 (fun k4 => ?_) (fun k4 => ?_) (by rfl) (by rfl) (by omega) (by decide)
      · refine te_s4 (by omega) hS hA h1 h4 k4 (fun r vi vs vt vp hr s1 => br_t hr (FF lc cc cp sn vi vs vt vp mb rc rs rt rl rv s1 hA (by omega) h2 (by omega) (by omega))) (fun r mb rc rs rt rl rv hr s1 a1 => br_f hr ?_)
        have q := FF lc lc (i + 1) (sn + 1) (-5) (-5) (-5) (-5) mb rc rs rt rl rv s1 a1 (by omega) h1 (by omega) (by omega)
        rw [te_imS] at q
        exact q
      · refine te_s5 (i := i) hA (fun mb rc rs rt rl rv s1 a1 => ?_)
        have q := FF (i + 1) cc cp sn vi vs vt vp mb rc rs rt rl rv s1 a1 (by omega) h2 (by omega) (by omega)
        rw [te_imS] at q
        exact q
end
section
variable {L : Nat} {zs : Nat → Int32} {pd ot ol : Nat → Int32} {post : Int32 → Prop} {kc ks : Nat}
def te_ob (x c : Nat) (ot ol : Nat → Int32) : Prop := ∀ x' c', x' < 4 → c' < 4 → (x' < x ∨ (x' = x ∧ c' < c)) → ot (4 * x' + c') = nI x' ∧ ol (4 * x' + c') = nI c'
theorem te_obS {x c : Nat} {ot ol : Nat → Int32} (q : te_ob x c ot ol) (hx : x < 4) (hc : c < 4) : te_ob x (c + 1) (upd ot (4 * x + c) (nI x)) (upd ol (4 * x + c) (nI c)) := by
  intro x' c' h1 h2 h3
  by_cases e : x' = x ∧ c' = c
  · obtain ⟨rfl, rfl⟩ := e
    rw [pk_us, pk_us]
    exact ⟨rfl, rfl⟩
  · have n : 4 * x' + c' ≠ 4 * x + c := by omega
    rw [pk_un n, pk_un n]
    exact q x' c' h1 h2 (by omega)
theorem te_i44 {J : Int32 → Int32 → Int32 → Int32 → Int32 → Int32 → Int32 → Int32 → Int32 → Int32 → Int32 → Int32 → (Nat → Int32) → (Nat → Int32) → (Nat → Int32) → (Nat → Int32) → (Nat → Int32) → (Nat → Int32) → (Nat → Int32) → (Nat → Int32) → (Nat → Int32) → (Nat → Int32) → (Nat → Int32) → (Nat → Int32) → (Nat → Int32) → (Nat → Int32) → Prop} {x : Nat} (hx : x < 4) (k : ∀ ot ol, te_ob x 4 ot ol → J (nI (x + 1)) (nI 4) (nI 8) 0 (-5) (-5) (-5) (-5) (nI 4) (nI (4 * (x + 1))) (nI 0) 0 (fun _ => 0) (fun _ => 0) (fun _ => 0) (fun _ => 0) (fun _ => 0) (fun _ => 0) pd ot ol (fun _ => 0) (fun _ => 0) (fun _ => 0) (fun _ => 0) (fun _ => 0)) :
    ∀ d c ot ol, c + d = 4 → te_ob x c ot ol → wL_law_44 post L zs J (nI x) kc ks (d + 1) (nI c) (nI 4) (nI 8) 0 (-5) (-5) (-5) (-5) (nI 4) (nI (4 * x + c)) (nI 0) 0 (fun _ => 0) (fun _ => 0) (fun _ => 0) (fun _ => 0) (fun _ => 0) (fun _ => 0) pd ot ol (fun _ => 0) (fun _ => 0) (fun _ => 0) (fun _ => 0) (fun _ => 0) := by
  intro d
  induction d with
  | zero =>
    intro c ot ol hc q
    have e : c = 4 := by omega
    subst e
    exact br_t (nI_le (a := 4) (Nat.le_refl _) (by decide)) (nm_r (nI_1 x) (k ot ol q))
  | succ d ih =>
    intro c ot ol hc q
    refine br_f (nI_ge (b := 4) (by omega) (by decide)) (te_oO (t := 4) (by decide) (by omega) hx (by omega) (br_t ?_ (nm_r (nI_1 c) (ih (c + 1) _ _ (by omega) (te_obS q hx (by omega))))))
    exact ((congrArg (· + nI c) (pk_mul 4 x)).trans (nI_add _ _)).symm
theorem te_i37 (hL : L ≤ 260) (hp : post 1) (hpd : ∀ p, p < 4 → pd p = nI p) : ∀ d x ot ol, x + d = 4 → te_ob x 0 ot ol → wL_law_37 post L zs kc ks (d + 1) (nI x) (nI 4) (nI 8) 0 (-5) (-5) (-5) (-5) (nI 4) (nI (4 * x)) (nI 0) 0 (fun _ => 0) (fun _ => 0) (fun _ => 0) (fun _ => 0) (fun _ => 0) (fun _ => 0) pd ot ol (fun _ => 0) (fun _ => 0) (fun _ => 0) (fun _ => 0) (fun _ => 0) := by
  intro d
  induction d with
  | zero =>
    intro x ot ol hx q
    have e : x = 4 := by omega
    subst e
    have sg : te_Sg L zs 0 0 (fun _ => 0) (fun _ => 0) (fun _ => 0) (fun _ => 0) (fun _ => 0) (fun _ => 0) := te_Sg0 (fun _ _ => rfl) (fun _ _ => rfl)
    have ag : te_Ag L zs 0 0 (fun _ => 0) (fun _ => 0) (fun _ => 0) (fun _ => 0) (fun _ => 0) (fun _ => 0) :=
      ⟨0, 0, 0, fun _ => 0, fun _ => 0, fun _ => 0, fun _ => 0, fun _ => 0, fun _ => 0, fun _ => 0, fun _ => 0, fun _ => 0, fun _ => 0, fun _ => 0, fun _ => 0, fun _ => 0, fun _ => 0, fun _ => 0, fun _ => 0, te_P00, te_GM0 (fun _ _ => rfl), te_GR0, te_GR0, fun n s x hn => absurd hn (Nat.not_lt_zero _)⟩
    refine br_t (nI_le (a := 4) (Nat.le_refl _) (by decide)) ⟨by decide, nm_r (pk_div (d := 5) (show L < 2 ^ 31 by omega) (by decide) (by decide)) ⟨L / 5 + 1 + 1, ?_⟩⟩
    exact te_c93 hL hp hpd (fun x c h1 h2 => q x c h1 h2 (Or.inl h1)) (L / 5 + 1) 0 0 0 0 0 0 _ _ _ _ _ _ _ _ _ _ _ _ _ _ _ _ (by omega) sg ag (Nat.le_refl _) (Nat.le_refl _) (Nat.le_refl _) (Nat.le_refl _) (by omega)
  | succ d ih =>
    intro x ot ol hx q
    exact br_f (nI_ge (b := 4) (by omega) (by decide)) ⟨_, te_i44 (by omega) (fun ot ol q' => ih (x + 1) ot ol (by omega) (fun x' c' h1 h2 h3 => q' x' c' h1 h2 (by omega))) 4 0 ot ol (by omega) q⟩
theorem te_i13 (hL : L ≤ 260) (hp : post 1) : ∀ d p pd, p + d = 4 → (∀ j, j < p → pd j = nI j) → wL_law_13 post L zs kc ks (d + 1) (nI p) (nI 4) (nI 8) 0 (-5) (-5) (-5) (-5) (nI p) (nI 0) (nI 0) 0 (fun _ => 0) (fun _ => 0) (fun _ => 0) (fun _ => 0) (fun _ => 0) (fun _ => 0) pd (fun _ => 0) (fun _ => 0) (fun _ => 0) (fun _ => 0) (fun _ => 0) (fun _ => 0) (fun _ => 0) := by
  intro d
  induction d with
  | zero =>
    intro p pd h1 q
    have e : p = 4 := by omega
    subst e
    exact br_t (nI_le (a := 4) (Nat.le_refl _) (by decide)) ⟨_, te_i37 hL hp q 4 0 _ _ (by omega) (fun x' c' _ _ z => absurd z (by omega))⟩
  | succ d ih =>
    intro p pd h1 q
    refine br_f (nI_ge (b := 4) (by omega) (by decide)) (te_oS (t := 4) (by decide) (by omega) (by omega) (br_t rfl (nm_r (nI_1 p) (ih (p + 1) _ (by omega) (fun j hj => ?_)))))
    by_cases e : j = p
    · subst e; exact pk_us
    · rw [pk_un e]; exact q j (by omega)
end
theorem i_vc (xs : Nat → Int32) (L : Nat) (hL : L ≤ 260) : wpL_law (fun r => r = 1) L xs := by
  refine ⟨14, 726, by decide, by decide, ?_⟩
  unfold wpX_init
  dsimp only
  refine ⟨by decide, by decide, by decide, by decide, by decide, by decide, by decide, by decide, by decide, by decide, by decide, by decide, by decide, by decide, by decide, by decide, by decide, by decide, by decide, by decide, by decide, by decide, by decide, by decide, by decide, by decide, by decide, by decide, ?_⟩
  refine br_t (by decide) (br_t (by decide) ?_)
  refine br_t (by decide) (br_t (by decide) ?_)
  exact ⟨_, te_i13 (post := fun r => r = 1) hL rfl 4 0 _ (by omega) (fun j hj => absurd hj (Nat.not_lt_zero _))⟩
