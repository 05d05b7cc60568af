def te_im (k : Nat) : Int32 := nI k - 1
theorem te_imS (k : Nat) : te_im (k + 1) = nI k := nI_pred k
theorem te_im1 (k : Nat) : te_im k + 1 = nI k := Int32.sub_add_cancel _ _
theorem te_im0 : te_im 0 = -1 := by decide
theorem te_imN : te_im 0 < 0 := by decide
theorem te_imle {k j : Nat} (hk : k < 2 ^ 30) (hj : j < 2 ^ 30) : te_im k ≤ nI j ↔ k - 1 ≤ j := by
  cases k with
  | zero => exact ⟨fun _ => by omega, fun _ => te_le te_imN (by omega)⟩
  | succ k =>
    rw [te_imS, nI_leI (by omega) (by omega)]
    omega
theorem te_sh5 : ∀ j, j < 5 → ∃ k, 1 ≤ k ∧ k ≤ 255 ∧ (1 : Int32) <<< (nI j &&& 31) = nI k := by
  intro j hj
  have c : j = 0 ∨ j = 1 ∨ j = 2 ∨ j = 3 ∨ j = 4 := by omega
  rcases c with rfl | rfl | rfl | rfl | rfl
  · exact ⟨1, by decide, by decide, by decide⟩
  · exact ⟨2, by decide, by decide, by decide⟩
  · exact ⟨4, by decide, by decide, by decide⟩
  · exact ⟨8, by decide, by decide, by decide⟩
  · exact ⟨16, by decide, by decide, by decide⟩
section
variable {L : Nat} {zs : Nat → Int32} {h : Nat} {sq vi vs vt vp tot : Int32} {mb rc rs rt rl rv pd ot ol uS uT uC uP uK : Nat → Int32}

theorem te_s0 {post : Int32 → St2 → Prop} {i lc cc cp sn : Nat} (hi : i < 60) (hS : te_Sg L zs lc i mb rc rs rt rl rv) (hA : te_Ag L zs cc (cp - 1) mb rc rs rt rl rv) (h1 : lc ≤ i) (k0 : te_dK L zs i = 0) (F : ∀ (r : Int32) (mb rc rs rt rl rv : Nat → Int32), te_Sg L zs lc (i + 1) mb rc rs rt rl rv → te_Ag L zs cc (cp - 1) mb rc rs rt rl rv → post r (nI 4, nI 8, nI sn, vi, vs, vt, vp, nI 4, nI 16, nI h, tot, mb, rc, rs, rt, rl, rv, pd, ot, ol, uS, uT, uC, uP, uK)) :
    wpX_stageAllow post (nI 4, nI 8, nI sn, vi, vs, vt, vp, nI 4, nI 16, nI h, tot, mb, rc, rs, rt, rl, rv, pd, ot, ol, uS, uT, uC, uP, uK) (te_dS L zs i) (te_dT L zs i) (te_dC L zs i) (te_dP L zs i) := by
  obtain ⟨ca, cn, cx, mem, aS, aT, aC, aP, aN, ns, nt, nc, nv, nN, xs, xt, xc, xv, xN, hP, g1, g2, g3⟩ := hS
  have qp : te_pr 4 (te_dS L zs i) (te_dT L zs i) (te_dC L zs i) (te_dP L zs i) :=
    ⟨te_srT (te_mol _ (by decide) (by decide)), te_tgS (te_mol _ (by decide) (by decide)), ⟨_, te_mol _ (by decide) (by decide), rfl⟩, by
      have q := te_mol (te_ce L zs (5 * i + 4)) (m := 15) (by decide) (by decide)
      exact ⟨1 + te_mo (te_ce L zs (5 * i + 4)) 15, by omega, by omega, nI_add 1 _⟩⟩
  refine te_oA hP (by decide) qp (fun q => ?_) (fun q => ?_)
  · exact F _ _ _ _ _ _ _ ⟨ca + 1, cn, cx, _, _, _, _, _, _, _, _, _, _, _, _, _, _, _, _, te_PA hP q qp.1 qp.2.1, te_GMs g1 (by rw [k0]; decide), te_GRp g2 q h1 k0, te_GRs g3 (by rw [k0]; decide)⟩ (te_AgM hA (fun _ _ => rfl) (fun _ _ => pk_un (by omega)) (te_eq4h (by omega)))
  · subst q
    exact F _ _ _ _ _ _ _ ⟨24, cn, cx, _, _, _, _, _, _, _, _, _, _, _, _, _, _, _, _, hP, te_GMs g1 (by rw [k0]; decide), te_GRf g2, te_GRs g3 (by rw [k0]; decide)⟩ hA
theorem te_s2 {post : Int32 → St2 → Prop} {i lc cc cp sn : Nat} (hi : i < 60) (hS : te_Sg L zs lc i mb rc rs rt rl rv) (hA : te_Ag L zs cc (cp - 1) mb rc rs rt rl rv) (h1 : lc ≤ i) (k0 : te_dK L zs i = 2) (F : ∀ (r : Int32) (mb rc rs rt rl rv : Nat → Int32), te_Sg L zs lc (i + 1) mb rc rs rt rl rv → te_Ag L zs cc (cp - 1) mb rc rs rt rl rv → post r (nI 4, nI 8, nI sn, vi, vs, vt, vp, nI 4, nI 16, nI h, tot, mb, rc, rs, rt, rl, rv, pd, ot, ol, uS, uT, uC, uP, uK)) :
    wpX_stageNeverallow post (nI 4, nI 8, nI sn, vi, vs, vt, vp, nI 4, nI 16, nI h, tot, mb, rc, rs, rt, rl, rv, pd, ot, ol, uS, uT, uC, uP, uK) (te_dS L zs i) (te_dT L zs i) (te_dC L zs i) (te_dV L zs i) := by
  obtain ⟨ca, cn, cx, mem, aS, aT, aC, aP, aN, ns, nt, nc, nv, nN, xs, xt, xc, xv, xN, hP, g1, g2, g3⟩ := hS
  have qp : te_pr 4 (te_dS L zs i) (te_dT L zs i) (te_dC L zs i) (te_dV L zs i) :=
    ⟨te_srT (te_mol _ (by decide) (by decide)), te_tgS (te_mol _ (by decide) (by decide)), ⟨_, te_mol _ (by decide) (by decide), rfl⟩, te_sh5 _ (te_mol _ (by decide) (by decide))⟩
  refine te_oN hP (by decide) qp (fun q => ?_) (fun q => ?_)
  · exact F _ _ _ _ _ _ _ ⟨ca, cn + 1, cx, _, _, _, _, _, _, _, _, _, _, _, _, _, _, _, _, te_PN hP q qp.1 qp.2.1, te_GMs g1 (by rw [k0]; decide), te_GRs g2 (by rw [k0]; decide), te_GRp g3 q h1 k0⟩ (te_AgM hA (fun _ _ => rfl) (fun _ _ => pk_un (by omega)) (te_eq4h (by omega)))
  · subst q
    exact F _ _ _ _ _ _ _ ⟨ca, 6, cx, _, _, _, _, _, _, _, _, _, _, _, _, _, _, _, _, hP, te_GMs g1 (by rw [k0]; decide), te_GRs g2 (by rw [k0]; decide), te_GRf g3⟩ hA
theorem te_s3 {post : Int32 → St2 → Prop} {i lc cc cp sn : Nat} (hi : i < 60) (hS : te_Sg L zs lc i mb rc rs rt rl rv) (hA : te_Ag L zs cc (cp - 1) mb rc rs rt rl rv) (h1 : lc ≤ i) (k0 : te_dK L zs i = 3) (F : ∀ (r : Int32) (mb rc rs rt rl rv : Nat → Int32), te_Sg L zs lc (i + 1) mb rc rs rt rl rv → te_Ag L zs cc (cp - 1) mb rc rs rt rl rv → post r (nI 4, nI 8, nI sn, vi, vs, vt, vp, nI 4, nI 16, nI h, tot, mb, rc, rs, rt, rl, rv, pd, ot, ol, uS, uT, uC, uP, uK)) {a b c d : Nat} (ha : a < 8) (hb : b < 8) (hc : c < 4) (hd : d < 4) :
    wpX_stageTransition post (nI 4, nI 8, nI sn, vi, vs, vt, vp, nI 4, nI 16, nI h, tot, mb, rc, rs, rt, rl, rv, pd, ot, ol, uS, uT, uC, uP, uK) (te_sr a) (te_sr b) (nI c) (nI d) := by
  have hS' := te_SgS hS (by rw [k0]; decide) (by rw [k0]; decide) (by rw [k0]; decide)
  obtain ⟨ca, cn, cx, mem, aS, aT, aC, aP, aN, ns, nt, nc, nv, nN, xs, xt, xc, xv, xN, hP, g⟩ := hS'
  refine te_oX hP (by decide) (te_srT ha) (te_srT hb) ⟨c, hc, rfl⟩ ⟨d, hd, rfl⟩ (fun q => ?_) (fun q => ?_)
  · exact F _ _ _ _ _ _ _ ⟨ca, cn, cx + 1, _, _, _, _, _, _, _, _, _, _, _, _, _, _, _, _, te_PX hP q (te_srT ha) (Or.inl (te_srT hb)) ⟨d, hd, rfl⟩, g⟩ (te_AgM hA (fun _ _ => rfl) (fun _ _ => pk_un (by omega)) (te_eq4h (by omega)))
  · exact F _ _ _ _ _ _ _ ⟨ca, cn, cx, _, _, _, _, _, _, _, _, _, _, _, _, _, _, _, _, hP, g⟩ hA
theorem te_s1 {post : Int32 → St2 → Prop} {i lc cc cp sn : Nat} (hi : i < 60) (hS : te_Sg L zs lc i mb rc rs rt rl rv) (hA : te_Ag L zs cc (cp - 1) mb rc rs rt rl rv) (h1 : lc ≤ i) (k0 : te_dK L zs i = 1) (F : ∀ (r : Int32) (mb rc rs rt rl rv : Nat → Int32), te_Sg L zs lc (i + 1) mb rc rs rt rl rv → te_Ag L zs cc (cp - 1) mb rc rs rt rl rv → post r (nI 4, nI 8, nI sn, vi, vs, vt, vp, nI 4, nI 16, nI h, tot, mb, rc, rs, rt, rl, rv, pd, ot, ol, uS, uT, uC, uP, uK)) :
    wpX_stageMember post (nI 4, nI 8, nI sn, vi, vs, vt, vp, nI 4, nI 16, nI h, tot, mb, rc, rs, rt, rl, rv, pd, ot, ol, uS, uT, uC, uP, uK) (nI (te_dM L zs i)) (nI (te_dA L zs i)) := by
  obtain ⟨ca, cn, cx, mem, aS, aT, aC, aP, aN, ns, nt, nc, nv, nN, xs, xt, xc, xv, xN, hP, g1, g2, g3⟩ := hS
  have hx : te_dM L zs i < 4 := te_mol _ (by decide) (by decide)
  have ha : te_dA L zs i < 4 := te_mol _ (by decide) (by decide)
  have em : mem (96 + te_dM L zs i * 8 + te_dA L zs i) = te_bv (mb (12 + te_dM L zs i)) (te_dA L zs i) := hP.1 _ _ (by omega) (by omega)
  refine te_oM (by decide) hx (by omega) (fun q => ?_) (fun q => ?_)
  · exact F _ _ _ _ _ _ _ ⟨ca, cn, cx, _, _, _, _, _, _, _, _, _, _, _, _, _, _, _, _, te_PS hP (by omega) (by omega) rfl, te_GMp g1 h1 k0 pk_us (fun x p hp z => pk_un (by omega)), te_GRs g2 (by rw [k0]; decide), te_GRs g3 (by rw [k0]; decide)⟩ (te_AgM hA (fun _ _ => pk_un (by omega)) (fun _ _ => rfl) te_eq4r)
  · exact F _ _ _ _ _ _ _ ⟨ca, cn, cx, _, _, _, _, _, _, _, _, _, _, _, _, _, _, _, _, hP, te_GMp g1 h1 k0 (em.trans q) (fun _ _ _ _ => rfl), te_GRs g2 (by rw [k0]; decide), te_GRs g3 (by rw [k0]; decide)⟩ hA
theorem te_s5 {post : St2 → Prop} {i cc cp sn : Nat} (hA : te_Ag L zs cc (cp - 1) mb rc rs rt rl rv)
    (F : ∀ (mb rc rs rt rl rv : Nat → Int32), te_Sg L zs (i + 1) (i + 1) mb rc rs rt rl rv → te_Ag L zs cc (cp - 1) mb rc rs rt rl rv → post (nI 4, nI 8, nI sn, vi, vs, vt, vp, nI 4, nI 16, nI h, tot, mb, rc, rs, rt, rl, rv, pd, ot, ol, uS, uT, uC, uP, uK)) :
    wpX_stageClear post (nI 4, nI 8, nI sn, vi, vs, vt, vp, nI 4, nI 16, nI h, tot, mb, rc, rs, rt, rl, rv, pd, ot, ol, uS, uT, uC, uP, uK) :=
  te_xClr (fun y z f1 f2 f3 f4 => F _ _ _ _ _ _ (te_Sg0 f1 f3) (te_AgM hA f2 f4 te_eq4r))
theorem te_s4 {post : Int32 → St2 → Prop} {i lc cc cp sn : Nat} (hi : i < 60) (hS : te_Sg L zs lc i mb rc rs rt rl rv) (hA : te_Ag L zs cc (cp - 1) mb rc rs rt rl rv) (h1 : lc ≤ i) (hsn : sn ≤ i) (k0 : te_dK L zs i = 4)
    (F1 : ∀ (r vi vs vt vp : Int32), r < 1 → te_Sg L zs lc (i + 1) mb rc rs rt rl rv → post r (nI 4, nI 8, nI sn, vi, vs, vt, vp, nI 4, nI 16, nI h, tot, mb, rc, rs, rt, rl, rv, pd, ot, ol, uS, uT, uC, uP, uK))
    (F2 : ∀ (r : Int32) (mb rc rs rt rl rv : Nat → Int32), ¬ r < 1 → te_Sg L zs lc (i + 1) mb rc rs rt rl rv → te_Ag L zs lc i mb rc rs rt rl rv → post r (nI 4, nI 8, nI (sn + 1), -5, -5, -5, -5, nI 4, nI 16, nI h, tot, mb, rc, rs, rt, rl, rv, pd, ot, ol, uS, uT, uC, uP, uK)) :
    wpX_commit post (nI 4, nI 8, nI sn, vi, vs, vt, vp, nI 4, nI 16, nI h, tot, mb, rc, rs, rt, rl, rv, pd, ot, ol, uS, uT, uC, uP, uK) := by
  have hS' := hS
  obtain ⟨ca, cn, cx, mem, aS, aT, aC, aP, aN, ns, nt, nc, nv, nN, xs, xt, xc, xv, xN, hP, g1, g2, g3⟩ := hS
  rcases te_rows cn 4 (te_bp mem ca aS aT aC aP ns nt nc nv) with hz | ⟨n, s, x, hn, ho, hl⟩
  · refine te_xCoN hP (by decide) hz (fun y z a b d e hy hz3 hz' e1 e2 e3 hj => ?_)
    have q1 : ¬ nI (sn + 1) < 1 := nI_nlt (b := 1) (by omega) (by omega)
    have sg : te_Sg L zs lc (i + 1) y z a b d e := te_SgS (te_SgM hS' hy.2 hz' hj) (by rw [k0]; decide) (by rw [k0]; decide) (by rw [k0]; decide)
    have hP' := hP
    obtain ⟨-, ⟨u1, u2, u3⟩, ⟨r1, r2, r3⟩, -⟩ := hP'
    have ag : te_Ag L zs lc i y z a b d e := by
      refine ⟨ca, cn, cx, fun j => mem (96 + j), fun j => aS (24 + j), fun j => aT (24 + j), fun j => aC (24 + j), fun j => aP (24 + j), fun j => aN (1 + j), fun j => ns (6 + j), fun j => nt (6 + j), fun j => nc (6 + j), fun j => nv (6 + j), fun j => nN (1 + j), fun j => xs (12 + j), fun j => xt (12 + j), fun j => xc (12 + j), fun j => xv (12 + j), fun j => xN (1 + j), te_PM hP (fun x hx => ?_) (fun j hj => congrArg mem (by omega)) ⟨hz3.1.trans r1.symm, hz3.2.1.trans r2.symm, hz3.2.2.trans r3.symm⟩ ⟨rfl, rfl, rfl⟩ e1 e2 e3 (fun i hi => ⟨congrArg aS (by omega), congrArg aT (by omega), congrArg aC (by omega), congrArg aP (by omega)⟩) (fun i hi => ⟨congrArg ns (by omega), congrArg nt (by omega), congrArg nc (by omega), congrArg nv (by omega)⟩) (fun i hi => ⟨congrArg xs (by omega), congrArg xt (by omega), congrArg xc (by omega), congrArg xv (by omega)⟩), te_GMm g1 (fun j hj => congrArg mem (by omega)), te_GRm g2 (fun i hi => ⟨congrArg aS (by omega), congrArg aT (by omega), congrArg aC (by omega), congrArg aP (by omega)⟩), te_GRm g3 (fun i hi => ⟨congrArg ns (by omega), congrArg nt (by omega), congrArg nc (by omega), congrArg nv (by omega)⟩), ?_⟩
      · rw [show 0 * 12 + x = x by omega]
        exact hy.1 x hx
      · intro n s x hn hs hx m1 m2
        rw [te_nmM] at m1 m2
        rw [te_vecM, ← te_bpY m1 m2]
        exact hz n hn s x hs hx
    rw [nI_1 sn]
    exact F2 (nI (sn + 1)) y z a b d e q1 sg ag
  · exact te_xCoV hP (by decide) hn hl ho (F1 _ _ _ _ _ (by decide) (te_SgS hS' (by rw [k0]; decide) (by rw [k0]; decide) (by rw [k0]; decide)))
end
