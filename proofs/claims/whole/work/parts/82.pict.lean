/-! A picture unit whose data have an end: lw_Pict. -/
theorem bQ.o2 {h : Nat} {c m c1 m1 : bp_M} (H : bQ h c m) (a : ∀ y, c1.2 40 y = c.2 40 y) (a39 : ∀ i, i < 4 → isPI (c1.2 39 i)) (a1 : c1.1 4 1 = c.1 4 1) (a2 : ∀ o, (11 ≤ o ∧ o < 15) ∨ (35 ≤ o ∧ o < 39) → ∀ y, c1.1 o y = c.1 o y) (b1 : m1.1 0 34 = m.1 0 34) (b2 : ∀ o, 13 ≤ o ∧ o ≤ 16 → ∀ y, m1.1 o y = m.1 o y) : bQ h c1 m1 := by
  obtain ⟨h4, hc, hm, hQ, hT⟩ := H
  refine ⟨h4, by rw [a1]; exact hc, by rw [b1]; exact hm, fun k hk => ?_, ⟨fun k hk => by rw [a]; exact hT.1 k hk, fun i hi j hj e => hT.2.1 i hi j hj (by rw [a, a] at e; exact e), a39⟩⟩
  have hTk := hT.1 k (by omega)
  rw [a, a2 _ (Or.inl hTk), a2 _ (Or.inl hTk), a2 _ (Or.inl hTk), b2 14 (by omega), b2 15 (by omega), b2 16 (by omega)]
  obtain ⟨o1, o2, o3, o4, o5, o6, o7⟩ := hQ k hk
  exact ⟨o1, o2, o3, o4, o5, o6, fun i hi => by rw [a2 _ (Or.inr (by omega)), b2 13 (by omega)]; exact o7 i hi⟩
theorem jSS.o {S : Nat} {c m c1 m1 : bp_M} (h : jSS S c m) (a : c1.1 4 5 = c.1 4 5) (b : ∀ y, c1.1 20 y = c.1 20 y) (d : ∀ y, c1.1 21 y = c.1 21 y) (e : m1.1 0 39 = m.1 0 39) (f : ∀ y, m1.1 17 y = m.1 17 y) (g : ∀ y, m1.1 18 y = m.1 18 y) : jSS S c1 m1 := by
  unfold jSS at h ⊢
  simp only [a, b, d, e, f, g]
  exact h
/-- the relation behind the buffer's work -/
theorem jK_k {S h1 : Nat} {c m c1 m1 : bp_M} (f : kF c c1) (g : kG m m1) (hu : c.1 0 6 = m.1 0 9) (hP : jP c m) (hL : jL c m) (hW : jW c m) (hC : jC m) (h23 : c.1 2 3 = 1) (h42 : c.1 4 2 = m.1 0 17) (H : bQ h1 c1 m1) (hs : jSS S c1 m1) : jK S c1 m1 := by
  have fc : ∀ x, x ≠ 4 → x ≠ 20 → x ≠ 21 → ¬ (11 ≤ x ∧ x < 15) → ¬ (35 ≤ x ∧ x < 39) → ∀ y, c1.1 x y = c.1 x y := f.2.1
  refine ⟨?_, jP_of hP (fun y => fc 2 (by decide) (by decide) (by decide) (by omega) (by omega) y) (fun y hy => g.2 y (by omega) (by omega)), H.2.2.2.2, ⟨h1, H.1, H.2.1, H.2.2.1, fun _ => ⟨?_, ?_⟩, H.2.2.2.1⟩, hs, jL_of hL (fun y => f.1 3 (by decide) y) (fun o ho y => fc o (by omega) (by omega) (by omega) (by omega) (by omega) y) (g.2 32 (by decide) (by decide)) (g.2 33 (by decide) (by decide)) (fun y => g.1 12 (by decide) (by omega) y), jW_of hW (fc 5 (by decide) (by decide) (by decide) (by omega) (by omega) 2) (fun y => fc 22 (by decide) (by decide) (by decide) (by omega) (by omega) y) (fun y => fc 23 (by decide) (by decide) (by decide) (by omega) (by omega) y) (g.2 44 (by decide) (by decide)) (fun y => g.1 19 (by decide) (by omega) y) (fun y => g.1 20 (by decide) (by omega) y), jC_of hC (fun o ho y => g.1 o (by omega) (by omega) y)⟩
  · rw [fc 0 (by decide) (by decide) (by decide) (by omega) (by omega), g.2 9 (by decide) (by decide)]; exact hu
  · rw [fc 2 (by decide) (by decide) (by decide) (by omega) (by omega)]; exact h23
  · rw [f.2.2 2 (by decide) (by decide), g.2 17 (by decide) (by decide)]; exact h42
/-- the end of a key picture: parameters taken, all shown, the picture admitted -/
theorem z_key (N : Nat) (hN : 4000 ≤ N) {S h : Nat} (hS : S ≤ 3000000) {rank ord : Int32} {c m : bp_M} (hu : c.1 0 6 = m.1 0 9) (hP : jP c m) (hL : jL c m) (hW : jW c m) (hC : jC m) (H : bQ h c m) (hs : jSS S c m) (hz : zW ord (ir 1 rank) c m) (hpt : ¬ (c.1 2 0 = 0 ∧ c.1 2 3 = 0)) : ∃ cT c1 m1, bc_PA_takePending N c = some cT ∧ (bp_cV (bc_PB_showAll N cT) fun m4 => bp_nM (bp_sI m4 4 2 (m4.1 2 4)) fun m5 => bc_BP_takePicture_L182 N 1 rank m5) = some c1 ∧ bm_M_keep N 1 ord (ir 1 rank) m = some m1 ∧ jK (S + 10) c1 m1 ∧ (∀ x, x ≠ 2 → x ≠ 4 → x ≠ 20 → x ≠ 21 → ¬ (11 ≤ x ∧ x < 15) → ¬ (35 ≤ x ∧ x < 39) → ∀ y, c1.1 x y = c.1 x y) ∧ (∀ x, x ≠ 0 → ¬ (13 ≤ x ∧ x ≤ 18) → ∀ y, m1.1 x y = m.1 x y) ∧ (∀ y, ¬ (13 ≤ y ∧ y ≤ 18) → y ≠ 34 → y ≠ 39 → m1.1 0 y = m.1 0 y) := by
  obtain ⟨p1, p2', p3, p4, p5, p6, p7, p8, p9, p10, p11⟩ := hP
  obtain ⟨P, hPe⟩ : ∃ P : Int32, P = if m.1 0 13 = 0 then m.1 0 17 else m.1 0 14 := ⟨_, rfl⟩
  obtain ⟨B, hBe⟩ : ∃ B : Int32, B = if m.1 0 13 = 0 then m.1 0 18 else m.1 0 15 := ⟨_, rfl⟩
  have hPr : jr 1 4 P := by
    rw [hPe]
    by_cases g : m.1 0 13 = 0
    · rw [if_pos g, ← p5]
      refine p10 ?_
      rcases p8 with x | x
      · exact absurd ⟨p1.trans g, x⟩ hpt
      · exact x
    · rw [if_neg g, ← p2']
      refine (p9 ?_).1
      rcases p7 with x | x
      · rw [p1] at x; exact absurd x g
      · exact x
  have hBr : jr 0 11 B := by
    rw [hBe]
    by_cases g : m.1 0 13 = 0
    · rw [if_pos g, ← p6]; exact p11
    · rw [if_neg g, ← p3]
      refine (p9 ?_).2
      rcases p7 with x | x
      · rw [p1] at x; exact absurd x g
      · exact x
  -- the class takes what is pending
  have hT : ∃ cT, bc_PA_takePending N c = some cT ∧ cF [2] c cT ∧ cT.1 2 0 = 0 ∧ cT.1 2 1 = c.1 2 1 ∧ cT.1 2 2 = c.1 2 2 ∧ cT.1 2 3 = 1 ∧ cT.1 2 4 = P ∧ cT.1 2 5 = B := by
    by_cases g : m.1 0 13 = 0
    · have g' : c.1 2 0 = 0 := p1.trans g
      refine ⟨c, by simp only [bc_PA_takePending, if_pos g', bc_PA_takePending_L33], cF.rf _ _, g', rfl, rfl, ?_, by rw [hPe, if_pos g]; exact p5, by rw [hBe, if_pos g]; exact p6⟩
      rcases p8 with x | x
      · exact absurd ⟨g', x⟩ hpt
      · exact x
    · have g' : ¬ c.1 2 0 = 0 := fun e => g (p1.symm.trans e)
      refine ⟨bp_sI (bp_sI (bp_sI (bp_sI c 2 4 (c.1 2 1)) 2 5 (c.1 2 2)) 2 3 1) 2 0 0, ?_, ((((cF.rf [2] c).s _ (by decide)).s _ (by decide)).s _ (by decide)).s _ (by decide), bp_s1e _ _ _ _, by simp [bp_s1], by simp [bp_s1], by simp [bp_s1], ?_, ?_⟩
      · have e2 : (bp_sI c 2 4 (c.1 2 1)).1 2 2 = c.1 2 2 := bp_s1k _ _ _ _ (by decide)
        simp only [bc_PA_takePending, if_neg g', bp_nM, e2, bp_g, or_true, true_or, if_true, bc_PA_takePending_L33]
      · rw [hPe, if_neg g]; simp [bp_s1]; exact p2'
      · rw [hBe, if_neg g]; simp [bp_s1]; exact p3
  obtain ⟨cT, t1, t2, t3, t4, t5, t6', t7, t8⟩ := hT
  have HT : bQ h cT m := H.of t2.1 (t2.2 4 (by decide) 1) (fun o ho y => t2.2 o (by simp; omega) y) rfl (fun _ _ _ => rfl)
  have hsT : jSS S cT m := hs.o (t2.2 4 (by decide) 5) (fun y => t2.2 20 (by decide) y) (fun y => t2.2 21 (by decide) y) rfl (fun _ => rfl) (fun _ => rfl)
  obtain ⟨cS, mS, s1, s2, s3, s4, s5, s6⟩ := b_all N hN (by omega) HT hsT
  have S0 : ∀ y, y ≠ 39 → mS.1 0 y = m.1 0 y := s6.2.1
  have S2 : ∀ y, cS.1 2 y = cT.1 2 y := fun y => s5.2.2 2 (by decide) (by decide) (by decide) (by omega) y
  -- the memories before the picture is taken in
  obtain ⟨cV, hcV⟩ : ∃ cV, cV = bp_sI (bp_sI cS 4 1 0) 4 2 P := ⟨_, rfl⟩
  obtain ⟨mV, hmV⟩ : ∃ mV, mV = bp_sI (bp_sI (bp_sI (bp_sI (bp_sI mS 0 34 0) 0 17 P) 0 18 B) 0 16 1) 0 13 0 := ⟨_, rfl⟩
  have CV : ∀ x, x ≠ 4 → ∀ y, cV.1 x y = cS.1 x y := fun x hx y => by rw [hcV, bp_s1o _ _ _ _ hx, bp_s1o _ _ _ _ hx]
  have cv2 : cV.2 = c.2 := by rw [hcV]; show cS.2 = _; rw [s5.1, t2.1]
  have MV : ∀ x, x ≠ 0 → ∀ y, mV.1 x y = mS.1 x y := fun x hx y => by rw [hmV, bp_s1o _ _ _ _ hx, bp_s1o _ _ _ _ hx, bp_s1o _ _ _ _ hx, bp_s1o _ _ _ _ hx, bp_s1o _ _ _ _ hx]
  have MV0 : ∀ y, y ≠ 34 → y ≠ 17 → y ≠ 18 → y ≠ 16 → y ≠ 13 → mV.1 0 y = mS.1 0 y := fun y a b d e f => by rw [hmV, bp_s1k _ _ _ _ f, bp_s1k _ _ _ _ e, bp_s1k _ _ _ _ d, bp_s1k _ _ _ _ b, bp_s1k _ _ _ _ a]
  have v34 : mV.1 0 34 = 0 := by rw [hmV]; simp [bp_s1]
  have v17 : mV.1 0 17 = P := by rw [hmV]; simp [bp_s1]
  have v18 : mV.1 0 18 = B := by rw [hmV]; simp [bp_s1]
  have v16 : mV.1 0 16 = 1 := by rw [hmV]; simp [bp_s1]
  have v13 : mV.1 0 13 = 0 := by rw [hmV]; simp [bp_s1]
  have v41 : cV.1 4 1 = 0 := by rw [hcV]; simp [bp_s1]
  have v42 : cV.1 4 2 = P := by rw [hcV]; simp [bp_s1]
  have v45 : cV.1 4 5 = cS.1 4 5 := by rw [hcV]; simp [bp_s1]
  obtain ⟨Pn, hP1, hP4, hPn⟩ := hPr
  have HV : bQ 0 cV mV := ⟨by omega, v41, v34, fun k hk => by omega, jT_of H.2.2.2.2 (fun _ => by rw [cv2]) (fun _ => by rw [cv2])⟩
  have hsV : jSS (S + 4) cV mV := s4.o v45 (fun y => CV 20 (by decide) y) (fun y => CV 21 (by decide) y) (MV0 39 (by decide) (by decide) (by decide) (by decide) (by decide)) (fun y => MV 17 (by decide) y) (fun y => MV 18 (by decide) y)
  have cSc : ∀ x, x ≠ 2 → x ≠ 4 → x ≠ 20 → x ≠ 21 → ¬ (11 ≤ x ∧ x < 15) → ∀ y, cS.1 x y = c.1 x y := fun x a b d e f y => by rw [s5.2.2 x b d e f, t2.2 x (by simpa using a)]
  have cVc : ∀ x, x ≠ 2 → x ≠ 4 → x ≠ 20 → x ≠ 21 → ¬ (11 ≤ x ∧ x < 15) → ∀ y, cV.1 x y = c.1 x y := fun x a b d e f y => by rw [CV x b, cSc x a b d e f]
  have mVm : ∀ x, x ≠ 0 → x ≠ 16 → x ≠ 17 → x ≠ 18 → ∀ y, mV.1 x y = m.1 x y := fun x a b d e y => by rw [MV x a, s6.2.2 x a b d e]
  have hzV : zW ord (ir 1 rank) cV mV := by
    obtain ⟨z1, z2, z3, z4, z5, z6⟩ := hz
    have e10 : ∀ y, cV.1 10 y = c.1 10 y := fun y => cVc 10 (by decide) (by decide) (by decide) (by decide) (by omega) y
    exact ⟨by rw [e10]; exact z1, z2, by rw [e10]; exact z3, z4, by rw [e10]; exact z5, fun i hi => by rw [cVc 34 (by decide) (by decide) (by decide) (by decide) (by omega), mVm 5 (by decide) (by decide) (by decide) (by decide)]; exact z6 i hi⟩
  obtain ⟨c1, m1, h1, k1, k2, k3, k4, k5, k6⟩ := z_admit N hN hP1 hP4 1 (by omega) HV hsV hzV (v42.trans hPn) (v17.trans hPn)
  have hPV : jP cV mV := by
    have e2 : ∀ y, cV.1 2 y = cT.1 2 y := fun y => by rw [CV 2 (by decide), S2]
    unfold jP
    rw [e2, e2, e2, e2, e2, e2, t3, t4, t5, t6', t7, t8, v13, v16, v17, v18, MV0 14 (by decide) (by decide) (by decide) (by decide) (by decide), MV0 15 (by decide) (by decide) (by decide) (by decide) (by decide), S0 14 (by decide), S0 15 (by decide)]
    exact ⟨rfl, p2', p3, rfl, rfl, rfl, Or.inl rfl, Or.inr rfl, fun e => absurd e (by decide), fun _ => ⟨Pn, hP1, hP4, hPn⟩, hBr⟩
  have hLV : jL cV mV := jL_of hL (fun y => by rw [cv2]) (fun o ho y => cVc o (by omega) (by omega) (by omega) (by omega) (by omega) y) (by rw [MV0 32 (by decide) (by decide) (by decide) (by decide) (by decide), S0 32 (by decide)]) (by rw [MV0 33 (by decide) (by decide) (by decide) (by decide) (by decide), S0 33 (by decide)]) (fun y => mVm 12 (by decide) (by decide) (by decide) (by decide) y)
  have hWV : jW cV mV := jW_of hW (cVc 5 (by decide) (by decide) (by decide) (by decide) (by omega) 2) (fun y => cVc 22 (by decide) (by decide) (by decide) (by decide) (by omega) y) (fun y => cVc 23 (by decide) (by decide) (by decide) (by decide) (by omega) y) (by rw [MV0 44 (by decide) (by decide) (by decide) (by decide) (by decide), S0 44 (by decide)]) (fun y => mVm 19 (by decide) (by decide) (by decide) (by decide) y) (fun y => mVm 20 (by decide) (by decide) (by decide) (by decide) y)
  have hCV : jC mV := jC_of hC (fun o ho y => mVm o (by omega) (by omega) (by omega) (by omega) y)
  have huV : cV.1 0 6 = mV.1 0 9 := by rw [cVc 0 (by decide) (by decide) (by decide) (by decide) (by omega), MV0 9 (by decide) (by decide) (by decide) (by decide) (by decide), S0 9 (by decide)]; exact hu
  refine ⟨cT, c1, m1, t1, ?_, ?_, jK_k k5 k6 huV hPV hLV hWV hCV ?_ (by rw [v42, v17]) k3 (k4.up (by omega)), fun x a b d e f g y => by rw [k5.2.1 x b d e f g, cVc x a b d e f], fun x a b y => by rw [k6.1 x a b, mVm x a (by omega) (by omega) (by omega)], fun y a b d => by rw [k6.2 y b d, MV0 y b (by omega) (by omega) (by omega) (by omega), S0 y d]⟩
  · have e4 : (bp_sI cS 4 1 0).1 2 4 = P := by rw [bp_s1o _ _ _ _ (by decide), S2]; exact t7
    rw [s1]
    simp only [bp_cV, bp_nM, e4, bc_BP_takePicture_L182]
    rw [← hcV, k1]
  · have e13 : (bp_sI mS 0 34 0).1 0 13 = m.1 0 13 := by rw [bp_s1k _ _ _ _ (by decide), S0 13 (by decide)]
    have e17 : (bp_sI mS 0 34 0).1 0 17 = m.1 0 17 := by rw [bp_s1k _ _ _ _ (by decide), S0 17 (by decide)]
    have e14 : (bp_sI mS 0 34 0).1 0 14 = m.1 0 14 := by rw [bp_s1k _ _ _ _ (by decide), S0 14 (by decide)]
    have f13 : (bp_sI (bp_sI mS 0 34 0) 0 17 P).1 0 13 = m.1 0 13 := by rw [bp_s1k _ _ _ _ (by decide), e13]
    have f15 : (bp_sI (bp_sI mS 0 34 0) 0 17 P).1 0 15 = m.1 0 15 := by rw [bp_s1k _ _ _ _ (by decide), bp_s1k _ _ _ _ (by decide), S0 15 (by decide)]
    have f18 : (bp_sI (bp_sI mS 0 34 0) 0 17 P).1 0 18 = m.1 0 18 := by rw [bp_s1k _ _ _ _ (by decide), bp_s1k _ _ _ _ (by decide), S0 18 (by decide)]
    have e49 : bm_M_keep_L49 N 1 ord (ir 1 rank) B (bp_sI (bp_sI mS 0 34 0) 0 17 P) = some m1 := by
      simp only [bm_M_keep_L49, bp_nM, bp_g, or_true, true_or, if_true]
      rw [← hmV]
      exact k2
    have e27 : bm_M_keep_L27 N 1 ord (ir 1 rank) P (bp_sI mS 0 34 0) = some m1 := by
      rw [← e49, hBe]
      simp only [bm_M_keep_L27, bp_nM, f13, f15, f18]
      split <;> rfl
    rw [← e27, hPe]
    simp only [bm_M_keep, if_neg bp_10, s2, bp_cV, e13, e14, e17]
    split <;> rfl
  · rw [CV 2 (by decide), S2]; exact t6'
