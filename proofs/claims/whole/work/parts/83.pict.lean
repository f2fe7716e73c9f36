/-- the end of another picture: one reference released, the picture admitted -/
theorem z_next (N : Nat) (hN : 4000 ≤ N) {S h : Nat} (hS : S ≤ 3000000) {rank ord : Int32} {c m : bp_M} (hu : c.1 0 6 = m.1 0 9) (hP : jP c m) (hL : jL c m) (hW : jW c m) (hC : jC m) (H : bQ h c m) (hs : jSS S c m) (hz : zW ord (ir 0 rank) c m) (h23 : c.1 2 3 = 1) (h42 : c.1 4 2 = m.1 0 17) (hR : c.1 3 5 = m.1 0 22) (hR2 : c.1 3 5 = -1 ∨ ∃ r : Nat, r < (rl m h).length ∧ c.1 3 5 = Int32.ofNat r) : ∃ c1 m1, (bp_cV (bc_PB_release N (c.1 3 5) c) fun m2 => bc_BP_takePicture_L182 N 0 rank m2) = some c1 ∧ bm_M_keep N 0 ord (ir 0 rank) m = some m1 ∧ jK (S + 10) c1 m1 ∧ kF c c1 ∧ kG m m1 := by
  obtain ⟨h4, hc, hm, hQ, hT⟩ := id H
  have hl := rl_len m h
  obtain ⟨Pn, hP1, hP4, hPn⟩ := hP.2.2.2.2.2.2.2.2.2.1 h23
  have m17 : m.1 0 17 = Int32.ofNat Pn := by rw [← hP.2.2.2.2.1]; exact hPn
  -- behind the release
  have tail : ∀ c0 m0 : bp_M, bQ h c0 m0 → kF c c0 → kG m m0 → jSS S c0 m0 → ∃ c1 m1, bc_PB_admit N 10 c0 = some c1 ∧ bm_M_keep_L86 N 0 ord (ir 0 rank) m0 = some m1 ∧ jK (S + 10) c1 m1 ∧ kF c c1 ∧ kG m m1 := fun c0 m0 H0 f g hs0 => by
    obtain ⟨c1, m1, h1, k1, k2, k3, k4, k5, k6⟩ := z_admit N hN hP1 hP4 0 (by omega) H0 hs0 (hz.of f g) (by rw [f.2.2 2 (by decide) (by decide), h42]; exact m17) (by rw [g.2 17 (by decide) (by decide)]; exact m17)
    exact ⟨c1, m1, k1, k2, jK_k (f.tr k5) (g.tr k6) hu hP hL hW hC h23 h42 k3 (k4.up (by omega)), f.tr k5, g.tr k6⟩
  rcases hR2 with hr | ⟨r, hr, hre⟩
  · have e1 : bc_PB_release N (-1) c = some c := by
      simp only [bc_PB_release, hc, bp_nI, bp_sub1]
      exact c_relN N (-1) H h N 0 (Nat.le_refl h) (by omega) (by omega) (fun r hr2 e => by
        have h1 : (-1 : Int32) < 0 := by decide
        rw [← e] at h1
        exact bp_nneg (by omega) h1)
    obtain ⟨c1, m1, k1, k2, k3⟩ := tail c m H (kF.rf _) (kG.rf _) hs
    refine ⟨c1, m1, ?_, ?_, k3⟩
    · rw [hr, e1]
      simp only [bp_cV, bc_BP_takePicture_L182, k1]
    · have e2 : m.1 0 22 < 0 := by rw [← hR, hr]; decide
      simp only [bm_M_keep, if_true, if_pos e2]
      exact k2
  · obtain ⟨i, hi⟩ : ∃ i, (rl m h)[r]? = some i := ⟨_, List.getElem?_eq_getElem hr⟩
    have hib := rl_b h r i hi
    have hTi := hT.1 i (by omega)
    have i4 : vp_in (Int32.ofNat i) 4 := bp_in (by omega) (by omega)
    have e1 : bc_PB_release N (Int32.ofNat r) c = some (bp_sI c (c.2 40 i) 2 0) := by
      have := c_relY N H hib.1 h N 0 r (Nat.le_refl h) (by omega) (by omega) hi
      rw [Nat.zero_add] at this
      simp only [bc_PB_release, hc, bp_nI, bp_sub1]
      exact this
    have f1 : kF c (bp_sI c (c.2 40 i) 2 0) := ⟨fun _ _ _ => rfl, fun x _ _ _ a _ y => bp_s1o _ _ _ _ (by omega) y, fun y _ _ => bp_s1o _ _ _ _ (by omega) y⟩
    have f2 : kG m (bp_sI m 15 i 0) := ⟨fun x _ a y => bp_s1o _ _ _ _ (by omega) y, fun y _ _ => bp_s1o _ _ _ _ (by decide) y⟩
    obtain ⟨c1, m1, k1, k2, k3⟩ := tail _ _ (H.um hib.1) f1 f2 (hs.o (bp_s1o _ _ _ _ (by omega) _) (fun y => bp_s1o _ _ _ _ (by omega) y) (fun y => bp_s1o _ _ _ _ (by omega) y) (bp_s1o _ _ _ _ (by decide) _) (fun y => bp_s1o _ _ _ _ (by decide) y) (fun y => bp_s1o _ _ _ _ (by decide) y))
    refine ⟨c1, m1, ?_, ?_, k3⟩
    · rw [hre, e1]
      simp only [bp_cV, bc_BP_takePicture_L182, k1]
    · have e2 : ¬ m.1 0 22 < 0 := by rw [← hR, hre]; exact bp_nneg (by omega)
      have e3 : bm_M_reference N (m.1 0 22) m = some (Int32.ofNat i, m) := by
        rw [← hR, hre]
        exact m_reference N hN h4 hm hi
      simp only [bm_M_keep, if_true, if_neg e2, e3, bp_cI, bp_git i4, bp_tn (show i < 2147483648 by omega), bp_g, true_or, bp_nM]
      exact k2
theorem m_toEndF (N : Nat) {m : bp_M} (hb : ¬ m.1 0 12 = 0) : bm_M_toEnd N m = some m := by
  simp only [bm_M_toEnd, hb, not_false_iff, if_true, bm_M_toEnd_L24]
theorem w_pict (N : Nat) (hN : 4000 ≤ N) : lw_Pict N := by
  intro S d c m key rank hS hkey hrank hE hK h1 h3 h11 h12
  obtain ⟨hu, hP, hT, ⟨h, h4, hc, hm, hpl, hQ⟩, hs, hL, hW, hC⟩ := id hK
  have H : bQ h c m := ⟨h4, hc, hm, hQ, hT⟩
  have h0 : rD d c m := ⟨hE, by rw [h3, h12], by rw [h1, h11]; exact fun _ => ⟨0, by omega, rfl, rfl⟩⟩
  obtain ⟨q, hq⟩ : ∃ q, q = c.2 3 6 := ⟨_, rfl⟩
  obtain ⟨l, hl⟩ : ∃ l, l = c.2 3 2 := ⟨_, rfl⟩
  have RQ : isRO q := by rw [hq]; exact hL.2.1
  have RL : isRO l := by rw [hl]; exact hL.1
  have hne : q ≠ l := by rw [hq, hl]; exact hL.2.2.1
  obtain ⟨rq1, rq2⟩ := id RQ
  obtain ⟨rl1, rl2⟩ := id RL
  have hlen := rl_len m h
  obtain ⟨cA, mA, -, A1, A2, A3, A4, A5, A6, A7, A8, A9, A10⟩ := z_start N hN (rank := rank) hkey h0 h3 hK H
  -- the base
  obtain ⟨base, hbase⟩ : ∃ base : Int32, base = if key = 0 then mA.1 0 18 else if mA.1 0 13 = 0 then mA.1 0 18 else mA.1 0 15 := ⟨_, rfl⟩
  have a18 : mA.1 0 18 = m.1 0 18 := A9.2 18 (by decide) (by decide)
  have a13 : mA.1 0 13 = m.1 0 13 := A9.2 13 (by decide) (by decide)
  have a15 : mA.1 0 15 = m.1 0 15 := A9.2 15 (by decide) (by decide)
  have eB : bc_PA_baseFor N key cA = some (base, cA) := by
    have x5 : cA.1 2 5 = mA.1 0 18 := by rw [A8 2 (by decide) (by decide), a18]; exact hP.2.2.2.2.2.1
    have x0 : cA.1 2 0 = mA.1 0 13 := by rw [A8 2 (by decide) (by decide), a13]; exact hP.1
    have x2' : cA.1 2 2 = mA.1 0 15 := by rw [A8 2 (by decide) (by decide), a15]; exact hP.2.2.1
    rw [hbase]
    simp only [bc_PA_baseFor, bc_PA_baseFor_L18, bc_PA_baseFor_L22, x5, x0, x2']
    split
    · rfl
    · split <;> rfl
  obtain ⟨c5, m5, ord, B1, B2, B3, B4, B5, B6, B7⟩ := z_hdr N hN (K := (rl m h).length) (by omega) (rank := rank) hkey A3 A4 A6 hbase
  -- frames up to here
  have C5 : ∀ x, x ≠ 3 → x ≠ 6 → x ≠ 10 → ∀ y, c5.1 x y = c.1 x y := fun x a b e y => by rw [B5.2.1 x a b e, A8 x a b]
  have C52 : ∀ x, x ≠ 39 → ∀ y, c5.2 x y = c.2 x y := fun x a y => by rw [B5.1 x a, A7 x a]
  have M5 : ∀ x, x ≠ 0 → ∀ y, m5.1 x y = m.1 x y := fun x x0 y => by rw [B5.2.2.1 x x0, A9.1 x x0 (by simp)]
  have M50 : ∀ y, y ≠ 11 → y ≠ 12 → ¬ (19 ≤ y ∧ y ≤ 22) → m5.1 0 y = m.1 0 y := fun y a b e => by rw [B5.2.2.2 y a b e, A9.2 y a b]
  by_cases fA' : cA.1 6 3 = 0
  · -- the header is read
    have hA := A10 fA'
    obtain ⟨c6, m6, D1, D2, D3, D4, D5, D6, D7⟩ := z_blocks N hN RQ hkey rank ord 16 0 N N c5 m5 (by omega) (by omega) (by omega) B3 (fun hf => by
      obtain ⟨b1, b2, b3, b4', b5, b6, b7, b8, b9⟩ := B7 hf
      refine ⟨by rw [C52 3 (by decide)]; exact hq.symm, b5, b6, jC_of hC (fun o ho y => M5 o (by omega) y), fun i hi hb => by omega, fun j hj => by omega, fun hk => ?_⟩
      obtain ⟨L, F, n1, n2, n3, n4, n5, n6⟩ := b9 hk
      exact ⟨_, z_listed N hN H rfl (fun y => M5 15 (by decide) y) (fun y => M5 13 (by decide) y) (M50 34 (by decide) (by decide) (by omega)) n1 n4 n2 n3 n5 A5 n6 (fun o ho y => C5 o (by omega) (by omega) (by omega) y)⟩)
    obtain ⟨c7, m7, E1, E2, E3, E4, E5, E6⟩ := z_end N D3
    have C7 : ∀ x, x ≠ 3 → x ≠ 6 → x ≠ 10 → x ≠ 17 → x ≠ 18 → x ≠ 19 → x ≠ 34 → ¬ (5 * q - 16 ≤ x ∧ x ≤ 5 * q - 12) → ∀ y, c7.1 x y = c.1 x y := fun x a1 a2 a3 a4 a5 a6 a7 a8 y => by rw [E4.2 x (by simpa using a2), D4.2 x (by simp; omega), C5 x a1 a2 a3]
    have C72 : ∀ x, x ≠ 39 → ∀ y, c7.2 x y = c.2 x y := fun x a y => by rw [E4.1, D4.1, C52 x a]
    have C739 : ∀ i, i < 4 → isPI (c7.2 39 i) := fun i hi => by rw [E4.1, D4.1]; exact B6 i hi
    have M7 : ∀ x, x ≠ 0 → ¬ (5 ≤ x ∧ x ≤ 11) → ∀ y, m7.1 x y = m.1 x y := fun x x0 hx y => by rw [E5.1 x x0 (by simp), D5.1 x x0 (by simp; omega), M5 x x0]
    have M70 : ∀ y, y ≠ 11 → y ≠ 12 → ¬ (19 ≤ y ∧ y ≤ 22) → m7.1 0 y = m.1 0 y := fun y a b e => by rw [E5.2 y a b, D5.2 y a b, M50 y a b e]
    have EC : bc_BP_takePicture N key rank c = bc_BP_takePicture_L118 N key rank c7 := by
      have d1 : bc_PD_readBlocks N key c5 = some c6 := D1
      rw [A1]
      simp only [bc_BP_takePicture_L82, fA', not_true, if_false, eB, bp_cI, B1, bp_cV, d1, E1]
    have EM : bm_M_picture N key rank m = if ¬ (m7.1 0 12) = 0 then some m7 else bp_cV (bm_M_edges N m7) fun m2 => bp_cV (bm_M_remember N m2) fun m3 => bp_cV (bm_M_keep N key ord (ir key rank) m3) fun m4 => some m4 := by
      have d2 : bm_M_picture_L208 N key rank ord m5 = bm_M_picture_L238 N key rank ord m6 := D2
      rw [A2, B2, d2]
      simp only [bm_M_picture_L238, E2, bp_cV, bm_M_picture_L277]
      by_cases hz : m7.1 0 12 = 0
      · rw [if_neg (fun hn => hn hz), if_neg (fun hn => hn hz)]
        simp only [bm_M_picture_L269, bm_M_picture_L274, bm_M_picture_L277]
        by_cases hk : key = 0
        · by_cases hr : rank ≤ 0
          · simp only [ir, hk, hr, not_true, if_false, if_true, bp_cV]
          · simp only [ir, hk, hr, not_true, if_false, if_true, bp_cV]
        · simp only [ir, hk, not_false_iff, if_true, bp_cV]
      · rw [if_pos hz, if_pos hz]
    by_cases f7 : c7.1 6 3 = 0
    · -- the picture is whole
      have f6 := E6 f7
      have f5 := D6 f6
      have b7 : m7.1 0 12 = 0 := by rw [← E3]; exact f7
      obtain ⟨b1, b2, b3, b4', b5, b6, b7', b8, b9⟩ := B7 f5
      obtain ⟨R1, R2, R3, R4, R5, R6, R7⟩ := D7 f6
      have c7s : ∀ x, x ≠ 6 → ∀ y, c7.1 x y = c6.1 x y := fun x a y => E4.2 x (by simpa using a) y
      have m7s : ∀ x, x ≠ 0 → ∀ y, m7.1 x y = m6.1 x y := fun x a y => E5.1 x a (by simp) y
      have m719 : m7.1 0 19 = m6.1 0 19 := E5.2 19 (by decide) (by decide)
      obtain ⟨c8, m8, m9, F1, F2, F3, F4, F5, F6, F7, F8, F9, F10⟩ := z_finish N hN RQ RL hne (c := c7) (m := m7) (by rw [C72 3 (by decide)]; exact hq.symm) (by rw [C72 3 (by decide)]; exact hl.symm) (by rw [c7s 3 (by decide), m719]; exact R2) (by rw [m719]; exact R3) (fun i hi => by
          rw [c7s 34 (by decide), m7s 5 (by decide)]
          exact R5 i hi (by unfold bo; omega)) (fun i hi => by
          unfold zJ
          rw [c7s _ (by omega), c7s _ (by omega), c7s _ (by omega), c7s _ (by omega), c7s _ (by omega), m7s 6 (by decide), m7s 7 (by decide), m7s 8 (by decide), m7s 9 (by decide), m7s 10 (by decide)]
          exact R6 i hi)
      have C8 : ∀ x, x ≠ 3 → x ≠ 6 → x ≠ 10 → x ≠ 17 → x ≠ 18 → x ≠ 19 → x ≠ 34 → ¬ (5 * q - 16 ≤ x ∧ x ≤ 5 * q - 12) → x ≠ q → ∀ y, c8.1 x y = c.1 x y := fun x a1 a2 a3 a4 a5 a6 a7 a8 a9 y => by rw [F6 x a7 a9, C7 x a1 a2 a3 a4 a5 a6 a7 a8]
      have C8f : ∀ x, x = 0 ∨ x = 1 ∨ x = 2 ∨ x = 4 ∨ x = 5 ∨ x = 20 ∨ x = 21 ∨ x = 22 ∨ x = 23 ∨ (11 ≤ x ∧ x < 15) ∨ (35 ≤ x ∧ x < 39) → ∀ y, c8.1 x y = c.1 x y := fun x hx y => C8 x (by omega) (by omega) (by omega) (by omega) (by omega) (by omega) (by omega) (by omega) (by omega) y
      have C82 : ∀ x, x ≠ 39 → x ≠ 3 → ∀ y, c8.2 x y = c.2 x y := fun x a b y => by rw [F8 x b, C72 x a]
      have M9 : ∀ x, x ≠ 0 → ¬ (5 ≤ x ∧ x ≤ 12) → ∀ y, m9.1 x y = m.1 x y := fun x x0 hx y => by rw [F9 x x0 (by omega) (by omega), M7 x x0 (by omega)]
      have M90 : ∀ y, y ≠ 11 → y ≠ 12 → ¬ (19 ≤ y ∧ y ≤ 22) → y ≠ 30 → y ≠ 32 → y ≠ 33 → m9.1 0 y = m.1 0 y := fun y a b e f g i => by rw [F10 y f g i, M70 y a b e]
      have H8 : bQ h c8 m9 := H.o2 (fun y => C82 40 (by decide) (by decide) y) (fun i hi => by rw [F8 39 (by decide)]; exact C739 i hi) (C8f 4 (by omega) 1) (fun o ho y => C8f o (by omega) y) (M90 34 (by decide) (by decide) (by omega) (by decide) (by decide) (by decide)) (fun o ho y => M9 o (by omega) (by omega) y)
      have hs8 : jSS S c8 m9 := hs.o (C8f 4 (by omega) 5) (fun y => C8f 20 (by omega) y) (fun y => C8f 21 (by omega) y) (M90 39 (by decide) (by decide) (by omega) (by decide) (by decide) (by decide)) (fun y => M9 17 (by decide) (by omega) y) (fun y => M9 18 (by decide) (by omega) y)
      have hu8 : c8.1 0 6 = m9.1 0 9 := by rw [C8f 0 (by omega), M90 9 (by decide) (by decide) (by omega) (by decide) (by decide) (by decide)]; exact hu
      have hP8 : jP c8 m9 := jP_of hP (fun y => C8f 2 (by omega) y) (fun y hy => M90 y (by omega) (by omega) (by omega) (by omega) (by omega) (by omega))
      have hW8 : jW c8 m9 := jW_of hW (C8f 5 (by omega) 2) (fun y => C8f 22 (by omega) y) (fun y => C8f 23 (by omega) y) (M90 44 (by decide) (by decide) (by omega) (by decide) (by decide) (by decide)) (fun y => M9 19 (by decide) (by omega) y) (fun y => M9 20 (by decide) (by omega) y)
      have hC8 : jC m9 := jC_of hC (fun o ho y => M9 o (by omega) (by omega) y)
      have c810 : ∀ y, c8.1 10 y = c5.1 10 y := fun y => by rw [F6 10 (by decide) (by omega), c7s 10 (by decide), D4.2 10 (by simp; omega)]
      have c83 : ∀ y, c8.1 3 y = c5.1 3 y := fun y => by rw [F6 3 (by decide) (by omega), c7s 3 (by decide), D4.2 3 (by simp; omega)]
      have hz8 : zW ord (ir key rank) c8 m9 := ⟨by rw [c810]; exact b1, b2, by rw [c810]; exact b3, ir_b key rank, by rw [c810]; exact b4', F4⟩
      have ED : bc_BP_takePicture N key rank c = if key = 0 then (bp_cV (bc_PB_release N (c8.1 3 5) c8) fun m2 => bc_BP_takePicture_L182 N key rank m2) else (bp_cV (bc_PA_takePending N c8) fun m3 => bp_cV (bc_PB_showAll N m3) fun m4 => bp_nM (bp_sI m4 4 2 (m4.1 2 4)) fun m5 => bc_BP_takePicture_L182 N key rank m5) := by
        rw [EC]
        unfold bc_BP_takePicture_L118
        rw [if_pos f7, F1]
        rfl
      rw [if_neg (fun hn => hn b7), F2] at EM
      have EM2 : bm_M_picture N key rank m = bp_cV (bm_M_keep N key ord (ir key rank) m9) fun m4 => some m4 := by
        rw [EM]
        simp only [bp_cV, F3]
      -- what the failure's cells hold at the end
      have c86 : c8.1 6 3 = 0 := by rw [F6 6 (by decide) (by omega)]; exact f7
      have m912 : m9.1 0 12 = 0 := by rw [F10 12 (by decide) (by decide) (by decide)]; exact b7
      rcases hkey with hk | hk
      · subst hk
        rw [if_pos rfl] at ED
        have hK1 := hA.1 rfl
        obtain ⟨h23, h42⟩ := hpl (by omega)
        have rle : rl m9 h = rl m h := rl_e (fun y => M9 15 (by decide) (by omega) y) h
        have r22 : m9.1 0 22 = m5.1 0 22 := by rw [F10 22 (by decide) (by decide) (by decide), E5.2 22 (by decide) (by decide), D5.2 22 (by decide) (by decide)]
        obtain ⟨c9, m10, G1, G2, G3, G4, G5⟩ := z_next N hN hS (rank := rank) (ord := ord) hu8 hP8 F5 hW8 hC8 H8 hs8 hz8 (by rw [C8f 2 (by omega)]; exact h23) (by rw [C8f 4 (by omega), M90 17 (by decide) (by decide) (by omega) (by decide) (by decide) (by decide)]; exact h42) (by rw [c83, r22]; exact b7') (by rw [c83, rle]; exact b8)
        have K9 : ∀ x, x = 0 ∨ x = 1 ∨ x = 5 ∨ x = 23 → ∀ y, c9.1 x y = c.1 x y := fun x hx y => by rw [G4.2.1 x (by omega) (by omega) (by omega) (by omega) (by omega), C8f x (by omega)]
        refine ⟨c9, m10, ED.trans G1, ?_, ?_, G3, fun y => K9 0 (by omega) y, fun y => K9 1 (by omega) y, fun y hy => ?_, ⟨fun y => K9 5 (by omega) y, fun y => K9 23 (by omega) y, ?_, fun y => ?_⟩⟩
        · rw [EM2, G2]; rfl
        · rw [G4.2.1 6 (by decide) (by decide) (by decide) (by omega) (by omega), G5.2 12 (by decide) (by decide), c86, m912]
        · rw [G5.2 y (by omega) (by omega), M90 y (by omega) (by omega) (by omega) (by omega) (by omega) (by omega)]
        · rw [G5.2 44 (by decide) (by decide), M90 44 (by decide) (by decide) (by omega) (by decide) (by decide) (by decide)]
        · rw [G5.1 20 (by decide) (by omega), M9 20 (by decide) (by omega)]
      · subst hk
        rw [if_neg bp_10] at ED
        obtain ⟨cT, c9, m10, G0, G1, G2, G3, G4, G5, G6⟩ := z_key N hN hS (rank := rank) (ord := ord) hu8 hP8 F5 hW8 hC8 H8 hs8 hz8 (by rw [C8f 2 (by omega), C8f 2 (by omega)]; exact hA.2 rfl)
        have K9 : ∀ x, x = 0 ∨ x = 1 ∨ x = 5 ∨ x = 23 → ∀ y, c9.1 x y = c.1 x y := fun x hx y => by rw [G4 x (by omega) (by omega) (by omega) (by omega) (by omega) (by omega), C8f x (by omega)]
        refine ⟨c9, m10, ?_, ?_, ?_, G3, fun y => K9 0 (by omega) y, fun y => K9 1 (by omega) y, fun y hy => ?_, ⟨fun y => K9 5 (by omega) y, fun y => K9 23 (by omega) y, ?_, fun y => ?_⟩⟩
        · rw [ED, G0]; exact G1
        · rw [EM2, G2]; rfl
        · rw [G4 6 (by decide) (by decide) (by decide) (by decide) (by omega) (by omega), G6 12 (by omega) (by decide) (by decide), c86, m912]
        · rw [G6 y (by omega) (by omega) (by omega), M90 y (by omega) (by omega) (by omega) (by omega) (by omega) (by omega)]
        · rw [G6 44 (by omega) (by decide) (by decide), M90 44 (by decide) (by decide) (by omega) (by decide) (by decide) (by decide)]
        · rw [G5 20 (by decide) (by omega), M9 20 (by decide) (by omega)]
    · -- a fault in it
      have b7 : ¬ m7.1 0 12 = 0 := by rw [← E3]; exact f7
      rw [if_pos b7] at EM
      have JK : jK (S + 10) c7 m7 := (jK_z hK C72 C739 (fun x a1 a2 a3 a4 a5 a6 a7 a8 y => C7 x a1 a2 a3 a4 a5 a6 a7 (by rw [hq]; exact a8) y) M7 M70).up (by omega)
      refine ⟨c7, m7, ?_, EM, E3, JK, fun y => C7 0 (by decide) (by decide) (by decide) (by decide) (by decide) (by decide) (by decide) (by omega) y, fun y => C7 1 (by decide) (by decide) (by decide) (by decide) (by decide) (by decide) (by decide) (by omega) y, fun y hy => M70 y (by omega) (by omega) (by omega), ⟨fun y => C7 5 (by decide) (by decide) (by decide) (by decide) (by decide) (by decide) (by decide) (by omega) y, fun y => C7 23 (by decide) (by decide) (by decide) (by decide) (by decide) (by decide) (by decide) (by omega) y, M70 44 (by decide) (by decide) (by omega), fun y => M7 20 (by decide) (by omega) y⟩⟩
      rw [EC]
      unfold bc_BP_takePicture_L118
      rw [if_neg f7]
  · -- a fault before the header
    have f5 : c5.1 6 3 = cA.1 6 3 := B4 fA'
    have b5 : ¬ m5.1 0 12 = 0 := by rw [← B3.2.1, f5]; exact fA'
    have EC : bc_BP_takePicture N key rank c = some cA := by
      rw [A1]
      simp only [bc_BP_takePicture_L82, fA', not_false_iff, if_true, bc_BP_takePicture_L118, if_false]
    have EM : bm_M_picture N key rank m = some m5 := by
      rw [A2, B2]
      have : bm_M_picture_L208 N key rank ord m5 = bm_M_picture_L238 N key rank ord m5 := by
        unfold bm_M_picture_L208
        obtain ⟨k, rfl⟩ : ∃ k, N = k + 1 := ⟨N - 1, by omega⟩
        rw [bm_M_picture_L211, if_neg (by decide), if_pos b5]
      rw [this]
      simp only [bm_M_picture_L238, m_toEndF N b5, bp_cV, b5, not_false_iff, if_true, bm_M_picture_L277]
    have JK : jK (S + 10) cA m5 := (jK_z hK A7 A6 (fun x a1 a2 _ _ _ _ _ _ y => A8 x a1 a2 y) (fun x x0 _ y => M5 x x0 y) M50).up (by omega)
    exact ⟨cA, m5, EC, EM, by rw [← f5]; exact B3.2.1, JK, fun y => A8 0 (by decide) (by decide) y, fun y => A8 1 (by decide) (by decide) y, fun y hy => M50 y (by omega) (by omega) (by omega), ⟨fun y => A8 5 (by decide) (by decide) y, fun y => A8 23 (by decide) (by decide) y, M50 44 (by decide) (by decide) (by omega), fun y => M5 20 (by decide) y⟩⟩
