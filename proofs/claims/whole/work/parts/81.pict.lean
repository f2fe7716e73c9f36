/-! The picture: what its decoding leaves of the relation; the references as listed. -/
/-- the relation does not see what is decoded -/
theorem jK_z {S : Nat} {c m c1 m1 : bp_M} (h : jK S c m) (a : ∀ x, x ≠ 39 → ∀ y, c1.2 x y = c.2 x y) (a39 : ∀ i, i < 4 → isPI (c1.2 39 i)) (fc : ∀ x, x ≠ 3 → x ≠ 6 → x ≠ 10 → x ≠ 17 → x ≠ 18 → x ≠ 19 → x ≠ 34 → ¬ (5 * c.2 3 6 - 16 ≤ x ∧ x ≤ 5 * c.2 3 6 - 12) → ∀ y, c1.1 x y = c.1 x y) (g : ∀ x, x ≠ 0 → ¬ (5 ≤ x ∧ x ≤ 11) → ∀ y, m1.1 x y = m.1 x y) (g0 : ∀ y, y ≠ 11 → y ≠ 12 → ¬ (19 ≤ y ∧ y ≤ 22) → m1.1 0 y = m.1 0 y) : jK S c1 m1 := by
  obtain ⟨h2, h4, h5, h6, h7, h8, h9, h10⟩ := h
  obtain ⟨l1, l2, l3, l4, l5⟩ := h8
  obtain ⟨q1, q2⟩ := id l2
  obtain ⟨k1, k2⟩ := id l1
  have e40 : ∀ y, c1.2 40 y = c.2 40 y := fun y => a 40 (by decide) y
  have e3 : ∀ y, c1.2 3 y = c.2 3 y := fun y => a 3 (by decide) y
  have f : ∀ x, x = 0 ∨ x = 2 ∨ x = 4 ∨ x = 5 ∨ x = 8 ∨ x = 9 ∨ x = 20 ∨ x = 21 ∨ x = 22 ∨ x = 23 ∨ (11 ≤ x ∧ x < 15) ∨ (35 ≤ x ∧ x < 39) → ∀ y, c1.1 x y = c.1 x y := fun x hx y => fc x (by omega) (by omega) (by omega) (by omega) (by omega) (by omega) (by omega) (by omega) y
  have fl : ∀ x, 5 * c.2 3 2 - 16 ≤ x ∧ x ≤ 5 * c.2 3 2 - 12 → ∀ y, c1.1 x y = c.1 x y := fun x hx y => fc x (by omega) (by omega) (by omega) (by omega) (by omega) (by omega) (by omega) (by omega) y
  refine ⟨?_, jP_of h4 (fun y => f 2 (by omega) y) (fun y hy => g0 y (by omega) (by omega) (by omega)), ?_, jB_of h6 h5 e40 (f 4 (by omega) 1) (f 4 (by omega) 2) (f 2 (by omega) 3) (fun o ho y => f o (by omega) y) (g0 34 (by decide) (by decide) (by omega)) (g0 17 (by decide) (by decide) (by omega)) (fun o ho y => g o (by omega) (by omega) y), ?_, ?_, jW_of h9 (f 5 (by omega) 2) (fun y => f 22 (by omega) y) (fun y => f 23 (by omega) y) (g0 44 (by decide) (by decide) (by omega)) (fun y => g 19 (by decide) (by omega) y) (fun y => g 20 (by decide) (by omega) y), jC_of h10 (fun o ho y => g o (by omega) (by omega) y)⟩
  · rw [f 0 (by omega), g0 9 (by decide) (by decide) (by omega)]; exact h2
  · obtain ⟨t1, t2, -⟩ := h5
    exact ⟨fun k hk => by rw [e40]; exact t1 k hk, fun i hi j hj e => t2 i hi j hj (by rw [e40, e40] at e; exact e), a39⟩
  · unfold jSS at h7 ⊢
    simp only [f 4 (by omega), f 21 (by omega), f 20 (by omega), g0 39 (by decide) (by decide) (by omega), g 17 (by decide) (by omega), g 18 (by decide) (by omega)]
    exact h7
  · unfold jL
    rw [e3, e3]
    refine ⟨l1, l2, l3, ?_, fun n hn => ?_⟩
    · rw [f (c.2 3 2) (by omega), g0 33 (by decide) (by decide) (by omega), g0 32 (by decide) (by decide) (by omega)]; exact l4
    · rw [fl _ (by omega), fl _ (by omega), fl _ (by omega), g 12 (by decide) (by omega)]; exact l5 n hn
/-- the references listed on both sides once the header is read -/
theorem z_listed (N : Nat) (hN : 4000 ≤ N) {h K L F : Nat} {c m m1 : bp_M} (H : bQ h c m) (hK : K = (rl m h).length) (h15 : ∀ y, m1.1 15 y = m.1 15 y) (h13 : ∀ y, m1.1 13 y = m.1 13 y) (h34 : m1.1 0 34 = m.1 0 34) {c1 c0 : bp_M} (hL : L < K) (hF : F < K) (e9 : c1.1 3 9 = Int32.ofNat L) (e20 : m1.1 0 20 = Int32.ofNat L) (e21 : (m1.1 0 21 = -1 ∧ F = 0) ∨ m1.1 0 21 = Int32.ofNat F) (hrow : ∀ j i, (rl m h)[j]? = some i → c0.2 39 j = c.2 40 i) (hput : ∀ r, r < 4 → c1.2 39 r = c0.2 39 (if r = 0 then F else if r ≤ F then r - 1 else r)) (hcell : ∀ o, 35 ≤ o ∧ o < 39 → ∀ y, c1.1 o y = c.1 o y) : zL N K c1 m1 := by
  obtain ⟨h4, hc, hm, hQ, hT⟩ := id H
  have hl := rl_len m h
  refine ⟨by omega, by omega, ⟨L, hL, e9, e20⟩, fun r hr => ?_⟩
  obtain ⟨j, hj⟩ : ∃ j, j = if r = 0 then F else if r ≤ F then r - 1 else r := ⟨_, rfl⟩
  have hjK : j < K := by
    rw [hj]
    split
    · exact hF
    · split <;> omega
  obtain ⟨p, hp⟩ : ∃ p, (rl m h)[j]? = some p := ⟨_, List.getElem?_eq_getElem (by omega)⟩
  have hpb := rl_b h j p hp
  have hTp := hT.1 p (by omega)
  have e39 : c1.2 39 r = c.2 40 p := by rw [hput r (by omega), ← hj, hrow j p hp]
  refine ⟨p, by omega, by rw [e39]; exact hTp.1, by rw [e39]; exact hTp.2, fun m' g15 g34 g21 => ?_, fun i hi => ?_⟩
  · have hre : ∀ x : Nat, x = j → bm_M_reference N (Int32.ofNat x) m' = some (Int32.ofNat p, m') := fun x hx => by
      subst hx
      refine m_reference N hN h4 (by rw [g34, h34]; exact hm) ?_
      rw [rl_e (m := m) (fun y => (g15 y).trans (h15 y))]
      exact hp
    unfold bm_M_listed bm_M_listed_L42
    rw [g21]
    rcases e21 with ⟨e1, e2⟩ | e1
    · rw [e1, if_neg (by decide), hre r (by rw [hj, e2]; split; omega; split <;> omega)]
      rfl
    · rw [e1, if_pos (bp_nlt (bp_nneg (by omega)))]
      by_cases h0 : r = 0
      · rw [if_neg (fun hn => hn (by rw [h0]; rfl)), hre F (by rw [hj, if_pos h0])]
        rfl
      · rw [if_pos (bp_ne0 (by omega) h0), show Int32.ofNat r - 1 = Int32.ofNat (r - 1) from bp_sub (b := 1) (by omega)]
        by_cases h1 : r ≤ F
        · rw [if_neg (fun e => by have := (bp_le (by omega) (by omega)).mp e; omega), hre (r - 1) (by rw [hj, if_neg h0, if_pos h1])]
          rfl
        · rw [if_pos ((bp_le (by omega) (by omega)).mpr (by omega)), hre r (by rw [hj, if_neg h0, if_neg h1])]
          rfl
  · rw [e39, hcell _ (by omega), h13]
    obtain ⟨-, -, -, -, -, -, o7⟩ := hQ p (by omega)
    exact o7 i hi
/-- the references counted, and the faults that stand before the header -/
theorem z_start (N : Nat) (hN : 4000 ≤ N) {S d h : Nat} {key rank : Int32} (hkey : key = 0 ∨ key = 1) {c m : bp_M} (h0 : rD d c m) (hf0 : c.1 6 3 = 0) (hK : jK S c m) (H : bQ h c m) : ∃ (cA mA c0 : bp_M), bc_BP_takePicture N key rank c = bc_BP_takePicture_L82 N key rank cA ∧ bm_M_picture N key rank m = bm_M_picture_L46 N key rank (Int32.ofNat (rl m h).length) mA ∧ rD d cA mA ∧ cA.1 3 4 = Int32.ofNat (rl m h).length ∧ (∀ j i, (rl m h)[j]? = some i → cA.2 39 j = c.2 40 i) ∧ (∀ i, i < 4 → isPI (cA.2 39 i)) ∧ (∀ x, x ≠ 39 → ∀ y, cA.2 x y = c.2 x y) ∧ (∀ x, x ≠ 3 → x ≠ 6 → ∀ y, cA.1 x y = c.1 x y) ∧ mF [] m mA ∧ (cA.1 6 3 = 0 → (key = 0 → 1 ≤ (rl m h).length) ∧ (key = 1 → ¬ (c.1 2 0 = 0 ∧ c.1 2 3 = 0))) := by
  obtain ⟨-, hP, hT, -⟩ := id hK
  obtain ⟨h4, hc, hm, hQ, -⟩ := id H
  have pi : ∀ i, i < 4 → isPI (c.2 40 i) := fun i hi => H.pi hi
  obtain ⟨c1, q1, q2, q3, q4, q5, q6⟩ := l_refs N (h := h) (m := m) h N 0 c (by omega) (by omega) (Nat.le_refl h) h4 (fun i hi => (hQ i hi).2.2.1) pi hT.2.2
  have e1 : bc_PB_listReferences N c = some (Int32.ofNat (rl m h).length, c1) := by
    rw [Nat.zero_add] at q1
    simp only [bc_PB_listReferences, hc, bp_nI, bp_sub1]
    exact q1
  obtain ⟨K, hKe⟩ : ∃ K, K = (rl m h).length := ⟨_, rfl⟩
  have hK4 : K ≤ 4 := by have := rl_len m h; omega
  rw [← hKe] at e1 ⊢
  obtain ⟨c3, hc3⟩ : ∃ c3, c3 = bp_sI c1 3 4 (Int32.ofNat K) := ⟨_, rfl⟩
  have C3 : ∀ x, x ≠ 3 → ∀ y, c3.1 x y = c.1 x y := fun x hx y => by rw [hc3, bp_s1o _ _ _ _ hx, q2]
  have c34 : c3.1 3 4 = Int32.ofNat K := by rw [hc3, bp_s1e]
  have c32 : c3.2 = c1.2 := by rw [hc3]; rfl
  have D3 : rD d c3 m := h0.of (fun y => C3 6 (by decide) y) (fun y => C3 16 (by decide) y) rfl rfl rfl (fun _ => rfl)
  have f3 : c3.1 6 3 = 0 := by rw [C3 6 (by decide)]; exact hf0
  have b0 : m.1 0 12 = 0 := by rw [← h0.2.1]; exact hf0
  have p0 : c3.1 2 0 = m.1 0 13 := by rw [C3 2 (by decide)]; exact hP.1
  have p3 : c3.1 2 3 = m.1 0 16 := by rw [C3 2 (by decide)]; exact hP.2.2.2.1
  have hrow : ∀ j i, (rl m h)[j]? = some i → c3.2 39 j = c.2 40 i := fun j i hj => by
    rw [c32]
    have := q5 j i hj
    rw [Nat.zero_add] at this
    exact this
  have EC : bc_BP_takePicture N key rank c = if key = 0 then bc_BP_takePicture_L62 N key rank c3 else if ¬ (m.1 0 13) = 0 then bc_BP_takePicture_L62 N key rank c3 else if ¬ (m.1 0 16) = 0 then bc_BP_takePicture_L62 N key rank c3 else bc_BP_takePicture_L82 N key rank (bp_sI c3 6 3 7) := by
    simp only [bc_BP_takePicture, e1, bp_cI, bp_nM]
    rw [← hc3]
    simp only [p0, p3, c_failM, if_pos f3, bp_cV]
  have EM : bm_M_picture N key rank m = if key = 0 then bm_M_picture_L32 N key rank (Int32.ofNat K) m else if ¬ (m.1 0 13) = 0 then bm_M_picture_L32 N key rank (Int32.ofNat K) m else if ¬ (m.1 0 16) = 0 then bm_M_picture_L32 N key rank (Int32.ofNat K) m else bm_M_picture_L46 N key rank (Int32.ofNat K) (bp_sI m 0 12 7) := by
    simp only [bm_M_picture, m_refs N hN h4 hm, bp_cI, bp_nM, ← hKe]
  have q3' : ∀ x, x ≠ 39 → ∀ y, c3.2 x y = c.2 x y := fun x hx y => by rw [c32]; exact q3 x hx y
  have q6' : ∀ i, i < 4 → isPI (c3.2 39 i) := by rw [c32]; exact q6
  -- a fault told before the header
  have fault : ∀ a : Int32, ¬ a = 0 → bc_BP_takePicture N key rank c = bc_BP_takePicture_L82 N key rank (bp_sI c3 6 3 a) → bm_M_picture N key rank m = bm_M_picture_L46 N key rank (Int32.ofNat K) (bp_sI m 0 12 a) → ∃ (cA mA c0 : bp_M), bc_BP_takePicture N key rank c = bc_BP_takePicture_L82 N key rank cA ∧ bm_M_picture N key rank m = bm_M_picture_L46 N key rank (Int32.ofNat K) mA ∧ rD d cA mA ∧ cA.1 3 4 = Int32.ofNat K ∧ (∀ j i, (rl m h)[j]? = some i → cA.2 39 j = c.2 40 i) ∧ (∀ i, i < 4 → isPI (cA.2 39 i)) ∧ (∀ x, x ≠ 39 → ∀ y, cA.2 x y = c.2 x y) ∧ (∀ x, x ≠ 3 → x ≠ 6 → ∀ y, cA.1 x y = c.1 x y) ∧ mF [] m mA ∧ (cA.1 6 3 = 0 → (key = 0 → 1 ≤ K) ∧ (key = 1 → ¬ (c.1 2 0 = 0 ∧ c.1 2 3 = 0))) := fun a ha g1 g2 => by
    have R := rT.f D3 ha
    rw [if_pos f3, if_pos b0] at R
    exact ⟨_, _, c, g1, g2, R.1, by rw [bp_s1o _ _ _ _ (by decide)]; exact c34, hrow, q6', q3', fun x a b y => by rw [bp_s1o _ _ _ _ b, C3 x a], R.2.2.1, fun hn => by rw [bp_s1e] at hn; exact absurd hn ha⟩
  have fine : bc_BP_takePicture N key rank c = bc_BP_takePicture_L82 N key rank c3 → bm_M_picture N key rank m = bm_M_picture_L46 N key rank (Int32.ofNat K) m → (key = 0 → 1 ≤ K) → (key = 1 → ¬ (c.1 2 0 = 0 ∧ c.1 2 3 = 0)) → ∃ (cA mA c0 : bp_M), bc_BP_takePicture N key rank c = bc_BP_takePicture_L82 N key rank cA ∧ bm_M_picture N key rank m = bm_M_picture_L46 N key rank (Int32.ofNat K) mA ∧ rD d cA mA ∧ cA.1 3 4 = Int32.ofNat K ∧ (∀ j i, (rl m h)[j]? = some i → cA.2 39 j = c.2 40 i) ∧ (∀ i, i < 4 → isPI (cA.2 39 i)) ∧ (∀ x, x ≠ 39 → ∀ y, cA.2 x y = c.2 x y) ∧ (∀ x, x ≠ 3 → x ≠ 6 → ∀ y, cA.1 x y = c.1 x y) ∧ mF [] m mA ∧ (cA.1 6 3 = 0 → (key = 0 → 1 ≤ K) ∧ (key = 1 → ¬ (c.1 2 0 = 0 ∧ c.1 2 3 = 0))) := fun g1 g2 k1 k2 => ⟨c3, m, c, g1, g2, D3, c34, hrow, q6', q3', fun x a _ y => C3 x a y, mF.rf _ _, fun _ => ⟨k1, k2⟩⟩
  rcases hkey with hk | hk
  · subst hk
    rw [if_pos rfl] at EC EM
    by_cases h1 : K = 0
    · have z : ¬ ¬ Int32.ofNat K = 0 := fun hn => hn (by rw [h1]; rfl)
      refine fault 8 (by decide) (EC.trans ?_) (EM.trans ?_)
      · simp only [bc_BP_takePicture_L62, not_true, if_false, c34, if_neg z, c_failM, if_pos f3, bp_cV]
      · simp only [bm_M_picture_L32, not_true, if_false, if_neg z, bp_nM]
    · have z : ¬ Int32.ofNat K = 0 := bp_ne0 (by omega) h1
      refine fine (EC.trans ?_) (EM.trans ?_) (fun _ => by omega) (fun e => absurd e (by decide))
      · simp only [bc_BP_takePicture_L62, not_true, if_false, c34, if_pos z]
      · simp only [bm_M_picture_L32, not_true, if_false, if_pos z]
  · subst hk
    rw [if_neg bp_10] at EC EM
    have e62 : bc_BP_takePicture_L62 N 1 rank c3 = bc_BP_takePicture_L82 N 1 rank c3 := by simp only [bc_BP_takePicture_L62, bp_10, not_false_iff, if_true]
    have e32 : bm_M_picture_L32 N 1 rank (Int32.ofNat K) m = bm_M_picture_L46 N 1 rank (Int32.ofNat K) m := by simp only [bm_M_picture_L32, bp_10, not_false_iff, if_true]
    by_cases g1 : m.1 0 13 = 0
    · rw [if_neg (fun hn => hn g1)] at EC EM
      by_cases g2 : m.1 0 16 = 0
      · rw [if_neg (fun hn => hn g2)] at EC EM
        exact fault 7 (by decide) EC EM
      · rw [if_pos g2] at EC EM
        refine fine (EC.trans e62) (EM.trans e32) (fun e => absurd e (by decide)) (fun _ e => g2 ?_)
        rw [← p3, C3 2 (by decide)]; exact e.2
    · rw [if_pos g1] at EC EM
      refine fine (EC.trans e62) (EM.trans e32) (fun e => absurd e (by decide)) (fun _ e => g1 ?_)
      rw [← p0, C3 2 (by decide)]; exact e.1
