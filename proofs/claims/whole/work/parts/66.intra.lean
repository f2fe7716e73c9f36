/-! Blocks that are predicted from their neighbours. -/
/-- the samples of the blocks before n are the same, and bytes -/
def zS (n : Nat) (c m : bp_M) : Prop := ∀ i, i < 256 → bo i < n → c.1 34 i = m.1 5 i ∧ jy (m.1 5 i)
theorem sn_0 (n : Nat) : sn n 0 = 64 * (n / 4) + 4 * (n % 4) := by unfold sn; omega
theorem m_corner (N : Nat) {n : Nat} (hn : n < 16) (m : bp_M) : bm_M_corner N (Int32.ofNat n) m = some (Int32.ofNat (sn n 0), m) := by
  unfold bm_M_corner
  rw [b4 (by omega), r4 (by omega), x64, x4, bp_add, sn_0]
theorem z_sum (N : Nat) {n A B : Nat} (hn : n < 16) (hA : A ≤ 1) (hB : B ≤ 1) (hA4 : A = 1 → 4 ≤ n) (hB4 : B = 1 → 0 < n % 4) (md : Int32) {c m : bp_M} (hS : zS n c m) : ∀ (j k u w S : Nat), k + j = 4 → j < u → j < w → S ≤ 255 * (A + B) * k → ∃ T, T ≤ 255 * (A + B) * 4 ∧ bc_PD_predictMean_L36 N (Int32.ofNat n) u (Int32.ofNat (sn n 0)) (Int32.ofNat A) (Int32.ofNat B) (Int32.ofNat S) (Int32.ofNat k) c = bc_PD_predictMean_L107 N (Int32.ofNat n) (Int32.ofNat A) (Int32.ofNat B) (Int32.ofNat T) c ∧ ∀ m' : bp_M, (∀ i, m'.1 5 i = m.1 5 i) → bm_M_intraBlock_L90 N (Int32.ofNat n) w md (Int32.ofNat A) (Int32.ofNat B) (Int32.ofNat (sn n 0)) (Int32.ofNat S) (Int32.ofNat k) m' = bm_M_intraBlock_L157 N (Int32.ofNat n) md (Int32.ofNat A) (Int32.ofNat B) (Int32.ofNat (sn n 0)) (Int32.ofNat T) m' := by
  intro j
  induction j with
  | zero =>
    intro k u w S hk hu hw hS
    obtain ⟨u, rfl⟩ := Nat.exists_eq_succ_of_ne_zero (by omega : u ≠ 0)
    obtain ⟨w, rfl⟩ := Nat.exists_eq_succ_of_ne_zero (by omega : w ≠ 0)
    obtain rfl : k = 4 := by omega
    refine ⟨S, hS, ?_, fun m' _ => ?_⟩
    · rw [bc_PD_predictMean_L36, if_pos (by decide)]
    · rw [bm_M_intraBlock_L90, if_pos (by decide)]
  | succ j ih =>
    intro k u w S hk hu hw hS2
    obtain ⟨u, rfl⟩ := Nat.exists_eq_succ_of_ne_zero (by omega : u ≠ 0)
    obtain ⟨w, rfl⟩ := Nat.exists_eq_succ_of_ne_zero (by omega : w ≠ 0)
    have e0 := sn_0 n
    rw [bc_PD_predictMean_L36, if_neg (ge4 (by omega))]
    -- above
    have hab : ∃ a, a ≤ 255 * A ∧ (if Int32.ofNat A = 0 then bc_PD_predictMean_L67 (bc_PD_predictMean_L36 N (Int32.ofNat n) u) N (Int32.ofNat n) (Int32.ofNat (sn n 0)) (Int32.ofNat A) (Int32.ofNat B) (Int32.ofNat k) 0 (Int32.ofNat S) c else bp_gi ((Int32.ofNat (sn n 0) - 16 : Int32) + Int32.ofNat k : Int32) 256 <| bc_PD_predictMean_L67 (bc_PD_predictMean_L36 N (Int32.ofNat n) u) N (Int32.ofNat n) (Int32.ofNat (sn n 0)) (Int32.ofNat A) (Int32.ofNat B) (Int32.ofNat k) (c.1 34 ((Int32.ofNat (sn n 0) - 16 : Int32) + Int32.ofNat k : Int32).toNatClampNeg) (Int32.ofNat S) c) = bc_PD_predictMean_L67 (bc_PD_predictMean_L36 N (Int32.ofNat n) u) N (Int32.ofNat n) (Int32.ofNat (sn n 0)) (Int32.ofNat A) (Int32.ofNat B) (Int32.ofNat k) (Int32.ofNat a) (Int32.ofNat S) c ∧ ∀ m' : bp_M, (∀ i, m'.1 5 i = m.1 5 i) → (if Int32.ofNat A = 0 then bm_M_intraBlock_L119 (bm_M_intraBlock_L90 N (Int32.ofNat n) w) N (Int32.ofNat n) md (Int32.ofNat A) (Int32.ofNat B) (Int32.ofNat (sn n 0)) (Int32.ofNat k) 0 (Int32.ofNat S) m' else bp_gi ((Int32.ofNat (sn n 0) - 16 : Int32) + Int32.ofNat k : Int32) 256 <| bm_M_intraBlock_L119 (bm_M_intraBlock_L90 N (Int32.ofNat n) w) N (Int32.ofNat n) md (Int32.ofNat A) (Int32.ofNat B) (Int32.ofNat (sn n 0)) (Int32.ofNat k) (m'.1 5 ((Int32.ofNat (sn n 0) - 16 : Int32) + Int32.ofNat k : Int32).toNatClampNeg) (Int32.ofNat S) m') = bm_M_intraBlock_L119 (bm_M_intraBlock_L90 N (Int32.ofNat n) w) N (Int32.ofNat n) md (Int32.ofNat A) (Int32.ofNat B) (Int32.ofNat (sn n 0)) (Int32.ofNat k) (Int32.ofNat a) (Int32.ofNat S) m' := by
      rcases (show A = 0 ∨ A = 1 by omega) with h | h
      · subst h
        exact ⟨0, by omega, if_pos rfl, fun m' _ => if_pos rfl⟩
      · subst h
        have h4 := hA4 rfl
        have ne : ¬ Int32.ofNat 1 = 0 := by decide
        have ei : (Int32.ofNat (sn n 0) - 16 : Int32) + Int32.ofNat k = Int32.ofNat (sn n 0 - 16 + k) := by
          rw [show (16 : Int32) = Int32.ofNat 16 from rfl, bp_sub (by omega), bp_add]
        have i1 : vp_in (Int32.ofNat (sn n 0 - 16 + k)) 256 := bp_in (by omega) (by omega)
        obtain ⟨g1, a, -, g2, g3⟩ := hS (sn n 0 - 16 + k) (by omega) (by unfold bo; omega)
        refine ⟨a, by omega, ?_, fun m' hm' => ?_⟩
        · rw [if_neg ne, ei, bp_git i1, bp_tn (by omega), g1, g3]
        · rw [if_neg ne, ei, bp_git i1, bp_tn (by omega), hm', g3]
    obtain ⟨a, ha, ea, eb⟩ := hab
    rw [ea]
    refine Exists.imp (fun T hT => ⟨hT.1, hT.2.1, fun m' hm' => ?_⟩) (?_ : ∃ T, T ≤ 255 * (A + B) * 4 ∧ bc_PD_predictMean_L67 (bc_PD_predictMean_L36 N (Int32.ofNat n) u) N (Int32.ofNat n) (Int32.ofNat (sn n 0)) (Int32.ofNat A) (Int32.ofNat B) (Int32.ofNat k) (Int32.ofNat a) (Int32.ofNat S) c = bc_PD_predictMean_L107 N (Int32.ofNat n) (Int32.ofNat A) (Int32.ofNat B) (Int32.ofNat T) c ∧ ∀ m' : bp_M, (∀ i, m'.1 5 i = m.1 5 i) → bm_M_intraBlock_L119 (bm_M_intraBlock_L90 N (Int32.ofNat n) w) N (Int32.ofNat n) md (Int32.ofNat A) (Int32.ofNat B) (Int32.ofNat (sn n 0)) (Int32.ofNat k) (Int32.ofNat a) (Int32.ofNat S) m' = bm_M_intraBlock_L157 N (Int32.ofNat n) md (Int32.ofNat A) (Int32.ofNat B) (Int32.ofNat (sn n 0)) (Int32.ofNat T) m')
    · rw [bm_M_intraBlock_L90, if_neg (ge4 (by omega))]
      exact (eb m' hm').trans (hT.2.2 m' hm')
    have bnd : S + a + 255 * B ≤ 255 * (A + B) * (k + 1) := by
      have : 255 * (A + B) * (k + 1) = 255 * (A + B) * k + 255 * (A + B) := Nat.mul_succ _ _
      omega
    rcases (show B = 0 ∨ B = 1 by omega) with h | h
    · subst h
      obtain ⟨T, t1, t2, t3⟩ := ih (k + 1) u w (S + a) (by omega) (by omega) (by omega) (by omega)
      refine ⟨T, t1, ?_, fun m' hm' => ?_⟩
      · rw [← t2]
        simp only [bc_PD_predictMean_L67, bc_PD_predictMean_L98, bp_nI, bp_add, bp_inc]
        rw [if_pos (show Int32.ofNat 0 = 0 from rfl), Int32.add_zero]
      · rw [← t3 m' hm']
        simp only [bm_M_intraBlock_L119, bm_M_intraBlock_L148, bp_nI, bp_add, bp_inc]
        rw [if_pos (show Int32.ofNat 0 = 0 from rfl), Int32.add_zero]
    · subst h
      have h4 := hB4 rfl
      have ne : ¬ Int32.ofNat 1 = 0 := by decide
      have ei : (Int32.ofNat (sn n 0) - 1 : Int32) + Int32.ofNat (16 * k) = Int32.ofNat (sn n 0 - 1 + 16 * k) := by
        rw [show (1 : Int32) = Int32.ofNat 1 from rfl, bp_sub (by omega), bp_add]
      have i1 : vp_in (Int32.ofNat (sn n 0 - 1 + 16 * k)) 256 := bp_in (by omega) (by omega)
      obtain ⟨g1, b, -, g2, g3⟩ := hS (sn n 0 - 1 + 16 * k) (by omega) (by unfold bo; omega)
      obtain ⟨T, t1, t2, t3⟩ := ih (k + 1) u w (S + a + b) (by omega) (by omega) (by omega) (by omega)
      refine ⟨T, t1, ?_, fun m' hm' => ?_⟩
      · rw [← t2]
        simp only [bc_PD_predictMean_L67, bc_PD_predictMean_L98, bp_nI, if_neg ne, x16, ei, bp_git i1, bp_tn (show sn n 0 - 1 + 16 * k < 2147483648 by omega), g1, g3, bp_add, bp_inc]
      · rw [← t3 m' hm']
        simp only [bm_M_intraBlock_L119, bm_M_intraBlock_L148, bp_nI, if_neg ne, x16, ei, bp_git i1, bp_tn (show sn n 0 - 1 + 16 * k < 2147483648 by omega), hm', g3, bp_add, bp_inc]
/-- the mean of the neighbours -/
def me (A B T : Nat) : Int32 := if Int32.ofNat A = 0 then (if Int32.ofNat B = 0 then 128 else ((Int32.ofNat T + 2 : Int32) >>> (2 &&& 31 : Int32) : Int32)) else (if Int32.ofNat B = 0 then ((Int32.ofNat T + 2 : Int32) >>> (2 &&& 31 : Int32) : Int32) else ((Int32.ofNat T + 4 : Int32) >>> (3 &&& 31 : Int32) : Int32))
theorem me_2 : ∀ T, T < 1021 → ((Int32.ofNat T + 2 : Int32) >>> (2 &&& 31 : Int32) : Int32) = Int32.ofNat ((T + 2) / 4) := by decide +kernel
theorem me_3 : ∀ T, T < 2041 → ((Int32.ofNat T + 4 : Int32) >>> (3 &&& 31 : Int32) : Int32) = Int32.ofNat ((T + 4) / 8) := by decide +kernel
theorem me_y {A B T : Nat} (hA : A ≤ 1) (hB : B ≤ 1) (hT : T ≤ 255 * (A + B) * 4) : jy (me A B T) := by
  unfold me
  rcases (show A = 0 ∨ A = 1 by omega) with rfl | rfl <;> rcases (show B = 0 ∨ B = 1 by omega) with rfl | rfl
  · exact ⟨128, by omega, by omega, rfl⟩
  · rw [if_pos (show Int32.ofNat 0 = 0 from rfl), if_neg (by decide), me_2 T (by omega)]
    exact ⟨_, by omega, by omega, rfl⟩
  · rw [if_neg (by decide), if_pos (show Int32.ofNat 0 = 0 from rfl), me_2 T (by omega)]
    exact ⟨_, by omega, by omega, rfl⟩
  · rw [if_neg (by decide), if_neg (by decide), me_3 T (by omega)]
    exact ⟨_, by omega, by omega, rfl⟩
theorem c_107 (N : Nat) (n : Int32) (A B T : Nat) (c : bp_M) : bc_PD_predictMean_L107 N n (Int32.ofNat A) (Int32.ofNat B) (Int32.ofNat T) c = bc_PD_predictMean_L149 N n (me A B T) c := by
  simp only [bc_PD_predictMean_L107, bc_PD_predictMean_L132, bc_PD_predictMean_L141, bp_nI, me]
  by_cases hA : Int32.ofNat A = 0 <;> by_cases hB : Int32.ofNat B = 0 <;> simp only [hA, hB, if_true, if_false, not_true, not_false_iff]
theorem m_157 (N : Nat) (n md x : Int32) (A B T : Nat) (c : bp_M) : bm_M_intraBlock_L157 N n md (Int32.ofNat A) (Int32.ofNat B) x (Int32.ofNat T) c = bm_M_intraBlock_L196 N n md x (me A B T) c := by
  simp only [bm_M_intraBlock_L157, bm_M_intraBlock_L175, bm_M_intraBlock_L184, me]
  by_cases hA : Int32.ofNat A = 0 <;> by_cases hB : Int32.ofNat B = 0 <;> simp only [hA, hB, if_true, if_false, not_true, not_false_iff]
/-- what the class's loops over a block leave: g at the block's samples -/
def zG (n : Nat) (g : Nat → Int32) (c c1 : bp_M) : Prop := cF [34] c c1 ∧ (∀ i, bo i ≠ n → c1.1 34 i = c.1 34 i) ∧ ∀ k, k < 16 → c1.1 34 (sn n k) = g k
theorem c_meanl (N : Nat) {n : Nat} (hn : n < 16) (v : Int32) : ∀ (j k u : Nat) (c : bp_M), k + j = 16 → j < u → ∃ c1, bc_PD_predictMean_L152 N (Int32.ofNat n) u v (Int32.ofNat k) c = some c1 ∧ cF [34] c c1 ∧ (∀ i, bo i ≠ n → c1.1 34 i = c.1 34 i) ∧ (∀ i, i < k → c1.1 34 (sn n i) = c.1 34 (sn n i)) ∧ ∀ i, k ≤ i → i < 16 → c1.1 34 (sn n i) = v := by
  intro j
  induction j with
  | zero =>
    intro k u c hk hu
    obtain ⟨u, rfl⟩ := Nat.exists_eq_succ_of_ne_zero (by omega : u ≠ 0)
    obtain rfl : k = 16 := by omega
    refine ⟨c, ?_, cF.rf _ _, fun _ _ => rfl, fun _ _ => rfl, fun i h1 h2 => by omega⟩
    rw [bc_PD_predictMean_L152, if_pos (by decide)]
    rfl
  | succ j ih =>
    intro k u c hk hu
    obtain ⟨u, rfl⟩ := Nat.exists_eq_succ_of_ne_zero (by omega : u ≠ 0)
    have hlt := sn_lt hn (show k < 16 by omega)
    have i1 : vp_in (Int32.ofNat (sn n k)) 256 := bp_in (by omega) hlt
    obtain ⟨c1, q1, q2, q3, q4, q5⟩ := ih (k + 1) u (bp_sI c 34 (sn n k) v) (by omega) (by omega)
    refine ⟨c1, ?_, ((cF.rf [34] c).s _ (by decide)).tr q2, fun i hi => ?_, fun i hi => ?_, fun i h1 h2 => ?_⟩
    · rw [bc_PD_predictMean_L152, if_neg (ge16 (by omega))]
      simp only [c_sn N hn (show k < 16 by omega), bp_cI, bp_git i1, bp_tn (show sn n k < 2147483648 by omega), bp_nM, bp_nI, bp_inc]
      exact q1
    · rw [q3 i hi, bp_s1k _ _ _ _ (fun e => hi (by rw [e]; exact bo_sn hn (by omega)))]
    · rw [q4 i (by omega), bp_s1k _ _ _ _ (fun e => by have := sn_in hn (by omega) (by omega) e; omega)]
    · by_cases he : i = k
      · subst he
        rw [q4 i (by omega), bp_s1e]
      · exact q5 i (by omega) h2
theorem c_froml (N : Nat) {n : Nat} (hn : n < 16) (a2 a3 a4 x5 : Int32) (ix : Nat → Nat) (hI : ∀ k, k < 16 → (x5 + (a3 * Int32.ofNat (k / 4) : Int32) : Int32) + (a4 * Int32.ofNat (k % 4) : Int32) = Int32.ofNat (ix k) ∧ ix k < 256 ∧ bo (ix k) ≠ n) : ∀ (j k u : Nat) (c : bp_M), k + j = 16 → j < u → ∃ c1, bc_PD_predictFrom_L12 N (Int32.ofNat n) a2 a3 a4 u x5 (Int32.ofNat k) c = some c1 ∧ cF [34] c c1 ∧ (∀ i, bo i ≠ n → c1.1 34 i = c.1 34 i) ∧ (∀ i, i < k → c1.1 34 (sn n i) = c.1 34 (sn n i)) ∧ ∀ i, k ≤ i → i < 16 → c1.1 34 (sn n i) = c.1 34 (ix i) := by
  intro j
  induction j with
  | zero =>
    intro k u c hk hu
    obtain ⟨u, rfl⟩ := Nat.exists_eq_succ_of_ne_zero (by omega : u ≠ 0)
    obtain rfl : k = 16 := by omega
    refine ⟨c, ?_, cF.rf _ _, fun _ _ => rfl, fun _ _ => rfl, fun i h1 h2 => by omega⟩
    rw [bc_PD_predictFrom_L12, if_pos (by decide)]
    rfl
  | succ j ih =>
    intro k u c hk hu
    obtain ⟨u, rfl⟩ := Nat.exists_eq_succ_of_ne_zero (by omega : u ≠ 0)
    have hlt := sn_lt hn (show k < 16 by omega)
    have i1 : vp_in (Int32.ofNat (sn n k)) 256 := bp_in (by omega) hlt
    obtain ⟨ei, hi1, hi2⟩ := hI k (by omega)
    have i2 : vp_in (Int32.ofNat (ix k)) 256 := bp_in (by omega) hi1
    obtain ⟨c1, q1, q2, q3, q4, q5⟩ := ih (k + 1) u (bp_sI c 34 (sn n k) (c.1 34 (ix k))) (by omega) (by omega)
    refine ⟨c1, ?_, ((cF.rf [34] c).s _ (by decide)).tr q2, fun i hi => ?_, fun i hi => ?_, fun i h1 h2 => ?_⟩
    · rw [bc_PD_predictFrom_L12, if_neg (ge16 (by omega))]
      simp only [c_sn N hn (show k < 16 by omega), bp_cI, b4 (show k < 100000 by omega), r4 (show k < 100000 by omega), ei, bp_git i1, bp_git i2, bp_tn (show sn n k < 2147483648 by omega), bp_tn (show ix k < 2147483648 by omega), bp_nM, bp_nI, bp_inc]
      exact q1
    · rw [q3 i hi, bp_s1k _ _ _ _ (fun e => hi (by rw [e]; exact bo_sn hn (by omega)))]
    · rw [q4 i (by omega), bp_s1k _ _ _ _ (fun e => by have := sn_in hn (by omega) (by omega) e; omega)]
    · by_cases he : i = k
      · subst he
        rw [q4 i (by omega), bp_s1e]
      · rw [q5 i (by omega) h2, bp_s1k _ _ _ _ (fun e => (hI i h2).2.2 (by rw [e]; exact bo_sn hn (by omega)))]
