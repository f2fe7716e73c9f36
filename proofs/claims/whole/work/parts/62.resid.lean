/-! The transform: residualAt against added. -/
theorem b4 {k : Nat} (hk : k < 100000) : Int32.ofNat k / 4 = Int32.ofNat (k / 4) := bp_div (b := 4) (by omega) (by omega)
theorem r4 {k : Nat} (hk : k < 100000) : Int32.ofNat k - Int32.ofNat (k / 4) * 4 = Int32.ofNat (k % 4) := by
  rw [← b4 hk]; exact bp_rem (b := 4) (by omega) (by omega)
theorem x4 (k : Nat) : 4 * Int32.ofNat k = Int32.ofNat (4 * k) := bp_mul 4 k
theorem x16 (k : Nat) : 16 * Int32.ofNat k = Int32.ofNat (16 * k) := bp_mul 16 k
theorem x9 (k : Nat) : 9 * Int32.ofNat k = Int32.ofNat (9 * k) := bp_mul 9 k
theorem x64 (k : Nat) : 64 * Int32.ofNat k = Int32.ofNat (64 * k) := bp_mul 64 k
theorem x256 (k : Nat) : 256 * Int32.ofNat k = Int32.ofNat (256 * k) := bp_mul 256 k
theorem x2 (k : Nat) : 2 * Int32.ofNat k = Int32.ofNat (2 * k) := bp_mul 2 k
theorem p2 (k : Nat) : Int32.ofNat k + 2 = Int32.ofNat (k + 2) := bp_add k 2
theorem ge16 {k : Nat} (hk : k < 16) : ¬ (16 : Int32) ≤ Int32.ofNat k := fun e => by have := (bp_le (a := 16) (by omega) (by omega)).mp e; omega
theorem ge9 {k : Nat} (hk : k < 9) : ¬ (9 : Int32) ≤ Int32.ofNat k := fun e => by have := (bp_le (a := 9) (by omega) (by omega)).mp e; omega
theorem ge4 {k : Nat} (hk : k < 4) : ¬ (4 : Int32) ≤ Int32.ofNat k := fun e => by have := (bp_le (a := 4) (by omega) (by omega)).mp e; omega
/-- a sum of j terms from k on -/
def fR (t : Nat → Int32) : Nat → Nat → Int32 → Int32
  | 0, _, a => a
  | j + 1, k, a => fR t j (k + 1) (a + t k)
theorem fR_add (t : Nat → Int32) : ∀ a b k x, fR t (a + b) k x = fR t b (k + a) (fR t a k x)
  | 0, b, k, x => by rw [Nat.zero_add, Nat.add_zero]; rfl
  | a + 1, b, k, x => by
    rw [show a + 1 + b = (a + b) + 1 by omega, show k + (a + 1) = (k + 1) + a by omega]
    exact fR_add t a b (k + 1) (x + t k)
theorem fR_c (t : Nat → Int32) (z : Int32) : ∀ a k x, fR t a k (x + z) = fR t a k x + z
  | 0, k, x => rfl
  | a + 1, k, x => by
    show fR t a (k + 1) (x + z + t k) = fR t a (k + 1) (x + t k) + z
    rw [← fR_c t z a (k + 1) (x + t k), Int32.add_assoc, Int32.add_comm z, Int32.add_assoc]
theorem fR_e {t s : Nat → Int32} : ∀ a k x, (∀ i, k ≤ i → i < k + a → t i = s i) → fR t a k x = fR s a k x
  | 0, k, x, _ => rfl
  | a + 1, k, x, h => by
    show fR t a (k + 1) (x + t k) = fR s a (k + 1) (x + s k)
    rw [h k (by omega) (by omega)]
    exact fR_e a (k + 1) _ (fun i h1 h2 => h i (by omega) (by omega))
theorem fR_0 {t : Nat → Int32} : ∀ a k x, (∀ i, k ≤ i → i < k + a → t i = 0) → fR t a k x = x
  | 0, k, x, _ => rfl
  | a + 1, k, x, h => by
    show fR t a (k + 1) (x + t k) = x
    rw [h k (by omega) (by omega), Int32.add_zero]
    exact fR_0 a (k + 1) _ (fun i h1 h2 => h i (by omega) (by omega))
theorem c_resl (N : Nat) {y x : Nat} (hy : y < 4) (hx : x < 4) (c : bp_M) : ∀ (j k n : Nat) (a : Int32), k + j = 16 → j < n → bc_PD_residualAt_L7 N (Int32.ofNat y) (Int32.ofNat x) n a (Int32.ofNat k) c = some ((fR (fun k => st_T (4 * y + k / 4) * st_T (4 * x + k % 4) * c.1 19 k) j k a) >>> (8 &&& 31 : Int32), c) := by
  intro j
  induction j with
  | zero =>
    intro k n a hk hn
    obtain ⟨n, rfl⟩ := Nat.exists_eq_succ_of_ne_zero (by omega : n ≠ 0)
    obtain rfl : k = 16 := by omega
    have e : (16 : Int32) ≤ Int32.ofNat 16 := by decide
    rw [bc_PD_residualAt_L7, if_pos e]
    rfl
  | succ j ih =>
    intro k n a hk hn
    obtain ⟨n, rfl⟩ := Nat.exists_eq_succ_of_ne_zero (by omega : n ≠ 0)
    have i1 : vp_in (Int32.ofNat (4 * y + k / 4)) 16 := bp_in (by omega) (by omega)
    have i2 : vp_in (Int32.ofNat (4 * x + k % 4)) 16 := bp_in (by omega) (by omega)
    have i3 : vp_in (Int32.ofNat k) 16 := bp_in (by omega) (by omega)
    rw [bc_PD_residualAt_L7, if_neg (ge16 (by omega))]
    simp only [b4 (show k < 100000 by omega), r4 (show k < 100000 by omega), x4, bp_add, bp_git i1, bp_git i2, bp_git i3, bp_tn (show 4 * y + k / 4 < 2147483648 by omega), bp_tn (show 4 * x + k % 4 < 2147483648 by omega), bp_tn (show k < 2147483648 by omega), bp_nI, bp_inc]
    exact ih (k + 1) n _ (by omega) (by omega)
theorem m_addi (N : Nat) (r5 : Int32 → Int32 → bp_M → Option (Int32 × bp_M)) {y x u : Nat} (hy : y < 4) (hx : x < 4) (hu : u < 4) (m : bp_M) : ∀ (j v n : Nat) (a : Int32), v + j = 4 → j < n → bm_M_added_L14 r5 N (Int32.ofNat y) (Int32.ofNat x) n a (Int32.ofNat u) (Int32.ofNat v) m = r5 (fR (fun k => m.1 3 (4 * y + k / 4) * m.1 3 (4 * x + k % 4) * m.1 11 k) j (4 * u + v) a) (Int32.ofNat (u + 1)) m := by
  intro j
  induction j with
  | zero =>
    intro k n a hk hn
    obtain ⟨n, rfl⟩ := Nat.exists_eq_succ_of_ne_zero (by omega : n ≠ 0)
    obtain rfl : k = 4 := by omega
    have e : (4 : Int32) ≤ Int32.ofNat 4 := by decide
    rw [bm_M_added_L14, if_pos e]
    simp only [bm_M_added_L65, bp_nI, bp_inc]
    rfl
  | succ j ih =>
    intro v n a hk hn
    obtain ⟨n, rfl⟩ := Nat.exists_eq_succ_of_ne_zero (by omega : n ≠ 0)
    have i1 : vp_in (Int32.ofNat (4 * y + u)) 16 := bp_in (by omega) (by omega)
    have i2 : vp_in (Int32.ofNat (4 * x + v)) 16 := bp_in (by omega) (by omega)
    have i3 : vp_in (Int32.ofNat (4 * u + v)) 16 := bp_in (by omega) (by omega)
    rw [bm_M_added_L14, if_neg (ge4 (by omega))]
    simp only [x4, bp_add, bp_git i1, bp_git i2, bp_git i3, bp_tn (show 4 * y + u < 2147483648 by omega), bp_tn (show 4 * x + v < 2147483648 by omega), bp_tn (show 4 * u + v < 2147483648 by omega), bp_nI, bp_inc]
    rw [ih (v + 1) n _ (by omega) (by omega)]
    show _ = r5 (fR _ j (4 * u + v + 1) (a + m.1 3 (4 * y + (4 * u + v) / 4) * m.1 3 (4 * x + (4 * u + v) % 4) * m.1 11 (4 * u + v))) _ m
    rw [show (4 * u + v) / 4 = u by omega, show (4 * u + v) % 4 = v by omega]
    rfl
theorem m_addl (N : Nat) (hN : 4000 ≤ N) {y x : Nat} (hy : y < 4) (hx : x < 4) (m : bp_M) : ∀ (j u n : Nat) (a : Int32), u + j = 4 → j < n → bm_M_added_L5 N (Int32.ofNat y) (Int32.ofNat x) n a (Int32.ofNat u) m = some ((fR (fun k => m.1 3 (4 * y + k / 4) * m.1 3 (4 * x + k % 4) * m.1 11 k) (4 * j) (4 * u) a + 128) >>> (8 &&& 31 : Int32), m) := by
  intro j
  induction j with
  | zero =>
    intro k n a hk hn
    obtain ⟨n, rfl⟩ := Nat.exists_eq_succ_of_ne_zero (by omega : n ≠ 0)
    obtain rfl : k = 4 := by omega
    have e : (4 : Int32) ≤ Int32.ofNat 4 := by decide
    rw [bm_M_added_L5, if_pos e]
    rfl
  | succ j ih =>
    intro u n a hk hn
    obtain ⟨n, rfl⟩ := Nat.exists_eq_succ_of_ne_zero (by omega : n ≠ 0)
    rw [bm_M_added_L5, if_neg (ge4 (by omega)), show (0 : Int32) = Int32.ofNat 0 from rfl, m_addi N _ hy hx (by omega) m 4 0 N a (by omega) (by omega), ih (u + 1) n _ (by omega) (by omega), show 4 * (j + 1) = 4 + 4 * j by omega, fR_add]
    rfl
theorem st_Tt : ∀ j, j < 16 → st_T j = im_0.1 3 j := by decide +kernel
/-- what the transform adds at row y, column x -/
def rA (m : bp_M) (y x : Nat) : Int32 := (fR (fun k => m.1 3 (4 * y + k / 4) * m.1 3 (4 * x + k % 4) * m.1 11 k) 16 0 0 + 128) >>> (8 &&& 31 : Int32)
theorem m_added (N : Nat) (hN : 4000 ≤ N) {y x : Nat} (hy : y < 4) (hx : x < 4) (m : bp_M) : bm_M_added N (Int32.ofNat y) (Int32.ofNat x) m = some (rA m y x, m) := m_addl N hN hy hx m 4 0 N 0 (by omega) (by omega)
theorem c_residualAt (N : Nat) (hN : 4000 ≤ N) {y x : Nat} (hy : y < 4) (hx : x < 4) {c m : bp_M} (hC : jC m) (h : ∀ k, k < 16 → c.1 19 k = m.1 11 k) : bc_PD_residualAt N (Int32.ofNat y) (Int32.ofNat x) c = some (rA m y x, c) := by
  have := c_resl N hy hx c 16 0 N 128 (by omega) (by omega)
  refine Eq.trans this (congrArg (fun z : Int32 => some (z >>> (8 &&& 31 : Int32), c)) ?_)
  rw [← fR_c, Int32.zero_add]
  apply fR_e
  intro i _ hi
  have a1 : st_T (4 * y + i / 4) = m.1 3 (4 * y + i / 4) := by rw [st_Tt _ (by omega), (hC _ (by omega)).2.2]
  have a2 : st_T (4 * x + i % 4) = m.1 3 (4 * x + i % 4) := by rw [st_Tt _ (by omega), (hC _ (by omega)).2.2]
  show st_T (4 * y + i / 4) * st_T (4 * x + i % 4) * c.1 19 i = _
  rw [a1, a2, h i (by omega)]
theorem rA_0 {m : bp_M} (h : ∀ k, k < 16 → m.1 11 k = 0) (y x : Nat) : rA m y x = 0 := by
  unfold rA
  rw [fR_0 16 0 0 (fun i _ hi => by
    show _ * _ * m.1 11 i = 0
    rw [h i (by omega), Int32.mul_zero])]
  decide
theorem rA_e {m m1 : bp_M} (h3 : ∀ k, m1.1 3 k = m.1 3 k) (h : ∀ k, m1.1 11 k = m.1 11 k) (y x : Nat) : rA m1 y x = rA m y x := by
  unfold rA
  simp only [h3, h]
/-- between 0 and 255 -/
def li (v : Int32) : Int32 := if 0 ≤ v then (if v ≤ 255 then v else 255) else 0
theorem c_limit (N : Nat) (v : Int32) (c : bp_M) : bc_BP_limit N v c = some (li v, c) := by
  unfold bc_BP_limit bc_BP_limit_L22 li
  split
  · split <;> rfl
  · rfl
theorem m_limit (N : Nat) (v : Int32) (c : bp_M) : bm_M_limit N v c = some (li v, c) := by
  unfold bm_M_limit bm_M_limit_L22 li
  split
  · split <;> rfl
  · rfl
theorem li_y (v : Int32) : jy (li v) := by
  unfold li
  split
  · rename_i h
    obtain ⟨n, hn, rfl⟩ := bp_ofv (v := v) (fun e => by rw [Int32.lt_iff_toInt_lt] at e; rw [Int32.le_iff_toInt_le] at h; omega)
    split
    · rename_i h2
      exact ⟨n, by omega, (bp_le (b := 255) hn (by omega)).mp h2, rfl⟩
    · exact ⟨255, by omega, by omega, rfl⟩
  · exact ⟨0, by omega, by omega, rfl⟩
theorem li_id {v : Int32} (h : jy v) : li v = v := by
  obtain ⟨n, -, hn, rfl⟩ := h
  unfold li
  rw [if_pos (bp_nlt (bp_nneg (by omega))), if_pos (show Int32.ofNat n ≤ 255 from (bp_le (b := 255) (by omega) (by omega)).mpr hn)]
/-- the block that sample i lies in -/
def bo (i : Nat) : Nat := 4 * (i / 64) + i % 16 / 4
theorem bo_sn {n k : Nat} (hn : n < 16) (hk : k < 16) : bo (sn n k) = n := by unfold bo sn; omega
theorem sn_bo {i : Nat} (hi : i < 256) : i = sn (bo i) (4 * (i / 16 % 4) + i % 4) := by unfold bo sn; omega
theorem sn_in {n i j : Nat} (hn : n < 16) (hi : i < 16) (hj : j < 16) (h : sn n i = sn n j) : i = j := by unfold sn at h; omega
theorem c_sn (N : Nat) {n k : Nat} (hn : n < 16) (hk : k < 16) (c : bp_M) : bc_BP_sampleNumber N (Int32.ofNat n) (Int32.ofNat k) c = some (Int32.ofNat (sn n k), c) := by
  unfold bc_BP_sampleNumber
  rw [sn_c n hn k hk]
/-- the residual added to a block -/
theorem c_addl (N : Nat) (hN : 4000 ≤ N) {n : Nat} (hn : n < 16) {m : bp_M} (hC : jC m) : ∀ (j k u : Nat) (c : bp_M), k + j = 16 → j < u → (∀ k, k < 16 → c.1 19 k = m.1 11 k) → ∃ c1, bc_PD_addResidual_L2 N (Int32.ofNat n) u (Int32.ofNat k) c = some c1 ∧ cF [34] c c1 ∧ (∀ i, bo i ≠ n → c1.1 34 i = c.1 34 i) ∧ (∀ i, i < k → c1.1 34 (sn n i) = c.1 34 (sn n i)) ∧ ∀ i, k ≤ i → i < 16 → c1.1 34 (sn n i) = li (c.1 34 (sn n i) + rA m (i / 4) (i % 4)) := by
  intro j
  induction j with
  | zero =>
    intro k u c hk hu _
    obtain ⟨u, rfl⟩ := Nat.exists_eq_succ_of_ne_zero (by omega : u ≠ 0)
    obtain rfl : k = 16 := by omega
    have e : (16 : Int32) ≤ Int32.ofNat 16 := by decide
    refine ⟨c, ?_, cF.rf _ _, fun _ _ => rfl, fun _ _ => rfl, fun i h1 h2 => by omega⟩
    rw [bc_PD_addResidual_L2, if_pos e]
    rfl
  | succ j ih =>
    intro k u c hk hu h19
    obtain ⟨u, rfl⟩ := Nat.exists_eq_succ_of_ne_zero (by omega : u ≠ 0)
    have hlt := sn_lt hn (show k < 16 by omega)
    have i1 : vp_in (Int32.ofNat (sn n k)) 256 := bp_in (by omega) hlt
    have a1 := c_residualAt N hN (y := k / 4) (x := k % 4) (by omega) (by omega) hC h19
    obtain ⟨c1, q1, q2, q3, q4, q5⟩ := ih (k + 1) u (bp_sI c 34 (sn n k) (li (c.1 34 (sn n k) + rA m (k / 4) (k % 4)))) (by omega) (by omega) (fun k hk => by rw [bp_s1o _ _ _ _ (by decide)]; exact h19 k hk)
    refine ⟨c1, ?_, ((cF.rf [34] c).s _ (by decide)).tr q2, fun i hi => ?_, fun i hi => ?_, fun i h1 h2 => ?_⟩
    · rw [bc_PD_addResidual_L2, if_neg (ge16 (by omega))]
      simp only [c_sn N hn (show k < 16 by omega), bp_cI, bp_git i1, b4 (show k < 100000 by omega), r4 (show k < 100000 by omega), a1, c_limit, bp_tn (show sn n k < 2147483648 by omega), bp_nM, bp_nI, bp_inc]
      exact q1
    · rw [q3 i hi, bp_s1k _ _ _ _ (fun e => hi (by rw [e]; exact bo_sn hn (by omega)))]
    · rw [q4 i (by omega), bp_s1k _ _ _ _ (fun e => by have := sn_in hn (by omega) (by omega) e; omega)]
    · by_cases he : i = k
      · subst he
        rw [q4 i (by omega), bp_s1e]
      · rw [q5 i (by omega) h2, bp_s1k _ _ _ _ (fun e => he (sn_in hn h2 (by omega) e))]
