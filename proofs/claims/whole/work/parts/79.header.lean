/-! The header of a picture. -/
theorem c_putl (N : Nat) (a : Int32) (ql : Nat) : ∀ (k w : Nat) (c : bp_M), k ≤ 3 → k < w → (∀ i, i < 4 → isPI (c.2 39 i)) → ∃ c1, bc_PD_putFirst_L9 N a w ql (Int32.ofNat k) c = some c1 ∧ c1.1 = c.1 ∧ (∀ x, x ≠ 39 → ∀ y, c1.2 x y = c.2 x y) ∧ c1.2 39 0 = ql ∧ (∀ r, 1 ≤ r → r ≤ k → c1.2 39 r = c.2 39 (r - 1)) ∧ ∀ r, k < r → c1.2 39 r = c.2 39 r := by
  intro k
  induction k with
  | zero =>
    intro w c hk hw hp
    obtain ⟨w, rfl⟩ := Nat.exists_eq_succ_of_ne_zero (by omega : w ≠ 0)
    have i0 : vp_in 0 4 := by unfold vp_in; decide
    have t0 : (0 : Int32).toNatClampNeg = 0 := rfl
    refine ⟨bp_sR c 39 0 ql, ?_, rfl, fun x hx y => by rw [bp_r2, if_neg (fun e => hx e.1)], by rw [bp_r2, if_pos ⟨rfl, rfl⟩], fun r h1 h2 => by omega, fun r hr => by rw [bp_r2, if_neg (fun e => by have := e.2; omega)]⟩
    rw [bc_PD_putFirst_L9, if_pos (by decide)]
    simp only [bc_PD_putFirst_L33, bp_git i0, t0, bp_nM]
  | succ k ih =>
    intro w c hk hw hp
    obtain ⟨w, rfl⟩ := Nat.exists_eq_succ_of_ne_zero (by omega : w ≠ 0)
    have e0 : ¬ Int32.ofNat (k + 1) ≤ 0 := bp_nl0 (by omega) (by omega)
    have es : Int32.ofNat (k + 1) - 1 = Int32.ofNat k := bp_sub (a := k + 1) (b := 1) (by omega)
    have k4 : vp_in (Int32.ofNat k) 4 := bp_in (by omega) (by omega)
    have k5 : vp_in (Int32.ofNat (k + 1)) 4 := bp_in (by omega) (by omega)
    have pk := hp k (by omega)
    obtain ⟨c1, q1, q2, q3, q4, q5, q6⟩ := ih w (bp_sR c 39 (k + 1) (c.2 39 k)) (by omega) (by omega) (fun i hi => by
      rw [bp_r2]
      split
      · exact pk
      · exact hp i hi)
    refine ⟨c1, ?_, q2, fun x hx y => by rw [q3 x hx, bp_r2, if_neg (fun e => hx e.1)], q4, fun r h1 h2 => ?_, fun r hr => by rw [q6 r (by omega), bp_r2, if_neg (fun e => by have := e.2; omega)]⟩
    · rw [bc_PD_putFirst_L9, if_neg e0, es, bp_git k4, bp_tn (by omega)]
      simp only [bp_nN, bp_gt pk, bp_git k5, bp_tn (show k + 1 < 2147483648 by omega), bp_nM, bp_nI, bp_dec]
      exact q1
    · by_cases he : r = k + 1
      · subst he
        rw [q6 _ (by omega), bp_r2, if_pos ⟨rfl, rfl⟩]
        rfl
      · rw [q5 r h1 (by omega), bp_r2, if_neg (fun e => by have := e.2; omega)]
theorem c_putFirst (N : Nat) (hN : 4000 ≤ N) {F : Nat} (hF : F ≤ 3) {c : bp_M} (hp : ∀ i, i < 4 → isPI (c.2 39 i)) : ∃ c1, bc_PD_putFirst N (Int32.ofNat F) c = some c1 ∧ c1.1 = c.1 ∧ (∀ x, x ≠ 39 → ∀ y, c1.2 x y = c.2 x y) ∧ ∀ r, r < 4 → c1.2 39 r = c.2 39 (if r = 0 then F else if r ≤ F then r - 1 else r) := by
  have f4 : vp_in (Int32.ofNat F) 4 := bp_in (by omega) (by omega)
  obtain ⟨c1, q1, q2, q3, q4, q5, q6⟩ := c_putl N (Int32.ofNat F) (c.2 39 F) F N c hF (by omega) hp
  refine ⟨c1, ?_, q2, q3, fun r hr => ?_⟩
  · unfold bc_PD_putFirst
    rw [bp_git f4, bp_tn (by omega)]
    simp only [bp_nN, bp_gt (hp F (by omega))]
    exact q1
  · by_cases h0 : r = 0
    · rw [if_pos h0, h0, q4]
    · rw [if_neg h0]
      by_cases h1 : r ≤ F
      · rw [if_pos h1, q5 r (by omega) h1]
      · rw [if_neg h1, q6 r (by omega)]
/-- a number below K, or a failure and nought -/
theorem z_below (N : Nat) (hN : 4000 ≤ N) {d K : Nat} (hK : K ≤ 4) {c m : bp_M} (h : rD d c m) : ∃ (w : Nat) (c1 m1 : bp_M), bc_BR_number N (Int32.ofNat K - 1) 8 c = some (Int32.ofNat w, c1) ∧ bm_M_number N (Int32.ofNat K - 1) 8 m = some (Int32.ofNat w, m1) ∧ rT d c m c1 m1 ∧ w ≤ 3 ∧ (c1.1 6 3 = 0 → w < K) := by
  obtain ⟨v, c1, m1, q1, q2, q3, q4, q5, w, q6, q7⟩ := z_num N hN (Int32.ofNat K - 1) (Int32.ofNat K - 1) 8 (fun _ _ => Iff.rfl) (by decide) h
  rw [q7] at q1 q2
  have hw : c1.1 6 3 = 0 → w < K := fun hf => by
    have := q5 hf
    rw [q7] at this
    by_cases h0 : K = 0
    · subst h0
      have e2 : (Int32.ofNat 0 - 1 : Int32) < 0 := by decide
      rw [Int32.le_iff_toInt_le] at this
      rw [Int32.lt_iff_toInt_lt] at e2
      have e3 := bp_toInt (show w < 2147483648 by omega)
      have e4 : (0 : Int32).toInt = 0 := rfl
      omega
    · rw [show Int32.ofNat K - 1 = Int32.ofNat (K - 1) from bp_sub (b := 1) (by omega)] at this
      have := (bp_le (by omega) (by omega)).mp this
      omega
  refine ⟨w, c1, m1, q1, q2, q3, ?_, hw⟩
  by_cases hf : c1.1 6 3 = 0
  · have := hw hf; omega
  · have := q4 hf
    rw [q7] at this
    have := (bp_eq (b := 0) (by omega) (by omega)).mp this
    omega
/-- what the header's reading leaves alone -/
def hF (c m c1 m1 : bp_M) : Prop := (∀ x, x ≠ 39 → ∀ y, c1.2 x y = c.2 x y) ∧ (∀ x, x ≠ 3 → x ≠ 6 → x ≠ 10 → ∀ y, c1.1 x y = c.1 x y) ∧ (∀ x, x ≠ 0 → ∀ y, m1.1 x y = m.1 x y) ∧ ∀ y, y ≠ 11 → y ≠ 12 → ¬ (19 ≤ y ∧ y ≤ 22) → m1.1 0 y = m.1 0 y
/-- the use of references -/
theorem z_use (N : Nat) (hN : 4000 ≤ N) {d K : Nat} (hK : K ≤ 4) (rank ord : Int32) {c m : bp_M} (h : rD d c m) (hc4 : c.1 3 4 = Int32.ofNat K) (hp : ∀ i, i < 4 → isPI (c.2 39 i)) (h5 : c.1 3 5 = -1) (h21 : m.1 0 21 = -1) (h22 : m.1 0 22 = -1) : ∃ c1 m1, bc_PD_readUseOfReferences N rank c = some c1 ∧ (bp_cI (bm_M_number N (Int32.ofNat K - 1 : Int32) 8 m) fun z5 m4 => bp_nM (bp_sI m4 0 20 z5) fun m6 => bp_cI (bm_M_bits N 1 m6) fun z8 m7 => if ¬ z8 = 1 then bm_M_picture_L171 N 0 rank (Int32.ofNat K) ord (-1) m7 else bp_cI (bm_M_number N (Int32.ofNat K - 1 : Int32) 8 m7) fun z10 m9 => bm_M_picture_L171 N 0 rank (Int32.ofNat K) ord z10 m9) = bm_M_picture_L208 N 0 rank ord m1 ∧ rD d c1 m1 ∧ (¬ c.1 6 3 = 0 → c1.1 6 3 = c.1 6 3) ∧ (∀ x, x ≠ 39 → ∀ y, c1.2 x y = c.2 x y) ∧ (∀ i, i < 4 → isPI (c1.2 39 i)) ∧ (∀ x, x ≠ 3 → x ≠ 6 → ∀ y, c1.1 x y = c.1 x y) ∧ (∀ y, y ≠ 5 → y ≠ 9 → c1.1 3 y = c.1 3 y) ∧ (∀ x, x ≠ 0 → ∀ y, m1.1 x y = m.1 x y) ∧ (∀ y, y ≠ 11 → y ≠ 12 → ¬ (20 ≤ y ∧ y ≤ 22) → m1.1 0 y = m.1 0 y) ∧ (c1.1 6 3 = 0 → c1.1 3 5 = m1.1 0 22 ∧ (c1.1 3 5 = -1 ∨ ∃ r : Nat, r < K ∧ c1.1 3 5 = Int32.ofNat r) ∧ ∃ L F : Nat, L < K ∧ c1.1 3 9 = Int32.ofNat L ∧ m1.1 0 20 = Int32.ofNat L ∧ F < K ∧ ((m1.1 0 21 = -1 ∧ F = 0) ∨ m1.1 0 21 = Int32.ofNat F) ∧ ∀ r, r < 4 → c1.2 39 r = c.2 39 (if r = 0 then F else if r ≤ F then r - 1 else r)) := by
  -- the last reference used
  obtain ⟨L, c1, m1, a1, a2, a3, a4, a5⟩ := z_below N hN hK h
  have D1 : rD d (bp_sI c1 3 9 (Int32.ofNat L)) (bp_sI m1 0 20 (Int32.ofNat L)) := a3.1.of (fun y => bp_s1o _ _ _ _ (by decide) y) (fun y => bp_s1o _ _ _ _ (by decide) y) (bp_s1k _ _ _ _ (by decide)) (bp_s1k _ _ _ _ (by decide)) (bp_s1k _ _ _ _ (by decide)) (fun y => bp_s1o _ _ _ _ (by decide) y)
  -- the one put first
  obtain ⟨v, c2, m2, b1, b2, b3, b4', b5⟩ := z_flag N hN D1
  have c24 : c2.1 3 4 = Int32.ofNat K := by rw [b3.2.1.2 3 (by decide), bp_s1k _ _ _ _ (by decide), a3.2.1.2 3 (by decide)]; exact hc4
  have hFi : ∃ (F : Nat) (mv : Int32) (c3 m3 : bp_M), F ≤ 3 ∧ rT d c2 m2 c3 m3 ∧ (if v = 0 then bc_PD_readUseOfReferences_L48 N rank 0 c2 else bp_cI (bc_BR_number N (Int32.ofNat K - 1 : Int32) 8 c2) fun z7 m6 => bc_PD_readUseOfReferences_L48 N rank z7 m6) = bc_PD_readUseOfReferences_L48 N rank (Int32.ofNat F) c3 ∧ (if ¬ v = 1 then bm_M_picture_L171 N 0 rank (Int32.ofNat K) ord (-1) m2 else bp_cI (bm_M_number N (Int32.ofNat K - 1 : Int32) 8 m2) fun z10 m9 => bm_M_picture_L171 N 0 rank (Int32.ofNat K) ord z10 m9) = bm_M_picture_L171 N 0 rank (Int32.ofNat K) ord mv m3 ∧ (c3.1 6 3 = 0 → (F < K ∧ mv = Int32.ofNat F) ∨ (F = 0 ∧ mv = -1)) := by
    rcases b5 with rfl | rfl
    · exact ⟨0, -1, c2, m2, by omega, rT.rf b3.1, if_pos rfl, if_pos (by decide), fun _ => Or.inr ⟨rfl, rfl⟩⟩
    · obtain ⟨F, c3, m3, e1, e2, e3, e4, e5⟩ := z_below N hN hK b3.1
      refine ⟨F, Int32.ofNat F, c3, m3, e4, e3, ?_, ?_, fun hf => Or.inl ⟨e5 hf, rfl⟩⟩
      · rw [if_neg bp_10, e1]; rfl
      · rw [if_neg (fun hn => hn rfl), e2]; rfl
  obtain ⟨F, mv, c3, m3, f1, f2, f3, f4, f5⟩ := hFi
  have D3 : rD d c3 (bp_sI m3 0 21 mv) := f2.1.of (fun _ => rfl) (fun _ => rfl) (bp_s1k _ _ _ _ (by decide)) (bp_s1k _ _ _ _ (by decide)) (bp_s1k _ _ _ _ (by decide)) (fun y => bp_s1o _ _ _ _ (by decide) y)
  have c34 : c3.1 3 4 = Int32.ofNat K := by rw [f2.2.1.2 3 (by decide)]; exact c24
  have c35 : c3.1 3 5 = -1 := by rw [f2.2.1.2 3 (by decide), b3.2.1.2 3 (by decide), bp_s1k _ _ _ _ (by decide), a3.2.1.2 3 (by decide)]; exact h5
  have m322 : (bp_sI m3 0 21 mv).1 0 22 = -1 := by rw [bp_s1k _ _ _ _ (by decide), f2.2.2.1.2 22 (by decide) (by decide), b3.2.2.1.2 22 (by decide) (by decide), bp_s1k _ _ _ _ (by decide), a3.2.2.1.2 22 (by decide) (by decide)]; exact h22
  -- the one to be released
  have hRe : ∃ (c4 m4 : bp_M), bc_PD_readUseOfReferences_L48 N rank (Int32.ofNat F) c3 = bc_PD_readUseOfReferences_L82 N rank (Int32.ofNat F) c4 ∧ bm_M_picture_L174 N 0 rank (Int32.ofNat K) ord (bp_sI m3 0 21 mv) = bm_M_picture_L208 N 0 rank ord m4 ∧ rD d c4 m4 ∧ (¬ c3.1 6 3 = 0 → c4.1 6 3 = c3.1 6 3) ∧ c4.2 = c3.2 ∧ (∀ x, x ≠ 3 → x ≠ 6 → ∀ y, c4.1 x y = c3.1 x y) ∧ (∀ y, y ≠ 5 → c4.1 3 y = c3.1 3 y) ∧ (∀ x, x ≠ 0 → ∀ y, m4.1 x y = m3.1 x y) ∧ (∀ y, y ≠ 11 → y ≠ 12 → y ≠ 22 → m4.1 0 y = (bp_sI m3 0 21 mv).1 0 y) ∧ (c4.1 6 3 = 0 → c4.1 3 5 = m4.1 0 22 ∧ (c4.1 3 5 = -1 ∨ ∃ r : Nat, r < K ∧ c4.1 3 5 = Int32.ofNat r)) := by
    by_cases hr : rank ≤ 0
    · refine ⟨c3, bp_sI m3 0 21 mv, ?_, ?_, D3, fun _ => rfl, rfl, fun _ _ _ _ => rfl, fun _ _ => rfl, fun x x0 y => bp_s1o _ _ _ _ x0 y, fun _ _ _ _ => rfl, fun _ => ⟨by rw [c35, m322], Or.inl c35⟩⟩
      · unfold bc_PD_readUseOfReferences_L48; rw [if_pos hr]
      · unfold bm_M_picture_L174; rw [if_neg (fun hn => hn rfl), if_pos hr]
    · obtain ⟨v2, c4, m4, g1, g2, g3, -, g5⟩ := z_flag N hN D3
      have fm : ∀ x, x ≠ 0 → ∀ y, m4.1 x y = m3.1 x y := fun x x0 y => by rw [g3.2.2.1.1 x x0 (by simp), bp_s1o _ _ _ _ x0]
      rcases g5 with rfl | rfl
      · have m422 : m4.1 0 22 = -1 := by rw [g3.2.2.1.2 22 (by decide) (by decide)]; exact m322
        have c45 : c4.1 3 5 = -1 := by rw [g3.2.1.2 3 (by decide)]; exact c35
        have es : bp_sI m4 0 22 (-1) = m4 := by
          have := bp_sid m4 0 22
          rw [m422] at this
          exact this
        refine ⟨c4, m4, ?_, ?_, g3.1, g3.2.2.2, g3.2.1.1, fun x a b y => g3.2.1.2 x (by simpa using b) y, fun y _ => g3.2.1.2 3 (by decide) y, fm, fun y a b _ => g3.2.2.1.2 y a b, fun _ => ⟨by rw [c45, m422], Or.inl c45⟩⟩
        · unfold bc_PD_readUseOfReferences_L48
          rw [if_neg hr, g1]
          simp only [bp_cI, if_true]
        · unfold bm_M_picture_L174
          rw [if_neg (fun hn => hn rfl), if_neg hr, g2]
          simp only [bp_cI]
          rw [if_pos (by decide)]
          simp only [bm_M_picture_L205, bp_nM, es]
      · have c44 : c4.1 3 4 = Int32.ofNat K := by rw [g3.2.1.2 3 (by decide)]; exact c34
        obtain ⟨r, c5, m5, k1, k2, k3, k4, k5⟩ := z_below N hN hK g3.1
        have R := g3.tr k3
        refine ⟨bp_sI c5 3 5 (Int32.ofNat r), bp_sI m5 0 22 (Int32.ofNat r), ?_, ?_, k3.1.of (fun y => bp_s1o _ _ _ _ (by decide) y) (fun y => bp_s1o _ _ _ _ (by decide) y) (bp_s1k _ _ _ _ (by decide)) (bp_s1k _ _ _ _ (by decide)) (bp_s1k _ _ _ _ (by decide)) (fun y => bp_s1o _ _ _ _ (by decide) y), fun hf => by rw [bp_s1o _ _ _ _ (by decide)]; exact R.2.2.2 hf, R.2.1.1, fun x a b y => by rw [bp_s1o _ _ _ _ a, R.2.1.2 x (by simpa using b)], fun y hy => by rw [bp_s1k _ _ _ _ hy, R.2.1.2 3 (by decide)], fun x x0 y => by rw [bp_s1o _ _ _ _ x0, k3.2.2.1.1 x x0 (by simp), fm x x0], fun y a b e => by rw [bp_s1k _ _ _ _ e, R.2.2.1.2 y a b], fun hf => ⟨by rw [bp_s1e, bp_s1e], Or.inr ⟨r, k5 (by rw [bp_s1o _ _ _ _ (by decide)] at hf; exact hf), bp_s1e _ _ _ _⟩⟩⟩
        · unfold bc_PD_readUseOfReferences_L48
          rw [if_neg hr, g1]
          simp only [bp_cI, if_neg bp_10, c44, k1, bp_nM]
        · unfold bm_M_picture_L174
          rw [if_neg (fun hn => hn rfl), if_neg hr, g2]
          simp only [bp_cI, not_true, if_false, k2, bm_M_picture_L205, bp_nM]
  obtain ⟨c4, m4, r1, r2, r3, r4', r5, r6, r7, r8, r9, r10⟩ := hRe
  have c42 : c4.2 = c.2 := by rw [r5, f2.2.1.1, b3.2.1.1, bp_s2, a3.2.1.1]
  obtain ⟨c5, p1, p2', p3, p4⟩ := c_putFirst N hN f1 (c := c4) (by rw [c42]; exact hp)
  have e21 : m4.1 0 21 = mv := by rw [r9 21 (by decide) (by decide) (by decide), bp_s1e]
  refine ⟨c5, m4, ?_, ?_, r3.of (fun y => by rw [p2']) (fun y => by rw [p2']) rfl rfl rfl (fun _ => rfl), fun hf => ?_, fun x hx y => by rw [p3 x hx, c42], fun i hi => ?_, fun x a b y => ?_, fun y a b => ?_, fun x x0 y => ?_, fun y a b e => ?_, fun hf => ?_⟩
  · have e82 : bc_PD_readUseOfReferences_L82 N rank (Int32.ofNat F) c4 = some c5 := by simp only [bc_PD_readUseOfReferences_L82, p1, bp_cV]
    have g := f3.trans (r1.trans e82)
    simp only [bc_PD_readUseOfReferences, hc4, a1, bp_cI, bp_nM, b1, c24]
    exact g
  · have e171 : bm_M_picture_L171 N 0 rank (Int32.ofNat K) ord mv m3 = bm_M_picture_L208 N 0 rank ord m4 := by
      simp only [bm_M_picture_L171, bp_nM]
      exact r2
    have g := f4.trans e171
    simp only [a2, bp_cI, bp_nM, b2]
    exact g
  · have x1 := a3.2.2.2 hf
    have x2' := b3.2.2.2 (by rw [bp_s1o _ _ _ _ (by decide), x1]; exact hf)
    rw [bp_s1o _ _ _ _ (by decide), x1] at x2'
    have x3 := f2.2.2.2 (by rw [x2']; exact hf)
    rw [p2', r4' (by rw [x3, x2']; exact hf), x3, x2']
  · rw [p4 i hi, c42]
    apply hp
    split
    · omega
    · split <;> omega
  · rw [p2', r6 x a b, f2.2.1.2 x (by simpa using b), b3.2.1.2 x (by simpa using b), bp_s1o _ _ _ _ a, a3.2.1.2 x (by simpa using b)]
  · rw [p2', r7 y a, f2.2.1.2 3 (by decide), b3.2.1.2 3 (by decide), bp_s1k _ _ _ _ b, a3.2.1.2 3 (by decide)]
  · rw [r8 x x0, f2.2.2.1.1 x x0 (by simp), b3.2.2.1.1 x x0 (by simp), bp_s1o _ _ _ _ x0, a3.2.2.1.1 x x0 (by simp)]
  · rw [r9 y a b (by omega), bp_s1k _ _ _ _ (by omega), f2.2.2.1.2 y a b, b3.2.2.1.2 y a b, bp_s1k _ _ _ _ (by omega), a3.2.2.1.2 y a b]
  · rw [p2'] at hf
    have z3 : c3.1 6 3 = 0 := by
      by_cases hz : c3.1 6 3 = 0
      · exact hz
      · rw [r4' hz] at hf; exact absurd hf hz
    have z2 := f2.z z3
    have z1 := b3.z z2
    rw [bp_s1o _ _ _ _ (by decide)] at z1
    have hLK := a5 z1
    obtain ⟨s1, s2⟩ := r10 hf
    refine ⟨by rw [p2']; exact s1, by rw [p2']; exact s2, L, F, hLK, ?_, ?_, ?_, ?_, fun r hr => by rw [p4 r hr, c42]⟩
    · rw [p2', r7 9 (by decide), f2.2.1.2 3 (by decide), b3.2.1.2 3 (by decide), bp_s1e]
    · rw [r9 20 (by decide) (by decide) (by decide), bp_s1k _ _ _ _ (by decide), f2.2.2.1.2 20 (by decide) (by decide), b3.2.2.1.2 20 (by decide) (by decide), bp_s1e]
    · rcases f5 z3 with g | g
      · exact g.1
      · omega
    · rw [e21]
      rcases f5 z3 with g | g
      · exact Or.inr g.2
      · exact Or.inl ⟨g.2, g.1⟩
