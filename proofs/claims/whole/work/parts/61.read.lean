/-! Reading with memories as they stand. -/
def cF (l : List Nat) (c c1 : bp_M) : Prop := c1.2 = c.2 ∧ ∀ x, x ∉ l → ∀ y, c1.1 x y = c.1 x y
def mF (l : List Nat) (m m1 : bp_M) : Prop := (∀ x, x ≠ 0 → x ∉ l → ∀ y, m1.1 x y = m.1 x y) ∧ ∀ y, y ≠ 11 → y ≠ 12 → m1.1 0 y = m.1 0 y
theorem cF.rf (l : List Nat) (c : bp_M) : cF l c c := ⟨rfl, fun _ _ _ => rfl⟩
theorem mF.rf (l : List Nat) (c : bp_M) : mF l c c := ⟨fun _ _ _ _ => rfl, fun _ _ _ => rfl⟩
theorem cF.up {l k : List Nat} {c c1 : bp_M} (h : cF l c c1) (s : ∀ x ∈ l, x ∈ k) : cF k c c1 := ⟨h.1, fun x hx y => h.2 x (fun e => hx (s x e)) y⟩
theorem mF.up {l k : List Nat} {c c1 : bp_M} (h : mF l c c1) (s : ∀ x ∈ l, x ∈ k) : mF k c c1 := ⟨fun x h0 hx y => h.1 x h0 (fun e => hx (s x e)) y, h.2⟩
theorem cF.tr {l : List Nat} {a b c : bp_M} (h : cF l a b) (g : cF l b c) : cF l a c := ⟨g.1.trans h.1, fun x hx y => (g.2 x hx y).trans (h.2 x hx y)⟩
theorem mF.tr {l : List Nat} {a b c : bp_M} (h : mF l a b) (g : mF l b c) : mF l a c := ⟨fun x h0 hx y => (g.1 x h0 hx y).trans (h.1 x h0 hx y), fun y a b => (g.2 y a b).trans (h.2 y a b)⟩
theorem cF.s {l : List Nat} {c c1 : bp_M} (h : cF l c c1) {o k : Nat} (v : Int32) (ho : o ∈ l) : cF l c (bp_sI c1 o k v) := ⟨h.1, fun x hx y => (bp_s1o c1 o k v (show x ≠ o from fun e => hx (by rw [e]; exact ho)) y).trans (h.2 x hx y)⟩
theorem mF.s {l : List Nat} {c c1 : bp_M} (h : mF l c c1) {o k : Nat} (v : Int32) (h0 : o ≠ 0) (ho : o ∈ l) : mF l c (bp_sI c1 o k v) := ⟨fun x x0 hx y => (bp_s1o c1 o k v (show x ≠ o from fun e => hx (by rw [e]; exact ho)) y).trans (h.1 x x0 hx y), fun y a b => (bp_s1o c1 o k v (fun e => h0 e.symm) y).trans (h.2 y a b)⟩
theorem mF.b {l : List Nat} {c c1 : bp_M} (h : mF l c c1) (v : Int32) : mF l c (bp_sI c1 0 12 v) := ⟨fun x x0 hx y => (bp_s1o c1 0 12 v x0 y).trans (h.1 x x0 hx y), fun y a b => (bp_s1k c1 0 12 v b).trans (h.2 y a b)⟩
/-- both readers stand alike -/
def rD (d : Nat) (c m : bp_M) : Prop := bE d c m ∧ c.1 6 3 = m.1 0 12 ∧ rS d (c.1 6 1) (m.1 0 11) (c.1 6 3)
theorem rD.of {d : Nat} {c m c1 m1 : bp_M} (h : rD d c m) (h6 : ∀ y, c1.1 6 y = c.1 6 y) (h16 : ∀ y, c1.1 16 y = c.1 16 y) (m10 : m1.1 0 10 = m.1 0 10) (m11 : m1.1 0 11 = m.1 0 11) (m12 : m1.1 0 12 = m.1 0 12) (m4 : ∀ y, m1.1 4 y = m.1 4 y) : rD d c1 m1 := by
  obtain ⟨⟨a1, a2, a3, a4⟩, b, r⟩ := h
  refine ⟨⟨a1, ?_, ?_, fun i x y => ?_⟩, ?_, ?_⟩
  · rw [h6]; exact a2
  · rw [m10]; exact a3
  · rw [h16, m4]; exact a4 i x y
  · rw [h6, m12]; exact b
  · rw [h6, h6, m11]; exact r
/-- a step of reading -/
def rT (d : Nat) (c m c1 m1 : bp_M) : Prop := rD d c1 m1 ∧ cF [6] c c1 ∧ mF [] m m1 ∧ (¬ c.1 6 3 = 0 → c1.1 6 3 = c.1 6 3)
theorem rT.rf {d : Nat} {c m : bp_M} (h : rD d c m) : rT d c m c m := ⟨h, cF.rf _ _, mF.rf _ _, fun _ => rfl⟩
theorem rT.tr {d : Nat} {c m c1 m1 c2 m2 : bp_M} (h : rT d c m c1 m1) (g : rT d c1 m1 c2 m2) : rT d c m c2 m2 := ⟨g.1, h.2.1.tr g.2.1, h.2.2.1.tr g.2.2.1, fun hf => by
  have a := h.2.2.2 hf
  rw [g.2.2.2 (by rw [a]; exact hf), a]⟩
/-- no failure behind, none ahead -/
theorem rT.z {d : Nat} {c m c1 m1 : bp_M} (h : rT d c m c1 m1) (hf : c1.1 6 3 = 0) : c.1 6 3 = 0 := by
  by_cases h0 : c.1 6 3 = 0
  · exact h0
  · rw [h.2.2.2 h0] at hf; exact absurd hf h0
theorem rT.b {d : Nat} {c m : bp_M} (h : rD d c m) {P Q f : Int32} (hs : rS d P Q f) (hf : ¬ c.1 6 3 = 0 → f = c.1 6 3) : rT d c m (cb c P f) (mb m Q f) := by
  refine ⟨⟨h.1.b P f Q f, by rw [cb_3, mb_12], by rw [cb_1, mb_11, cb_3]; exact hs⟩, ⟨rfl, fun x hx y => cb_o c P f (by simpa using hx) y⟩, ⟨fun x h0 _ y => mb_o m Q f h0 y, fun y a b => mb_k m Q f a b⟩, fun h0 => by rw [cb_3]; exact hf h0⟩
theorem mb_id2 {d : Nat} {c m : bp_M} (h : rD d c m) : mb m (m.1 0 11) (c.1 6 3) = m := by rw [h.2.1]; exact mb_id m
theorem z_num (N : Nat) (hN : 4000 ≤ N) (a1 b1 a2 : Int32) (hab : ∀ w, w < 2047 → (Int32.ofNat w ≤ a1 ↔ Int32.ofNat w ≤ b1)) (ha2 : ¬ a2 = 0) {d : Nat} {c m : bp_M} (h : rD d c m) : ∃ v c1 m1, bc_BR_number N a1 a2 c = some (v, c1) ∧ bm_M_number N b1 a2 m = some (v, m1) ∧ rT d c m c1 m1 ∧ (¬ c1.1 6 3 = 0 → v = 0) ∧ (c1.1 6 3 = 0 → v ≤ a1) ∧ ∃ w : Nat, w < 4096 ∧ v = Int32.ofNat w := by
  obtain ⟨v, P, Q, f, q1, q2, q3, q4, q5, q6, q7⟩ := n_rel2 N hN a1 b1 a2 hab ha2 h.1 h.2.2
  rw [cb_id] at q1
  rw [mb_id2 h] at q2
  exact ⟨v, _, _, q1, q2, rT.b h q3 q4, by rw [cb_3]; exact q5, by rw [cb_3]; exact q6, q7⟩
theorem z_flag (N : Nat) (hN : 4000 ≤ N) {d : Nat} {c m : bp_M} (h : rD d c m) : ∃ v c1 m1, bc_BR_flag N c = some (v, c1) ∧ bm_M_bits N 1 m = some (v, m1) ∧ rT d c m c1 m1 ∧ (¬ c1.1 6 3 = 0 → v = 0) ∧ (v = 0 ∨ v = 1) := by
  obtain ⟨v, P, Q, f, q1, q2, q3, q4, q5, q6⟩ := n_flag N hN h.1 h.2.2
  rw [cb_id] at q1
  rw [mb_id2 h] at q2
  exact ⟨v, _, _, q1, q2, rT.b h q3 q4, by rw [cb_3]; exact q5, q6⟩
theorem z_bits (N : Nat) (hN : 4000 ≤ N) {z : Nat} (hz : z ≤ 10) {d : Nat} {c m : bp_M} (h : rD d c m) : ∃ v c1 m1, bc_BR_bits N (Int32.ofNat z) c = some (v, c1) ∧ bm_M_bits N (Int32.ofNat z) m = some (v, m1) ∧ rT d c m c1 m1 ∧ (¬ c1.1 6 3 = 0 → v = 0) ∧ ∃ w : Nat, w < 2 ^ z ∧ v = Int32.ofNat w := by
  obtain ⟨v, P, Q, f, q1, q2, q3, q4, q5, q6⟩ := n_bits N hN hz h.1 h.2.2
  rw [cb_id] at q1
  rw [mb_id2 h] at q2
  exact ⟨v, _, _, q1, q2, rT.b h q3 q4, by rw [cb_3]; exact q5, q6⟩
theorem z_end (N : Nat) {d : Nat} {c m : bp_M} (h : rD d c m) : ∃ c1 m1, bc_BR_needEnd N c = some c1 ∧ bm_M_toEnd N m = some m1 ∧ c1.1 6 3 = m1.1 0 12 ∧ cF [6] c c1 ∧ mF [] m m1 ∧ (c1.1 6 3 = 0 → c.1 6 3 = 0) := by
  obtain ⟨f, q1, q2, q3, q4⟩ := n_end N h.1 h.2.2
  rw [cb_id] at q1
  rw [mb_id2 h] at q2
  refine ⟨_, _, q1, q2, by rw [cb_3, mb_12], ⟨rfl, fun x hx y => cb_o _ _ _ (by simpa using hx) y⟩, ⟨fun x h0 _ y => mb_o _ _ _ h0 y, fun y a b => mb_k _ _ _ a b⟩, by rw [cb_3]; exact q4⟩
/-- what 'signed' makes of a number -/
def sg (v : Int32) : Int32 := if ¬ (v - v / 2 * 2 : Int32) = 1 then (-(v / 2 : Int32) : Int32) else ((v + 1 : Int32) / 2 : Int32)
theorem sg_b (w : Nat) (hw : w < 4096) : -3000 ≤ (sg (Int32.ofNat w)).toInt ∧ (sg (Int32.ofNat w)).toInt ≤ 3000 := by
  have e2 : Int32.ofNat w / 2 = Int32.ofNat (w / 2) := bp_div (b := 2) (by omega) (by omega)
  have e3 : Int32.ofNat (w + 1) / 2 = Int32.ofNat ((w + 1) / 2) := bp_div (b := 2) (by omega) (by omega)
  unfold sg
  split
  · rw [e2, Int32.toInt_neg, bp_toInt (by omega)]
    have : Int.bmod (-((w / 2 : Nat) : Int)) (2 ^ 32) = -((w / 2 : Nat) : Int) := Int.bmod_eq_of_le (by omega) (by omega)
    rw [this]
    omega
  · rw [bp_inc, e3, bp_toInt (by omega)]
    omega
theorem sg_0 : sg 0 = 0 := by decide +kernel
theorem c_sgn (N : Nat) (v : Int32) (c : bp_M) : bc_BR_signed N v c = some (sg v, c) := by
  unfold bc_BR_signed bc_BR_signed_L19 sg
  split <;> rfl
theorem z_sgn (N : Nat) (hN : 4000 ≤ N) {d : Nat} {c m : bp_M} (h : rD d c m) : ∃ v c1 m1, bc_BR_number N 2048 5 c = some (v, c1) ∧ bm_M_signed N m = some (sg v, m1) ∧ rT d c m c1 m1 ∧ (¬ c1.1 6 3 = 0 → v = 0) ∧ -3000 ≤ (sg v).toInt ∧ (sg v).toInt ≤ 3000 := by
  obtain ⟨v, c1, m1, q1, q2, q3, q4, q5, w, q6, q7⟩ := z_num N hN 2048 5000 5 (fun w hw => by
    have a : Int32.ofNat w ≤ 2048 := (bp_le (b := 2048) (by omega) (by omega)).mpr (by omega)
    have b : Int32.ofNat w ≤ 5000 := (bp_le (b := 5000) (by omega) (by omega)).mpr (by omega)
    exact ⟨fun _ => b, fun _ => a⟩) bp_n50 h
  have hb := sg_b w q6
  rw [← q7] at hb
  refine ⟨v, c1, m1, q1, ?_, q3, q4, hb.1, hb.2⟩
  simp only [bm_M_signed, q2, bp_cI, bm_M_signed_L28, sg]
  split <;> rfl
theorem c_failM (N : Nat) (a : Int32) (c : bp_M) : bc_BR_fail N a c = some (bp_sI c 6 3 (if c.1 6 3 = 0 then a else c.1 6 3)) := by
  have h := c_fail N a c (c.1 6 1) (c.1 6 3)
  rw [cb_id] at h
  rw [h]
  congr 1
  refine bp_ext (fun x y => ?_) rfl
  simp only [bp_s1]
  by_cases h1 : x = 6 <;> by_cases h2 : y = 3 <;> by_cases h3 : y = 1 <;> simp_all
/-- a fault told on both sides where none stood -/
theorem rT.f {d : Nat} {c m : bp_M} (h : rD d c m) {a : Int32} (ha : ¬ a = 0) : rT d c m (bp_sI c 6 3 (if c.1 6 3 = 0 then a else c.1 6 3)) (bp_sI m 0 12 (if m.1 0 12 = 0 then a else m.1 0 12)) := by
  have e : ¬ (if c.1 6 3 = 0 then a else c.1 6 3) = 0 := by split <;> assumption
  obtain ⟨⟨a1, a2, a3, a4⟩, b, r⟩ := h
  refine ⟨⟨⟨a1, ?_, ?_, fun i x y => ?_⟩, ?_, fun hf => ?_⟩, (cF.rf _ _).s _ (by decide), (mF.rf _ _).b _, fun h0 => ?_⟩
  · rw [bp_s1k _ _ _ _ (by decide)]; exact a2
  · rw [bp_s1k _ _ _ _ (by decide)]; exact a3
  · rw [bp_s1o _ _ _ _ (by decide), bp_s1o _ _ _ _ (by decide)]; exact a4 i x y
  · rw [bp_s1e, bp_s1e, b]
  · rw [bp_s1e] at hf; exact absurd hf e
  · rw [bp_s1e, if_neg h0]
theorem rT.o {d : Nat} {c m : bp_M} (h : rD d c m) : rT d c m (bp_sI c 6 3 (c.1 6 3)) (bp_sI m 0 12 (m.1 0 12)) := by
  have e1 : bp_sI c 6 3 (c.1 6 3) = c := bp_ext (fun x y => by rw [bp_s1]; split <;> simp_all) rfl
  have e2 : bp_sI m 0 12 (m.1 0 12) = m := bp_ext (fun x y => by rw [bp_s1]; split <;> simp_all) rfl
  rw [e1, e2]
  exact rT.rf h
theorem bp_sid (m : bp_M) (o k : Nat) : bp_sI m o k (m.1 o k) = m := bp_ext (fun x y => by rw [bp_s1]; split <;> simp_all) rfl
