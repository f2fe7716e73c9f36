def bm_M_clearLatest_L21 (N : Nat) (m : bp_M) : Option bp_M :=
  bp_nM (bp_sI m 0 32 0) fun m1 =>
  bp_g ((0 : Int32) = 0 ∨ (0 : Int32) = 1) <|
  bp_nM (bp_sI m1 0 33 0) fun m2 =>
  some m2
def bm_M_clearLatest_L2 (N : Nat) : Nat → Int32 → bp_M → Option bp_M
  | 0, _, _ => none
  | n + 1, x1, m =>
    if 16 ≤ x1 then
      bm_M_clearLatest_L21 N m
    else
      bp_gi x1 16 <|
      bp_nM (bp_sI m 12 x1.toNatClampNeg (-1)) fun m1 =>
      bp_nI (x1 + 1) fun y2 =>
      bm_M_clearLatest_L2 N n y2 m1
def bm_M_clearLatest (N : Nat)  (m : bp_M) : Option bp_M :=
  bm_M_clearLatest_L2 N N 0 m
def bm_M_within_L15 (N : Nat) (a0 : Int32) (a1 : Int32) (a2 : Int32) (s0 : Int32) (m : bp_M) : Option (Int32 × bp_M) :=
  bp_g ((s0 : Int32) = 0 ∨ (s0 : Int32) = 1) <|
  some (s0, m)
def bm_M_within_L14 (N : Nat) (a0 : Int32) (a1 : Int32) (a2 : Int32) (m : bp_M) : Option (Int32 × bp_M) :=
  bm_M_within_L15 N a0 a1 a2 0 m
def bm_M_within (N : Nat) (a0 : Int32) (a1 : Int32) (a2 : Int32) (m : bp_M) : Option (Int32 × bp_M) :=
  if a0 < a1 then
    bm_M_within_L14 N a0 a1 a2 m
  else
    if a2 < a0 then
      bm_M_within_L14 N a0 a1 a2 m
    else
      bm_M_within_L15 N a0 a1 a2 1 m
def bm_M_limit_L22 (N : Nat) (a0 : Int32) (s0 : Int32) (m : bp_M) : Option (Int32 × bp_M) :=
  some (s0, m)
def bm_M_limit (N : Nat) (a0 : Int32) (m : bp_M) : Option (Int32 × bp_M) :=
  if 0 ≤ a0 then
    if a0 ≤ 255 then
      bm_M_limit_L22 N a0 a0 m
    else
      bm_M_limit_L22 N a0 255 m
  else
    bm_M_limit_L22 N a0 0 m
def bm_M_distance_L14 (N : Nat) (a0 : Int32) (a1 : Int32) (s0 : Int32) (m : bp_M) : Option (Int32 × bp_M) :=
  some (s0, m)
def bm_M_distance (N : Nat) (a0 : Int32) (a1 : Int32) (m : bp_M) : Option (Int32 × bp_M) :=
  if a1 ≤ a0 then
    bm_M_distance_L14 N a0 a1 (a0 - a1 : Int32) m
  else
    bm_M_distance_L14 N a0 a1 (a1 - a0 : Int32) m
def bm_M_bits_L90 (N : Nat) (a1 : Int32) (x2 : Int32) (m : bp_M) : Option (Int32 × bp_M) :=
  some (x2, m)
def bm_M_bits_L33 (N : Nat) (a1 : Int32) : Nat → Int32 → Int32 → bp_M → Option (Int32 × bp_M)
  | 0, _, _, _ => none
  | n + 1, x2, x3, m =>
    if a1 ≤ x3 then
      bm_M_bits_L90 N a1 x2 m
    else
      bp_gi (1 + ((m.1 0 11) / 8 : Int32) : Int32) 320 <|
      bp_nI (((m.1 4 (1 + ((m.1 0 11) / 8 : Int32) : Int32).toNatClampNeg) >>> ((7 - ((m.1 0 11) - (m.1 0 11) / 8 * 8 : Int32) : Int32) &&& 31 : Int32) : Int32) &&& 1 : Int32) fun y1 =>
      bp_nI ((2 * x2 : Int32) + y1 : Int32) fun y2 =>
      bp_nM (bp_sI m 0 11 ((m.1 0 11) + 1 : Int32)) fun m3 =>
      bp_nI (x3 + 1) fun y4 =>
      bm_M_bits_L33 N a1 n y2 y4 m3
def bm_M_bits (N : Nat) (a1 : Int32) (m : bp_M) : Option (Int32 × bp_M) :=
  if (m.1 0 12) = 0 then
    if ((m.1 0 11) + a1 : Int32) ≤ (m.1 0 10) then
      bm_M_bits_L33 N a1 N 0 0 m
    else
      bp_nM (bp_sI m 0 12 4) fun m1 =>
      some (0, m1)
  else
    some (0, m)
def bm_M_number_L115 (N : Nat) (a1 : Int32) (a2 : Int32) (s0 : Int32) (m : bp_M) : Option (Int32 × bp_M) :=
  some (s0, m)
def bm_M_number_L102 (N : Nat) (a1 : Int32) (a2 : Int32) (x6 : Int32) (m : bp_M) : Option (Int32 × bp_M) :=
  if ¬ (m.1 0 12) = 0 then
    bm_M_number_L115 N a1 a2 0 m
  else
    bm_M_number_L115 N a1 a2 x6 m
def bm_M_number_L67 (N : Nat) (a1 : Int32) (a2 : Int32) (x3 : Int32) (m : bp_M) : Option (Int32 × bp_M) :=
  bp_cI (bm_M_bits N x3 m) fun z2 m1 =>
  bp_nI (((1 <<< (x3 &&& 31 : Int32) : Int32) - 1 : Int32) + z2 : Int32) fun y3 =>
  if ¬ (m1.1 0 12) = 0 then
    bm_M_number_L102 N a1 a2 y3 m1
  else
    if y3 ≤ a1 then
      bm_M_number_L102 N a1 a2 y3 m1
    else
      bp_nM (bp_sI m1 0 12 a2) fun m4 =>
      bm_M_number_L102 N a1 a2 y3 m4
def bm_M_number_L44 (r5 : Int32 → Int32 → bp_M → Option (Int32 × bp_M)) (N : Nat) (a1 : Int32) (a2 : Int32) (x4 : Int32) (s0 : Int32) (s1 : Int32) (m : bp_M) : Option (Int32 × bp_M) :=
  bp_nI (s1 + s0 : Int32) fun y1 =>
  if ¬ (m.1 0 12) = 0 then
    r5 y1 x4 m
  else
    if ¬ y1 = 11 then
      r5 y1 x4 m
    else
      bp_nM (bp_sI m 0 12 5) fun m2 =>
      r5 y1 x4 m2
def bm_M_number_L31 (r5 : Int32 → Int32 → bp_M → Option (Int32 × bp_M)) (N : Nat) (a1 : Int32) (a2 : Int32) (x3 : Int32) (s0 : Int32) (m : bp_M) : Option (Int32 × bp_M) :=
  if s0 = 0 then
    bm_M_number_L44 r5 N a1 a2 s0 1 x3 m
  else
    bm_M_number_L44 r5 N a1 a2 s0 0 x3 m
def bm_M_number_L5 (N : Nat) (a1 : Int32) (a2 : Int32) : Nat → Int32 → Int32 → bp_M → Option (Int32 × bp_M)
  | 0, _, _, _ => none
  | n + 1, x3, x4, m =>
    if ¬ (m.1 0 12) = 0 then
      bm_M_number_L67 N a1 a2 x3 m
    else
      if ¬ x4 = 0 then
        bm_M_number_L67 N a1 a2 x3 m
      else
        bp_cI (bm_M_bits N 1 m) fun z2 m1 =>
        if ¬ z2 = 1 then
          bm_M_number_L31 (bm_M_number_L5 N a1 a2 n) N a1 a2 x3 0 m1
        else
          bm_M_number_L31 (bm_M_number_L5 N a1 a2 n) N a1 a2 x3 1 m1
def bm_M_number (N : Nat) (a1 : Int32) (a2 : Int32) (m : bp_M) : Option (Int32 × bp_M) :=
  bm_M_number_L5 N a1 a2 N 0 0 m
def bm_M_toEnd_L24 (N : Nat) (m : bp_M) : Option bp_M :=
  some m
def bm_M_toEnd (N : Nat)  (m : bp_M) : Option bp_M :=
  if ¬ (m.1 0 12) = 0 then
    bm_M_toEnd_L24 N m
  else
    if (m.1 0 10) ≤ (m.1 0 11) then
      bm_M_toEnd_L24 N m
    else
      bp_nM (bp_sI m 0 12 6) fun m1 =>
      bm_M_toEnd_L24 N m1
def bm_M_parameters_L43 (N : Nat) (m : bp_M) : Option bp_M :=
  some m
def bm_M_parameters (N : Nat)  (m : bp_M) : Option bp_M :=
  bp_cI (bm_M_number N 3 5 m) fun z2 m1 =>
  bp_cI (bm_M_number N 11 5 m1) fun z4 m3 =>
  bp_cV (bm_M_toEnd N m3) fun m5 =>
  if ¬ (m5.1 0 12) = 0 then
    bm_M_parameters_L43 N m5
  else
    bp_g ((1 : Int32) = 0 ∨ (1 : Int32) = 1) <|
    bp_nM (bp_sI m5 0 13 1) fun m6 =>
    bp_nM (bp_sI m6 0 14 (z2 + 1 : Int32)) fun m7 =>
    bp_nM (bp_sI m7 0 15 z4) fun m8 =>
    bm_M_parameters_L43 N m8
def bm_M_references_L35 (N : Nat) (x1 : Int32) (m : bp_M) : Option (Int32 × bp_M) :=
  some (x1, m)
def bm_M_references_L27 (r4 : Int32 → Int32 → bp_M → Option (Int32 × bp_M)) (N : Nat) (x2 : Int32) (s0 : Int32) (s1 : Int32) (m : bp_M) : Option (Int32 × bp_M) :=
  bp_nI (s1 + s0 : Int32) fun y1 =>
  bp_nI (x2 + 1) fun y2 =>
  r4 y1 y2 m
def bm_M_references_L4 (N : Nat) : Nat → Int32 → Int32 → bp_M → Option (Int32 × bp_M)
  | 0, _, _, _ => none
  | n + 1, x1, x2, m =>
    if (m.1 0 34) ≤ x2 then
      bm_M_references_L35 N x1 m
    else
      bp_gi x2 4 <|
      if (m.1 15 x2.toNatClampNeg) = 0 then
        bm_M_references_L27 (bm_M_references_L4 N n) N x2 0 x1 m
      else
        bm_M_references_L27 (bm_M_references_L4 N n) N x2 1 x1 m
def bm_M_references (N : Nat)  (m : bp_M) : Option (Int32 × bp_M) :=
  bm_M_references_L4 N N 0 0 m
def bm_M_signed_L28 (N : Nat) (s0 : Int32) (m : bp_M) : Option (Int32 × bp_M) :=
  some (s0, m)
def bm_M_signed (N : Nat)  (m : bp_M) : Option (Int32 × bp_M) :=
  bp_cI (bm_M_number N 5000 5 m) fun z2 m1 =>
  if ¬ (z2 - z2 / 2 * 2 : Int32) = 1 then
    bm_M_signed_L28 N (-(z2 / 2 : Int32) : Int32) m1
  else
    bm_M_signed_L28 N ((z2 + 1 : Int32) / 2 : Int32) m1
def bm_M_middle_L44 (N : Nat) (a0 : Int32) (a1 : Int32) (a2 : Int32) (s0 : Int32) (m : bp_M) : Option (Int32 × bp_M) :=
  some (s0, m)
def bm_M_middle_L21 (N : Nat) (a0 : Int32) (a1 : Int32) (a2 : Int32) (x3 : Int32) (s0 : Int32) (m : bp_M) : Option (Int32 × bp_M) :=
  if x3 ≤ a2 then
    if a2 ≤ s0 then
      bm_M_middle_L44 N a0 a1 a2 a2 m
    else
      bm_M_middle_L44 N a0 a1 a2 s0 m
  else
    bm_M_middle_L44 N a0 a1 a2 x3 m
def bm_M_middle_L10 (N : Nat) (a0 : Int32) (a1 : Int32) (a2 : Int32) (s0 : Int32) (m : bp_M) : Option (Int32 × bp_M) :=
  if a1 ≤ a0 then
    bm_M_middle_L21 N a0 a1 a2 s0 a0 m
  else
    bm_M_middle_L21 N a0 a1 a2 s0 a1 m
def bm_M_middle (N : Nat) (a0 : Int32) (a1 : Int32) (a2 : Int32) (m : bp_M) : Option (Int32 × bp_M) :=
  if a1 ≤ a0 then
    bm_M_middle_L10 N a0 a1 a2 a1 m
  else
    bm_M_middle_L10 N a0 a1 a2 a0 m
def bm_M_guessed_L105 (N : Nat) (a1 : Int32) (a2 : Int32) (x3 : Int32) (x5 : Int32) (s0 : Int32) (m : bp_M) : Option (Int32 × bp_M) :=
  bp_cI (bm_M_middle N x3 x5 s0 m) fun z2 m1 =>
  some (z2, m1)
def bm_M_guessed_L82 (N : Nat) (a1 : Int32) (a2 : Int32) (x3 : Int32) (x4 : Int32) (s0 : Int32) (m : bp_M) : Option (Int32 × bp_M) :=
  if a2 = 0 then
    bp_gi x4 16 <|
    bm_M_guessed_L105 N a1 a2 x3 s0 (m.1 8 x4.toNatClampNeg) m
  else
    bp_gi x4 16 <|
    bm_M_guessed_L105 N a1 a2 x3 s0 (m.1 9 x4.toNatClampNeg) m
def bm_M_guessed_L57 (N : Nat) (a1 : Int32) (a2 : Int32) (x3 : Int32) (s0 : Int32) (m : bp_M) : Option (Int32 × bp_M) :=
  if a2 = 0 then
    bp_gi (a1 - 4 : Int32) 16 <|
    bm_M_guessed_L82 N a1 a2 x3 s0 (m.1 8 (a1 - 4 : Int32).toNatClampNeg) m
  else
    bp_gi (a1 - 4 : Int32) 16 <|
    bm_M_guessed_L82 N a1 a2 x3 s0 (m.1 9 (a1 - 4 : Int32).toNatClampNeg) m
def bm_M_guessed_L33 (N : Nat) (a1 : Int32) (a2 : Int32) (s0 : Int32) (m : bp_M) : Option (Int32 × bp_M) :=
  if 4 ≤ a1 then
    if ¬ (a1 - a1 / 4 * 4 : Int32) = 3 then
      bm_M_guessed_L57 N a1 a2 s0 (a1 - 3 : Int32) m
    else
      bm_M_guessed_L57 N a1 a2 s0 (a1 - 5 : Int32) m
  else
    some (s0, m)
def bm_M_guessed (N : Nat) (a1 : Int32) (a2 : Int32) (m : bp_M) : Option (Int32 × bp_M) :=
  if ¬ (a1 - a1 / 4 * 4 : Int32) = 0 then
    if a2 = 0 then
      bp_gi (a1 - 1 : Int32) 16 <|
      bm_M_guessed_L33 N a1 a2 (m.1 8 (a1 - 1 : Int32).toNatClampNeg) m
    else
      bp_gi (a1 - 1 : Int32) 16 <|
      bm_M_guessed_L33 N a1 a2 (m.1 9 (a1 - 1 : Int32).toNatClampNeg) m
  else
    bm_M_guessed_L33 N a1 a2 0 m
def bm_M_residual_L209 (N : Nat) (a1 : Int32) (m : bp_M) : Option bp_M :=
  some m
def bm_M_residual_L200 (r31 : Int32 → Int32 → Int32 → bp_M → Option bp_M) (N : Nat) (a1 : Int32) (x2 : Int32) (x3 : Int32) (x4 : Int32) (m : bp_M) : Option bp_M :=
  bp_nI (x3 + 1) fun y1 =>
  bp_nI (x4 + 1) fun y2 =>
  r31 x2 y1 y2 m
def bm_M_residual_L163 (r31 : Int32 → Int32 → Int32 → bp_M → Option bp_M) (N : Nat) (a1 : Int32) (x2 : Int32) (x3 : Int32) (x4 : Int32) (x5 : Int32) (x6 : Int32) (x7 : Int32) (s0 : Int32) (m : bp_M) : Option bp_M :=
  bp_gi ((4 * x6 : Int32) + x7 : Int32) 16 <|
  bp_nM (bp_sI m 11 ((4 * x6 : Int32) + x7 : Int32).toNatClampNeg (((x5 * s0 : Int32) * (4 + ((m.1 0 19) - (m.1 0 19) / 4 * 4 : Int32) : Int32) : Int32) * (1 <<< (((m.1 0 19) / 4 : Int32) &&& 31 : Int32) : Int32) : Int32)) fun m1 =>
  bm_M_residual_L200 r31 N a1 x2 x3 x4 m1
def bm_M_residual_L107 (r31 : Int32 → Int32 → Int32 → bp_M → Option bp_M) (N : Nat) (a1 : Int32) (x2 : Int32) (x3 : Int32) (x4 : Int32) (x5 : Int32) (s0 : Int32) (m : bp_M) : Option bp_M :=
  bp_nM (bp_sI m 0 12 s0) fun m1 =>
  if ¬ (m1.1 0 12) = 0 then
    bm_M_residual_L200 r31 N a1 x2 x3 x4 m1
  else
    bp_gi x3 16 <|
    bp_nI (m1.1 1 x3.toNatClampNeg) fun y2 =>
    bp_gi x3 16 <|
    bp_nI (m1.1 2 x3.toNatClampNeg) fun y3 =>
    if ¬ ((y2 + y3 : Int32) - (y2 + y3 : Int32) / 2 * 2 : Int32) = 1 then
      if ¬ (y2 - y2 / 2 * 2 : Int32) = 0 then
        bm_M_residual_L163 r31 N a1 x2 x3 x4 x5 y2 y3 16 m1
      else
        bm_M_residual_L163 r31 N a1 x2 x3 x4 x5 y2 y3 10 m1
    else
      bm_M_residual_L163 r31 N a1 x2 x3 x4 x5 y2 y3 13 m1
def bm_M_residual_L103 (r31 : Int32 → Int32 → Int32 → bp_M → Option bp_M) (N : Nat) (a1 : Int32) (x2 : Int32) (x3 : Int32) (x4 : Int32) (x5 : Int32) (m : bp_M) : Option bp_M :=
  bm_M_residual_L107 r31 N a1 x2 x3 x4 x5 (m.1 0 12) m
def bm_M_residual_L77 (r31 : Int32 → Int32 → Int32 → bp_M → Option bp_M) (N : Nat) (a1 : Int32) (x2 : Int32) (x3 : Int32) (x4 : Int32) (s0 : Int32) (m : bp_M) : Option bp_M :=
  bp_nM (bp_sI m 0 12 s0) fun m1 =>
  bp_cI (bm_M_signed N m1) fun z3 m2 =>
  if ¬ (m2.1 0 12) = 0 then
    bm_M_residual_L103 r31 N a1 x2 x3 x4 z3 m2
  else
    if ¬ z3 = 0 then
      bm_M_residual_L103 r31 N a1 x2 x3 x4 z3 m2
    else
      bm_M_residual_L107 r31 N a1 x2 x3 x4 z3 5 m2
def bm_M_residual_L73 (r31 : Int32 → Int32 → Int32 → bp_M → Option bp_M) (N : Nat) (a1 : Int32) (x2 : Int32) (x3 : Int32) (x4 : Int32) (m : bp_M) : Option bp_M :=
  bm_M_residual_L77 r31 N a1 x2 x3 x4 (m.1 0 12) m
def bm_M_residual_L31 (N : Nat) (a1 : Int32) : Nat → Int32 → Int32 → Int32 → bp_M → Option bp_M
  | 0, _, _, _, _ => none
  | n + 1, x2, x3, x4, m =>
    if x2 ≤ x4 then
      bm_M_residual_L209 N a1 m
    else
      if ¬ (m.1 0 12) = 0 then
        bm_M_residual_L209 N a1 m
      else
        bp_cI (bm_M_number N 5000 5 m) fun z2 m1 =>
        bp_nI (x3 + z2 : Int32) fun y3 =>
        if ¬ (m1.1 0 12) = 0 then
          bm_M_residual_L73 (bm_M_residual_L31 N a1 n) N a1 x2 y3 x4 m1
        else
          if y3 ≤ 15 then
            bm_M_residual_L73 (bm_M_residual_L31 N a1 n) N a1 x2 y3 x4 m1
          else
            bm_M_residual_L77 (bm_M_residual_L31 N a1 n) N a1 x2 y3 x4 5 m1
def bm_M_residual (N : Nat) (a1 : Int32) (m : bp_M) : Option bp_M :=
  bp_cI (bm_M_bits N 1 m) fun z2 m1 =>
  if ¬ z2 = 0 then
    bp_gi a1 16 <|
    bp_g ((1 : Int32) = 0 ∨ (1 : Int32) = 1) <|
    bp_nM (bp_sI m1 7 a1.toNatClampNeg 1) fun m3 =>
    bp_cI (bm_M_number N 15 5 m3) fun z5 m4 =>
    bp_nI (z5 + 1 : Int32) fun y6 =>
    bm_M_residual_L31 N a1 N y6 0 0 m4
  else
    some m1
def bm_M_reference_L37 (N : Nat) (a1 : Int32) (m : bp_M) : Option (Int32 × bp_M) :=
  some (0, m)
def bm_M_reference_L31 (r9 : Int32 → Int32 → bp_M → Option (Int32 × bp_M)) (N : Nat) (a1 : Int32) (x2 : Int32) (x3 : Int32) (m : bp_M) : Option (Int32 × bp_M) :=
  bp_nI (x3 + (-1)) fun y1 =>
  r9 x2 y1 m
def bm_M_reference_L26 (N : Nat) (a1 : Int32) (x3 : Int32) (m : bp_M) : Option (Int32 × bp_M) :=
  some (x3, m)
def bm_M_reference_L9 (N : Nat) (a1 : Int32) : Nat → Int32 → Int32 → bp_M → Option (Int32 × bp_M)
  | 0, _, _, _ => none
  | n + 1, x2, x3, m =>
    if x3 < 0 then
      bm_M_reference_L37 N a1 m
    else
      bp_gi x3 4 <|
      if (m.1 15 x3.toNatClampNeg) = 0 then
        bm_M_reference_L31 (bm_M_reference_L9 N a1 n) N a1 x2 x3 m
      else
        if ¬ x2 = 0 then
          bp_nI (x2 + (-1)) fun y1 =>
          bm_M_reference_L31 (bm_M_reference_L9 N a1 n) N a1 y1 x3 m
        else
          bm_M_reference_L26 N a1 x3 m
def bm_M_reference (N : Nat) (a1 : Int32) (m : bp_M) : Option (Int32 × bp_M) :=
  bp_nI ((m.1 0 34) - 1 : Int32) fun y1 =>
  bm_M_reference_L9 N a1 N a1 y1 m
def bm_M_listed_L42 (N : Nat) (a1 : Int32) (s0 : Int32) (m : bp_M) : Option (Int32 × bp_M) :=
  bp_cI (bm_M_reference N s0 m) fun z2 m1 =>
  some (z2, m1)
def bm_M_listed (N : Nat) (a1 : Int32) (m : bp_M) : Option (Int32 × bp_M) :=
  if 0 ≤ (m.1 0 21) then
    if ¬ a1 = 0 then
      if (m.1 0 21) ≤ (a1 - 1 : Int32) then
        bm_M_listed_L42 N a1 a1 m
      else
        bm_M_listed_L42 N a1 (a1 - 1 : Int32) m
    else
      bm_M_listed_L42 N a1 (m.1 0 21) m
  else
    bp_cI (bm_M_reference N a1 m) fun z2 m1 =>
    some (z2, m1)
def bm_M_sampleOf_L42 (N : Nat) (a1 : Int32) (a2 : Int32) (a3 : Int32) (x4 : Int32) (s0 : Int32) (m : bp_M) : Option (Int32 × bp_M) :=
  bp_gi (((256 * a1 : Int32) + (16 * s0 : Int32) : Int32) + x4 : Int32) 1024 <|
  some ((m.1 13 (((256 * a1 : Int32) + (16 * s0 : Int32) : Int32) + x4 : Int32).toNatClampNeg), m)
def bm_M_sampleOf_L20 (N : Nat) (a1 : Int32) (a2 : Int32) (a3 : Int32) (s0 : Int32) (m : bp_M) : Option (Int32 × bp_M) :=
  if 0 ≤ a3 then
    if a3 ≤ 15 then
      bm_M_sampleOf_L42 N a1 a2 a3 s0 a3 m
    else
      bm_M_sampleOf_L42 N a1 a2 a3 s0 15 m
  else
    bm_M_sampleOf_L42 N a1 a2 a3 s0 0 m
def bm_M_sampleOf (N : Nat) (a1 : Int32) (a2 : Int32) (a3 : Int32) (m : bp_M) : Option (Int32 × bp_M) :=
  if 0 ≤ a2 then
    if a2 ≤ 15 then
      bm_M_sampleOf_L20 N a1 a2 a3 a2 m
    else
      bm_M_sampleOf_L20 N a1 a2 a3 15 m
  else
    bm_M_sampleOf_L20 N a1 a2 a3 0 m
def bm_M_weight_L32 (N : Nat) (a0 : Int32) (s0 : Int32) (m : bp_M) : Option (Int32 × bp_M) :=
  some (s0, m)
def bm_M_weight_L25 (N : Nat) (a0 : Int32) (m : bp_M) : Option (Int32 × bp_M) :=
  bm_M_weight_L32 N a0 (-5) m
def bm_M_weight_L11 (N : Nat) (a0 : Int32) (m : bp_M) : Option (Int32 × bp_M) :=
  bm_M_weight_L32 N a0 1 m
def bm_M_weight (N : Nat) (a0 : Int32) (m : bp_M) : Option (Int32 × bp_M) :=
  if a0 = (-2) then
    bm_M_weight_L11 N a0 m
  else
    if ¬ a0 = 3 then
      if a0 = (-1) then
        bm_M_weight_L25 N a0 m
      else
        if ¬ a0 = 2 then
          bm_M_weight_L32 N a0 20 m
        else
          bm_M_weight_L25 N a0 m
    else
      bm_M_weight_L11 N a0 m
def bm_M_half_L204 (N : Nat) (a1 : Int32) (a2 : Int32) (a3 : Int32) (s0 : Int32) (m : bp_M) : Option (Int32 × bp_M) :=
  some (s0, m)
def bm_M_half_L194 (N : Nat) (a1 : Int32) (a2 : Int32) (a3 : Int32) (x8 : Int32) (m : bp_M) : Option (Int32 × bp_M) :=
  bp_cI (bm_M_limit N ((x8 + 16 : Int32) >>> (5 &&& 31 : Int32) : Int32) m) fun z2 m1 =>
  bm_M_half_L204 N a1 a2 a3 z2 m1
def bm_M_half_L169 (N : Nat) (a1 : Int32) (a2 : Int32) (a3 : Int32) (x6 : Int32) (x7 : Int32) (x8 : Int32) (m : bp_M) : Option (Int32 × bp_M) :=
  if x6 = 0 then
    bm_M_half_L194 N a1 a2 a3 x8 m
  else
    if x7 = 0 then
      bm_M_half_L194 N a1 a2 a3 x8 m
    else
      bp_cI (bm_M_limit N ((x8 + 512 : Int32) >>> (10 &&& 31 : Int32) : Int32) m) fun z2 m1 =>
      bm_M_half_L204 N a1 a2 a3 z2 m1
def bm_M_half_L163 (r65 : Int32 → Int32 → Int32 → Int32 → Int32 → Int32 → bp_M → Option (Int32 × bp_M)) (N : Nat) (a1 : Int32) (a2 : Int32) (a3 : Int32) (x4 : Int32) (x5 : Int32) (x6 : Int32) (x7 : Int32) (x8 : Int32) (x9 : Int32) (m : bp_M) : Option (Int32 × bp_M) :=
  bp_nI (x9 + 1) fun y1 =>
  r65 x4 x5 x6 x7 x8 y1 m
def bm_M_half_L129 (r65 : Int32 → Int32 → Int32 → Int32 → Int32 → Int32 → bp_M → Option (Int32 × bp_M)) (r75 : Int32 → Int32 → Int32 → Int32 → Int32 → Int32 → Int32 → bp_M → Option (Int32 × bp_M)) (N : Nat) (a1 : Int32) (a2 : Int32) (a3 : Int32) (x4 : Int32) (x5 : Int32) (x6 : Int32) (x7 : Int32) (x8 : Int32) (x9 : Int32) (x10 : Int32) (x11 : Int32) (s0 : Int32) (m : bp_M) : Option (Int32 × bp_M) :=
  bp_cI (bm_M_sampleOf N a1 (x4 + x10 : Int32) (x5 + x9 : Int32) m) fun z2 m1 =>
  bp_nI (x8 + ((x11 * s0 : Int32) * z2 : Int32) : Int32) fun y3 =>
  bp_nI (x10 + 1) fun y4 =>
  r75 x4 x5 x6 x7 y3 x9 y4 m1
def bm_M_half_L104 (r65 : Int32 → Int32 → Int32 → Int32 → Int32 → Int32 → bp_M → Option (Int32 × bp_M)) (r75 : Int32 → Int32 → Int32 → Int32 → Int32 → Int32 → Int32 → bp_M → Option (Int32 × bp_M)) (N : Nat) (a1 : Int32) (a2 : Int32) (a3 : Int32) (x4 : Int32) (x5 : Int32) (x6 : Int32) (x7 : Int32) (x8 : Int32) (x9 : Int32) (x10 : Int32) (s0 : Int32) (m : bp_M) : Option (Int32 × bp_M) :=
  if x6 = 0 then
    if ¬ x10 = 0 then
      bm_M_half_L129 r65 r75 N a1 a2 a3 x4 x5 x6 x7 x8 x9 x10 s0 0 m
    else
      bm_M_half_L129 r65 r75 N a1 a2 a3 x4 x5 x6 x7 x8 x9 x10 s0 1 m
  else
    bp_cI (bm_M_weight N x10 m) fun z2 m1 =>
    bm_M_half_L129 r65 r75 N a1 a2 a3 x4 x5 x6 x7 x8 x9 x10 s0 z2 m1
def bm_M_half_L75 (r65 : Int32 → Int32 → Int32 → Int32 → Int32 → Int32 → bp_M → Option (Int32 × bp_M)) (N : Nat) (a1 : Int32) (a2 : Int32) (a3 : Int32) : Nat → Int32 → Int32 → Int32 → Int32 → Int32 → Int32 → Int32 → bp_M → Option (Int32 × bp_M)
  | 0, _, _, _, _, _, _, _, _ => none
  | n + 1, x4, x5, x6, x7, x8, x9, x10, m =>
    if 3 < x10 then
      bm_M_half_L163 r65 N a1 a2 a3 x4 x5 x6 x7 x8 x9 m
    else
      if x7 = 0 then
        if ¬ x9 = 0 then
          bm_M_half_L104 r65 (bm_M_half_L75 r65 N a1 a2 a3 n) N a1 a2 a3 x4 x5 x6 x7 x8 x9 x10 0 m
        else
          bm_M_half_L104 r65 (bm_M_half_L75 r65 N a1 a2 a3 n) N a1 a2 a3 x4 x5 x6 x7 x8 x9 x10 1 m
      else
        bp_cI (bm_M_weight N x9 m) fun z2 m1 =>
        bm_M_half_L104 r65 (bm_M_half_L75 r65 N a1 a2 a3 n) N a1 a2 a3 x4 x5 x6 x7 x8 x9 x10 z2 m1
def bm_M_half_L65 (N : Nat) (a1 : Int32) (a2 : Int32) (a3 : Int32) : Nat → Int32 → Int32 → Int32 → Int32 → Int32 → Int32 → bp_M → Option (Int32 × bp_M)
  | 0, _, _, _, _, _, _, _ => none
  | n + 1, x4, x5, x6, x7, x8, x9, m =>
    if 3 < x9 then
      bm_M_half_L169 N a1 a2 a3 x6 x7 x8 m
    else
      bm_M_half_L75 (bm_M_half_L65 N a1 a2 a3 n) N a1 a2 a3 N x4 x5 x6 x7 x8 x9 (-2) m
def bm_M_half_L58 (N : Nat) (a1 : Int32) (a2 : Int32) (a3 : Int32) (x4 : Int32) (x5 : Int32) (x6 : Int32) (x7 : Int32) (m : bp_M) : Option (Int32 × bp_M) :=
  bm_M_half_L65 N a1 a2 a3 N x4 x5 x6 x7 0 (-2) m
def bm_M_half_L36 (N : Nat) (a1 : Int32) (a2 : Int32) (a3 : Int32) (x4 : Int32) (x5 : Int32) (x6 : Int32) (s0 : Int32) (m : bp_M) : Option (Int32 × bp_M) :=
  if ¬ x6 = 0 then
    bm_M_half_L58 N a1 a2 a3 x4 x5 x6 s0 m
  else
    if ¬ s0 = 0 then
      bm_M_half_L58 N a1 a2 a3 x4 x5 x6 s0 m
    else
      bp_cI (bm_M_sampleOf N a1 x4 x5 m) fun z2 m1 =>
      some (z2, m1)
def bm_M_half_L22 (N : Nat) (a1 : Int32) (a2 : Int32) (a3 : Int32) (x4 : Int32) (x5 : Int32) (s0 : Int32) (m : bp_M) : Option (Int32 × bp_M) :=
  if ¬ (a3 &&& 1 : Int32) = 1 then
    bm_M_half_L36 N a1 a2 a3 x4 x5 s0 0 m
  else
    bm_M_half_L36 N a1 a2 a3 x4 x5 s0 1 m
def bm_M_half (N : Nat) (a1 : Int32) (a2 : Int32) (a3 : Int32) (m : bp_M) : Option (Int32 × bp_M) :=
  bp_nI (a2 >>> (1 &&& 31 : Int32) : Int32) fun y1 =>
  bp_nI (a3 >>> (1 &&& 31 : Int32) : Int32) fun y2 =>
  if ¬ (a2 &&& 1 : Int32) = 1 then
    bm_M_half_L22 N a1 a2 a3 y1 y2 0 m
  else
    bm_M_half_L22 N a1 a2 a3 y1 y2 1 m
def bm_M_added_L71 (N : Nat) (a1 : Int32) (a2 : Int32) (x3 : Int32) (m : bp_M) : Option (Int32 × bp_M) :=
  some (((x3 + 128 : Int32) >>> (8 &&& 31 : Int32) : Int32), m)
def bm_M_added_L65 (r5 : Int32 → Int32 → bp_M → Option (Int32 × bp_M)) (N : Nat) (a1 : Int32) (a2 : Int32) (x3 : Int32) (x4 : Int32) (m : bp_M) : Option (Int32 × bp_M) :=
  bp_nI (x4 + 1) fun y1 =>
  r5 x3 y1 m
def bm_M_added_L14 (r5 : Int32 → Int32 → bp_M → Option (Int32 × bp_M)) (N : Nat) (a1 : Int32) (a2 : Int32) : Nat → Int32 → Int32 → Int32 → bp_M → Option (Int32 × bp_M)
  | 0, _, _, _, _ => none
  | n + 1, x3, x4, x5, m =>
    if 4 ≤ x5 then
      bm_M_added_L65 r5 N a1 a2 x3 x4 m
    else
      bp_gi ((4 * a1 : Int32) + x4 : Int32) 16 <|
      bp_gi ((4 * a2 : Int32) + x5 : Int32) 16 <|
      bp_gi ((4 * x4 : Int32) + x5 : Int32) 16 <|
      bp_nI (x3 + (((m.1 3 ((4 * a1 : Int32) + x4 : Int32).toNatClampNeg) * (m.1 3 ((4 * a2 : Int32) + x5 : Int32).toNatClampNeg) : Int32) * (m.1 11 ((4 * x4 : Int32) + x5 : Int32).toNatClampNeg) : Int32) : Int32) fun y1 =>
      bp_nI (x5 + 1) fun y2 =>
      bm_M_added_L14 r5 N a1 a2 n y1 x4 y2 m
def bm_M_added_L5 (N : Nat) (a1 : Int32) (a2 : Int32) : Nat → Int32 → Int32 → bp_M → Option (Int32 × bp_M)
  | 0, _, _, _ => none
  | n + 1, x3, x4, m =>
    if 4 ≤ x4 then
      bm_M_added_L71 N a1 a2 x3 m
    else
      bm_M_added_L14 (bm_M_added_L5 N a1 a2 n) N a1 a2 N x3 x4 0 m
def bm_M_added (N : Nat) (a1 : Int32) (a2 : Int32) (m : bp_M) : Option (Int32 × bp_M) :=
  bm_M_added_L5 N a1 a2 N 0 0 m
def bm_M_interBlock_L258 (N : Nat) (a1 : Int32) (a2 : Int32) (m : bp_M) : Option bp_M :=
  some m
def bm_M_interBlock_L169 (N : Nat) (a1 : Int32) (a2 : Int32) : Nat → Int32 → Int32 → Int32 → Int32 → bp_M → Option bp_M
  | 0, _, _, _, _, _ => none
  | n + 1, x3, x4, x6, x7, m =>
    if 16 ≤ x7 then
      bm_M_interBlock_L258 N a1 a2 m
    else
      bp_nI ((4 * (a1 - a1 / 4 * 4 : Int32) : Int32) + (x7 - x7 / 4 * 4 : Int32) : Int32) fun y1 =>
      bp_nI ((4 * (a1 / 4 : Int32) : Int32) + (x7 / 4 : Int32) : Int32) fun y2 =>
      bp_cI (bm_M_half N x6 ((2 * y1 : Int32) + x3 : Int32) ((2 * y2 : Int32) + x4 : Int32) m) fun z4 m3 =>
      bp_cI (bm_M_added N (x7 / 4 : Int32) (x7 - x7 / 4 * 4 : Int32) m3) fun z6 m5 =>
      bp_cI (bm_M_limit N (z4 + z6 : Int32) m5) fun z8 m7 =>
      bp_gi ((16 * y2 : Int32) + y1 : Int32) 256 <|
      bp_nM (bp_sI m7 5 ((16 * y2 : Int32) + y1 : Int32).toNatClampNeg z8) fun m9 =>
      bp_nI (x7 + 1) fun y10 =>
      bm_M_interBlock_L169 N a1 a2 n x3 x4 x6 y10 m9
def bm_M_interBlock_L127 (N : Nat) (a1 : Int32) (a2 : Int32) (x3 : Int32) (x4 : Int32) (x5 : Int32) (m : bp_M) : Option bp_M :=
  if (m.1 0 12) = 0 then
    bp_gi a1 16 <|
    bp_nM (bp_sI m 8 a1.toNatClampNeg x3) fun m1 =>
    bp_gi a1 16 <|
    bp_nM (bp_sI m1 9 a1.toNatClampNeg x4) fun m2 =>
    bp_gi a1 16 <|
    bp_nM (bp_sI m2 10 a1.toNatClampNeg x5) fun m3 =>
    bp_cI (bm_M_listed N x5 m3) fun z5 m4 =>
    bm_M_interBlock_L169 N a1 a2 N x3 x4 z5 0 m4
  else
    some m
def bm_M_interBlock_L119 (N : Nat) (a1 : Int32) (a2 : Int32) (x3 : Int32) (x4 : Int32) (x5 : Int32) (s0 : Int32) (m : bp_M) : Option bp_M :=
  bp_nM (bp_sI m 0 12 s0) fun m1 =>
  bp_cV (bm_M_residual N a1 m1) fun m2 =>
  bm_M_interBlock_L127 N a1 a2 x3 x4 x5 m2
def bm_M_interBlock_L115 (N : Nat) (a1 : Int32) (a2 : Int32) (x3 : Int32) (x4 : Int32) (x5 : Int32) (m : bp_M) : Option bp_M :=
  bm_M_interBlock_L119 N a1 a2 x3 x4 x5 (m.1 0 12) m
def bm_M_interBlock_L79 (N : Nat) (a1 : Int32) (a2 : Int32) (x3 : Int32) (x4 : Int32) (x5 : Int32) (s0 : Int32) (m : bp_M) : Option bp_M :=
  bp_nM (bp_sI m 0 12 s0) fun m1 =>
  bp_cI (bm_M_signed N m1) fun z3 m2 =>
  bp_nI (x4 + z3 : Int32) fun y4 =>
  if ¬ (m2.1 0 12) = 0 then
    bm_M_interBlock_L115 N a1 a2 x3 y4 x5 m2
  else
    bp_cI (bm_M_within N y4 (-64) 64 m2) fun z6 m5 =>
    if ¬ z6 = 0 then
      bm_M_interBlock_L115 N a1 a2 x3 y4 x5 m5
    else
      bm_M_interBlock_L119 N a1 a2 x3 y4 x5 5 m5
def bm_M_interBlock_L75 (N : Nat) (a1 : Int32) (a2 : Int32) (x3 : Int32) (x4 : Int32) (x5 : Int32) (m : bp_M) : Option bp_M :=
  bm_M_interBlock_L79 N a1 a2 x3 x4 x5 (m.1 0 12) m
def bm_M_interBlock_L43 (N : Nat) (a1 : Int32) (a2 : Int32) (x3 : Int32) (x4 : Int32) (s0 : Int32) (m : bp_M) : Option bp_M :=
  bp_cI (bm_M_signed N m) fun z2 m1 =>
  bp_nI (x3 + z2 : Int32) fun y3 =>
  if ¬ (m1.1 0 12) = 0 then
    bm_M_interBlock_L75 N a1 a2 y3 x4 s0 m1
  else
    bp_cI (bm_M_within N y3 (-64) 64 m1) fun z5 m4 =>
    if ¬ z5 = 0 then
      bm_M_interBlock_L75 N a1 a2 y3 x4 s0 m4
    else
      bm_M_interBlock_L79 N a1 a2 y3 x4 s0 5 m4
def bm_M_interBlock (N : Nat) (a1 : Int32) (a2 : Int32) (m : bp_M) : Option bp_M :=
  bp_cI (bm_M_guessed N a1 0 m) fun z2 m1 =>
  bp_cI (bm_M_guessed N a1 1 m1) fun z4 m3 =>
  if ¬ a2 = 0 then
    bm_M_interBlock_L127 N a1 a2 z2 z4 0 m3
  else
    if (m3.1 0 20) ≤ 0 then
      bm_M_interBlock_L43 N a1 a2 z2 z4 0 m3
    else
      bp_cI (bm_M_number N (m3.1 0 20) 8 m3) fun z6 m5 =>
      bm_M_interBlock_L43 N a1 a2 z2 z4 z6 m5
def bm_M_corner (N : Nat) (a0 : Int32) (m : bp_M) : Option (Int32 × bp_M) :=
  some (((64 * (a0 / 4 : Int32) : Int32) + (4 * (a0 - a0 / 4 * 4 : Int32) : Int32) : Int32), m)
def bm_M_intraBlock_L335 (N : Nat) (a1 : Int32) (m : bp_M) : Option bp_M :=
  some m
def bm_M_intraBlock_L329 (r201 : Int32 → Int32 → Int32 → Int32 → bp_M → Option bp_M) (N : Nat) (a1 : Int32) (x2 : Int32) (x5 : Int32) (x7 : Int32) (x8 : Int32) (m : bp_M) : Option bp_M :=
  bp_nI (x8 + 1) fun y1 =>
  r201 x2 x5 x7 y1 m
def bm_M_intraBlock_L302 (r201 : Int32 → Int32 → Int32 → Int32 → bp_M → Option bp_M) (N : Nat) (a1 : Int32) (x2 : Int32) (x5 : Int32) (x7 : Int32) (x8 : Int32) (x9 : Int32) (s0 : Int32) (m : bp_M) : Option bp_M :=
  bp_cI (bm_M_added N (x8 / 4 : Int32) (x8 - x8 / 4 * 4 : Int32) m) fun z2 m1 =>
  bp_cI (bm_M_limit N (s0 + z2 : Int32) m1) fun z4 m3 =>
  bp_gi x9 256 <|
  bp_nM (bp_sI m3 5 x9.toNatClampNeg z4) fun m5 =>
  bm_M_intraBlock_L329 r201 N a1 x2 x5 x7 x8 m5
def bm_M_intraBlock_L201 (N : Nat) (a1 : Int32) : Nat → Int32 → Int32 → Int32 → Int32 → bp_M → Option bp_M
  | 0, _, _, _, _, _ => none
  | n + 1, x2, x5, x7, x8, m =>
    if 16 ≤ x8 then
      bm_M_intraBlock_L335 N a1 m
    else
      if ¬ (m.1 0 12) = 0 then
        bm_M_intraBlock_L335 N a1 m
      else
        bp_nI ((x5 + (16 * (x8 / 4 : Int32) : Int32) : Int32) + (x8 - x8 / 4 * 4 : Int32) : Int32) fun y1 =>
        if ¬ x2 = 0 then
          if ¬ x2 = 1 then
            if ¬ x2 = 2 then
              bp_gi ((x5 - 1 : Int32) + (16 * (x8 / 4 : Int32) : Int32) : Int32) 256 <|
              bm_M_intraBlock_L302 (bm_M_intraBlock_L201 N a1 n) N a1 x2 x5 x7 x8 y1 (m.1 5 ((x5 - 1 : Int32) + (16 * (x8 / 4 : Int32) : Int32) : Int32).toNatClampNeg) m
            else
              bp_gi ((x5 - 16 : Int32) + (x8 - x8 / 4 * 4 : Int32) : Int32) 256 <|
              bm_M_intraBlock_L302 (bm_M_intraBlock_L201 N a1 n) N a1 x2 x5 x7 x8 y1 (m.1 5 ((x5 - 16 : Int32) + (x8 - x8 / 4 * 4 : Int32) : Int32).toNatClampNeg) m
          else
            bm_M_intraBlock_L302 (bm_M_intraBlock_L201 N a1 n) N a1 x2 x5 x7 x8 y1 x7 m
        else
          bp_cI (bm_M_bits N 8 m) fun z3 m2 =>
          bp_gi y1 256 <|
          bp_nM (bp_sI m2 5 y1.toNatClampNeg z3) fun m4 =>
          bm_M_intraBlock_L329 (bm_M_intraBlock_L201 N a1 n) N a1 x2 x5 x7 x8 m4
def bm_M_intraBlock_L196 (N : Nat) (a1 : Int32) (x2 : Int32) (x5 : Int32) (s0 : Int32) (m : bp_M) : Option bp_M :=
  bm_M_intraBlock_L201 N a1 N x2 x5 s0 0 m
def bm_M_intraBlock_L184 (N : Nat) (a1 : Int32) (x2 : Int32) (x5 : Int32) (x6 : Int32) (m : bp_M) : Option bp_M :=
  bm_M_intraBlock_L196 N a1 x2 x5 ((x6 + 2 : Int32) >>> (2 &&& 31 : Int32) : Int32) m
def bm_M_intraBlock_L175 (N : Nat) (a1 : Int32) (x2 : Int32) (x3 : Int32) (x4 : Int32) (x5 : Int32) (x6 : Int32) (m : bp_M) : Option bp_M :=
  if ¬ x3 = 0 then
    bm_M_intraBlock_L184 N a1 x2 x5 x6 m
  else
    if x4 = 0 then
      bm_M_intraBlock_L196 N a1 x2 x5 128 m
    else
      bm_M_intraBlock_L184 N a1 x2 x5 x6 m
def bm_M_intraBlock_L157 (N : Nat) (a1 : Int32) (x2 : Int32) (x3 : Int32) (x4 : Int32) (x5 : Int32) (x6 : Int32) (m : bp_M) : Option bp_M :=
  if x3 = 0 then
    bm_M_intraBlock_L175 N a1 x2 x3 x4 x5 x6 m
  else
    if x4 = 0 then
      bm_M_intraBlock_L175 N a1 x2 x3 x4 x5 x6 m
    else
      bm_M_intraBlock_L196 N a1 x2 x5 ((x6 + 4 : Int32) >>> (3 &&& 31 : Int32) : Int32) m
def bm_M_intraBlock_L148 (r90 : Int32 → Int32 → Int32 → Int32 → Int32 → Int32 → bp_M → Option bp_M) (N : Nat) (a1 : Int32) (x2 : Int32) (x3 : Int32) (x4 : Int32) (x5 : Int32) (x7 : Int32) (s0 : Int32) (s1 : Int32) (m : bp_M) : Option bp_M :=
  bp_nI (s1 + s0 : Int32) fun y1 =>
  bp_nI (x7 + 1) fun y2 =>
  r90 x2 x3 x4 x5 y1 y2 m
def bm_M_intraBlock_L119 (r90 : Int32 → Int32 → Int32 → Int32 → Int32 → Int32 → bp_M → Option bp_M) (N : Nat) (a1 : Int32) (x2 : Int32) (x3 : Int32) (x4 : Int32) (x5 : Int32) (x7 : Int32) (s0 : Int32) (s1 : Int32) (m : bp_M) : Option bp_M :=
  bp_nI (s1 + s0 : Int32) fun y1 =>
  if x4 = 0 then
    bm_M_intraBlock_L148 r90 N a1 x2 x3 x4 x5 x7 0 y1 m
  else
    bp_gi ((x5 - 1 : Int32) + (16 * x7 : Int32) : Int32) 256 <|
    bm_M_intraBlock_L148 r90 N a1 x2 x3 x4 x5 x7 (m.1 5 ((x5 - 1 : Int32) + (16 * x7 : Int32) : Int32).toNatClampNeg) y1 m
def bm_M_intraBlock_L90 (N : Nat) (a1 : Int32) : Nat → Int32 → Int32 → Int32 → Int32 → Int32 → Int32 → bp_M → Option bp_M
  | 0, _, _, _, _, _, _, _ => none
  | n + 1, x2, x3, x4, x5, x6, x7, m =>
    if 4 ≤ x7 then
      bm_M_intraBlock_L157 N a1 x2 x3 x4 x5 x6 m
    else
      if x3 = 0 then
        bm_M_intraBlock_L119 (bm_M_intraBlock_L90 N a1 n) N a1 x2 x3 x4 x5 x7 0 x6 m
      else
        bp_gi ((x5 - 16 : Int32) + x7 : Int32) 256 <|
        bm_M_intraBlock_L119 (bm_M_intraBlock_L90 N a1 n) N a1 x2 x3 x4 x5 x7 (m.1 5 ((x5 - 16 : Int32) + x7 : Int32).toNatClampNeg) x6 m
def bm_M_intraBlock_L78 (N : Nat) (a1 : Int32) (x2 : Int32) (x3 : Int32) (x4 : Int32) (m : bp_M) : Option bp_M :=
  bp_cI (bm_M_corner N a1 m) fun z2 m1 =>
  bm_M_intraBlock_L90 N a1 N x2 x3 x4 z2 0 0 m1
def bm_M_intraBlock_L69 (N : Nat) (a1 : Int32) (x2 : Int32) (x3 : Int32) (x4 : Int32) (m : bp_M) : Option bp_M :=
  if x2 ≤ 0 then
    bm_M_intraBlock_L78 N a1 x2 x3 x4 m
  else
    bp_cV (bm_M_residual N a1 m) fun m1 =>
    bm_M_intraBlock_L78 N a1 x2 x3 x4 m1
def bm_M_intraBlock_L66 (N : Nat) (a1 : Int32) (x2 : Int32) (x3 : Int32) (x4 : Int32) (s0 : Int32) (m : bp_M) : Option bp_M :=
  bp_nM (bp_sI m 0 12 s0) fun m1 =>
  bm_M_intraBlock_L69 N a1 x2 x3 x4 m1
def bm_M_intraBlock_L49 (N : Nat) (a1 : Int32) (x2 : Int32) (x3 : Int32) (x4 : Int32) (m : bp_M) : Option bp_M :=
  if ¬ (m.1 0 12) = 0 then
    bm_M_intraBlock_L66 N a1 x2 x3 x4 (m.1 0 12) m
  else
    bm_M_intraBlock_L66 N a1 x2 x3 x4 9 m
def bm_M_intraBlock_L39 (N : Nat) (a1 : Int32) (x2 : Int32) (x3 : Int32) (x4 : Int32) (m : bp_M) : Option bp_M :=
  if ¬ x2 = 3 then
    bm_M_intraBlock_L69 N a1 x2 x3 x4 m
  else
    if ¬ x4 = 0 then
      bm_M_intraBlock_L69 N a1 x2 x3 x4 m
    else
      bm_M_intraBlock_L49 N a1 x2 x3 x4 m
def bm_M_intraBlock_L28 (N : Nat) (a1 : Int32) (x2 : Int32) (x3 : Int32) (s0 : Int32) (m : bp_M) : Option bp_M :=
  if ¬ x2 = 2 then
    bm_M_intraBlock_L39 N a1 x2 x3 s0 m
  else
    if x3 = 0 then
      bm_M_intraBlock_L49 N a1 x2 x3 s0 m
    else
      bm_M_intraBlock_L39 N a1 x2 x3 s0 m
def bm_M_intraBlock_L16 (N : Nat) (a1 : Int32) (x2 : Int32) (s0 : Int32) (m : bp_M) : Option bp_M :=
  if (a1 - a1 / 4 * 4 : Int32) ≤ 0 then
    bm_M_intraBlock_L28 N a1 x2 s0 0 m
  else
    bm_M_intraBlock_L28 N a1 x2 s0 1 m
def bm_M_intraBlock (N : Nat) (a1 : Int32) (m : bp_M) : Option bp_M :=
  bp_cI (bm_M_bits N 2 m) fun z2 m1 =>
  if a1 < 4 then
    bm_M_intraBlock_L16 N a1 z2 0 m1
  else
    bm_M_intraBlock_L16 N a1 z2 1 m1
def bm_M_block_L128 (N : Nat) (a1 : Int32) (a2 : Int32) (m : bp_M) : Option bp_M :=
  some m
def bm_M_block_L109 (N : Nat) (a1 : Int32) (a2 : Int32) (x3 : Int32) (x4 : Int32) (m : bp_M) : Option bp_M :=
  if x4 = 0 then
    bp_cV (bm_M_intraBlock N a2 m) fun m1 =>
    bm_M_block_L128 N a1 a2 m1
  else
    bp_cV (bm_M_interBlock N a2 x3 m) fun m2 =>
    bm_M_block_L128 N a1 a2 m2
def bm_M_block_L88 (N : Nat) (a1 : Int32) (a2 : Int32) : Nat → Int32 → Int32 → Int32 → bp_M → Option bp_M
  | 0, _, _, _, _ => none
  | n + 1, x3, x4, x5, m =>
    if 16 ≤ x5 then
      bm_M_block_L109 N a1 a2 x3 x4 m
    else
      bp_gi x5 16 <|
      bp_nM (bp_sI m 11 x5.toNatClampNeg 0) fun m1 =>
      bp_nI (x5 + 1) fun y2 =>
      bm_M_block_L88 N a1 a2 n x3 x4 y2 m1
def bm_M_block_L56 (N : Nat) (a1 : Int32) (a2 : Int32) (x3 : Int32) (x4 : Int32) (s0 : Int32) (s1 : Int32) (m : bp_M) : Option bp_M :=
  bp_gi s1 16 <|
  bp_g ((s0 : Int32) = 0 ∨ (s0 : Int32) = 1) <|
  bp_nM (bp_sI m 6 s1.toNatClampNeg s0) fun m1 =>
  bp_gi a2 16 <|
  bp_g ((0 : Int32) = 0 ∨ (0 : Int32) = 1) <|
  bp_nM (bp_sI m1 7 a2.toNatClampNeg 0) fun m2 =>
  bp_gi a2 16 <|
  bp_nM (bp_sI m2 8 a2.toNatClampNeg 0) fun m3 =>
  bp_gi a2 16 <|
  bp_nM (bp_sI m3 9 a2.toNatClampNeg 0) fun m4 =>
  bp_gi a2 16 <|
  bp_nM (bp_sI m4 10 a2.toNatClampNeg 0) fun m5 =>
  bm_M_block_L88 N a1 a2 N x3 x4 0 m5
def bm_M_block_L39 (N : Nat) (a1 : Int32) (a2 : Int32) (x3 : Int32) (s0 : Int32) (m : bp_M) : Option bp_M :=
  if ¬ s0 = 0 then
    bm_M_block_L56 N a1 a2 x3 s0 0 a2 m
  else
    bm_M_block_L56 N a1 a2 x3 s0 1 a2 m
def bm_M_block_L38 (N : Nat) (a1 : Int32) (a2 : Int32) (x3 : Int32) (m : bp_M) : Option bp_M :=
  bm_M_block_L39 N a1 a2 x3 0 m
def bm_M_block_L34 (N : Nat) (a1 : Int32) (a2 : Int32) (x3 : Int32) (m : bp_M) : Option bp_M :=
  bm_M_block_L39 N a1 a2 x3 1 m
def bm_M_block_L17 (N : Nat) (a1 : Int32) (a2 : Int32) (s0 : Int32) (m : bp_M) : Option bp_M :=
  if ¬ s0 = 0 then
    bm_M_block_L34 N a1 a2 s0 m
  else
    if ¬ a1 = 0 then
      bm_M_block_L38 N a1 a2 s0 m
    else
      bp_cI (bm_M_bits N 1 m) fun z2 m1 =>
      if ¬ z2 = 0 then
        bm_M_block_L38 N a1 a2 s0 m1
      else
        bm_M_block_L34 N a1 a2 s0 m1
def bm_M_block_L16 (N : Nat) (a1 : Int32) (a2 : Int32) (m : bp_M) : Option bp_M :=
  bm_M_block_L17 N a1 a2 0 m
def bm_M_block (N : Nat) (a1 : Int32) (a2 : Int32) (m : bp_M) : Option bp_M :=
  if ¬ a1 = 0 then
    bm_M_block_L16 N a1 a2 m
  else
    bp_cI (bm_M_bits N 1 m) fun z2 m1 =>
    if ¬ z2 = 0 then
      bm_M_block_L16 N a1 a2 m1
    else
      bm_M_block_L17 N a1 a2 1 m1
def bm_M_strength_L106 (N : Nat) (a1 : Int32) (a2 : Int32) (s0 : Int32) (m : bp_M) : Option (Int32 × bp_M) :=
  some (s0, m)
def bm_M_strength_L101 (N : Nat) (a1 : Int32) (a2 : Int32) (m : bp_M) : Option (Int32 × bp_M) :=
  bm_M_strength_L106 N a1 a2 1 m
def bm_M_strength_L63 (N : Nat) (a1 : Int32) (a2 : Int32) (s0 : Int32) (m : bp_M) : Option (Int32 × bp_M) :=
  bp_gi a1 16 <|
  if ¬ (m.1 7 a1.toNatClampNeg) = 0 then
    bm_M_strength_L101 N a1 a2 m
  else
    bp_gi a2 16 <|
    if ¬ (m.1 7 a2.toNatClampNeg) = 0 then
      bm_M_strength_L101 N a1 a2 m
    else
      bp_gi a1 16 <|
      bp_gi a2 16 <|
      if ¬ (m.1 10 a1.toNatClampNeg) = (m.1 10 a2.toNatClampNeg) then
        bm_M_strength_L101 N a1 a2 m
      else
        if s0 = 0 then
          bm_M_strength_L106 N a1 a2 0 m
        else
          bm_M_strength_L101 N a1 a2 m
def bm_M_strength_L58 (N : Nat) (a1 : Int32) (a2 : Int32) (m : bp_M) : Option (Int32 × bp_M) :=
  bm_M_strength_L63 N a1 a2 1 m
def bm_M_strength_L18 (N : Nat) (a1 : Int32) (a2 : Int32) (m : bp_M) : Option (Int32 × bp_M) :=
  some (2, m)
def bm_M_strength (N : Nat) (a1 : Int32) (a2 : Int32) (m : bp_M) : Option (Int32 × bp_M) :=
  bp_gi a1 16 <|
  if ¬ (m.1 6 a1.toNatClampNeg) = 0 then
    bm_M_strength_L18 N a1 a2 m
  else
    bp_gi a2 16 <|
    if (m.1 6 a2.toNatClampNeg) = 0 then
      bp_gi a1 16 <|
      bp_gi a2 16 <|
      bp_cI (bm_M_distance N (m.1 8 a1.toNatClampNeg) (m.1 8 a2.toNatClampNeg) m) fun z2 m1 =>
      if 2 ≤ z2 then
        bm_M_strength_L58 N a1 a2 m1
      else
        bp_gi a1 16 <|
        bp_gi a2 16 <|
        bp_cI (bm_M_distance N (m1.1 9 a1.toNatClampNeg) (m1.1 9 a2.toNatClampNeg) m1) fun z4 m3 =>
        if z4 < 2 then
          bm_M_strength_L63 N a1 a2 0 m3
        else
          bm_M_strength_L58 N a1 a2 m3
    else
      bm_M_strength_L18 N a1 a2 m
def bm_M_line_L200 (N : Nat) (a1 : Int32) (a2 : Int32) (a3 : Int32) (s0 : Int32) (s1 : Int32) (m : bp_M) : Option bp_M :=
  bp_nM (bp_sI m 0 30 (s1 + s0 : Int32)) fun m1 =>
  some m1
def bm_M_line_L195 (N : Nat) (a1 : Int32) (a2 : Int32) (a3 : Int32) (s0 : Int32) (m : bp_M) : Option bp_M :=
  bm_M_line_L200 N a1 a2 a3 1 s0 m
def bm_M_line_L134 (N : Nat) (a1 : Int32) (a2 : Int32) (a3 : Int32) (x5 : Int32) (x6 : Int32) (s0 : Int32) (m : bp_M) : Option bp_M :=
  bp_cI (bm_M_limit N (x5 + s0 : Int32) m) fun z2 m1 =>
  bp_gi (a1 - a2 : Int32) 256 <|
  bp_nM (bp_sI m1 5 (a1 - a2 : Int32).toNatClampNeg z2) fun m3 =>
  bp_cI (bm_M_limit N (x6 - s0 : Int32) m3) fun z5 m4 =>
  bp_gi a1 256 <|
  bp_nM (bp_sI m4 5 a1.toNatClampNeg z5) fun m6 =>
  bp_gi (a1 - a2 : Int32) 256 <|
  if ¬ (m6.1 5 (a1 - a2 : Int32).toNatClampNeg) = x5 then
    bm_M_line_L195 N a1 a2 a3 (m6.1 0 30) m6
  else
    bp_gi a1 256 <|
    if (m6.1 5 a1.toNatClampNeg) = x6 then
      bm_M_line_L200 N a1 a2 a3 0 (m6.1 0 30) m6
    else
      bm_M_line_L195 N a1 a2 a3 (m6.1 0 30) m6
def bm_M_line_L90 (N : Nat) (a1 : Int32) (a2 : Int32) (a3 : Int32) (m : bp_M) : Option bp_M :=
  some m
def bm_M_line (N : Nat) (a1 : Int32) (a2 : Int32) (a3 : Int32) (m : bp_M) : Option bp_M :=
  bp_gi (a1 - (2 * a2 : Int32) : Int32) 256 <|
  bp_nI (m.1 5 (a1 - (2 * a2 : Int32) : Int32).toNatClampNeg) fun y1 =>
  bp_gi (a1 - a2 : Int32) 256 <|
  bp_nI (m.1 5 (a1 - a2 : Int32).toNatClampNeg) fun y2 =>
  bp_gi a1 256 <|
  bp_nI (m.1 5 a1.toNatClampNeg) fun y3 =>
  bp_gi (a1 + a2 : Int32) 256 <|
  bp_nI (m.1 5 (a1 + a2 : Int32).toNatClampNeg) fun y4 =>
  bp_cI (bm_M_distance N y2 y3 m) fun z6 m5 =>
  if (4 + (3 * (m5.1 0 19) : Int32) : Int32) ≤ z6 then
    bm_M_line_L90 N a1 a2 a3 m5
  else
    bp_cI (bm_M_distance N y1 y2 m5) fun z8 m7 =>
    if (2 + (m7.1 0 19) : Int32) ≤ z8 then
      bm_M_line_L90 N a1 a2 a3 m7
    else
      bp_cI (bm_M_distance N y4 y3 m7) fun z10 m9 =>
      if z10 < (2 + (m9.1 0 19) : Int32) then
        bp_nI (((((4 * (y3 - y2 : Int32) : Int32) + y1 : Int32) - y4 : Int32) + 4 : Int32) >>> (3 &&& 31 : Int32) : Int32) fun y11 =>
        if (-a3 : Int32) ≤ y11 then
          if y11 ≤ a3 then
            bm_M_line_L134 N a1 a2 a3 y2 y3 y11 m9
          else
            bm_M_line_L134 N a1 a2 a3 y2 y3 a3 m9
        else
          bm_M_line_L134 N a1 a2 a3 y2 y3 (-a3 : Int32) m9
      else
        bm_M_line_L90 N a1 a2 a3 m9
def bm_M_edge_L52 (N : Nat) (a1 : Int32) (a2 : Int32) (a3 : Int32) (a4 : Int32) (m : bp_M) : Option bp_M :=
  some m
def bm_M_edge_L11 (N : Nat) (a1 : Int32) (a2 : Int32) (a3 : Int32) (a4 : Int32) : Nat → Int32 → Int32 → bp_M → Option bp_M
  | 0, _, _, _ => none
  | n + 1, x5, x6, m =>
    if 4 ≤ x6 then
      bm_M_edge_L52 N a1 a2 a3 a4 m
    else
      if x5 ≤ 0 then
        bm_M_edge_L52 N a1 a2 a3 a4 m
      else
        bp_cI (bm_M_corner N a2 m) fun z2 m1 =>
        bp_cV (bm_M_line N (z2 + (x6 * a4 : Int32) : Int32) a3 (x5 + ((m1.1 0 19) / 3 : Int32) : Int32) m1) fun m3 =>
        bp_nI (x6 + 1) fun y4 =>
        bm_M_edge_L11 N a1 a2 a3 a4 n x5 y4 m3
def bm_M_edge (N : Nat) (a1 : Int32) (a2 : Int32) (a3 : Int32) (a4 : Int32) (m : bp_M) : Option bp_M :=
  bp_cI (bm_M_strength N a1 a2 m) fun z2 m1 =>
  bm_M_edge_L11 N a1 a2 a3 a4 N z2 0 m1
def bm_M_edges_L52 (N : Nat) (m : bp_M) : Option bp_M :=
  some m
def bm_M_edges_L46 (r7 : Int32 → bp_M → Option bp_M) (N : Nat) (x1 : Int32) (m : bp_M) : Option bp_M :=
  bp_nI (x1 + 1) fun y1 =>
  r7 y1 m
def bm_M_edges_L30 (r7 : Int32 → bp_M → Option bp_M) (N : Nat) (x1 : Int32) (m : bp_M) : Option bp_M :=
  if x1 < 4 then
    bm_M_edges_L46 r7 N x1 m
  else
    bp_cV (bm_M_edge N (x1 - 4 : Int32) x1 16 1 m) fun m1 =>
    bm_M_edges_L46 r7 N x1 m1
def bm_M_edges_L7 (N : Nat) : Nat → Int32 → bp_M → Option bp_M
  | 0, _, _ => none
  | n + 1, x1, m =>
    if 16 ≤ x1 then
      bm_M_edges_L52 N m
    else
      if (x1 - x1 / 4 * 4 : Int32) ≤ 0 then
        bm_M_edges_L30 (bm_M_edges_L7 N n) N x1 m
      else
        bp_cV (bm_M_edge N (x1 - 1 : Int32) x1 1 16 m) fun m1 =>
        bm_M_edges_L30 (bm_M_edges_L7 N n) N x1 m1
def bm_M_edges (N : Nat)  (m : bp_M) : Option bp_M :=
  bp_nM (bp_sI m 0 30 0) fun m1 =>
  bm_M_edges_L7 N N 0 m1
def bm_M_remember_L56 (N : Nat) (m : bp_M) : Option bp_M :=
  bp_nM (bp_sI m 0 32 (m.1 0 30)) fun m1 =>
  bp_g ((1 : Int32) = 0 ∨ (1 : Int32) = 1) <|
  bp_nM (bp_sI m1 0 33 1) fun m2 =>
  some m2
def bm_M_remember_L49 (r2 : Int32 → bp_M → Option bp_M) (N : Nat) (x1 : Int32) (s0 : Int32) (s1 : Int32) (m : bp_M) : Option bp_M :=
  bp_gi s1 16 <|
  bp_nM (bp_sI m 12 s1.toNatClampNeg s0) fun m1 =>
  bp_nI (x1 + 1) fun y2 =>
  r2 y2 m1
def bm_M_remember_L2 (N : Nat) : Nat → Int32 → bp_M → Option bp_M
  | 0, _, _ => none
  | n + 1, x1, m =>
    if 16 ≤ x1 then
      bm_M_remember_L56 N m
    else
      bp_gi x1 16 <|
      if (m.1 6 x1.toNatClampNeg) = 0 then
        bp_gi x1 16 <|
        bp_gi x1 16 <|
        bm_M_remember_L49 (bm_M_remember_L2 N n) N x1 (((256 * ((m.1 8 x1.toNatClampNeg) + 64 : Int32) : Int32) + (m.1 9 x1.toNatClampNeg) : Int32) + 64 : Int32) x1 m
      else
        bm_M_remember_L49 (bm_M_remember_L2 N n) N x1 (-1) x1 m
def bm_M_remember (N : Nat)  (m : bp_M) : Option bp_M :=
  bm_M_remember_L2 N N 0 m
def bm_M_first_L48 (N : Nat) (x1 : Int32) (m : bp_M) : Option (Int32 × bp_M) :=
  some (x1, m)
def bm_M_first_L42 (r4 : Int32 → Int32 → bp_M → Option (Int32 × bp_M)) (N : Nat) (x1 : Int32) (x2 : Int32) (m : bp_M) : Option (Int32 × bp_M) :=
  bp_nI (x2 + 1) fun y1 =>
  r4 x1 y1 m
def bm_M_first_L40 (r4 : Int32 → Int32 → bp_M → Option (Int32 × bp_M)) (N : Nat) (x2 : Int32) (m : bp_M) : Option (Int32 × bp_M) :=
  bm_M_first_L42 r4 N x2 x2 m
def bm_M_first_L4 (N : Nat) : Nat → Int32 → Int32 → bp_M → Option (Int32 × bp_M)
  | 0, _, _, _ => none
  | n + 1, x1, x2, m =>
    if (m.1 0 34) ≤ x2 then
      bm_M_first_L48 N x1 m
    else
      bp_gi x2 4 <|
      if (m.1 16 x2.toNatClampNeg) = 0 then
        bm_M_first_L42 (bm_M_first_L4 N n) N x1 x2 m
      else
        if x1 < 0 then
          bm_M_first_L40 (bm_M_first_L4 N n) N x2 m
        else
          bp_gi x2 4 <|
          bp_gi x1 4 <|
          if (m.1 14 x1.toNatClampNeg) ≤ (m.1 14 x2.toNatClampNeg) then
            bm_M_first_L42 (bm_M_first_L4 N n) N x1 x2 m
          else
            bm_M_first_L40 (bm_M_first_L4 N n) N x2 m
def bm_M_first (N : Nat)  (m : bp_M) : Option (Int32 × bp_M) :=
  bm_M_first_L4 N N (-1) 0 m
def bm_M_show_L27 (N : Nat) (a1 : Int32) (m : bp_M) : Option bp_M :=
  bp_gi 0 8 <|
  bp_nM (bp_sI m 17 (0 : Int32).toNatClampNeg a1) fun m1 =>
  bp_nM (bp_sI m1 0 39 ((m1.1 0 39) + 1 : Int32)) fun m2 =>
  some m2
def bm_M_show_L3 (N : Nat) (a1 : Int32) : Nat → Int32 → bp_M → Option bp_M
  | 0, _, _ => none
  | n + 1, x2, m =>
    if x2 ≤ 0 then
      bm_M_show_L27 N a1 m
    else
      bp_gi (x2 - 1 : Int32) 8 <|
      bp_gi x2 8 <|
      bp_nM (bp_sI m 17 x2.toNatClampNeg (m.1 17 (x2 - 1 : Int32).toNatClampNeg)) fun m1 =>
      bp_nI (x2 + (-1)) fun y2 =>
      bm_M_show_L3 N a1 n y2 m1
def bm_M_show (N : Nat) (a1 : Int32) (m : bp_M) : Option bp_M :=
  bm_M_show_L3 N a1 N 7 m
def bm_M_showFirst_L60 (N : Nat) (m : bp_M) : Option bp_M :=
  some m
def bm_M_showFirst_L29 (N : Nat) : Nat → Int32 → Int32 → bp_M → Option bp_M
  | 0, _, _, _ => none
  | n + 1, x1, x2, m =>
    if 256 ≤ x2 then
      bm_M_showFirst_L60 N m
    else
      bp_gi ((256 * x1 : Int32) + x2 : Int32) 1024 <|
      bp_gi x2 256 <|
      bp_nM (bp_sI m 18 x2.toNatClampNeg (m.1 13 ((256 * x1 : Int32) + x2 : Int32).toNatClampNeg)) fun m1 =>
      bp_nI (x2 + 1) fun y2 =>
      bm_M_showFirst_L29 N n x1 y2 m1
def bm_M_showFirst (N : Nat)  (m : bp_M) : Option bp_M :=
  bp_cI (bm_M_first N m) fun z2 m1 =>
  if 0 ≤ z2 then
    bp_gi z2 4 <|
    bp_g ((0 : Int32) = 0 ∨ (0 : Int32) = 1) <|
    bp_nM (bp_sI m1 16 z2.toNatClampNeg 0) fun m3 =>
    bp_gi z2 4 <|
    bp_cV (bm_M_show N (m3.1 14 z2.toNatClampNeg) m3) fun m4 =>
    bm_M_showFirst_L29 N N z2 0 m4
  else
    some m1
def bm_M_showAll_L17 (N : Nat) (m : bp_M) : Option bp_M :=
  bp_nM (bp_sI m 0 34 0) fun m1 =>
  some m1
def bm_M_showAll_L2 (N : Nat) : Nat → Int32 → bp_M → Option bp_M
  | 0, _, _ => none
  | n + 1, x1, m =>
    if 4 ≤ x1 then
      bm_M_showAll_L17 N m
    else
      bp_cV (bm_M_showFirst N m) fun m1 =>
      bp_nI (x1 + 1) fun y2 =>
      bm_M_showAll_L2 N n y2 m1
def bm_M_showAll (N : Nat)  (m : bp_M) : Option bp_M :=
  bm_M_showAll_L2 N N 0 m
def bm_M_clean_L114 (N : Nat) (x1 : Int32) (m : bp_M) : Option bp_M :=
  bp_nM (bp_sI m 0 34 x1) fun m1 =>
  some m1
def bm_M_clean_L108 (r4 : Int32 → Int32 → bp_M → Option bp_M) (N : Nat) (x1 : Int32) (x2 : Int32) (m : bp_M) : Option bp_M :=
  bp_nI (x2 + 1) fun y1 =>
  r4 x1 y1 m
def bm_M_clean_L105 (r4 : Int32 → Int32 → bp_M → Option bp_M) (N : Nat) (x1 : Int32) (x2 : Int32) (m : bp_M) : Option bp_M :=
  bp_nI (x1 + 1) fun y1 =>
  bm_M_clean_L108 r4 N y1 x2 m
def bm_M_clean_L68 (r4 : Int32 → Int32 → bp_M → Option bp_M) (N : Nat) : Nat → Int32 → Int32 → Int32 → bp_M → Option bp_M
  | 0, _, _, _, _ => none
  | n + 1, x1, x2, x3, m =>
    if 256 ≤ x3 then
      bm_M_clean_L105 r4 N x1 x2 m
    else
      bp_gi ((256 * x2 : Int32) + x3 : Int32) 1024 <|
      bp_gi ((256 * x1 : Int32) + x3 : Int32) 1024 <|
      bp_nM (bp_sI m 13 ((256 * x1 : Int32) + x3 : Int32).toNatClampNeg (m.1 13 ((256 * x2 : Int32) + x3 : Int32).toNatClampNeg)) fun m1 =>
      bp_nI (x3 + 1) fun y2 =>
      bm_M_clean_L68 r4 N n x1 x2 y2 m1
def bm_M_clean_L30 (r4 : Int32 → Int32 → bp_M → Option bp_M) (N : Nat) (x1 : Int32) (x2 : Int32) (m : bp_M) : Option bp_M :=
  bp_gi x2 4 <|
  bp_gi x1 4 <|
  bp_nM (bp_sI m 14 x1.toNatClampNeg (m.1 14 x2.toNatClampNeg)) fun m1 =>
  bp_gi x2 4 <|
  bp_gi x1 4 <|
  bp_g (((m1.1 15 x2.toNatClampNeg) : Int32) = 0 ∨ ((m1.1 15 x2.toNatClampNeg) : Int32) = 1) <|
  bp_nM (bp_sI m1 15 x1.toNatClampNeg (m1.1 15 x2.toNatClampNeg)) fun m2 =>
  bp_gi x2 4 <|
  bp_gi x1 4 <|
  bp_g (((m2.1 16 x2.toNatClampNeg) : Int32) = 0 ∨ ((m2.1 16 x2.toNatClampNeg) : Int32) = 1) <|
  bp_nM (bp_sI m2 16 x1.toNatClampNeg (m2.1 16 x2.toNatClampNeg)) fun m3 =>
  bm_M_clean_L68 r4 N N x1 x2 0 m3
def bm_M_clean_L4 (N : Nat) : Nat → Int32 → Int32 → bp_M → Option bp_M
  | 0, _, _, _ => none
  | n + 1, x1, x2, m =>
    if (m.1 0 34) ≤ x2 then
      bm_M_clean_L114 N x1 m
    else
      bp_gi x2 4 <|
      if ¬ (m.1 15 x2.toNatClampNeg) = 0 then
        bm_M_clean_L30 (bm_M_clean_L4 N n) N x1 x2 m
      else
        bp_gi x2 4 <|
        if (m.1 16 x2.toNatClampNeg) = 0 then
          bm_M_clean_L108 (bm_M_clean_L4 N n) N x1 x2 m
        else
          bm_M_clean_L30 (bm_M_clean_L4 N n) N x1 x2 m
def bm_M_clean (N : Nat)  (m : bp_M) : Option bp_M :=
  bm_M_clean_L4 N N 0 0 m
def bm_M_keep_L327 (N : Nat) (a1 : Int32) (a2 : Int32) (a3 : Int32) (m : bp_M) : Option bp_M :=
  some m
def bm_M_keep_L317 (N : Nat) (a1 : Int32) (a2 : Int32) (a3 : Int32) (m : bp_M) : Option bp_M :=
  bp_nM (bp_sI m 0 34 ((m.1 0 34) + 1 : Int32)) fun m1 =>
  bm_M_keep_L327 N a1 a2 a3 m1
def bm_M_keep_L280 (N : Nat) (a1 : Int32) (a2 : Int32) (a3 : Int32) : Nat → Int32 → bp_M → Option bp_M
  | 0, _, _ => none
  | n + 1, x6, m =>
    if 256 ≤ x6 then
      bm_M_keep_L317 N a1 a2 a3 m
    else
      bp_gi x6 256 <|
      bp_gi ((256 * (m.1 0 34) : Int32) + x6 : Int32) 1024 <|
      bp_nM (bp_sI m 13 ((256 * (m.1 0 34) : Int32) + x6 : Int32).toNatClampNeg (m.1 5 x6.toNatClampNeg)) fun m1 =>
      bp_nI (x6 + 1) fun y2 =>
      bm_M_keep_L280 N a1 a2 a3 n y2 m1
def bm_M_keep_L234 (N : Nat) (a1 : Int32) (a2 : Int32) (a3 : Int32) (x5 : Int32) (m : bp_M) : Option bp_M :=
  if ¬ x5 = 0 then
    bm_M_keep_L327 N a1 a2 a3 m
  else
    if 4 ≤ (m.1 0 34) then
      bm_M_keep_L327 N a1 a2 a3 m
    else
      bp_gi (m.1 0 34) 4 <|
      bp_nM (bp_sI m 14 (m.1 0 34).toNatClampNeg a2) fun m1 =>
      bp_gi (m1.1 0 34) 4 <|
      bp_g ((a3 : Int32) = 0 ∨ (a3 : Int32) = 1) <|
      bp_nM (bp_sI m1 15 (m1.1 0 34).toNatClampNeg a3) fun m2 =>
      bp_gi (m2.1 0 34) 4 <|
      bp_g ((1 : Int32) = 0 ∨ (1 : Int32) = 1) <|
      bp_nM (bp_sI m2 16 (m2.1 0 34).toNatClampNeg 1) fun m3 =>
      bm_M_keep_L280 N a1 a2 a3 N 0 m3
def bm_M_keep_L228 (r129 : Int32 → Int32 → bp_M → Option bp_M) (N : Nat) (a1 : Int32) (a2 : Int32) (a3 : Int32) (x5 : Int32) (x6 : Int32) (m : bp_M) : Option bp_M :=
  bp_nI (x6 + 1) fun y1 =>
  r129 x5 y1 m
def bm_M_keep_L220 (r129 : Int32 → Int32 → bp_M → Option bp_M) (N : Nat) (a1 : Int32) (a2 : Int32) (a3 : Int32) (x5 : Int32) (x6 : Int32) (m : bp_M) : Option bp_M :=
  bp_cV (bm_M_showFirst N m) fun m1 =>
  bp_cV (bm_M_clean N m1) fun m2 =>
  bm_M_keep_L228 r129 N a1 a2 a3 x5 x6 m2
def bm_M_keep_L217 (r129 : Int32 → Int32 → bp_M → Option bp_M) (N : Nat) (a1 : Int32) (a2 : Int32) (a3 : Int32) (x5 : Int32) (x6 : Int32) (m : bp_M) : Option bp_M :=
  bm_M_keep_L228 r129 N a1 a2 a3 x5 x6 m
def bm_M_keep_L189 (r129 : Int32 → Int32 → bp_M → Option bp_M) (N : Nat) (a1 : Int32) (a2 : Int32) (a3 : Int32) : Nat → Int32 → Int32 → Int32 → bp_M → Option bp_M
  | 0, _, _, _, _ => none
  | n + 1, x5, x6, x8, m =>
    if 256 ≤ x8 then
      bm_M_keep_L217 r129 N a1 a2 a3 x5 x6 m
    else
      bp_gi x8 256 <|
      bp_gi x8 256 <|
      bp_nM (bp_sI m 18 x8.toNatClampNeg (m.1 5 x8.toNatClampNeg)) fun m1 =>
      bp_nI (x8 + 1) fun y2 =>
      bm_M_keep_L189 r129 N a1 a2 a3 n x5 x6 y2 m1
def bm_M_keep_L178 (r129 : Int32 → Int32 → bp_M → Option bp_M) (N : Nat) (a1 : Int32) (a2 : Int32) (a3 : Int32) (x6 : Int32) (m : bp_M) : Option bp_M :=
  bp_cV (bm_M_show N a2 m) fun m1 =>
  bm_M_keep_L189 r129 N a1 a2 a3 N 1 x6 0 m1
def bm_M_keep_L129 (N : Nat) (a1 : Int32) (a2 : Int32) (a3 : Int32) : Nat → Int32 → Int32 → bp_M → Option bp_M
  | 0, _, _, _ => none
  | n + 1, x5, x6, m =>
    if 10 ≤ x6 then
      bm_M_keep_L234 N a1 a2 a3 x5 m
    else
      if (m.1 0 34) < (m.1 0 17) then
        bm_M_keep_L234 N a1 a2 a3 x5 m
      else
        if ¬ x5 = 0 then
          bm_M_keep_L234 N a1 a2 a3 x5 m
        else
          bp_cI (bm_M_first N m) fun z2 m1 =>
          if ¬ a3 = 0 then
            bm_M_keep_L220 (bm_M_keep_L129 N a1 a2 a3 n) N a1 a2 a3 x5 x6 m1
          else
            if z2 < 0 then
              bm_M_keep_L178 (bm_M_keep_L129 N a1 a2 a3 n) N a1 a2 a3 x6 m1
            else
              bp_gi z2 4 <|
              if (m1.1 14 z2.toNatClampNeg) ≤ a2 then
                bm_M_keep_L220 (bm_M_keep_L129 N a1 a2 a3 n) N a1 a2 a3 x5 x6 m1
              else
                bm_M_keep_L178 (bm_M_keep_L129 N a1 a2 a3 n) N a1 a2 a3 x6 m1
def bm_M_keep_L119 (N : Nat) (a1 : Int32) (a2 : Int32) (a3 : Int32) (m : bp_M) : Option bp_M :=
  bp_cV (bm_M_clean N m) fun m1 =>
  bm_M_keep_L129 N a1 a2 a3 N 0 0 m1
def bm_M_keep_L86 (N : Nat) (a1 : Int32) (a2 : Int32) (a3 : Int32) (m : bp_M) : Option bp_M :=
  bp_cI (bm_M_references N m) fun z2 m1 =>
  if a3 = 0 then
    bm_M_keep_L119 N a1 a2 a3 m1
  else
    if z2 < (m1.1 0 17) then
      bm_M_keep_L119 N a1 a2 a3 m1
    else
      bp_cI (bm_M_reference N (z2 - 1 : Int32) m1) fun z4 m3 =>
      bp_gi z4 4 <|
      bp_g ((0 : Int32) = 0 ∨ (0 : Int32) = 1) <|
      bp_nM (bp_sI m3 15 z4.toNatClampNeg 0) fun m5 =>
      bm_M_keep_L119 N a1 a2 a3 m5
def bm_M_keep_L49 (N : Nat) (a1 : Int32) (a2 : Int32) (a3 : Int32) (s0 : Int32) (m : bp_M) : Option bp_M :=
  bp_nM (bp_sI m 0 18 s0) fun m1 =>
  bp_g ((1 : Int32) = 0 ∨ (1 : Int32) = 1) <|
  bp_nM (bp_sI m1 0 16 1) fun m2 =>
  bp_g ((0 : Int32) = 0 ∨ (0 : Int32) = 1) <|
  bp_nM (bp_sI m2 0 13 0) fun m3 =>
  bm_M_keep_L86 N a1 a2 a3 m3
def bm_M_keep_L27 (N : Nat) (a1 : Int32) (a2 : Int32) (a3 : Int32) (s0 : Int32) (m : bp_M) : Option bp_M :=
  bp_nM (bp_sI m 0 17 s0) fun m1 =>
  if (m1.1 0 13) = 0 then
    bm_M_keep_L49 N a1 a2 a3 (m1.1 0 18) m1
  else
    bm_M_keep_L49 N a1 a2 a3 (m1.1 0 15) m1
def bm_M_keep (N : Nat) (a1 : Int32) (a2 : Int32) (a3 : Int32) (m : bp_M) : Option bp_M :=
  if a1 = 0 then
    if (m.1 0 22) < 0 then
      bm_M_keep_L86 N a1 a2 a3 m
    else
      bp_cI (bm_M_reference N (m.1 0 22) m) fun z2 m1 =>
      bp_gi z2 4 <|
      bp_g ((0 : Int32) = 0 ∨ (0 : Int32) = 1) <|
      bp_nM (bp_sI m1 15 z2.toNatClampNeg 0) fun m3 =>
      bm_M_keep_L86 N a1 a2 a3 m3
  else
    bp_cV (bm_M_showAll N m) fun m4 =>
    if (m4.1 0 13) = 0 then
      bm_M_keep_L27 N a1 a2 a3 (m4.1 0 17) m4
    else
      bm_M_keep_L27 N a1 a2 a3 (m4.1 0 14) m4
def bm_M_picture_L277 (N : Nat) (a1 : Int32) (a2 : Int32) (m : bp_M) : Option bp_M :=
  some m
def bm_M_picture_L274 (N : Nat) (a1 : Int32) (a2 : Int32) (s0 : Int32) (s1 : Int32) (s2 : Int32) (m : bp_M) : Option bp_M :=
  bp_cV (bm_M_keep N s2 s1 s0 m) fun m1 =>
  bm_M_picture_L277 N a1 a2 m1
def bm_M_picture_L269 (N : Nat) (a1 : Int32) (a2 : Int32) (s0 : Int32) (s1 : Int32) (m : bp_M) : Option bp_M :=
  bm_M_picture_L274 N a1 a2 1 s0 s1 m
def bm_M_picture_L238 (N : Nat) (a1 : Int32) (a2 : Int32) (x4 : Int32) (m : bp_M) : Option bp_M :=
  bp_cV (bm_M_toEnd N m) fun m1 =>
  if ¬ (m1.1 0 12) = 0 then
    bm_M_picture_L277 N a1 a2 m1
  else
    bp_cV (bm_M_edges N m1) fun m2 =>
    bp_cV (bm_M_remember N m2) fun m3 =>
    if ¬ a1 = 0 then
      bm_M_picture_L269 N a1 a2 x4 a1 m3
    else
      if a2 ≤ 0 then
        bm_M_picture_L274 N a1 a2 0 x4 a1 m3
      else
        bm_M_picture_L269 N a1 a2 x4 a1 m3
def bm_M_picture_L211 (N : Nat) (a1 : Int32) (a2 : Int32) : Nat → Int32 → Int32 → bp_M → Option bp_M
  | 0, _, _, _ => none
  | n + 1, x4, x6, m =>
    if 16 ≤ x6 then
      bm_M_picture_L238 N a1 a2 x4 m
    else
      if ¬ (m.1 0 12) = 0 then
        bm_M_picture_L238 N a1 a2 x4 m
      else
        bp_cV (bm_M_block N a1 x6 m) fun m1 =>
        bp_nI (x6 + 1) fun y2 =>
        bm_M_picture_L211 N a1 a2 n x4 y2 m1
def bm_M_picture_L208 (N : Nat) (a1 : Int32) (a2 : Int32) (x4 : Int32) (m : bp_M) : Option bp_M :=
  bm_M_picture_L211 N a1 a2 N x4 0 m
def bm_M_picture_L205 (N : Nat) (a1 : Int32) (a2 : Int32) (x4 : Int32) (s0 : Int32) (m : bp_M) : Option bp_M :=
  bp_nM (bp_sI m 0 22 s0) fun m1 =>
  bm_M_picture_L208 N a1 a2 x4 m1
def bm_M_picture_L174 (N : Nat) (a1 : Int32) (a2 : Int32) (x3 : Int32) (x4 : Int32) (m : bp_M) : Option bp_M :=
  if ¬ a1 = 0 then
    bm_M_picture_L208 N a1 a2 x4 m
  else
    if a2 ≤ 0 then
      bm_M_picture_L208 N a1 a2 x4 m
    else
      bp_cI (bm_M_bits N 1 m) fun z2 m1 =>
      if ¬ z2 = 1 then
        bm_M_picture_L205 N a1 a2 x4 (-1) m1
      else
        bp_cI (bm_M_number N (x3 - 1 : Int32) 8 m1) fun z4 m3 =>
        bm_M_picture_L205 N a1 a2 x4 z4 m3
def bm_M_picture_L171 (N : Nat) (a1 : Int32) (a2 : Int32) (x3 : Int32) (x4 : Int32) (s0 : Int32) (m : bp_M) : Option bp_M :=
  bp_nM (bp_sI m 0 21 s0) fun m1 =>
  bm_M_picture_L174 N a1 a2 x3 x4 m1
def bm_M_picture_L116 (N : Nat) (a1 : Int32) (a2 : Int32) (x3 : Int32) (x4 : Int32) (m : bp_M) : Option bp_M :=
  bp_nM (bp_sI m 0 20 0) fun m1 =>
  bp_nM (bp_sI m1 0 21 (-1)) fun m2 =>
  bp_nM (bp_sI m2 0 22 (-1)) fun m3 =>
  if ¬ a1 = 0 then
    bm_M_picture_L174 N a1 a2 x3 x4 m3
  else
    bp_cI (bm_M_number N (x3 - 1 : Int32) 8 m3) fun z5 m4 =>
    bp_nM (bp_sI m4 0 20 z5) fun m6 =>
    bp_cI (bm_M_bits N 1 m6) fun z8 m7 =>
    if ¬ z8 = 1 then
      bm_M_picture_L171 N a1 a2 x3 x4 (-1) m7
    else
      bp_cI (bm_M_number N (x3 - 1 : Int32) 8 m7) fun z10 m9 =>
      bm_M_picture_L171 N a1 a2 x3 x4 z10 m9
def bm_M_picture_L85 (N : Nat) (a1 : Int32) (a2 : Int32) (x3 : Int32) (x4 : Int32) (x5 : Int32) (s0 : Int32) (m : bp_M) : Option bp_M :=
  bp_nM (bp_sI m 0 19 (s0 + x5 : Int32)) fun m1 =>
  if ¬ (m1.1 0 12) = 0 then
    bm_M_picture_L116 N a1 a2 x3 x4 m1
  else
    bp_cI (bm_M_within N (m1.1 0 19) 0 11 m1) fun z3 m2 =>
    if ¬ z3 = 0 then
      bm_M_picture_L116 N a1 a2 x3 x4 m2
    else
      bp_nM (bp_sI m2 0 12 5) fun m4 =>
      bm_M_picture_L116 N a1 a2 x3 x4 m4
def bm_M_picture_L81 (N : Nat) (a1 : Int32) (a2 : Int32) (x3 : Int32) (x4 : Int32) (x5 : Int32) (m : bp_M) : Option bp_M :=
  bm_M_picture_L85 N a1 a2 x3 x4 x5 (m.1 0 18) m
def bm_M_picture_L46 (N : Nat) (a1 : Int32) (a2 : Int32) (x3 : Int32) (m : bp_M) : Option bp_M :=
  bp_cI (bm_M_number N 255 5 m) fun z2 m1 =>
  bp_cI (bm_M_signed N m1) fun z4 m3 =>
  if a1 = 0 then
    bm_M_picture_L81 N a1 a2 x3 z2 z4 m3
  else
    if (m3.1 0 13) = 0 then
      bm_M_picture_L81 N a1 a2 x3 z2 z4 m3
    else
      bm_M_picture_L85 N a1 a2 x3 z2 z4 (m3.1 0 15) m3
def bm_M_picture_L32 (N : Nat) (a1 : Int32) (a2 : Int32) (x3 : Int32) (m : bp_M) : Option bp_M :=
  if ¬ a1 = 0 then
    bm_M_picture_L46 N a1 a2 x3 m
  else
    if ¬ x3 = 0 then
      bm_M_picture_L46 N a1 a2 x3 m
    else
      bp_nM (bp_sI m 0 12 8) fun m1 =>
      bm_M_picture_L46 N a1 a2 x3 m1
def bm_M_picture (N : Nat) (a1 : Int32) (a2 : Int32) (m : bp_M) : Option bp_M :=
  bp_cI (bm_M_references N m) fun z2 m1 =>
  if a1 = 0 then
    bm_M_picture_L32 N a1 a2 z2 m1
  else
    if ¬ (m1.1 0 13) = 0 then
      bm_M_picture_L32 N a1 a2 z2 m1
    else
      if ¬ (m1.1 0 16) = 0 then
        bm_M_picture_L32 N a1 a2 z2 m1
      else
        bp_nM (bp_sI m1 0 12 7) fun m3 =>
        bm_M_picture_L46 N a1 a2 z2 m3
def bm_M_work_L219 (N : Nat) (m : bp_M) : Option bp_M :=
  bp_nM (bp_sI m 0 8 (m.1 0 12)) fun m1 =>
  some m1
def bm_M_work_L202 (N : Nat) (m : bp_M) : Option bp_M :=
  if ¬ (m.1 0 12) = 0 then
    bm_M_work_L219 N m
  else
    bp_nM (bp_sI m 0 9 ((m.1 0 9) + 1 : Int32)) fun m1 =>
    bm_M_work_L219 N m1
def bm_M_work_L198 (N : Nat) (x2 : Int32) (s0 : Int32) (m : bp_M) : Option bp_M :=
  bp_cV (bm_M_picture N s0 x2 m) fun m1 =>
  bm_M_work_L202 N m1
def bm_M_work_L180 (N : Nat) (x1 : Int32) (x2 : Int32) (m : bp_M) : Option bp_M :=
  if ¬ (m.1 0 12) = 0 then
    bm_M_work_L202 N m
  else
    if ¬ x1 = 5 then
      bm_M_work_L198 N x2 0 m
    else
      bm_M_work_L198 N x2 1 m
def bm_M_work_L157 (N : Nat) (x1 : Int32) (x2 : Int32) (s0 : Int32) (m : bp_M) : Option bp_M :=
  bp_nM (bp_sI m 0 12 s0) fun m1 =>
  if ¬ (m1.1 0 12) = 0 then
    bm_M_work_L180 N x1 x2 m1
  else
    if ¬ x1 = 7 then
      bm_M_work_L180 N x1 x2 m1
    else
      bp_cV (bm_M_parameters N m1) fun m2 =>
      bm_M_work_L202 N m2
def bm_M_work_L144 (N : Nat) (x1 : Int32) (x2 : Int32) (m : bp_M) : Option bp_M :=
  if 0 ≤ (m.1 0 10) then
    bm_M_work_L157 N x1 x2 0 m
  else
    bm_M_work_L157 N x1 x2 4 m
def bm_M_work_L94 (N : Nat) : Nat → Int32 → Int32 → bp_M → Option bp_M
  | 0, _, _, _ => none
  | n + 1, x1, x2, m =>
    if (m.1 0 10) < 0 then
      bm_M_work_L144 N x1 x2 m
    else
      bp_gi (1 + ((m.1 0 10) / 8 : Int32) : Int32) 320 <|
      if ¬ (((m.1 4 (1 + ((m.1 0 10) / 8 : Int32) : Int32).toNatClampNeg) >>> ((7 - ((m.1 0 10) - (m.1 0 10) / 8 * 8 : Int32) : Int32) &&& 31 : Int32) : Int32) &&& 1 : Int32) = 0 then
        bm_M_work_L144 N x1 x2 m
      else
        bp_nM (bp_sI m 0 10 ((m.1 0 10) - 1 : Int32)) fun m1 =>
        bm_M_work_L94 N n x1 x2 m1
def bm_M_work_L62 (N : Nat) (x1 : Int32) (x2 : Int32) (s0 : Int32) (m : bp_M) : Option bp_M :=
  if s0 = 0 then
    bm_M_work_L202 N m
  else
    if ¬ (m.1 0 12) = 0 then
      bm_M_work_L202 N m
    else
      bp_nM (bp_sI m 0 11 0) fun m1 =>
      bp_nM (bp_sI m1 0 10 ((8 * ((m1.1 0 4) - 1 : Int32) : Int32) - 1 : Int32)) fun m2 =>
      bm_M_work_L94 N N x1 x2 m2
def bm_M_work_L57 (N : Nat) (x1 : Int32) (x2 : Int32) (m : bp_M) : Option bp_M :=
  bm_M_work_L62 N x1 x2 1 m
def bm_M_work_L17 (N : Nat) (s0 : Int32) (m : bp_M) : Option bp_M :=
  bp_nM (bp_sI m 0 12 s0) fun m1 =>
  bp_gi 0 320 <|
  bp_nI ((m1.1 4 (0 : Int32).toNatClampNeg) &&& 31 : Int32) fun y2 =>
  bp_gi 0 320 <|
  bp_nI (((m1.1 4 (0 : Int32).toNatClampNeg) >>> (5 &&& 31 : Int32) : Int32) &&& 3 : Int32) fun y3 =>
  if y2 = 1 then
    bm_M_work_L57 N y2 y3 m1
  else
    if y2 = 5 then
      bm_M_work_L57 N y2 y3 m1
    else
      if ¬ y2 = 7 then
        bm_M_work_L62 N y2 y3 0 m1
      else
        bm_M_work_L57 N y2 y3 m1
def bm_M_work (N : Nat)  (m : bp_M) : Option bp_M :=
  bp_gi 0 320 <|
  if (m.1 4 (0 : Int32).toNatClampNeg) ≤ 127 then
    bm_M_work_L17 N 0 m
  else
    bm_M_work_L17 N 1 m
def bm_M_finish_L21 (N : Nat) (m : bp_M) : Option bp_M :=
  some m
def bm_M_finish (N : Nat)  (m : bp_M) : Option bp_M :=
  if (m.1 0 4) ≤ 0 then
    bm_M_finish_L21 N m
  else
    bp_nM (bp_sI m 0 7 ((m.1 0 7) + 1 : Int32)) fun m1 =>
    bp_cV (bm_M_work N m1) fun m2 =>
    bm_M_finish_L21 N m2
def bm_M_close_L73 (N : Nat) (a1 : Int32) (m : bp_M) : Option bp_M :=
  some m
def bm_M_close_L65 (N : Nat) (a1 : Int32) (s0 : Int32) (m : bp_M) : Option bp_M :=
  bp_nM (bp_sI m 0 6 s0) fun m1 =>
  bp_nM (bp_sI m1 0 4 0) fun m2 =>
  bm_M_close_L73 N a1 m2
def bm_M_close_L51 (N : Nat) (a1 : Int32) (s0 : Int32) (m : bp_M) : Option bp_M :=
  bp_g ((s0 : Int32) = 0 ∨ (s0 : Int32) = 1) <|
  bp_nM (bp_sI m 0 5 s0) fun m1 =>
  if ¬ a1 = 1 then
    bm_M_close_L65 N a1 3 m1
  else
    bm_M_close_L65 N a1 0 m1
def bm_M_close (N : Nat) (a1 : Int32) (m : bp_M) : Option bp_M :=
  if ¬ a1 = 3 then
    if ¬ a1 = 2 then
      bp_nM (bp_sI m 0 4 ((m.1 0 4) - 2 : Int32)) fun m1 =>
      bp_cV (bm_M_finish N m1) fun m2 =>
      if ¬ a1 = 1 then
        bm_M_close_L51 N a1 0 m2
      else
        bm_M_close_L51 N a1 1 m2
    else
      bp_nM (bp_sI m 0 8 2) fun m3 =>
      bm_M_close_L73 N a1 m3
  else
    bp_nM (bp_sI m 0 6 0) fun m4 =>
    bm_M_close_L73 N a1 m4
def bm_M_take_L136 (N : Nat) (a1 : Int32) (m : bp_M) : Option bp_M :=
  some m
def bm_M_take_L133 (N : Nat) (a1 : Int32) (s0 : Int32) (m : bp_M) : Option bp_M :=
  bp_nM (bp_sI m 0 6 s0) fun m1 =>
  bm_M_take_L136 N a1 m1
def bm_M_take_L80 (N : Nat) (a1 : Int32) (m : bp_M) : Option bp_M :=
  if ¬ (m.1 0 4) = 320 then
    bp_gi (m.1 0 4) 320 <|
    bp_nM (bp_sI m 4 (m.1 0 4).toNatClampNeg a1) fun m1 =>
    bp_nM (bp_sI m1 0 4 ((m1.1 0 4) + 1 : Int32)) fun m2 =>
    if ¬ a1 = 0 then
      bm_M_take_L133 N a1 0 m2
    else
      bm_M_take_L133 N a1 ((m2.1 0 6) + 1 : Int32) m2
  else
    bp_nM (bp_sI m 0 8 3) fun m3 =>
    bm_M_take_L136 N a1 m3
def bm_M_take_L53 (N : Nat) (a1 : Int32) (s0 : Int32) (m : bp_M) : Option bp_M :=
  bp_nM (bp_sI m 0 6 s0) fun m1 =>
  bm_M_take_L136 N a1 m1
def bm_M_take_L38 (N : Nat) (a1 : Int32) (m : bp_M) : Option bp_M :=
  if ¬ a1 = 0 then
    bm_M_take_L53 N a1 0 m
  else
    bm_M_take_L53 N a1 ((m.1 0 6) + 1 : Int32) m
def bm_M_take (N : Nat) (a1 : Int32) (m : bp_M) : Option bp_M :=
  if ¬ (m.1 0 5) = 0 then
    if ¬ (m.1 0 6) = 2 then
      bm_M_take_L80 N a1 m
    else
      if 3 < a1 then
        bm_M_take_L80 N a1 m
      else
        bp_cV (bm_M_close N a1 m) fun m1 =>
        bm_M_take_L136 N a1 m1
  else
    if ¬ a1 = 1 then
      bm_M_take_L38 N a1 m
    else
      if (m.1 0 6) < 2 then
        bm_M_take_L38 N a1 m
      else
        bp_g ((1 : Int32) = 0 ∨ (1 : Int32) = 1) <|
        bp_nM (bp_sI m 0 5 1) fun m2 =>
        bp_nM (bp_sI m2 0 4 0) fun m3 =>
        bp_nM (bp_sI m3 0 6 0) fun m4 =>
        bm_M_take_L136 N a1 m4
def bm_M_feed_L51 (N : Nat) (a1 : Int32) (a2 : Int32) (m : bp_M) : Option (Int32 × bp_M) :=
  some ((m.1 0 7), m)
def bm_M_feed_L45 (r20 : Int32 → bp_M → Option (Int32 × bp_M)) (N : Nat) (a1 : Int32) (a2 : Int32) (x3 : Int32) (m : bp_M) : Option (Int32 × bp_M) :=
  bp_nI (x3 + (-1)) fun y1 =>
  r20 y1 m
def bm_M_feed_L20 (N : Nat) (a1 : Int32) (a2 : Int32) : Nat → Int32 → bp_M → Option (Int32 × bp_M)
  | 0, _, _ => none
  | n + 1, x3, m =>
    if x3 < 0 then
      bm_M_feed_L51 N a1 a2 m
    else
      if ¬ (m.1 0 8) = 0 then
        bm_M_feed_L45 (bm_M_feed_L20 N a1 a2 n) N a1 a2 x3 m
      else
        bp_cV (bm_M_take N ((a1 >>> ((8 * x3 : Int32) &&& 31 : Int32) : Int32) &&& 255 : Int32) m) fun m1 =>
        bm_M_feed_L45 (bm_M_feed_L20 N a1 a2 n) N a1 a2 x3 m1
def bm_M_feed (N : Nat) (a1 : Int32) (a2 : Int32) (m : bp_M) : Option (Int32 × bp_M) :=
  bp_nM (bp_sI m 0 7 0) fun m1 =>
  bp_cI (bm_M_within N a2 1 4 m1) fun z3 m2 =>
  if ¬ z3 = 0 then
    bp_nI (a2 - 1 : Int32) fun y4 =>
    bm_M_feed_L20 N a1 a2 N y4 m2
  else
    some (0, m2)
def bm_M_pass_L38 (N : Nat) (m : bp_M) : Option (Int32 × bp_M) :=
  some ((m.1 0 7), m)
def bm_M_pass_L32 (r7 : Int32 → bp_M → Option (Int32 × bp_M)) (N : Nat) (x1 : Int32) (m : bp_M) : Option (Int32 × bp_M) :=
  bp_nI (x1 + 1) fun y1 =>
  r7 y1 m
def bm_M_pass_L7 (N : Nat) : Nat → Int32 → bp_M → Option (Int32 × bp_M)
  | 0, _, _ => none
  | n + 1, x1, m =>
    if (m.1 0 44) ≤ x1 then
      bm_M_pass_L38 N m
    else
      if ¬ (m.1 0 8) = 0 then
        bm_M_pass_L32 (bm_M_pass_L7 N n) N x1 m
      else
        bp_gi x1 420 <|
        bp_cV (bm_M_take N (m.1 20 x1.toNatClampNeg) m) fun m1 =>
        bm_M_pass_L32 (bm_M_pass_L7 N n) N x1 m1
def bm_M_pass (N : Nat)  (m : bp_M) : Option (Int32 × bp_M) :=
  bp_nM (bp_sI m 0 7 0) fun m1 =>
  bm_M_pass_L7 N N 0 m1
def bm_M_end_L61 (N : Nat) (x1 : Int32) (m : bp_M) : Option (Int32 × bp_M) :=
  some (((m.1 0 39) - x1 : Int32), m)
def bm_M_end_L25 (N : Nat) (x1 : Int32) (m : bp_M) : Option (Int32 × bp_M) :=
  if ¬ (m.1 0 8) = 0 then
    bm_M_end_L61 N x1 m
  else
    bp_cV (bm_M_showAll N m) fun m1 =>
    bp_g ((0 : Int32) = 0 ∨ (0 : Int32) = 1) <|
    bp_nM (bp_sI m1 0 13 0) fun m2 =>
    bp_g ((0 : Int32) = 0 ∨ (0 : Int32) = 1) <|
    bp_nM (bp_sI m2 0 16 0) fun m3 =>
    bp_g ((0 : Int32) = 0 ∨ (0 : Int32) = 1) <|
    bp_nM (bp_sI m3 0 5 0) fun m4 =>
    bp_nM (bp_sI m4 0 4 0) fun m5 =>
    bp_nM (bp_sI m5 0 6 0) fun m6 =>
    bm_M_end_L61 N x1 m6
def bm_M_end (N : Nat)  (m : bp_M) : Option (Int32 × bp_M) :=
  if (m.1 0 8) = 0 then
    bp_nI (m.1 0 39) fun y1 =>
    if (m.1 0 5) = 0 then
      bm_M_end_L25 N y1 m
    else
      bp_cV (bm_M_finish N m) fun m2 =>
      bm_M_end_L25 N y1 m2
  else
    some (0, m)
def bm_M_reset (N : Nat)  (m : bp_M) : Option bp_M :=
  bp_nM (bp_sI m 0 4 0) fun m1 =>
  bp_g ((0 : Int32) = 0 ∨ (0 : Int32) = 1) <|
  bp_nM (bp_sI m1 0 5 0) fun m2 =>
  bp_nM (bp_sI m2 0 6 0) fun m3 =>
  bp_nM (bp_sI m3 0 8 0) fun m4 =>
  bp_nM (bp_sI m4 0 9 0) fun m5 =>
  bp_g ((0 : Int32) = 0 ∨ (0 : Int32) = 1) <|
  bp_nM (bp_sI m5 0 13 0) fun m6 =>
  bp_g ((0 : Int32) = 0 ∨ (0 : Int32) = 1) <|
  bp_nM (bp_sI m6 0 16 0) fun m7 =>
  bp_nM (bp_sI m7 0 34 0) fun m8 =>
  bp_nM (bp_sI m8 0 39 0) fun m9 =>
  bp_cV (bm_M_clearLatest N m9) fun m10 =>
  some m10
def bm_M_fault (N : Nat)  (m : bp_M) : Option (Int32 × bp_M) :=
  some ((m.1 0 8), m)
def bm_M_units (N : Nat)  (m : bp_M) : Option (Int32 × bp_M) :=
  some ((m.1 0 9), m)
def bm_M_shown (N : Nat)  (m : bp_M) : Option (Int32 × bp_M) :=
  some ((m.1 0 39), m)
def bm_M_order_L28 (N : Nat) (a1 : Int32) (s0 : Int32) (m : bp_M) : Option (Int32 × bp_M) :=
  some (s0, m)
def bm_M_order_L27 (N : Nat) (a1 : Int32) (m : bp_M) : Option (Int32 × bp_M) :=
  bm_M_order_L28 N a1 (-1) m
def bm_M_order (N : Nat) (a1 : Int32) (m : bp_M) : Option (Int32 × bp_M) :=
  bp_cI (bm_M_within N a1 0 7 m) fun z2 m1 =>
  if z2 = 0 then
    bm_M_order_L27 N a1 m1
  else
    if (m1.1 0 39) ≤ a1 then
      bm_M_order_L27 N a1 m1
    else
      bp_gi a1 8 <|
      bm_M_order_L28 N a1 (m1.1 17 a1.toNatClampNeg) m1
def bm_M_sample_L28 (N : Nat) (a1 : Int32) (s0 : Int32) (m : bp_M) : Option (Int32 × bp_M) :=
  some (s0, m)
def bm_M_sample_L27 (N : Nat) (a1 : Int32) (m : bp_M) : Option (Int32 × bp_M) :=
  bm_M_sample_L28 N a1 (-1) m
def bm_M_sample (N : Nat) (a1 : Int32) (m : bp_M) : Option (Int32 × bp_M) :=
  if (m.1 0 39) ≤ 0 then
    bm_M_sample_L27 N a1 m
  else
    bp_cI (bm_M_within N a1 0 255 m) fun z2 m1 =>
    if z2 = 0 then
      bm_M_sample_L27 N a1 m1
    else
      bp_gi a1 256 <|
      bm_M_sample_L28 N a1 (m1.1 18 a1.toNatClampNeg) m1
def bm_M_held (N : Nat)  (m : bp_M) : Option (Int32 × bp_M) :=
  some ((m.1 0 34), m)
def bm_M_heldState_L56 (N : Nat) (a1 : Int32) (s0 : Int32) (m : bp_M) : Option (Int32 × bp_M) :=
  some (s0, m)
def bm_M_heldState_L51 (N : Nat) (a1 : Int32) (s0 : Int32) (s1 : Int32) (m : bp_M) : Option (Int32 × bp_M) :=
  bm_M_heldState_L56 N a1 (s1 + s0 : Int32) m
def bm_M_heldState_L36 (N : Nat) (a1 : Int32) (s0 : Int32) (s1 : Int32) (m : bp_M) : Option (Int32 × bp_M) :=
  bp_gi a1 4 <|
  if (m.1 16 a1.toNatClampNeg) = 0 then
    bm_M_heldState_L51 N a1 0 (s1 + s0 : Int32) m
  else
    bm_M_heldState_L51 N a1 2 (s1 + s0 : Int32) m
def bm_M_heldState (N : Nat) (a1 : Int32) (m : bp_M) : Option (Int32 × bp_M) :=
  bp_cI (bm_M_within N a1 0 ((m.1 0 34) - 1 : Int32) m) fun z2 m1 =>
  if z2 = 0 then
    bm_M_heldState_L56 N a1 (-1) m1
  else
    bp_gi a1 4 <|
    bp_gi a1 4 <|
    if (m1.1 15 a1.toNatClampNeg) = 0 then
      bm_M_heldState_L36 N a1 0 (4 * (m1.1 14 a1.toNatClampNeg) : Int32) m1
    else
      bm_M_heldState_L36 N a1 1 (4 * (m1.1 14 a1.toNatClampNeg) : Int32) m1
def bm_M_heldSample_L41 (N : Nat) (a1 : Int32) (a2 : Int32) (s0 : Int32) (m : bp_M) : Option (Int32 × bp_M) :=
  some (s0, m)
def bm_M_heldSample_L40 (N : Nat) (a1 : Int32) (a2 : Int32) (m : bp_M) : Option (Int32 × bp_M) :=
  bm_M_heldSample_L41 N a1 a2 (-1) m
def bm_M_heldSample (N : Nat) (a1 : Int32) (a2 : Int32) (m : bp_M) : Option (Int32 × bp_M) :=
  bp_cI (bm_M_within N a1 0 ((m.1 0 34) - 1 : Int32) m) fun z2 m1 =>
  if z2 = 0 then
    bm_M_heldSample_L40 N a1 a2 m1
  else
    bp_cI (bm_M_within N a2 0 255 m1) fun z4 m3 =>
    if z4 = 0 then
      bm_M_heldSample_L40 N a1 a2 m3
    else
      bp_gi ((256 * a1 : Int32) + a2 : Int32) 1024 <|
      bm_M_heldSample_L41 N a1 a2 (m3.1 13 ((256 * a1 : Int32) + a2 : Int32).toNatClampNeg) m3
def bm_M_vector_L20 (N : Nat) (a1 : Int32) (s0 : Int32) (m : bp_M) : Option (Int32 × bp_M) :=
  some (s0, m)
def bm_M_vector (N : Nat) (a1 : Int32) (m : bp_M) : Option (Int32 × bp_M) :=
  bp_cI (bm_M_within N a1 0 15 m) fun z2 m1 =>
  if z2 = 0 then
    bm_M_vector_L20 N a1 (-1) m1
  else
    bp_gi a1 16 <|
    bm_M_vector_L20 N a1 (m1.1 12 a1.toNatClampNeg) m1
def bm_M_smoothed_L15 (N : Nat) (s0 : Int32) (m : bp_M) : Option (Int32 × bp_M) :=
  some (s0, m)
def bm_M_smoothed (N : Nat)  (m : bp_M) : Option (Int32 × bp_M) :=
  if (m.1 0 33) = 0 then
    bm_M_smoothed_L15 N 0 m
  else
    bm_M_smoothed_L15 N (m.1 0 32) m
def bm_M_draw_L22 (N : Nat) (a1 : Int32) (a2 : Int32) (m : bp_M) : Option (Int32 × bp_M) :=
  bp_g ((0 : Int32) = 0 ∨ (0 : Int32) = 1) <|
  some (0, m)
def bm_M_draw (N : Nat) (a1 : Int32) (a2 : Int32) (m : bp_M) : Option (Int32 × bp_M) :=
  bp_cI (bm_M_within N a1 0 255 m) fun z2 m1 =>
  if z2 = 0 then
    bm_M_draw_L22 N a1 a2 m1
  else
    bp_cI (bm_M_within N a2 0 255 m1) fun z4 m3 =>
    if ¬ z4 = 0 then
      bp_gi a1 256 <|
      bp_nM (bp_sI m3 19 a1.toNatClampNeg a2) fun m5 =>
      bp_g ((1 : Int32) = 0 ∨ (1 : Int32) = 1) <|
      some (1, m5)
    else
      bm_M_draw_L22 N a1 a2 m3
def bm_M_byteOut_L73 (N : Nat) (a1 : Int32) (s0 : Int32) (m : bp_M) : Option bp_M :=
  bp_nM (bp_sI m 0 45 s0) fun m1 =>
  some m1
def bm_M_byteOut_L38 (N : Nat) (a1 : Int32) (m : bp_M) : Option bp_M :=
  bp_gi (m.1 0 44) 420 <|
  bp_nM (bp_sI m 20 (m.1 0 44).toNatClampNeg a1) fun m1 =>
  bp_nM (bp_sI m1 0 44 ((m1.1 0 44) + 1 : Int32)) fun m2 =>
  if ¬ a1 = 0 then
    bm_M_byteOut_L73 N a1 0 m2
  else
    bm_M_byteOut_L73 N a1 ((m2.1 0 45) + 1 : Int32) m2
def bm_M_byteOut (N : Nat) (a1 : Int32) (m : bp_M) : Option bp_M :=
  if ¬ (m.1 0 45) = 2 then
    bm_M_byteOut_L38 N a1 m
  else
    if 3 < a1 then
      bm_M_byteOut_L38 N a1 m
    else
      bp_gi (m.1 0 44) 420 <|
      bp_nM (bp_sI m 20 (m.1 0 44).toNatClampNeg 3) fun m1 =>
      bp_nM (bp_sI m1 0 44 ((m1.1 0 44) + 1 : Int32)) fun m2 =>
      bp_nM (bp_sI m2 0 45 0) fun m3 =>
      bm_M_byteOut_L38 N a1 m3
def bm_M_bitsOut_L67 (N : Nat) (a1 : Int32) (a2 : Int32) (m : bp_M) : Option bp_M :=
  some m
def bm_M_bitsOut_L61 (r4 : Int32 → bp_M → Option bp_M) (N : Nat) (a1 : Int32) (a2 : Int32) (x3 : Int32) (m : bp_M) : Option bp_M :=
  bp_nI (x3 + (-1)) fun y1 =>
  r4 y1 m
def bm_M_bitsOut_L4 (N : Nat) (a1 : Int32) (a2 : Int32) : Nat → Int32 → bp_M → Option bp_M
  | 0, _, _ => none
  | n + 1, x3, m =>
    if x3 < 0 then
      bm_M_bitsOut_L67 N a1 a2 m
    else
      bp_nM (bp_sI m 0 46 ((2 * (m.1 0 46) : Int32) + ((a1 >>> (x3 &&& 31 : Int32) : Int32) &&& 1 : Int32) : Int32)) fun m1 =>
      bp_nM (bp_sI m1 0 47 ((m1.1 0 47) + 1 : Int32)) fun m2 =>
      if ¬ (m2.1 0 47) = 8 then
        bm_M_bitsOut_L61 (bm_M_bitsOut_L4 N a1 a2 n) N a1 a2 x3 m2
      else
        bp_cV (bm_M_byteOut N (m2.1 0 46) m2) fun m3 =>
        bp_nM (bp_sI m3 0 46 0) fun m4 =>
        bp_nM (bp_sI m4 0 47 0) fun m5 =>
        bm_M_bitsOut_L61 (bm_M_bitsOut_L4 N a1 a2 n) N a1 a2 x3 m5
def bm_M_bitsOut (N : Nat) (a1 : Int32) (a2 : Int32) (m : bp_M) : Option bp_M :=
  bp_nI (a2 - 1 : Int32) fun y1 =>
  bm_M_bitsOut_L4 N a1 a2 N y1 m
def bm_M_numberOut_L17 (N : Nat) (a1 : Int32) (x2 : Int32) (m : bp_M) : Option bp_M :=
  bp_cV (bm_M_bitsOut N (a1 + 1 : Int32) ((2 * x2 : Int32) + 1 : Int32) m) fun m1 =>
  some m1
def bm_M_numberOut_L2 (N : Nat) (a1 : Int32) : Nat → Int32 → bp_M → Option bp_M
  | 0, _, _ => none
  | n + 1, x2, m =>
    if ((a1 + 1 : Int32) >>> (x2 &&& 31 : Int32) : Int32) ≤ 1 then
      bm_M_numberOut_L17 N a1 x2 m
    else
      bp_nI (x2 + 1) fun y1 =>
      bm_M_numberOut_L2 N a1 n y1 m
def bm_M_numberOut (N : Nat) (a1 : Int32) (m : bp_M) : Option bp_M :=
  bm_M_numberOut_L2 N a1 N 0 m
def bm_M_write_L205 (N : Nat) (a1 : Int32) (a2 : Int32) (a3 : Int32) (m : bp_M) : Option (Int32 × bp_M) :=
  bp_cV (bm_M_bitsOut N 1 1 m) fun m1 =>
  bp_cV (bm_M_bitsOut N 0 ((8 - (m1.1 0 47) : Int32) - (8 - (m1.1 0 47) : Int32) / 8 * 8 : Int32) m1) fun m2 =>
  some ((m2.1 0 44), m2)
def bm_M_write_L199 (r136 : Int32 → bp_M → Option (Int32 × bp_M)) (N : Nat) (a1 : Int32) (a2 : Int32) (a3 : Int32) (x5 : Int32) (m : bp_M) : Option (Int32 × bp_M) :=
  bp_nI (x5 + 1) fun y1 =>
  r136 y1 m
def bm_M_write_L157 (r136 : Int32 → bp_M → Option (Int32 × bp_M)) (N : Nat) (a1 : Int32) (a2 : Int32) (a3 : Int32) : Nat → Int32 → Int32 → bp_M → Option (Int32 × bp_M)
  | 0, _, _, _ => none
  | n + 1, x5, x6, m =>
    if 16 ≤ x6 then
      bm_M_write_L199 r136 N a1 a2 a3 x5 m
    else
      bp_cI (bm_M_corner N x5 m) fun z2 m1 =>
      bp_gi ((z2 + (16 * (x6 / 4 : Int32) : Int32) : Int32) + (x6 - x6 / 4 * 4 : Int32) : Int32) 256 <|
      bp_cV (bm_M_bitsOut N (m1.1 19 ((z2 + (16 * (x6 / 4 : Int32) : Int32) : Int32) + (x6 - x6 / 4 * 4 : Int32) : Int32).toNatClampNeg) 8 m1) fun m3 =>
      bp_nI (x6 + 1) fun y4 =>
      bm_M_write_L157 r136 N a1 a2 a3 n x5 y4 m3
def bm_M_write_L136 (N : Nat) (a1 : Int32) (a2 : Int32) (a3 : Int32) : Nat → Int32 → bp_M → Option (Int32 × bp_M)
  | 0, _, _ => none
  | n + 1, x5, m =>
    if 16 ≤ x5 then
      bm_M_write_L205 N a1 a2 a3 m
    else
      if ¬ a1 = 5 then
        bm_M_write_L205 N a1 a2 a3 m
      else
        bp_cV (bm_M_bitsOut N 0 2 m) fun m1 =>
        bm_M_write_L157 (bm_M_write_L136 N a1 a2 a3 n) N a1 a2 a3 N x5 0 m1
def bm_M_write_L130 (N : Nat) (a1 : Int32) (a2 : Int32) (a3 : Int32) (s0 : Int32) (m : bp_M) : Option (Int32 × bp_M) :=
  bp_cV (bm_M_numberOut N s0 m) fun m1 =>
  bm_M_write_L136 N a1 a2 a3 N 0 m1
def bm_M_write_L110 (N : Nat) (a1 : Int32) (a2 : Int32) (a3 : Int32) (s0 : Int32) (m : bp_M) : Option (Int32 × bp_M) :=
  bp_cV (bm_M_byteOut N s0 m) fun m1 =>
  bp_cV (bm_M_numberOut N a2 m1) fun m2 =>
  if ¬ a1 = 7 then
    bm_M_write_L130 N a1 a2 a3 0 m2
  else
    bm_M_write_L130 N a1 a2 a3 a3 m2
def bm_M_write_L46 (N : Nat) (a1 : Int32) (a2 : Int32) (a3 : Int32) (s0 : Int32) (m : bp_M) : Option (Int32 × bp_M) :=
  if ¬ s0 = 0 then
    bp_gi 0 420 <|
    bp_nM (bp_sI m 20 (0 : Int32).toNatClampNeg 0) fun m1 =>
    bp_gi 1 420 <|
    bp_nM (bp_sI m1 20 (1 : Int32).toNatClampNeg 0) fun m2 =>
    bp_gi 2 420 <|
    bp_nM (bp_sI m2 20 (2 : Int32).toNatClampNeg 1) fun m3 =>
    bp_nM (bp_sI m3 0 44 3) fun m4 =>
    bp_nM (bp_sI m4 0 45 0) fun m5 =>
    bp_nM (bp_sI m5 0 46 0) fun m6 =>
    bp_nM (bp_sI m6 0 47 0) fun m7 =>
    if ¬ a1 = 7 then
      bm_M_write_L110 N a1 a2 a3 101 m7
    else
      bm_M_write_L110 N a1 a2 a3 39 m7
  else
    some ((-1), m)
def bm_M_write_L45 (N : Nat) (a1 : Int32) (a2 : Int32) (a3 : Int32) (m : bp_M) : Option (Int32 × bp_M) :=
  bm_M_write_L46 N a1 a2 a3 0 m
def bm_M_write_L41 (N : Nat) (a1 : Int32) (a2 : Int32) (a3 : Int32) (m : bp_M) : Option (Int32 × bp_M) :=
  bm_M_write_L46 N a1 a2 a3 1 m
def bm_M_write_L25 (N : Nat) (a1 : Int32) (a2 : Int32) (a3 : Int32) (m : bp_M) : Option (Int32 × bp_M) :=
  if ¬ a1 = 5 then
    bm_M_write_L45 N a1 a2 a3 m
  else
    bp_cI (bm_M_within N a2 0 255 m) fun z2 m1 =>
    if z2 = 0 then
      bm_M_write_L45 N a1 a2 a3 m1
    else
      bm_M_write_L41 N a1 a2 a3 m1
def bm_M_write (N : Nat) (a1 : Int32) (a2 : Int32) (a3 : Int32) (m : bp_M) : Option (Int32 × bp_M) :=
  if ¬ a1 = 7 then
    bm_M_write_L25 N a1 a2 a3 m
  else
    bp_cI (bm_M_within N a2 0 3 m) fun z2 m1 =>
    if z2 = 0 then
      bm_M_write_L25 N a1 a2 a3 m1
    else
      bp_cI (bm_M_within N a3 0 11 m1) fun z4 m3 =>
      if ¬ z4 = 0 then
        bm_M_write_L41 N a1 a2 a3 m3
      else
        bm_M_write_L25 N a1 a2 a3 m3
def bm_M_written_L24 (N : Nat) (a1 : Int32) (s0 : Int32) (m : bp_M) : Option (Int32 × bp_M) :=
  some (s0, m)
def bm_M_written (N : Nat) (a1 : Int32) (m : bp_M) : Option (Int32 × bp_M) :=
  bp_cI (bm_M_within N a1 0 ((m.1 0 44) - 1 : Int32) m) fun z2 m1 =>
  if z2 = 0 then
    bm_M_written_L24 N a1 (-1) m1
  else
    bp_gi a1 420 <|
    bm_M_written_L24 N a1 (m1.1 20 a1.toNatClampNeg) m1
