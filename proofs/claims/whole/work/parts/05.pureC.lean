def bc_UI_takeOutside_L34 (N : Nat) (a1 : Int32) (s0 : Int32) (m : bp_M) : Option bp_M :=
  bp_g ((s0 : Int32) = 0 ∨ (s0 : Int32) = 1) <|
  bp_nM (bp_sI m 1 5 s0) fun m1 =>
  bp_nM (bp_sI m1 1 3 0) fun m2 =>
  some m2
def bc_UI_takeOutside_L33 (N : Nat) (a1 : Int32) (m : bp_M) : Option bp_M :=
  bc_UI_takeOutside_L34 N a1 0 m
def bc_UI_takeOutside (N : Nat) (a1 : Int32) (m : bp_M) : Option bp_M :=
  if ¬ a1 = 0 then
    if ¬ a1 = 1 then
      bc_UI_takeOutside_L33 N a1 m
    else
      if (m.1 1 3) < 2 then
        bc_UI_takeOutside_L33 N a1 m
      else
        bc_UI_takeOutside_L34 N a1 1 m
  else
    bp_nM (bp_sI m 1 3 ((m.1 1 3) + 1 : Int32)) fun m1 =>
    some m1
def bc_UI_endUnit_L27 (N : Nat) (a1 : Int32) (s0 : Int32) (m : bp_M) : Option (Int32 × bp_M) :=
  bp_g ((s0 : Int32) = 0 ∨ (s0 : Int32) = 1) <|
  some (s0, m)
def bc_UI_endUnit (N : Nat) (a1 : Int32) (m : bp_M) : Option (Int32 × bp_M) :=
  bp_nM (bp_sI m 1 2 ((m.1 1 1) - a1 : Int32)) fun m1 =>
  bp_nM (bp_sI m1 1 1 0) fun m2 =>
  if (m2.1 1 2) ≤ 0 then
    bc_UI_endUnit_L27 N a1 0 m2
  else
    bc_UI_endUnit_L27 N a1 1 m2
def bc_UI_takeMark_L41 (N : Nat) (a1 : Int32) (s0 : Int32) (m : bp_M) : Option (Int32 × bp_M) :=
  bp_g ((s0 : Int32) = 0 ∨ (s0 : Int32) = 1) <|
  bp_nM (bp_sI m 1 5 s0) fun m1 =>
  bp_cI (bc_UI_endUnit N 2 m1) fun z3 m2 =>
  bp_g ((z3 : Int32) = 0 ∨ (z3 : Int32) = 1) <|
  some (z3, m2)
def bc_UI_takeMark_L23 (N : Nat) (a1 : Int32) (m : bp_M) : Option (Int32 × bp_M) :=
  if a1 < 2 then
    if ¬ a1 = 1 then
      bc_UI_takeMark_L41 N a1 0 m
    else
      bc_UI_takeMark_L41 N a1 1 m
  else
    bp_g ((0 : Int32) = 0 ∨ (0 : Int32) = 1) <|
    some (0, m)
def bc_UI_takeMark_L10 (N : Nat) (a1 : Int32) (s0 : Int32) (m : bp_M) : Option (Int32 × bp_M) :=
  bp_nM (bp_sI m 1 3 s0) fun m1 =>
  if ¬ a1 = 2 then
    bc_UI_takeMark_L23 N a1 m1
  else
    bp_nM (bp_sI m1 1 4 2) fun m2 =>
    bc_UI_takeMark_L23 N a1 m2
def bc_UI_takeMark (N : Nat) (a1 : Int32) (m : bp_M) : Option (Int32 × bp_M) :=
  if ¬ a1 = 0 then
    bc_UI_takeMark_L10 N a1 0 m
  else
    bc_UI_takeMark_L10 N a1 3 m
def bc_UI_append_L51 (N : Nat) (a1 : Int32) (s0 : Int32) (m : bp_M) : Option bp_M :=
  bp_nM (bp_sI m 1 3 s0) fun m1 =>
  some m1
def bc_UI_append (N : Nat) (a1 : Int32) (m : bp_M) : Option bp_M :=
  if (m.1 1 1) < 320 then
    bp_gi (m.1 1 1) 320 <|
    bp_nM (bp_sI m 15 (m.1 1 1).toNatClampNeg a1) fun m1 =>
    bp_nM (bp_sI m1 1 1 ((m1.1 1 1) + 1 : Int32)) fun m2 =>
    if ¬ a1 = 0 then
      bc_UI_append_L51 N a1 0 m2
    else
      bc_UI_append_L51 N a1 ((m2.1 1 3) + 1 : Int32) m2
  else
    bp_nM (bp_sI m 1 4 3) fun m3 =>
    some m3
def bc_UI_take_L33 (N : Nat) (a1 : Int32) (m : bp_M) : Option (Int32 × bp_M) :=
  bp_cV (bc_UI_append N a1 m) fun m1 =>
  bp_g ((0 : Int32) = 0 ∨ (0 : Int32) = 1) <|
  some (0, m1)
def bc_UI_take (N : Nat) (a1 : Int32) (m : bp_M) : Option (Int32 × bp_M) :=
  if ¬ (m.1 1 5) = 0 then
    if ¬ (m.1 1 3) = 2 then
      bc_UI_take_L33 N a1 m
    else
      if 3 < a1 then
        bc_UI_take_L33 N a1 m
      else
        bp_cI (bc_UI_takeMark N a1 m) fun z2 m1 =>
        bp_g ((z2 : Int32) = 0 ∨ (z2 : Int32) = 1) <|
        some (z2, m1)
  else
    bp_cV (bc_UI_takeOutside N a1 m) fun m3 =>
    bp_g ((0 : Int32) = 0 ∨ (0 : Int32) = 1) <|
    some (0, m3)
def bc_BP_unitEndsAt (N : Nat) (a1 : Int32) (m : bp_M) : Option (Int32 × bp_M) :=
  if (m.1 0 5) = 0 then
    bp_cI (bc_UI_take N a1 m) fun z2 m1 =>
    bp_nM (bp_sI m1 0 5 (m1.1 1 4)) fun m3 =>
    bp_g ((z2 : Int32) = 0 ∨ (z2 : Int32) = 1) <|
    some (z2, m3)
  else
    bp_g ((0 : Int32) = 0 ∨ (0 : Int32) = 1) <|
    some (0, m)
def bc_BR_open_L81 (N : Nat) (a1 : Nat) (a2 : Int32) (m : bp_M) : Option bp_M :=
  some m
def bc_BR_open_L75 (r34 : Int32 → bp_M → Option bp_M) (N : Nat) (a1 : Nat) (a2 : Int32) (x3 : Int32) (m : bp_M) : Option bp_M :=
  bp_nI (x3 + (-1)) fun y1 =>
  r34 y1 m
def bc_BR_open_L34 (N : Nat) (a1 : Nat) (a2 : Int32) : Nat → Int32 → bp_M → Option bp_M
  | 0, _, _ => none
  | n + 1, x3, m =>
    if x3 < 8 then
      bc_BR_open_L81 N a1 a2 m
    else
      if ¬ (m.1 6 2) = (-1) then
        bc_BR_open_L81 N a1 a2 m
      else
        bp_gi (x3 >>> (3 &&& 31 : Int32) : Int32) 320 <|
        if ¬ (((m.1 16 (x3 >>> (3 &&& 31 : Int32) : Int32).toNatClampNeg) >>> ((7 - (x3 &&& 7 : Int32) : Int32) &&& 31 : Int32) : Int32) &&& 1 : Int32) = 1 then
          bc_BR_open_L75 (bc_BR_open_L34 N a1 a2 n) N a1 a2 x3 m
        else
          bp_nM (bp_sI m 6 2 x3) fun m1 =>
          bc_BR_open_L75 (bc_BR_open_L34 N a1 a2 n) N a1 a2 x3 m1
def bc_BR_open (N : Nat) (a1 : Nat) (a2 : Int32) (m : bp_M) : Option bp_M :=
  bp_g (bc_isI a1 = true) <|
  bp_g (bp_cp 0 0 a2 (bc_len a1) 320) <|
  bp_nM (bp_sC m a1 16 (0 : Int32).toNatClampNeg (0 : Int32).toNatClampNeg a2.toNatClampNeg) fun m1 =>
  bp_nM (bp_sI m1 6 3 0) fun m2 =>
  bp_nM (bp_sI m2 6 1 8) fun m3 =>
  bp_nM (bp_sI m3 6 2 (-1)) fun m4 =>
  bp_nI ((8 * a2 : Int32) - 1 : Int32) fun y5 =>
  bc_BR_open_L34 N a1 a2 N y5 m4
def bc_BR_fail_L12 (N : Nat) (a1 : Int32) (m : bp_M) : Option bp_M :=
  some m
def bc_BR_fail (N : Nat) (a1 : Int32) (m : bp_M) : Option bp_M :=
  if ¬ (m.1 6 3) = 0 then
    bc_BR_fail_L12 N a1 m
  else
    bp_nM (bp_sI m 6 3 a1) fun m1 =>
    bc_BR_fail_L12 N a1 m1
def bc_BR_needMark_L13 (N : Nat) (m : bp_M) : Option bp_M :=
  some m
def bc_BR_needMark (N : Nat)  (m : bp_M) : Option bp_M :=
  if ¬ (m.1 6 2) = (-1) then
    bc_BR_needMark_L13 N m
  else
    bp_cV (bc_BR_fail N 4 m) fun m1 =>
    bc_BR_needMark_L13 N m1
def bc_BR_nextBit (N : Nat)  (m : bp_M) : Option (Int32 × bp_M) :=
  if (m.1 6 3) = 0 then
    if (m.1 6 1) < (m.1 6 2) then
      bp_gi ((m.1 6 1) >>> (3 &&& 31 : Int32) : Int32) 320 <|
      bp_nI (((m.1 16 ((m.1 6 1) >>> (3 &&& 31 : Int32) : Int32).toNatClampNeg) >>> ((7 - ((m.1 6 1) &&& 7 : Int32) : Int32) &&& 31 : Int32) : Int32) &&& 1 : Int32) fun y1 =>
      bp_nM (bp_sI m 6 1 ((m.1 6 1) + 1 : Int32)) fun m2 =>
      some (y1, m2)
    else
      bp_nM (bp_sI m 6 3 4) fun m3 =>
      some (0, m3)
  else
    some (0, m)
def bc_BR_number_L102 (N : Nat) (a1 : Int32) (a2 : Int32) (s0 : Int32) (m : bp_M) : Option (Int32 × bp_M) :=
  some (s0, m)
def bc_BR_number_L89 (N : Nat) (a1 : Int32) (a2 : Int32) (x5 : Int32) (m : bp_M) : Option (Int32 × bp_M) :=
  if ¬ (m.1 6 3) = 0 then
    bc_BR_number_L102 N a1 a2 0 m
  else
    bc_BR_number_L102 N a1 a2 x5 m
def bc_BR_number_L68 (N : Nat) (a1 : Int32) (a2 : Int32) (x3 : Int32) (x4 : Int32) (m : bp_M) : Option (Int32 × bp_M) :=
  bp_nI (((1 <<< (x3 &&& 31 : Int32) : Int32) - 1 : Int32) + x4 : Int32) fun y1 =>
  if y1 ≤ a1 then
    bc_BR_number_L89 N a1 a2 y1 m
  else
    bp_cV (bc_BR_fail N a2 m) fun m2 =>
    bc_BR_number_L89 N a1 a2 y1 m2
def bc_BR_number_L45 (N : Nat) (a1 : Int32) (a2 : Int32) : Nat → Int32 → Int32 → Int32 → bp_M → Option (Int32 × bp_M)
  | 0, _, _, _, _ => none
  | n + 1, x3, x4, x5, m =>
    if x3 ≤ x5 then
      bc_BR_number_L68 N a1 a2 x3 x4 m
    else
      bp_cI (bc_BR_nextBit N m) fun z2 m1 =>
      bp_nI ((2 * x4 : Int32) + z2 : Int32) fun y3 =>
      bp_nI (x5 + 1) fun y4 =>
      bc_BR_number_L45 N a1 a2 n x3 y3 y4 m1
def bc_BR_number_L39 (N : Nat) (a1 : Int32) (a2 : Int32) (x3 : Int32) (m : bp_M) : Option (Int32 × bp_M) :=
  bc_BR_number_L45 N a1 a2 N x3 0 0 m
def bc_BR_number_L28 (N : Nat) (a1 : Int32) (a2 : Int32) (x3 : Int32) (m : bp_M) : Option (Int32 × bp_M) :=
  if x3 ≤ 10 then
    bc_BR_number_L39 N a1 a2 x3 m
  else
    bp_cV (bc_BR_fail N 5 m) fun m1 =>
    bc_BR_number_L39 N a1 a2 x3 m1
def bc_BR_number_L2 (N : Nat) (a1 : Int32) (a2 : Int32) : Nat → Int32 → bp_M → Option (Int32 × bp_M)
  | 0, _, _ => none
  | n + 1, x3, m =>
    if 10 < x3 then
      bc_BR_number_L28 N a1 a2 x3 m
    else
      if ¬ (m.1 6 3) = 0 then
        bc_BR_number_L28 N a1 a2 x3 m
      else
        bp_cI (bc_BR_nextBit N m) fun z2 m1 =>
        if ¬ z2 = 0 then
          bc_BR_number_L28 N a1 a2 x3 m1
        else
          bp_nI (x3 + 1) fun y3 =>
          bc_BR_number_L2 N a1 a2 n y3 m1
def bc_BR_number (N : Nat) (a1 : Int32) (a2 : Int32) (m : bp_M) : Option (Int32 × bp_M) :=
  bc_BR_number_L2 N a1 a2 N 0 m
def bc_BR_needEnd_L17 (N : Nat) (m : bp_M) : Option bp_M :=
  some m
def bc_BR_needEnd (N : Nat)  (m : bp_M) : Option bp_M :=
  if (m.1 6 2) ≤ (m.1 6 1) then
    bc_BR_needEnd_L17 N m
  else
    bp_cV (bc_BR_fail N 6 m) fun m1 =>
    bc_BR_needEnd_L17 N m1
def bc_PA_readPending_L43 (N : Nat) (m : bp_M) : Option bp_M :=
  some m
def bc_PA_readPending (N : Nat)  (m : bp_M) : Option bp_M :=
  bp_cI (bc_BR_number N 3 5 m) fun z2 m1 =>
  bp_nI (z2 + 1 : Int32) fun y3 =>
  bp_cI (bc_BR_number N 11 5 m1) fun z5 m4 =>
  bp_cV (bc_BR_needEnd N m4) fun m6 =>
  if ¬ (m6.1 6 3) = 0 then
    bc_PA_readPending_L43 N m6
  else
    bp_g ((1 : Int32) = 0 ∨ (1 : Int32) = 1) <|
    bp_nM (bp_sI m6 2 0 1) fun m7 =>
    bp_nM (bp_sI m7 2 1 y3) fun m8 =>
    bp_nM (bp_sI m8 2 2 z5) fun m9 =>
    bc_PA_readPending_L43 N m9
def bc_PB_listReferences_L43 (N : Nat) (x2 : Int32) (m : bp_M) : Option (Int32 × bp_M) :=
  some (x2, m)
def bc_PB_listReferences_L37 (r9 : Int32 → Int32 → bp_M → Option (Int32 × bp_M)) (N : Nat) (x2 : Int32) (x3 : Int32) (m : bp_M) : Option (Int32 × bp_M) :=
  bp_nI (x3 + (-1)) fun y1 =>
  r9 x2 y1 m
def bc_PB_listReferences_L9 (N : Nat) : Nat → Int32 → Int32 → bp_M → Option (Int32 × bp_M)
  | 0, _, _, _ => none
  | n + 1, x2, x3, m =>
    if x3 < 0 then
      bc_PB_listReferences_L43 N x2 m
    else
      bp_gi x3 4 <|
      bp_nN (m.2 40 x3.toNatClampNeg) fun q1 =>
      bp_g (isPI q1) <|
      if (m.1 q1 2) = 0 then
        bc_PB_listReferences_L37 (bc_PB_listReferences_L9 N n) N x2 x3 m
      else
        bp_gi x3 4 <|
        bp_nN (m.2 40 x3.toNatClampNeg) fun q2 =>
        bp_g (isPI q2) <|
        bp_gi x2 4 <|
        bp_nM (bp_sR m 39 x2.toNatClampNeg q2) fun m3 =>
        bp_nI (x2 + 1) fun y4 =>
        bc_PB_listReferences_L37 (bc_PB_listReferences_L9 N n) N y4 x3 m3
def bc_PB_listReferences (N : Nat)  (m : bp_M) : Option (Int32 × bp_M) :=
  bp_nI ((m.1 4 1) - 1 : Int32) fun y1 =>
  bc_PB_listReferences_L9 N N 0 y1 m
def bc_PA_baseFor_L22 (N : Nat) (a1 : Int32) (s0 : Int32) (m : bp_M) : Option (Int32 × bp_M) :=
  some (s0, m)
def bc_PA_baseFor_L18 (N : Nat) (a1 : Int32) (m : bp_M) : Option (Int32 × bp_M) :=
  bc_PA_baseFor_L22 N a1 (m.1 2 5) m
def bc_PA_baseFor (N : Nat) (a1 : Int32) (m : bp_M) : Option (Int32 × bp_M) :=
  if a1 = 0 then
    bc_PA_baseFor_L18 N a1 m
  else
    if (m.1 2 0) = 0 then
      bc_PA_baseFor_L18 N a1 m
    else
      bc_PA_baseFor_L22 N a1 (m.1 2 2) m
def bc_BR_signed_L19 (N : Nat) (a0 : Int32) (s0 : Int32) (m : bp_M) : Option (Int32 × bp_M) :=
  some (s0, m)
def bc_BR_signed (N : Nat) (a0 : Int32) (m : bp_M) : Option (Int32 × bp_M) :=
  if ¬ (a0 - a0 / 2 * 2 : Int32) = 1 then
    bc_BR_signed_L19 N a0 (-(a0 / 2 : Int32) : Int32) m
  else
    bc_BR_signed_L19 N a0 ((a0 + 1 : Int32) / 2 : Int32) m
def bc_BR_flag_L13 (N : Nat) (s0 : Int32) (m : bp_M) : Option (Int32 × bp_M) :=
  bp_g ((s0 : Int32) = 0 ∨ (s0 : Int32) = 1) <|
  some (s0, m)
def bc_BR_flag (N : Nat)  (m : bp_M) : Option (Int32 × bp_M) :=
  bp_cI (bc_BR_nextBit N m) fun z2 m1 =>
  if ¬ z2 = 1 then
    bc_BR_flag_L13 N 0 m1
  else
    bc_BR_flag_L13 N 1 m1
def bc_PD_putFirst_L33 (N : Nat) (a1 : Int32) (ql2 : Nat) (m : bp_M) : Option bp_M :=
  bp_gi 0 4 <|
  bp_nM (bp_sR m 39 (0 : Int32).toNatClampNeg ql2) fun m1 =>
  some m1
def bc_PD_putFirst_L9 (N : Nat) (a1 : Int32) : Nat → Nat → Int32 → bp_M → Option bp_M
  | 0, _, _, _ => none
  | n + 1, ql2, x3, m =>
    if x3 ≤ 0 then
      bc_PD_putFirst_L33 N a1 ql2 m
    else
      bp_gi (x3 - 1 : Int32) 4 <|
      bp_nN (m.2 39 (x3 - 1 : Int32).toNatClampNeg) fun q1 =>
      bp_g (isPI q1) <|
      bp_gi x3 4 <|
      bp_nM (bp_sR m 39 x3.toNatClampNeg q1) fun m2 =>
      bp_nI (x3 + (-1)) fun y3 =>
      bc_PD_putFirst_L9 N a1 n ql2 y3 m2
def bc_PD_putFirst (N : Nat) (a1 : Int32) (m : bp_M) : Option bp_M :=
  bp_gi a1 4 <|
  bp_nN (m.2 39 a1.toNatClampNeg) fun q1 =>
  bp_g (isPI q1) <|
  bc_PD_putFirst_L9 N a1 N q1 a1 m
def bc_PD_readUseOfReferences_L82 (N : Nat) (a1 : Int32) (x2 : Int32) (m : bp_M) : Option bp_M :=
  bp_cV (bc_PD_putFirst N x2 m) fun m1 =>
  some m1
def bc_PD_readUseOfReferences_L48 (N : Nat) (a1 : Int32) (s0 : Int32) (m : bp_M) : Option bp_M :=
  if a1 ≤ 0 then
    bc_PD_readUseOfReferences_L82 N a1 s0 m
  else
    bp_cI (bc_BR_flag N m) fun z2 m1 =>
    if z2 = 0 then
      bc_PD_readUseOfReferences_L82 N a1 s0 m1
    else
      bp_cI (bc_BR_number N ((m1.1 3 4) - 1 : Int32) 8 m1) fun z4 m3 =>
      bp_nM (bp_sI m3 3 5 z4) fun m5 =>
      bc_PD_readUseOfReferences_L82 N a1 s0 m5
def bc_PD_readUseOfReferences (N : Nat) (a1 : Int32) (m : bp_M) : Option bp_M :=
  bp_cI (bc_BR_number N ((m.1 3 4) - 1 : Int32) 8 m) fun z2 m1 =>
  bp_nM (bp_sI m1 3 9 z2) fun m3 =>
  bp_cI (bc_BR_flag N m3) fun z5 m4 =>
  if z5 = 0 then
    bc_PD_readUseOfReferences_L48 N a1 0 m4
  else
    bp_cI (bc_BR_number N ((m4.1 3 4) - 1 : Int32) 8 m4) fun z7 m6 =>
    bc_PD_readUseOfReferences_L48 N a1 z7 m6
def bc_PD_readHeader_L104 (N : Nat) (a1 : Int32) (a2 : Int32) (a3 : Int32) (m : bp_M) : Option bp_M :=
  some m
def bc_PD_readHeader_L90 (N : Nat) (a1 : Int32) (a2 : Int32) (a3 : Int32) (m : bp_M) : Option bp_M :=
  bp_nM (bp_sI m 3 5 (-1)) fun m1 =>
  if ¬ a1 = 0 then
    bc_PD_readHeader_L104 N a1 a2 a3 m1
  else
    bp_cV (bc_PD_readUseOfReferences N a2 m1) fun m2 =>
    bc_PD_readHeader_L104 N a1 a2 a3 m2
def bc_PD_readHeader_L82 (N : Nat) (a1 : Int32) (a2 : Int32) (a3 : Int32) (m : bp_M) : Option bp_M :=
  bp_cV (bc_BR_fail N 5 m) fun m1 =>
  bc_PD_readHeader_L90 N a1 a2 a3 m1
def bc_PD_readHeader_L35 (N : Nat) (a1 : Int32) (a2 : Int32) (a3 : Int32) (s0 : Int32) (m : bp_M) : Option bp_M :=
  bp_g ((s0 : Int32) = 0 ∨ (s0 : Int32) = 1) <|
  bp_nM (bp_sI m 10 2 s0) fun m1 =>
  bp_g ((1 : Int32) = 0 ∨ (1 : Int32) = 1) <|
  bp_nM (bp_sI m1 10 3 1) fun m2 =>
  bp_cI (bc_BR_number N 2048 5 m2) fun z4 m3 =>
  bp_cI (bc_BR_signed N z4 m3) fun z6 m5 =>
  bp_nM (bp_sI m5 3 10 (a3 + z6 : Int32)) fun m7 =>
  if (m7.1 3 10) < 0 then
    bc_PD_readHeader_L82 N a1 a2 a3 m7
  else
    if (m7.1 3 10) ≤ 11 then
      bc_PD_readHeader_L90 N a1 a2 a3 m7
    else
      bc_PD_readHeader_L82 N a1 a2 a3 m7
def bc_PD_readHeader_L30 (N : Nat) (a1 : Int32) (a2 : Int32) (a3 : Int32) (m : bp_M) : Option bp_M :=
  bc_PD_readHeader_L35 N a1 a2 a3 1 m
def bc_PD_readHeader (N : Nat) (a1 : Int32) (a2 : Int32) (a3 : Int32) (m : bp_M) : Option bp_M :=
  bp_cI (bc_BR_number N 255 5 m) fun z2 m1 =>
  bp_nM (bp_sI m1 10 1 z2) fun m3 =>
  if ¬ a1 = 0 then
    bc_PD_readHeader_L30 N a1 a2 a3 m3
  else
    if a2 ≤ 0 then
      bc_PD_readHeader_L35 N a1 a2 a3 0 m3
    else
      bc_PD_readHeader_L30 N a1 a2 a3 m3
def bc_RO_clearBlock (N : Nat) (o0 : Nat) (a1 : Int32) (m : bp_M) : Option bp_M :=
  bp_gi a1 16 <|
  bp_g ((0 : Int32) = 0 ∨ (0 : Int32) = 1) <|
  bp_nM (bp_sI m (5 * o0 - 16) a1.toNatClampNeg 0) fun m1 =>
  bp_gi a1 16 <|
  bp_g ((0 : Int32) = 0 ∨ (0 : Int32) = 1) <|
  bp_nM (bp_sI m1 (5 * o0 - 15) a1.toNatClampNeg 0) fun m2 =>
  bp_gi a1 16 <|
  bp_nM (bp_sI m2 (5 * o0 - 14) a1.toNatClampNeg 0) fun m3 =>
  bp_gi a1 16 <|
  bp_nM (bp_sI m3 (5 * o0 - 13) a1.toNatClampNeg 0) fun m4 =>
  bp_gi a1 16 <|
  bp_nM (bp_sI m4 (5 * o0 - 12) a1.toNatClampNeg 0) fun m5 =>
  some m5
def bc_RO_predicted_L49 (N : Nat) (a0 : Nat) (a1 : Int32) (x2 : Int32) (x3 : Int32) (s0 : Int32) (m : bp_M) : Option (Int32 × bp_M) :=
  some ((if (if x3 < x2 then x3 else x2) < (if s0 < (if x2 < x3 then x3 else x2) then s0 else (if x2 < x3 then x3 else x2)) then (if s0 < (if x2 < x3 then x3 else x2) then s0 else (if x2 < x3 then x3 else x2)) else (if x3 < x2 then x3 else x2)), m)
def bc_RO_predicted_L15 (N : Nat) (a0 : Nat) (a1 : Int32) (s0 : Int32) (m : bp_M) : Option (Int32 × bp_M) :=
  if 4 ≤ a1 then
    bp_g (bc_isI a0 = true) <|
    bp_gi (a1 - 4 : Int32) (bc_len a0) <|
    bp_nI (m.1 a0 (a1 - 4 : Int32).toNatClampNeg) fun y1 =>
    if ¬ (a1 - a1 / 4 * 4 : Int32) = 3 then
      bp_g (bc_isI a0 = true) <|
      bp_gi (a1 - 3 : Int32) (bc_len a0) <|
      bc_RO_predicted_L49 N a0 a1 s0 y1 (m.1 a0 (a1 - 3 : Int32).toNatClampNeg) m
    else
      bp_g (bc_isI a0 = true) <|
      bp_gi (a1 - 5 : Int32) (bc_len a0) <|
      bc_RO_predicted_L49 N a0 a1 s0 y1 (m.1 a0 (a1 - 5 : Int32).toNatClampNeg) m
  else
    some (s0, m)
def bc_RO_predicted (N : Nat) (a0 : Nat) (a1 : Int32) (m : bp_M) : Option (Int32 × bp_M) :=
  if ¬ (a1 - a1 / 4 * 4 : Int32) = 0 then
    bp_g (bc_isI a0 = true) <|
    bp_gi (a1 - 1 : Int32) (bc_len a0) <|
    bc_RO_predicted_L15 N a0 a1 (m.1 a0 (a1 - 1 : Int32).toNatClampNeg) m
  else
    bc_RO_predicted_L15 N a0 a1 0 m
def bc_PD_within_L12 (N : Nat) (a1 : Int32) (m : bp_M) : Option (Int32 × bp_M) :=
  bp_cV (bc_BR_fail N 5 m) fun m1 =>
  some (0, m1)
def bc_PD_within (N : Nat) (a1 : Int32) (m : bp_M) : Option (Int32 × bp_M) :=
  if a1 < (-64) then
    bc_PD_within_L12 N a1 m
  else
    if a1 ≤ 64 then
      some (a1, m)
    else
      bc_PD_within_L12 N a1 m
def bc_PD_readInter_L106 (N : Nat) (a1 : Int32) (a2 : Int32) (x3 : Int32) (x4 : Int32) (m : bp_M) : Option bp_M :=
  bp_nN (m.2 3 6) fun q1 =>
  bp_g (isRO q1) <|
  bp_gi a1 16 <|
  bp_nM (bp_sI m (5 * q1 - 13) a1.toNatClampNeg x3) fun m2 =>
  bp_nN (m2.2 3 6) fun q3 =>
  bp_g (isRO q3) <|
  bp_gi a1 16 <|
  bp_nM (bp_sI m2 (5 * q3 - 12) a1.toNatClampNeg x4) fun m4 =>
  some m4
def bc_PD_readInter_L61 (N : Nat) (a1 : Int32) (a2 : Int32) (x3 : Int32) (x4 : Int32) (s0 : Int32) (s1 : Int32) (sq2 : Nat) (m : bp_M) : Option bp_M :=
  bp_gi s1 16 <|
  bp_nM (bp_sI m (5 * sq2 - 14) s1.toNatClampNeg s0) fun m1 =>
  bp_cI (bc_BR_number N 2048 5 m1) fun z3 m2 =>
  bp_cI (bc_BR_signed N z3 m2) fun z5 m4 =>
  bp_cI (bc_PD_within N (x3 + z5 : Int32) m4) fun z7 m6 =>
  bp_cI (bc_BR_number N 2048 5 m6) fun z9 m8 =>
  bp_cI (bc_BR_signed N z9 m8) fun z11 m10 =>
  bp_cI (bc_PD_within N (x4 + z11 : Int32) m10) fun z13 m12 =>
  bc_PD_readInter_L106 N a1 a2 z7 z13 m12
def bc_PD_readInter (N : Nat) (a1 : Int32) (a2 : Int32) (m : bp_M) : Option bp_M :=
  bp_nN (m.2 3 6) fun q1 =>
  bp_g (isRO q1) <|
  bp_cI (bc_RO_predicted N (5 * q1 - 13) a1 m) fun z3 m2 =>
  bp_nN (m2.2 3 6) fun q4 =>
  bp_g (isRO q4) <|
  bp_cI (bc_RO_predicted N (5 * q4 - 12) a1 m2) fun z6 m5 =>
  if ¬ a2 = 0 then
    bc_PD_readInter_L106 N a1 a2 z3 z6 m5
  else
    bp_nN (m5.2 3 6) fun q7 =>
    bp_g (isRO q7) <|
    if (m5.1 3 9) ≤ 0 then
      bc_PD_readInter_L61 N a1 a2 z3 z6 0 a1 q7 m5
    else
      bp_cI (bc_BR_number N (m5.1 3 9) 8 m5) fun z9 m8 =>
      bc_PD_readInter_L61 N a1 a2 z3 z6 z9 a1 q7 m8
def bc_MO_fillWindow_L85 (N : Nat) (a1 : Nat) (a2 : Int32) (a3 : Int32) (m : bp_M) : Option bp_M :=
  some m
def bc_MO_fillWindow_L79 (r3 : Int32 → bp_M → Option bp_M) (N : Nat) (a1 : Nat) (a2 : Int32) (a3 : Int32) (x4 : Int32) (m : bp_M) : Option bp_M :=
  bp_nI (x4 + 1) fun y1 =>
  r3 y1 m
def bc_MO_fillWindow_L28 (r3 : Int32 → bp_M → Option bp_M) (N : Nat) (a1 : Nat) (a2 : Int32) (a3 : Int32) : Nat → Int32 → Int32 → Int32 → bp_M → Option bp_M
  | 0, _, _, _, _ => none
  | n + 1, x4, x5, x6, m =>
    if 9 ≤ x6 then
      bc_MO_fillWindow_L79 r3 N a1 a2 a3 x4 m
    else
      bp_nI (if 0 < (if (a2 + x6 : Int32) < 15 then (a2 + x6 : Int32) else 15) then (if (a2 + x6 : Int32) < 15 then (a2 + x6 : Int32) else 15) else 0) fun y1 =>
      bp_g (bc_isI a1 = true) <|
      bp_gi ((16 * x5 : Int32) + y1 : Int32) (bc_len a1) <|
      bp_gi ((9 * x4 : Int32) + x6 : Int32) 81 <|
      bp_nM (bp_sI m 17 ((9 * x4 : Int32) + x6 : Int32).toNatClampNeg (m.1 a1 ((16 * x5 : Int32) + y1 : Int32).toNatClampNeg)) fun m2 =>
      bp_nI (x6 + 1) fun y3 =>
      bc_MO_fillWindow_L28 r3 N a1 a2 a3 n x4 x5 y3 m2
def bc_MO_fillWindow_L3 (N : Nat) (a1 : Nat) (a2 : Int32) (a3 : Int32) : Nat → Int32 → bp_M → Option bp_M
  | 0, _, _ => none
  | n + 1, x4, m =>
    if 9 ≤ x4 then
      bc_MO_fillWindow_L85 N a1 a2 a3 m
    else
      bp_nI (if 0 < (if (a3 + x4 : Int32) < 15 then (a3 + x4 : Int32) else 15) then (if (a3 + x4 : Int32) < 15 then (a3 + x4 : Int32) else 15) else 0) fun y1 =>
      bc_MO_fillWindow_L28 (bc_MO_fillWindow_L3 N a1 a2 a3 n) N a1 a2 a3 N x4 y1 0 m
def bc_MO_fillWindow (N : Nat) (a1 : Nat) (a2 : Int32) (a3 : Int32) (m : bp_M) : Option bp_M :=
  bc_MO_fillWindow_L3 N a1 a2 a3 N 0 m
def bc_MO_taps (N : Nat) (a0 : Nat) (a1 : Int32) (a2 : Int32) (m : bp_M) : Option (Int32 × bp_M) :=
  bp_g (bc_isI a0 = true) <|
  bp_gi (a1 - (2 * a2 : Int32) : Int32) (bc_len a0) <|
  bp_g (bc_isI a0 = true) <|
  bp_gi (a1 - a2 : Int32) (bc_len a0) <|
  bp_g (bc_isI a0 = true) <|
  bp_gi a1 (bc_len a0) <|
  bp_g (bc_isI a0 = true) <|
  bp_gi (a1 + a2 : Int32) (bc_len a0) <|
  bp_g (bc_isI a0 = true) <|
  bp_gi (a1 + (2 * a2 : Int32) : Int32) (bc_len a0) <|
  bp_g (bc_isI a0 = true) <|
  bp_gi (a1 + (3 * a2 : Int32) : Int32) (bc_len a0) <|
  some (((((((m.1 a0 (a1 - (2 * a2 : Int32) : Int32).toNatClampNeg) - (5 * (m.1 a0 (a1 - a2 : Int32).toNatClampNeg) : Int32) : Int32) + (20 * (m.1 a0 a1.toNatClampNeg) : Int32) : Int32) + (20 * (m.1 a0 (a1 + a2 : Int32).toNatClampNeg) : Int32) : Int32) - (5 * (m.1 a0 (a1 + (2 * a2 : Int32) : Int32).toNatClampNeg) : Int32) : Int32) + (m.1 a0 (a1 + (3 * a2 : Int32) : Int32).toNatClampNeg) : Int32), m)
def bc_MO_fillAcross_L53 (N : Nat) (m : bp_M) : Option bp_M :=
  some m
def bc_MO_fillAcross_L47 (r2 : Int32 → bp_M → Option bp_M) (N : Nat) (x1 : Int32) (m : bp_M) : Option bp_M :=
  bp_nI (x1 + 1) fun y1 =>
  r2 y1 m
def bc_MO_fillAcross_L10 (r2 : Int32 → bp_M → Option bp_M) (N : Nat) : Nat → Int32 → Int32 → bp_M → Option bp_M
  | 0, _, _, _ => none
  | n + 1, x1, x2, m =>
    if 4 ≤ x2 then
      bc_MO_fillAcross_L47 r2 N x1 m
    else
      bp_cI (bc_MO_taps N 17 (((9 * x1 : Int32) + x2 : Int32) + 2 : Int32) 1 m) fun z2 m1 =>
      bp_gi ((4 * x1 : Int32) + x2 : Int32) 36 <|
      bp_nM (bp_sI m1 18 ((4 * x1 : Int32) + x2 : Int32).toNatClampNeg z2) fun m3 =>
      bp_nI (x2 + 1) fun y4 =>
      bc_MO_fillAcross_L10 r2 N n x1 y4 m3
def bc_MO_fillAcross_L2 (N : Nat) : Nat → Int32 → bp_M → Option bp_M
  | 0, _, _ => none
  | n + 1, x1, m =>
    if 9 ≤ x1 then
      bc_MO_fillAcross_L53 N m
    else
      bc_MO_fillAcross_L10 (bc_MO_fillAcross_L2 N n) N N x1 0 m
def bc_MO_fillAcross (N : Nat)  (m : bp_M) : Option bp_M :=
  bc_MO_fillAcross_L2 N N 0 m
def bc_BP_limit_L22 (N : Nat) (a0 : Int32) (s0 : Int32) (m : bp_M) : Option (Int32 × bp_M) :=
  some (s0, m)
def bc_BP_limit (N : Nat) (a0 : Int32) (m : bp_M) : Option (Int32 × bp_M) :=
  if 0 ≤ a0 then
    if a0 ≤ 255 then
      bc_BP_limit_L22 N a0 a0 m
    else
      bc_BP_limit_L22 N a0 255 m
  else
    bc_BP_limit_L22 N a0 0 m
def bc_BP_sampleNumber (N : Nat) (a0 : Int32) (a1 : Int32) (m : bp_M) : Option (Int32 × bp_M) :=
  some ((((16 * ((4 * (a0 / 4 : Int32) : Int32) + (a1 / 4 : Int32) : Int32) : Int32) + (4 * (a0 - a0 / 4 * 4 : Int32) : Int32) : Int32) + (a1 - a1 / 4 * 4 : Int32) : Int32), m)
def bc_MO_predict_L236 (N : Nat) (a1 : Nat) (a2 : Nat) (a3 : Int32) (a4 : Int32) (a5 : Int32) (m : bp_M) : Option bp_M :=
  some m
def bc_MO_predict_L217 (r79 : Int32 → Int32 → Int32 → bp_M → Option bp_M) (N : Nat) (a1 : Nat) (a2 : Nat) (a3 : Int32) (a4 : Int32) (a5 : Int32) (x6 : Int32) (x7 : Int32) (x8 : Int32) (x12 : Int32) (m : bp_M) : Option bp_M :=
  bp_cI (bc_BP_sampleNumber N a3 x8 m) fun z2 m1 =>
  bp_gi z2 256 <|
  bp_nM (bp_sI m1 (a2 + 24) z2.toNatClampNeg x12) fun m3 =>
  bp_nI (x8 + 1) fun y4 =>
  r79 x6 x7 y4 m3
def bc_MO_predict_L163 (r79 : Int32 → Int32 → Int32 → bp_M → Option bp_M) (N : Nat) (a1 : Nat) (a2 : Nat) (a3 : Int32) (a4 : Int32) (a5 : Int32) (x6 : Int32) (x7 : Int32) (x8 : Int32) (x11 : Int32) (x12 : Int32) (m : bp_M) : Option bp_M :=
  if x6 = 0 then
    if x7 = 0 then
      bc_MO_predict_L217 r79 N a1 a2 a3 a4 a5 x6 x7 x8 x12 m
    else
      bp_cI (bc_MO_taps N 17 x11 9 m) fun z2 m1 =>
      bp_cI (bc_BP_limit N ((z2 + 16 : Int32) >>> (5 &&& 31 : Int32) : Int32) m1) fun z4 m3 =>
      bc_MO_predict_L217 r79 N a1 a2 a3 a4 a5 x6 x7 x8 z4 m3
  else
    bp_cI (bc_MO_taps N 17 x11 1 m) fun z6 m5 =>
    bp_cI (bc_BP_limit N ((z6 + 16 : Int32) >>> (5 &&& 31 : Int32) : Int32) m5) fun z8 m7 =>
    bc_MO_predict_L217 r79 N a1 a2 a3 a4 a5 x6 x7 x8 z8 m7
def bc_MO_predict_L79 (N : Nat) (a1 : Nat) (a2 : Nat) (a3 : Int32) (a4 : Int32) (a5 : Int32) : Nat → Int32 → Int32 → Int32 → bp_M → Option bp_M
  | 0, _, _, _, _ => none
  | n + 1, x6, x7, x8, m =>
    if 16 ≤ x8 then
      bc_MO_predict_L236 N a1 a2 a3 a4 a5 m
    else
      bp_nI (x8 - x8 / 4 * 4 : Int32) fun y1 =>
      bp_nI (x8 / 4 : Int32) fun y2 =>
      bp_nI (((9 * (y2 + 2 : Int32) : Int32) + y1 : Int32) + 2 : Int32) fun y3 =>
      bp_gi y3 81 <|
      bp_nI (m.1 17 y3.toNatClampNeg) fun y4 =>
      if x6 = 0 then
        bc_MO_predict_L163 (bc_MO_predict_L79 N a1 a2 a3 a4 a5 n) N a1 a2 a3 a4 a5 x6 x7 x8 y3 y4 m
      else
        if x7 = 0 then
          bc_MO_predict_L163 (bc_MO_predict_L79 N a1 a2 a3 a4 a5 n) N a1 a2 a3 a4 a5 x6 x7 x8 y3 y4 m
        else
          bp_cI (bc_MO_taps N 18 ((4 * (y2 + 2 : Int32) : Int32) + y1 : Int32) 4 m) fun z6 m5 =>
          bp_cI (bc_BP_limit N ((z6 + 512 : Int32) >>> (10 &&& 31 : Int32) : Int32) m5) fun z8 m7 =>
          bc_MO_predict_L217 (bc_MO_predict_L79 N a1 a2 a3 a4 a5 n) N a1 a2 a3 a4 a5 x6 x7 x8 z8 m7
def bc_MO_predict_L76 (N : Nat) (a1 : Nat) (a2 : Nat) (a3 : Int32) (a4 : Int32) (a5 : Int32) (x6 : Int32) (x7 : Int32) (m : bp_M) : Option bp_M :=
  bc_MO_predict_L79 N a1 a2 a3 a4 a5 N x6 x7 0 m
def bc_MO_predict_L60 (N : Nat) (a1 : Nat) (a2 : Nat) (a3 : Int32) (a4 : Int32) (a5 : Int32) (x6 : Int32) (s0 : Int32) (m : bp_M) : Option bp_M :=
  if x6 = 0 then
    bc_MO_predict_L76 N a1 a2 a3 a4 a5 x6 s0 m
  else
    if s0 = 0 then
      bc_MO_predict_L76 N a1 a2 a3 a4 a5 x6 s0 m
    else
      bp_cV (bc_MO_fillAcross N m) fun m1 =>
      bc_MO_predict_L76 N a1 a2 a3 a4 a5 x6 s0 m1
def bc_MO_predict_L45 (N : Nat) (a1 : Nat) (a2 : Nat) (a3 : Int32) (a4 : Int32) (a5 : Int32) (s0 : Int32) (m : bp_M) : Option bp_M :=
  if ¬ (a5 &&& 1 : Int32) = 1 then
    bc_MO_predict_L60 N a1 a2 a3 a4 a5 s0 0 m
  else
    bc_MO_predict_L60 N a1 a2 a3 a4 a5 s0 1 m
def bc_MO_predict (N : Nat) (a1 : Nat) (a2 : Nat) (a3 : Int32) (a4 : Int32) (a5 : Int32) (m : bp_M) : Option bp_M :=
  bp_cV (bc_MO_fillWindow N (a1 + 24) (((4 * (a3 - a3 / 4 * 4 : Int32) : Int32) + (a4 >>> (1 &&& 31 : Int32) : Int32) : Int32) - 2 : Int32) (((4 * (a3 / 4 : Int32) : Int32) + (a5 >>> (1 &&& 31 : Int32) : Int32) : Int32) - 2 : Int32) m) fun m1 =>
  if ¬ (a4 &&& 1 : Int32) = 1 then
    bc_MO_predict_L45 N a1 a2 a3 a4 a5 0 m1
  else
    bc_MO_predict_L45 N a1 a2 a3 a4 a5 1 m1
def bc_BR_bits_L36 (N : Nat) (a1 : Int32) (s0 : Int32) (m : bp_M) : Option (Int32 × bp_M) :=
  some (s0, m)
def bc_BR_bits_L24 (N : Nat) (a1 : Int32) (x2 : Int32) (m : bp_M) : Option (Int32 × bp_M) :=
  if ¬ (m.1 6 3) = 0 then
    bc_BR_bits_L36 N a1 0 m
  else
    bc_BR_bits_L36 N a1 x2 m
def bc_BR_bits_L4 (N : Nat) (a1 : Int32) : Nat → Int32 → Int32 → bp_M → Option (Int32 × bp_M)
  | 0, _, _, _ => none
  | n + 1, x2, x3, m =>
    if a1 ≤ x3 then
      bc_BR_bits_L24 N a1 x2 m
    else
      bp_cI (bc_BR_nextBit N m) fun z2 m1 =>
      bp_nI ((2 * x2 : Int32) + z2 : Int32) fun y3 =>
      bp_nI (x3 + 1) fun y4 =>
      bc_BR_bits_L4 N a1 n y3 y4 m1
def bc_BR_bits (N : Nat) (a1 : Int32) (m : bp_M) : Option (Int32 × bp_M) :=
  bc_BR_bits_L4 N a1 N 0 0 m
def bc_PD_predictMean_L181 (N : Nat) (a1 : Int32) (m : bp_M) : Option bp_M :=
  some m
def bc_PD_predictMean_L152 (N : Nat) (a1 : Int32) : Nat → Int32 → Int32 → bp_M → Option bp_M
  | 0, _, _, _ => none
  | n + 1, x6, x7, m =>
    if 16 ≤ x7 then
      bc_PD_predictMean_L181 N a1 m
    else
      bp_cI (bc_BP_sampleNumber N a1 x7 m) fun z2 m1 =>
      bp_gi z2 256 <|
      bp_nM (bp_sI m1 34 z2.toNatClampNeg x6) fun m3 =>
      bp_nI (x7 + 1) fun y4 =>
      bc_PD_predictMean_L152 N a1 n x6 y4 m3
def bc_PD_predictMean_L149 (N : Nat) (a1 : Int32) (x6 : Int32) (m : bp_M) : Option bp_M :=
  bc_PD_predictMean_L152 N a1 N x6 0 m
def bc_PD_predictMean_L141 (N : Nat) (a1 : Int32) (x5 : Int32) (m : bp_M) : Option bp_M :=
  bp_nI ((x5 + 2 : Int32) >>> (2 &&& 31 : Int32) : Int32) fun y1 =>
  bc_PD_predictMean_L149 N a1 y1 m
def bc_PD_predictMean_L132 (N : Nat) (a1 : Int32) (x3 : Int32) (x4 : Int32) (x5 : Int32) (x6 : Int32) (m : bp_M) : Option bp_M :=
  if ¬ x3 = 0 then
    bc_PD_predictMean_L141 N a1 x5 m
  else
    if x4 = 0 then
      bc_PD_predictMean_L149 N a1 x6 m
    else
      bc_PD_predictMean_L141 N a1 x5 m
def bc_PD_predictMean_L107 (N : Nat) (a1 : Int32) (x3 : Int32) (x4 : Int32) (x5 : Int32) (m : bp_M) : Option bp_M :=
  if x3 = 0 then
    bc_PD_predictMean_L132 N a1 x3 x4 x5 128 m
  else
    if x4 = 0 then
      bc_PD_predictMean_L132 N a1 x3 x4 x5 128 m
    else
      bp_nI ((x5 + 4 : Int32) >>> (3 &&& 31 : Int32) : Int32) fun y1 =>
      bc_PD_predictMean_L149 N a1 y1 m
def bc_PD_predictMean_L98 (r36 : Int32 → Int32 → Int32 → Int32 → Int32 → bp_M → Option bp_M) (N : Nat) (a1 : Int32) (x2 : Int32) (x3 : Int32) (x4 : Int32) (x6 : Int32) (s0 : Int32) (s1 : Int32) (m : bp_M) : Option bp_M :=
  bp_nI (s1 + s0 : Int32) fun y1 =>
  bp_nI (x6 + 1) fun y2 =>
  r36 x2 x3 x4 y1 y2 m
def bc_PD_predictMean_L67 (r36 : Int32 → Int32 → Int32 → Int32 → Int32 → bp_M → Option bp_M) (N : Nat) (a1 : Int32) (x2 : Int32) (x3 : Int32) (x4 : Int32) (x6 : Int32) (s0 : Int32) (s1 : Int32) (m : bp_M) : Option bp_M :=
  bp_nI (s1 + s0 : Int32) fun y1 =>
  if x4 = 0 then
    bc_PD_predictMean_L98 r36 N a1 x2 x3 x4 x6 0 y1 m
  else
    bp_gi ((x2 - 1 : Int32) + (16 * x6 : Int32) : Int32) 256 <|
    bc_PD_predictMean_L98 r36 N a1 x2 x3 x4 x6 (m.1 34 ((x2 - 1 : Int32) + (16 * x6 : Int32) : Int32).toNatClampNeg) y1 m
def bc_PD_predictMean_L36 (N : Nat) (a1 : Int32) : Nat → Int32 → Int32 → Int32 → Int32 → Int32 → bp_M → Option bp_M
  | 0, _, _, _, _, _, _ => none
  | n + 1, x2, x3, x4, x5, x6, m =>
    if 4 ≤ x6 then
      bc_PD_predictMean_L107 N a1 x3 x4 x5 m
    else
      if x3 = 0 then
        bc_PD_predictMean_L67 (bc_PD_predictMean_L36 N a1 n) N a1 x2 x3 x4 x6 0 x5 m
      else
        bp_gi ((x2 - 16 : Int32) + x6 : Int32) 256 <|
        bc_PD_predictMean_L67 (bc_PD_predictMean_L36 N a1 n) N a1 x2 x3 x4 x6 (m.1 34 ((x2 - 16 : Int32) + x6 : Int32).toNatClampNeg) x5 m
def bc_PD_predictMean_L28 (N : Nat) (a1 : Int32) (x2 : Int32) (x3 : Int32) (s0 : Int32) (m : bp_M) : Option bp_M :=
  bc_PD_predictMean_L36 N a1 N x2 x3 s0 0 0 m
def bc_PD_predictMean_L16 (N : Nat) (a1 : Int32) (x2 : Int32) (s0 : Int32) (m : bp_M) : Option bp_M :=
  if (a1 - a1 / 4 * 4 : Int32) ≤ 0 then
    bc_PD_predictMean_L28 N a1 x2 s0 0 m
  else
    bc_PD_predictMean_L28 N a1 x2 s0 1 m
def bc_PD_predictMean (N : Nat) (a1 : Int32) (m : bp_M) : Option bp_M :=
  bp_cI (bc_BP_sampleNumber N a1 0 m) fun z2 m1 =>
  if a1 < 4 then
    bc_PD_predictMean_L16 N a1 z2 0 m1
  else
    bc_PD_predictMean_L16 N a1 z2 1 m1
def bc_PD_predictFrom_L64 (N : Nat) (a1 : Int32) (a2 : Int32) (a3 : Int32) (a4 : Int32) (m : bp_M) : Option bp_M :=
  some m
def bc_PD_predictFrom_L12 (N : Nat) (a1 : Int32) (a2 : Int32) (a3 : Int32) (a4 : Int32) : Nat → Int32 → Int32 → bp_M → Option bp_M
  | 0, _, _, _ => none
  | n + 1, x5, x6, m =>
    if 16 ≤ x6 then
      bc_PD_predictFrom_L64 N a1 a2 a3 a4 m
    else
      bp_cI (bc_BP_sampleNumber N a1 x6 m) fun z2 m1 =>
      bp_gi ((x5 + (a3 * (x6 / 4 : Int32) : Int32) : Int32) + (a4 * (x6 - x6 / 4 * 4 : Int32) : Int32) : Int32) 256 <|
      bp_gi z2 256 <|
      bp_nM (bp_sI m1 34 z2.toNatClampNeg (m1.1 34 ((x5 + (a3 * (x6 / 4 : Int32) : Int32) : Int32) + (a4 * (x6 - x6 / 4 * 4 : Int32) : Int32) : Int32).toNatClampNeg)) fun m3 =>
      bp_nI (x6 + 1) fun y4 =>
      bc_PD_predictFrom_L12 N a1 a2 a3 a4 n x5 y4 m3
def bc_PD_predictFrom (N : Nat) (a1 : Int32) (a2 : Int32) (a3 : Int32) (a4 : Int32) (m : bp_M) : Option bp_M :=
  bp_cI (bc_BP_sampleNumber N a1 0 m) fun z2 m1 =>
  bp_nI (z2 + a2 : Int32) fun y3 =>
  bc_PD_predictFrom_L12 N a1 a2 a3 a4 N y3 0 m1
def bc_PD_readIntra_L128 (N : Nat) (a1 : Int32) (s0 : Int32) (m : bp_M) : Option (Int32 × bp_M) :=
  bp_g ((s0 : Int32) = 0 ∨ (s0 : Int32) = 1) <|
  some (s0, m)
def bc_PD_readIntra_L119 (N : Nat) (a1 : Int32) (x2 : Int32) (m : bp_M) : Option (Int32 × bp_M) :=
  if x2 = 0 then
    bc_PD_readIntra_L128 N a1 0 m
  else
    bc_PD_readIntra_L128 N a1 1 m
def bc_PD_readIntra_L110 (N : Nat) (a1 : Int32) (x2 : Int32) (m : bp_M) : Option (Int32 × bp_M) :=
  bp_cV (bc_BR_fail N 9 m) fun m1 =>
  bc_PD_readIntra_L119 N a1 x2 m1
def bc_PD_readIntra_L87 (N : Nat) (a1 : Int32) (x2 : Int32) (m : bp_M) : Option (Int32 × bp_M) :=
  if ¬ x2 = 3 then
    bc_PD_readIntra_L110 N a1 x2 m
  else
    if (a1 - a1 / 4 * 4 : Int32) ≤ 0 then
      bc_PD_readIntra_L110 N a1 x2 m
    else
      bp_cV (bc_PD_predictFrom N a1 (-1) 16 0 m) fun m1 =>
      bc_PD_readIntra_L119 N a1 x2 m1
def bc_PD_readIntra_L49 (N : Nat) (a1 : Int32) (x2 : Int32) (m : bp_M) : Option (Int32 × bp_M) :=
  bc_PD_readIntra_L119 N a1 x2 m
def bc_PD_readIntra_L15 (N : Nat) (a1 : Int32) : Nat → Int32 → Int32 → bp_M → Option (Int32 × bp_M)
  | 0, _, _, _ => none
  | n + 1, x2, x3, m =>
    if 16 ≤ x3 then
      bc_PD_readIntra_L49 N a1 x2 m
    else
      bp_cI (bc_BP_sampleNumber N a1 x3 m) fun z2 m1 =>
      bp_cI (bc_BR_bits N 8 m1) fun z4 m3 =>
      bp_gi z2 256 <|
      bp_nM (bp_sI m3 34 z2.toNatClampNeg z4) fun m5 =>
      bp_nI (x3 + 1) fun y6 =>
      bc_PD_readIntra_L15 N a1 n x2 y6 m5
def bc_PD_readIntra (N : Nat) (a1 : Int32) (m : bp_M) : Option (Int32 × bp_M) :=
  bp_cI (bc_BR_bits N 2 m) fun z2 m1 =>
  if ¬ z2 = 0 then
    if ¬ z2 = 1 then
      if ¬ z2 = 2 then
        bc_PD_readIntra_L87 N a1 z2 m1
      else
        if a1 < 4 then
          bc_PD_readIntra_L87 N a1 z2 m1
        else
          bp_cV (bc_PD_predictFrom N a1 (-16) 0 1 m1) fun m3 =>
          bc_PD_readIntra_L119 N a1 z2 m3
    else
      bp_cV (bc_PD_predictMean N a1 m1) fun m4 =>
      bc_PD_readIntra_L119 N a1 z2 m4
  else
    bc_PD_readIntra_L15 N a1 N z2 0 m1
def bc_fill_L20 (N : Nat) (a0 : Nat) (a1 : Int32) (m : bp_M) : Option bp_M :=
  some m
def bc_fill_L5 (N : Nat) (a0 : Nat) (a1 : Int32) : Nat → Int32 → Int32 → bp_M → Option bp_M
  | 0, _, _, _ => none
  | n + 1, x2, x3, m =>
    if x3 ≤ x2 then
      bc_fill_L20 N a0 a1 m
    else
      bp_g (bc_isI a0 = true) <|
      bp_gi x2 (bc_len a0) <|
      bp_nM (bp_sI m a0 x2.toNatClampNeg a1) fun m1 =>
      bp_nI (x2 + 1) fun y2 =>
      bc_fill_L5 N a0 a1 n y2 x3 m1
def bc_fill (N : Nat) (a0 : Nat) (a1 : Int32) (m : bp_M) : Option bp_M :=
  bp_g (bc_isI a0 = true) <|
  bp_nI (Int32.ofNat (bc_len a0)) fun y1 =>
  bc_fill_L5 N a0 a1 N 0 y1 m
def bc_PD_scaleAt_L31 (N : Nat) (a1 : Int32) (s0 : Int32) (m : bp_M) : Option (Int32 × bp_M) :=
  some (((s0 * (4 + ((m.1 3 10) - (m.1 3 10) / 4 * 4 : Int32) : Int32) : Int32) <<< (((m.1 3 10) / 4 : Int32) &&& 31 : Int32) : Int32), m)
def bc_PD_scaleAt (N : Nat) (a1 : Int32) (m : bp_M) : Option (Int32 × bp_M) :=
  bp_nI (((a1 / 4 : Int32) - (a1 / 4 : Int32) / 2 * 2 : Int32) + (a1 - a1 / 2 * 2 : Int32) : Int32) fun y1 =>
  if ¬ y1 = 0 then
    if ¬ y1 = 1 then
      bc_PD_scaleAt_L31 N a1 16 m
    else
      bc_PD_scaleAt_L31 N a1 13 m
  else
    bc_PD_scaleAt_L31 N a1 10 m
def bc_PD_readResidual_L111 (N : Nat) (m : bp_M) : Option bp_M :=
  some m
def bc_PD_readResidual_L102 (r25 : Int32 → Int32 → Int32 → bp_M → Option bp_M) (N : Nat) (x1 : Int32) (x2 : Int32) (x3 : Int32) (m : bp_M) : Option bp_M :=
  bp_nI (x2 + 1) fun y1 =>
  bp_nI (x3 + 1) fun y2 =>
  r25 x1 y1 y2 m
def bc_PD_readResidual_L74 (r25 : Int32 → Int32 → Int32 → bp_M → Option bp_M) (N : Nat) (x1 : Int32) (x2 : Int32) (x3 : Int32) (x4 : Int32) (m : bp_M) : Option bp_M :=
  if 16 ≤ x2 then
    bc_PD_readResidual_L102 r25 N x1 x2 x3 m
  else
    bp_gi x2 16 <|
    bp_gi x2 16 <|
    bp_cI (bc_PD_scaleAt N (st_S x2.toNatClampNeg) m) fun z2 m1 =>
    bp_gi (st_S x2.toNatClampNeg) 16 <|
    bp_nM (bp_sI m1 19 (st_S x2.toNatClampNeg).toNatClampNeg (x4 * z2 : Int32)) fun m3 =>
    bc_PD_readResidual_L102 r25 N x1 x2 x3 m3
def bc_PD_readResidual_L25 (N : Nat) : Nat → Int32 → Int32 → Int32 → bp_M → Option bp_M
  | 0, _, _, _, _ => none
  | n + 1, x1, x2, x3, m =>
    if x1 ≤ x3 then
      bc_PD_readResidual_L111 N m
    else
      bp_cI (bc_BR_number N (15 - x2 : Int32) 5 m) fun z2 m1 =>
      bp_nI (x2 + z2 : Int32) fun y3 =>
      bp_cI (bc_BR_number N 2048 5 m1) fun z5 m4 =>
      bp_cI (bc_BR_signed N z5 m4) fun z7 m6 =>
      if ¬ z7 = 0 then
        bc_PD_readResidual_L74 (bc_PD_readResidual_L25 N n) N x1 y3 x3 z7 m6
      else
        bp_cV (bc_BR_fail N 5 m6) fun m8 =>
        bc_PD_readResidual_L74 (bc_PD_readResidual_L25 N n) N x1 y3 x3 z7 m8
def bc_PD_readResidual (N : Nat)  (m : bp_M) : Option bp_M :=
  bp_cV (bc_fill N 19 0 m) fun m1 =>
  bp_cI (bc_BR_number N 15 5 m1) fun z3 m2 =>
  bp_nI (z3 + 1 : Int32) fun y4 =>
  bc_PD_readResidual_L25 N N y4 0 0 m2
def bc_PD_residualAt_L56 (N : Nat) (a1 : Int32) (a2 : Int32) (x3 : Int32) (m : bp_M) : Option (Int32 × bp_M) :=
  some ((x3 >>> (8 &&& 31 : Int32) : Int32), m)
def bc_PD_residualAt_L7 (N : Nat) (a1 : Int32) (a2 : Int32) : Nat → Int32 → Int32 → bp_M → Option (Int32 × bp_M)
  | 0, _, _, _ => none
  | n + 1, x3, x4, m =>
    if 16 ≤ x4 then
      bc_PD_residualAt_L56 N a1 a2 x3 m
    else
      bp_gi ((4 * a1 : Int32) + (x4 / 4 : Int32) : Int32) 16 <|
      bp_gi ((4 * a2 : Int32) + (x4 - x4 / 4 * 4 : Int32) : Int32) 16 <|
      bp_gi x4 16 <|
      bp_nI (x3 + (((st_T ((4 * a1 : Int32) + (x4 / 4 : Int32) : Int32).toNatClampNeg) * (st_T ((4 * a2 : Int32) + (x4 - x4 / 4 * 4 : Int32) : Int32).toNatClampNeg) : Int32) * (m.1 19 x4.toNatClampNeg) : Int32) : Int32) fun y1 =>
      bp_nI (x4 + 1) fun y2 =>
      bc_PD_residualAt_L7 N a1 a2 n y1 y2 m
def bc_PD_residualAt (N : Nat) (a1 : Int32) (a2 : Int32) (m : bp_M) : Option (Int32 × bp_M) :=
  bc_PD_residualAt_L7 N a1 a2 N 128 0 m
def bc_PD_addResidual_L52 (N : Nat) (a1 : Int32) (m : bp_M) : Option bp_M :=
  some m
def bc_PD_addResidual_L2 (N : Nat) (a1 : Int32) : Nat → Int32 → bp_M → Option bp_M
  | 0, _, _ => none
  | n + 1, x2, m =>
    if 16 ≤ x2 then
      bc_PD_addResidual_L52 N a1 m
    else
      bp_cI (bc_BP_sampleNumber N a1 x2 m) fun z2 m1 =>
      bp_gi z2 256 <|
      bp_cI (bc_PD_residualAt N (x2 / 4 : Int32) (x2 - x2 / 4 * 4 : Int32) m1) fun z4 m3 =>
      bp_cI (bc_BP_limit N ((m1.1 34 z2.toNatClampNeg) + z4 : Int32) m3) fun z6 m5 =>
      bp_gi z2 256 <|
      bp_nM (bp_sI m5 34 z2.toNatClampNeg z6) fun m7 =>
      bp_nI (x2 + 1) fun y8 =>
      bc_PD_addResidual_L2 N a1 n y8 m7
def bc_PD_addResidual (N : Nat) (a1 : Int32) (m : bp_M) : Option bp_M :=
  bc_PD_addResidual_L2 N a1 N 0 m
def bc_PD_readBlocks_L217 (N : Nat) (a1 : Int32) (m : bp_M) : Option bp_M :=
  some m
def bc_PD_readBlocks_L211 (r2 : Int32 → bp_M → Option bp_M) (N : Nat) (a1 : Int32) (x2 : Int32) (m : bp_M) : Option bp_M :=
  bp_nI (x2 + 1) fun y1 =>
  r2 y1 m
def bc_PD_readBlocks_L189 (r2 : Int32 → bp_M → Option bp_M) (N : Nat) (a1 : Int32) (x2 : Int32) (s0 : Int32) (s1 : Int32) (sq2 : Nat) (m : bp_M) : Option bp_M :=
  bp_gi s1 16 <|
  bp_g ((s0 : Int32) = 0 ∨ (s0 : Int32) = 1) <|
  bp_nM (bp_sI m (5 * sq2 - 15) s1.toNatClampNeg s0) fun m1 =>
  bp_nN (m1.2 3 6) fun q2 =>
  bp_g (isRO q2) <|
  bp_gi x2 16 <|
  if (m1.1 (5 * q2 - 15) x2.toNatClampNeg) = 0 then
    bc_PD_readBlocks_L211 r2 N a1 x2 m1
  else
    bp_cV (bc_PD_readResidual N m1) fun m3 =>
    bp_cV (bc_PD_addResidual N x2 m3) fun m4 =>
    bc_PD_readBlocks_L211 r2 N a1 x2 m4
def bc_PD_readBlocks_L188 (r2 : Int32 → bp_M → Option bp_M) (N : Nat) (a1 : Int32) (x2 : Int32) (s0 : Int32) (sq1 : Nat) (m : bp_M) : Option bp_M :=
  bc_PD_readBlocks_L189 r2 N a1 x2 0 s0 sq1 m
def bc_PD_readBlocks_L161 (r2 : Int32 → bp_M → Option bp_M) (N : Nat) (a1 : Int32) (x2 : Int32) (x4 : Int32) (m : bp_M) : Option bp_M :=
  bp_nN (m.2 3 6) fun q1 =>
  bp_g (isRO q1) <|
  if x4 = 0 then
    bc_PD_readBlocks_L188 r2 N a1 x2 x2 q1 m
  else
    bp_cI (bc_BR_flag N m) fun z3 m2 =>
    if z3 = 0 then
      bc_PD_readBlocks_L188 r2 N a1 x2 x2 q1 m2
    else
      bc_PD_readBlocks_L189 r2 N a1 x2 1 x2 q1 m2
def bc_PD_readBlocks_L87 (r2 : Int32 → bp_M → Option bp_M) (N : Nat) (a1 : Int32) (x2 : Int32) (x3 : Int32) (s0 : Int32) (m : bp_M) : Option bp_M :=
  bp_nN (m.2 3 6) fun q1 =>
  bp_g (isRO q1) <|
  bp_gi x2 16 <|
  if (m.1 (5 * q1 - 16) x2.toNatClampNeg) = 0 then
    bp_cI (bc_PD_readIntra N x2 m) fun z3 m2 =>
    bc_PD_readBlocks_L161 r2 N a1 x2 z3 m2
  else
    bp_cV (bc_PD_readInter N x2 x3 m) fun m4 =>
    bp_nN (m4.2 3 6) fun q5 =>
    bp_g (isRO q5) <|
    bp_gi x2 16 <|
    bp_gi (m4.1 (5 * q5 - 14) x2.toNatClampNeg) 4 <|
    bp_nN (m4.2 39 (m4.1 (5 * q5 - 14) x2.toNatClampNeg).toNatClampNeg) fun q6 =>
    bp_g (isPI q6) <|
    bp_nN (m4.2 3 6) fun q7 =>
    bp_g (isRO q7) <|
    bp_gi x2 16 <|
    bp_nN (m4.2 3 6) fun q8 =>
    bp_g (isRO q8) <|
    bp_gi x2 16 <|
    bp_cV (bc_MO_predict N q6 10 x2 (m4.1 (5 * q7 - 13) x2.toNatClampNeg) (m4.1 (5 * q8 - 12) x2.toNatClampNeg) m4) fun m9 =>
    bc_PD_readBlocks_L161 r2 N a1 x2 s0 m9
def bc_PD_readBlocks_L77 (r2 : Int32 → bp_M → Option bp_M) (N : Nat) (a1 : Int32) (x2 : Int32) (x3 : Int32) (s0 : Int32) (s1 : Int32) (sq2 : Nat) (m : bp_M) : Option bp_M :=
  bp_gi s1 16 <|
  bp_g ((s0 : Int32) = 0 ∨ (s0 : Int32) = 1) <|
  bp_nM (bp_sI m (5 * sq2 - 16) s1.toNatClampNeg s0) fun m1 =>
  if ¬ x3 = 0 then
    bc_PD_readBlocks_L87 r2 N a1 x2 x3 0 m1
  else
    bc_PD_readBlocks_L87 r2 N a1 x2 x3 1 m1
def bc_PD_readBlocks_L76 (r2 : Int32 → bp_M → Option bp_M) (N : Nat) (a1 : Int32) (x2 : Int32) (x3 : Int32) (s0 : Int32) (sq1 : Nat) (m : bp_M) : Option bp_M :=
  bc_PD_readBlocks_L77 r2 N a1 x2 x3 0 s0 sq1 m
def bc_PD_readBlocks_L72 (r2 : Int32 → bp_M → Option bp_M) (N : Nat) (a1 : Int32) (x2 : Int32) (x3 : Int32) (s0 : Int32) (sq1 : Nat) (m : bp_M) : Option bp_M :=
  bc_PD_readBlocks_L77 r2 N a1 x2 x3 1 s0 sq1 m
def bc_PD_readBlocks_L45 (r2 : Int32 → bp_M → Option bp_M) (N : Nat) (a1 : Int32) (x2 : Int32) (s0 : Int32) (m : bp_M) : Option bp_M :=
  bp_nN (m.2 3 6) fun q1 =>
  bp_g (isRO q1) <|
  if ¬ s0 = 0 then
    bc_PD_readBlocks_L72 r2 N a1 x2 s0 x2 q1 m
  else
    if ¬ a1 = 0 then
      bc_PD_readBlocks_L76 r2 N a1 x2 s0 x2 q1 m
    else
      bp_cI (bc_BR_flag N m) fun z3 m2 =>
      if ¬ z3 = 0 then
        bc_PD_readBlocks_L76 r2 N a1 x2 s0 x2 q1 m2
      else
        bc_PD_readBlocks_L72 r2 N a1 x2 s0 x2 q1 m2
def bc_PD_readBlocks_L44 (r2 : Int32 → bp_M → Option bp_M) (N : Nat) (a1 : Int32) (x2 : Int32) (m : bp_M) : Option bp_M :=
  bc_PD_readBlocks_L45 r2 N a1 x2 0 m
def bc_PD_readBlocks_L2 (N : Nat) (a1 : Int32) : Nat → Int32 → bp_M → Option bp_M
  | 0, _, _ => none
  | n + 1, x2, m =>
    if 16 ≤ x2 then
      bc_PD_readBlocks_L217 N a1 m
    else
      if ¬ (m.1 6 3) = 0 then
        bc_PD_readBlocks_L217 N a1 m
      else
        bp_nN (m.2 3 6) fun q1 =>
        bp_g (isRO q1) <|
        bp_cV (bc_RO_clearBlock N q1 x2 m) fun m2 =>
        if ¬ a1 = 0 then
          bc_PD_readBlocks_L44 (bc_PD_readBlocks_L2 N a1 n) N a1 x2 m2
        else
          bp_cI (bc_BR_flag N m2) fun z4 m3 =>
          if ¬ z4 = 0 then
            bc_PD_readBlocks_L44 (bc_PD_readBlocks_L2 N a1 n) N a1 x2 m3
          else
            bc_PD_readBlocks_L45 (bc_PD_readBlocks_L2 N a1 n) N a1 x2 1 m3
def bc_PD_readBlocks (N : Nat) (a1 : Int32) (m : bp_M) : Option bp_M :=
  bc_PD_readBlocks_L2 N a1 N 0 m
def bc_RO_strength_L108 (N : Nat) (o0 : Nat) (a1 : Int32) (a2 : Int32) (s0 : Int32) (m : bp_M) : Option (Int32 × bp_M) :=
  some (s0, m)
def bc_RO_strength_L98 (N : Nat) (o0 : Nat) (a1 : Int32) (a2 : Int32) (s0 : Int32) (m : bp_M) : Option (Int32 × bp_M) :=
  if s0 = 0 then
    bc_RO_strength_L108 N o0 a1 a2 0 m
  else
    bc_RO_strength_L108 N o0 a1 a2 1 m
def bc_RO_strength_L93 (N : Nat) (o0 : Nat) (a1 : Int32) (a2 : Int32) (m : bp_M) : Option (Int32 × bp_M) :=
  bc_RO_strength_L98 N o0 a1 a2 1 m
def bc_RO_strength_L18 (N : Nat) (o0 : Nat) (a1 : Int32) (a2 : Int32) (m : bp_M) : Option (Int32 × bp_M) :=
  some (2, m)
def bc_RO_strength (N : Nat) (o0 : Nat) (a1 : Int32) (a2 : Int32) (m : bp_M) : Option (Int32 × bp_M) :=
  bp_gi a1 16 <|
  if (m.1 (5 * o0 - 16) a1.toNatClampNeg) = 0 then
    bc_RO_strength_L18 N o0 a1 a2 m
  else
    bp_gi a2 16 <|
    if ¬ (m.1 (5 * o0 - 16) a2.toNatClampNeg) = 0 then
      bp_gi a1 16 <|
      if ¬ (m.1 (5 * o0 - 15) a1.toNatClampNeg) = 0 then
        bc_RO_strength_L93 N o0 a1 a2 m
      else
        bp_gi a2 16 <|
        if ¬ (m.1 (5 * o0 - 15) a2.toNatClampNeg) = 0 then
          bc_RO_strength_L93 N o0 a1 a2 m
        else
          bp_gi a1 16 <|
          bp_gi a2 16 <|
          if ¬ (m.1 (5 * o0 - 14) a1.toNatClampNeg) = (m.1 (5 * o0 - 14) a2.toNatClampNeg) then
            bc_RO_strength_L93 N o0 a1 a2 m
          else
            bp_gi a1 16 <|
            bp_gi a2 16 <|
            if 2 ≤ (if 0 ≤ ((m.1 (5 * o0 - 13) a1.toNatClampNeg) - (m.1 (5 * o0 - 13) a2.toNatClampNeg) : Int32) then ((m.1 (5 * o0 - 13) a1.toNatClampNeg) - (m.1 (5 * o0 - 13) a2.toNatClampNeg) : Int32) else 0 - ((m.1 (5 * o0 - 13) a1.toNatClampNeg) - (m.1 (5 * o0 - 13) a2.toNatClampNeg) : Int32)) then
              bc_RO_strength_L93 N o0 a1 a2 m
            else
              bp_gi a1 16 <|
              bp_gi a2 16 <|
              if (if 0 ≤ ((m.1 (5 * o0 - 12) a1.toNatClampNeg) - (m.1 (5 * o0 - 12) a2.toNatClampNeg) : Int32) then ((m.1 (5 * o0 - 12) a1.toNatClampNeg) - (m.1 (5 * o0 - 12) a2.toNatClampNeg) : Int32) else 0 - ((m.1 (5 * o0 - 12) a1.toNatClampNeg) - (m.1 (5 * o0 - 12) a2.toNatClampNeg) : Int32)) < 2 then
                bc_RO_strength_L98 N o0 a1 a2 0 m
              else
                bc_RO_strength_L93 N o0 a1 a2 m
    else
      bc_RO_strength_L18 N o0 a1 a2 m
def bc_EF_smoothLine_L178 (N : Nat) (a0 : Nat) (a1 : Int32) (a2 : Int32) (a3 : Int32) (a4 : Int32) (s0 : Int32) (m : bp_M) : Option (Int32 × bp_M) :=
  bp_g ((s0 : Int32) = 0 ∨ (s0 : Int32) = 1) <|
  some (s0, m)
def bc_EF_smoothLine_L173 (N : Nat) (a0 : Nat) (a1 : Int32) (a2 : Int32) (a3 : Int32) (a4 : Int32) (m : bp_M) : Option (Int32 × bp_M) :=
  bc_EF_smoothLine_L178 N a0 a1 a2 a3 a4 1 m
def bc_EF_smoothLine_L80 (N : Nat) (a0 : Nat) (a1 : Int32) (a2 : Int32) (a3 : Int32) (a4 : Int32) (x5 : Int32) (x6 : Int32) (x7 : Int32) (x8 : Int32) (s0 : Int32) (m : bp_M) : Option (Int32 × bp_M) :=
  if ¬ s0 = 0 then
    bp_nI (a3 + (a4 / 3 : Int32) : Int32) fun y1 =>
    bp_nI (((((4 * (x7 - x6 : Int32) : Int32) + x5 : Int32) - x8 : Int32) + 4 : Int32) >>> (3 &&& 31 : Int32) : Int32) fun y2 =>
    bp_nI (if (-y1 : Int32) < (if y2 < y1 then y2 else y1) then (if y2 < y1 then y2 else y1) else (-y1 : Int32)) fun y3 =>
    bp_cI (bc_BP_limit N (x6 + y3 : Int32) m) fun z5 m4 =>
    bp_g (bc_isI a0 = true) <|
    bp_gi (a1 - a2 : Int32) (bc_len a0) <|
    bp_nM (bp_sI m4 a0 (a1 - a2 : Int32).toNatClampNeg z5) fun m6 =>
    bp_cI (bc_BP_limit N (x7 - y3 : Int32) m6) fun z8 m7 =>
    bp_g (bc_isI a0 = true) <|
    bp_gi a1 (bc_len a0) <|
    bp_nM (bp_sI m7 a0 a1.toNatClampNeg z8) fun m9 =>
    bp_g (bc_isI a0 = true) <|
    bp_gi (a1 - a2 : Int32) (bc_len a0) <|
    if ¬ (m9.1 a0 (a1 - a2 : Int32).toNatClampNeg) = x6 then
      bc_EF_smoothLine_L173 N a0 a1 a2 a3 a4 m9
    else
      bp_g (bc_isI a0 = true) <|
      bp_gi a1 (bc_len a0) <|
      if (m9.1 a0 a1.toNatClampNeg) = x7 then
        bc_EF_smoothLine_L178 N a0 a1 a2 a3 a4 0 m9
      else
        bc_EF_smoothLine_L173 N a0 a1 a2 a3 a4 m9
  else
    bp_g ((0 : Int32) = 0 ∨ (0 : Int32) = 1) <|
    some (0, m)
def bc_EF_smoothLine_L79 (N : Nat) (a0 : Nat) (a1 : Int32) (a2 : Int32) (a3 : Int32) (a4 : Int32) (x5 : Int32) (x6 : Int32) (x7 : Int32) (x8 : Int32) (m : bp_M) : Option (Int32 × bp_M) :=
  bc_EF_smoothLine_L80 N a0 a1 a2 a3 a4 x5 x6 x7 x8 0 m
def bc_EF_smoothLine (N : Nat) (a0 : Nat) (a1 : Int32) (a2 : Int32) (a3 : Int32) (a4 : Int32) (m : bp_M) : Option (Int32 × bp_M) :=
  bp_g (bc_isI a0 = true) <|
  bp_gi (a1 - (2 * a2 : Int32) : Int32) (bc_len a0) <|
  bp_nI (m.1 a0 (a1 - (2 * a2 : Int32) : Int32).toNatClampNeg) fun y1 =>
  bp_g (bc_isI a0 = true) <|
  bp_gi (a1 - a2 : Int32) (bc_len a0) <|
  bp_nI (m.1 a0 (a1 - a2 : Int32).toNatClampNeg) fun y2 =>
  bp_g (bc_isI a0 = true) <|
  bp_gi a1 (bc_len a0) <|
  bp_nI (m.1 a0 a1.toNatClampNeg) fun y3 =>
  bp_g (bc_isI a0 = true) <|
  bp_gi (a1 + a2 : Int32) (bc_len a0) <|
  bp_nI (m.1 a0 (a1 + a2 : Int32).toNatClampNeg) fun y4 =>
  if (4 + (3 * a4 : Int32) : Int32) ≤ (if 0 ≤ (y2 - y3 : Int32) then (y2 - y3 : Int32) else 0 - (y2 - y3 : Int32)) then
    bc_EF_smoothLine_L79 N a0 a1 a2 a3 a4 y1 y2 y3 y4 m
  else
    if (2 + a4 : Int32) ≤ (if 0 ≤ (y1 - y2 : Int32) then (y1 - y2 : Int32) else 0 - (y1 - y2 : Int32)) then
      bc_EF_smoothLine_L79 N a0 a1 a2 a3 a4 y1 y2 y3 y4 m
    else
      if (2 + a4 : Int32) ≤ (if 0 ≤ (y4 - y3 : Int32) then (y4 - y3 : Int32) else 0 - (y4 - y3 : Int32)) then
        bc_EF_smoothLine_L79 N a0 a1 a2 a3 a4 y1 y2 y3 y4 m
      else
        bc_EF_smoothLine_L80 N a0 a1 a2 a3 a4 y1 y2 y3 y4 1 m
def bc_EF_smooth_L177 (N : Nat) (a0 : Nat) (a1 : Nat) (a2 : Int32) (x3 : Int32) (m : bp_M) : Option (Int32 × bp_M) :=
  some (x3, m)
def bc_EF_smooth_L171 (r5 : Int32 → Int32 → bp_M → Option (Int32 × bp_M)) (N : Nat) (a0 : Nat) (a1 : Nat) (a2 : Int32) (x3 : Int32) (x4 : Int32) (m : bp_M) : Option (Int32 × bp_M) :=
  bp_nI (x4 + 1) fun y1 =>
  r5 x3 y1 m
def bc_EF_smooth_L165 (r5 : Int32 → Int32 → bp_M → Option (Int32 × bp_M)) (r127 : Int32 → Int32 → Int32 → Int32 → Int32 → Int32 → Int32 → bp_M → Option (Int32 × bp_M)) (N : Nat) (a0 : Nat) (a1 : Nat) (a2 : Int32) (x3 : Int32) (x4 : Int32) (x5 : Int32) (x8 : Int32) (x9 : Int32) (x10 : Int32) (x11 : Int32) (m : bp_M) : Option (Int32 × bp_M) :=
  bp_nI (x11 + 1) fun y1 =>
  r127 x3 x4 x5 x8 x9 x10 y1 m
def bc_EF_smooth_L127 (r5 : Int32 → Int32 → bp_M → Option (Int32 × bp_M)) (N : Nat) (a0 : Nat) (a1 : Nat) (a2 : Int32) : Nat → Int32 → Int32 → Int32 → Int32 → Int32 → Int32 → Int32 → bp_M → Option (Int32 × bp_M)
  | 0, _, _, _, _, _, _, _, _ => none
  | n + 1, x3, x4, x5, x8, x9, x10, x11, m =>
    if 4 ≤ x11 then
      bc_EF_smooth_L171 r5 N a0 a1 a2 x3 x4 m
    else
      if x8 ≤ 0 then
        bc_EF_smooth_L171 r5 N a0 a1 a2 x3 x4 m
      else
        bp_cI (bc_BP_sampleNumber N x5 0 m) fun z2 m1 =>
        bp_cI (bc_EF_smoothLine N a0 (z2 + (x11 * x10 : Int32) : Int32) x9 x8 a2 m1) fun z4 m3 =>
        if z4 = 0 then
          bc_EF_smooth_L165 r5 (bc_EF_smooth_L127 r5 N a0 a1 a2 n) N a0 a1 a2 x3 x4 x5 x8 x9 x10 x11 m3
        else
          bp_nI (x3 + 1) fun y5 =>
          bc_EF_smooth_L165 r5 (bc_EF_smooth_L127 r5 N a0 a1 a2 n) N a0 a1 a2 y5 x4 x5 x8 x9 x10 x11 m3
def bc_EF_smooth_L122 (r5 : Int32 → Int32 → bp_M → Option (Int32 × bp_M)) (N : Nat) (a0 : Nat) (a1 : Nat) (a2 : Int32) (x3 : Int32) (x4 : Int32) (x5 : Int32) (x8 : Int32) (x9 : Int32) (s0 : Int32) (m : bp_M) : Option (Int32 × bp_M) :=
  bc_EF_smooth_L127 r5 N a0 a1 a2 N x3 x4 x5 x8 x9 s0 0 m
def bc_EF_smooth_L109 (r5 : Int32 → Int32 → bp_M → Option (Int32 × bp_M)) (N : Nat) (a0 : Nat) (a1 : Nat) (a2 : Int32) (x3 : Int32) (x4 : Int32) (x5 : Int32) (x6 : Int32) (x8 : Int32) (s0 : Int32) (m : bp_M) : Option (Int32 × bp_M) :=
  if x6 = 0 then
    bc_EF_smooth_L122 r5 N a0 a1 a2 x3 x4 x5 x8 s0 1 m
  else
    bc_EF_smooth_L122 r5 N a0 a1 a2 x3 x4 x5 x8 s0 16 m
def bc_EF_smooth_L96 (r5 : Int32 → Int32 → bp_M → Option (Int32 × bp_M)) (N : Nat) (a0 : Nat) (a1 : Nat) (a2 : Int32) (x3 : Int32) (x4 : Int32) (x5 : Int32) (x6 : Int32) (s0 : Int32) (m : bp_M) : Option (Int32 × bp_M) :=
  if x6 = 0 then
    bc_EF_smooth_L109 r5 N a0 a1 a2 x3 x4 x5 x6 s0 16 m
  else
    bc_EF_smooth_L109 r5 N a0 a1 a2 x3 x4 x5 x6 s0 1 m
def bc_EF_smooth_L87 (r5 : Int32 → Int32 → bp_M → Option (Int32 × bp_M)) (N : Nat) (a0 : Nat) (a1 : Nat) (a2 : Int32) (x3 : Int32) (x4 : Int32) (x5 : Int32) (x6 : Int32) (s0 : Int32) (m : bp_M) : Option (Int32 × bp_M) :=
  bp_cI (bc_RO_strength N a1 s0 x5 m) fun z2 m1 =>
  bc_EF_smooth_L96 r5 N a0 a1 a2 x3 x4 x5 x6 z2 m1
def bc_EF_smooth_L63 (r5 : Int32 → Int32 → bp_M → Option (Int32 × bp_M)) (N : Nat) (a0 : Nat) (a1 : Nat) (a2 : Int32) (x3 : Int32) (x4 : Int32) (x5 : Int32) (x6 : Int32) (s0 : Int32) (m : bp_M) : Option (Int32 × bp_M) :=
  if s0 = 0 then
    bc_EF_smooth_L96 r5 N a0 a1 a2 x3 x4 x5 x6 0 m
  else
    if x6 = 0 then
      bc_EF_smooth_L87 r5 N a0 a1 a2 x3 x4 x5 x6 (x5 - 4 : Int32) m
    else
      bc_EF_smooth_L87 r5 N a0 a1 a2 x3 x4 x5 x6 (x5 - 1 : Int32) m
def bc_EF_smooth_L30 (r5 : Int32 → Int32 → bp_M → Option (Int32 × bp_M)) (N : Nat) (a0 : Nat) (a1 : Nat) (a2 : Int32) (x3 : Int32) (x4 : Int32) (x5 : Int32) (s0 : Int32) (m : bp_M) : Option (Int32 × bp_M) :=
  if s0 = 0 then
    if x5 < 4 then
      bc_EF_smooth_L63 r5 N a0 a1 a2 x3 x4 x5 s0 0 m
    else
      bc_EF_smooth_L63 r5 N a0 a1 a2 x3 x4 x5 s0 1 m
  else
    if (x5 - x5 / 4 * 4 : Int32) ≤ 0 then
      bc_EF_smooth_L63 r5 N a0 a1 a2 x3 x4 x5 s0 0 m
    else
      bc_EF_smooth_L63 r5 N a0 a1 a2 x3 x4 x5 s0 1 m
def bc_EF_smooth_L5 (N : Nat) (a0 : Nat) (a1 : Nat) (a2 : Int32) : Nat → Int32 → Int32 → bp_M → Option (Int32 × bp_M)
  | 0, _, _, _ => none
  | n + 1, x3, x4, m =>
    if 32 ≤ x4 then
      bc_EF_smooth_L177 N a0 a1 a2 x3 m
    else
      bp_nI (x4 / 2 : Int32) fun y1 =>
      if ¬ (x4 - x4 / 2 * 2 : Int32) = 0 then
        bc_EF_smooth_L30 (bc_EF_smooth_L5 N a0 a1 a2 n) N a0 a1 a2 x3 x4 y1 0 m
      else
        bc_EF_smooth_L30 (bc_EF_smooth_L5 N a0 a1 a2 n) N a0 a1 a2 x3 x4 y1 1 m
def bc_EF_smooth (N : Nat) (a0 : Nat) (a1 : Nat) (a2 : Int32) (m : bp_M) : Option (Int32 × bp_M) :=
  bc_EF_smooth_L5 N a0 a1 a2 N 0 0 m
def bc_PD_finish (N : Nat)  (m : bp_M) : Option bp_M :=
  bp_nN (m.2 3 6) fun q1 =>
  bp_g (isRO q1) <|
  bp_nN (m.2 3 6) fun q2 =>
  bp_g (isRO q2) <|
  bp_cI (bc_EF_smooth N 34 q2 (m.1 3 10) m) fun z4 m3 =>
  bp_nM (bp_sI m3 q1 5 z4) fun m5 =>
  bp_nN (m5.2 3 2) fun q6 =>
  bp_g (isRO q6) <|
  bp_nN (m5.2 3 6) fun q7 =>
  bp_g (isRO q7) <|
  bp_nM (bp_sR m5 3 2 q7) fun m8 =>
  bp_nM (bp_sR m8 3 6 q6) fun m9 =>
  some m9
def bc_PA_takePending_L33 (N : Nat) (m : bp_M) : Option bp_M :=
  some m
def bc_PA_takePending (N : Nat)  (m : bp_M) : Option bp_M :=
  if (m.1 2 0) = 0 then
    bc_PA_takePending_L33 N m
  else
    bp_nM (bp_sI m 2 4 (m.1 2 1)) fun m1 =>
    bp_nM (bp_sI m1 2 5 (m1.1 2 2)) fun m2 =>
    bp_g ((1 : Int32) = 0 ∨ (1 : Int32) = 1) <|
    bp_nM (bp_sI m2 2 3 1) fun m3 =>
    bp_g ((0 : Int32) = 0 ∨ (0 : Int32) = 1) <|
    bp_nM (bp_sI m3 2 0 0) fun m4 =>
    bc_PA_takePending_L33 N m4
def bc_PB_leastWaiting_L58 (N : Nat) (x1 : Int32) (m : bp_M) : Option (Int32 × bp_M) :=
  some (x1, m)
def bc_PB_leastWaiting_L52 (r4 : Int32 → Int32 → bp_M → Option (Int32 × bp_M)) (N : Nat) (x1 : Int32) (x2 : Int32) (m : bp_M) : Option (Int32 × bp_M) :=
  bp_nI (x2 + 1) fun y1 =>
  r4 x1 y1 m
def bc_PB_leastWaiting_L50 (r4 : Int32 → Int32 → bp_M → Option (Int32 × bp_M)) (N : Nat) (x2 : Int32) (m : bp_M) : Option (Int32 × bp_M) :=
  bc_PB_leastWaiting_L52 r4 N x2 x2 m
def bc_PB_leastWaiting_L4 (N : Nat) : Nat → Int32 → Int32 → bp_M → Option (Int32 × bp_M)
  | 0, _, _, _ => none
  | n + 1, x1, x2, m =>
    if (m.1 4 1) ≤ x2 then
      bc_PB_leastWaiting_L58 N x1 m
    else
      bp_gi x2 4 <|
      bp_nN (m.2 40 x2.toNatClampNeg) fun q1 =>
      bp_g (isPI q1) <|
      if (m.1 q1 3) = 0 then
        bc_PB_leastWaiting_L52 (bc_PB_leastWaiting_L4 N n) N x1 x2 m
      else
        if x1 = (-1) then
          bc_PB_leastWaiting_L50 (bc_PB_leastWaiting_L4 N n) N x2 m
        else
          bp_gi x2 4 <|
          bp_nN (m.2 40 x2.toNatClampNeg) fun q2 =>
          bp_g (isPI q2) <|
          bp_gi x1 4 <|
          bp_nN (m.2 40 x1.toNatClampNeg) fun q3 =>
          bp_g (isPI q3) <|
          if (m.1 q3 1) ≤ (m.1 q2 1) then
            bc_PB_leastWaiting_L52 (bc_PB_leastWaiting_L4 N n) N x1 x2 m
          else
            bc_PB_leastWaiting_L50 (bc_PB_leastWaiting_L4 N n) N x2 m
def bc_PB_leastWaiting (N : Nat)  (m : bp_M) : Option (Int32 × bp_M) :=
  bc_PB_leastWaiting_L4 N N (-1) 0 m
def bc_PB_show (N : Nat) (a1 : Nat) (m : bp_M) : Option bp_M :=
  bp_g (bp_cp 0 0 256 256 256) <|
  bp_nM (bp_sC m (a1 + 24) 20 (0 : Int32).toNatClampNeg (0 : Int32).toNatClampNeg (256 : Int32).toNatClampNeg) fun m1 =>
  bp_gi ((m1.1 4 5) - (m1.1 4 5) / 8 * 8 : Int32) 8 <|
  bp_nM (bp_sI m1 21 ((m1.1 4 5) - (m1.1 4 5) / 8 * 8 : Int32).toNatClampNeg (m1.1 a1 1)) fun m2 =>
  bp_nM (bp_sI m2 4 5 ((m2.1 4 5) + 1 : Int32)) fun m3 =>
  some m3
def bc_PB_showLeast_L30 (N : Nat) (m : bp_M) : Option bp_M :=
  some m
def bc_PB_showLeast (N : Nat)  (m : bp_M) : Option bp_M :=
  bp_cI (bc_PB_leastWaiting N m) fun z2 m1 =>
  if z2 = (-1) then
    bc_PB_showLeast_L30 N m1
  else
    bp_gi z2 4 <|
    bp_nN (m1.2 40 z2.toNatClampNeg) fun q3 =>
    bp_g (isPI q3) <|
    bp_cV (bc_PB_show N q3 m1) fun m4 =>
    bp_gi z2 4 <|
    bp_nN (m4.2 40 z2.toNatClampNeg) fun q5 =>
    bp_g (isPI q5) <|
    bp_g ((0 : Int32) = 0 ∨ (0 : Int32) = 1) <|
    bp_nM (bp_sI m4 q5 3 0) fun m6 =>
    bc_PB_showLeast_L30 N m6
def bc_PB_showAll_L17 (N : Nat) (m : bp_M) : Option bp_M :=
  bp_nM (bp_sI m 4 1 0) fun m1 =>
  some m1
def bc_PB_showAll_L2 (N : Nat) : Nat → Int32 → bp_M → Option bp_M
  | 0, _, _ => none
  | n + 1, x1, m =>
    if 4 ≤ x1 then
      bc_PB_showAll_L17 N m
    else
      bp_cV (bc_PB_showLeast N m) fun m1 =>
      bp_nI (x1 + 1) fun y2 =>
      bc_PB_showAll_L2 N n y2 m1
def bc_PB_showAll (N : Nat)  (m : bp_M) : Option bp_M :=
  bc_PB_showAll_L2 N N 0 m
def bc_PB_release_L53 (N : Nat) (a1 : Int32) (m : bp_M) : Option bp_M :=
  some m
def bc_PB_release_L47 (r9 : Int32 → Int32 → bp_M → Option bp_M) (N : Nat) (a1 : Int32) (x2 : Int32) (x3 : Int32) (m : bp_M) : Option bp_M :=
  bp_nI (x3 + (-1)) fun y1 =>
  r9 x2 y1 m
def bc_PB_release_L41 (r9 : Int32 → Int32 → bp_M → Option bp_M) (N : Nat) (a1 : Int32) (x2 : Int32) (x3 : Int32) (s0 : Int32) (sq1 : Nat) (m : bp_M) : Option bp_M :=
  bp_g ((s0 : Int32) = 0 ∨ (s0 : Int32) = 1) <|
  bp_nM (bp_sI m sq1 2 s0) fun m1 =>
  bp_nI (x2 + 1) fun y2 =>
  bc_PB_release_L47 r9 N a1 y2 x3 m1
def bc_PB_release_L9 (N : Nat) (a1 : Int32) : Nat → Int32 → Int32 → bp_M → Option bp_M
  | 0, _, _, _ => none
  | n + 1, x2, x3, m =>
    if x3 < 0 then
      bc_PB_release_L53 N a1 m
    else
      bp_gi x3 4 <|
      bp_nN (m.2 40 x3.toNatClampNeg) fun q1 =>
      bp_g (isPI q1) <|
      if (m.1 q1 2) = 0 then
        bc_PB_release_L47 (bc_PB_release_L9 N a1 n) N a1 x2 x3 m
      else
        bp_gi x3 4 <|
        bp_nN (m.2 40 x3.toNatClampNeg) fun q2 =>
        bp_g (isPI q2) <|
        if x2 = a1 then
          bc_PB_release_L41 (bc_PB_release_L9 N a1 n) N a1 x2 x3 0 q2 m
        else
          bc_PB_release_L41 (bc_PB_release_L9 N a1 n) N a1 x2 x3 1 q2 m
def bc_PB_release (N : Nat) (a1 : Int32) (m : bp_M) : Option bp_M :=
  bp_nI ((m.1 4 1) - 1 : Int32) fun y1 =>
  bc_PB_release_L9 N a1 N 0 y1 m
def bc_PB_makeRoomForReference_L61 (N : Nat) (m : bp_M) : Option bp_M :=
  some m
def bc_PB_makeRoomForReference_L38 (N : Nat) (x1 : Int32) (x2 : Int32) (m : bp_M) : Option bp_M :=
  if x1 = (-1) then
    bc_PB_makeRoomForReference_L61 N m
  else
    if x2 < (m.1 4 2) then
      bc_PB_makeRoomForReference_L61 N m
    else
      bp_gi x1 4 <|
      bp_nN (m.2 40 x1.toNatClampNeg) fun q1 =>
      bp_g (isPI q1) <|
      bp_g ((0 : Int32) = 0 ∨ (0 : Int32) = 1) <|
      bp_nM (bp_sI m q1 2 0) fun m2 =>
      bc_PB_makeRoomForReference_L61 N m2
def bc_PB_makeRoomForReference_L32 (r11 : Int32 → Int32 → Int32 → bp_M → Option bp_M) (N : Nat) (x1 : Int32) (x2 : Int32) (x3 : Int32) (m : bp_M) : Option bp_M :=
  bp_nI (x3 + (-1)) fun y1 =>
  r11 x1 x2 y1 m
def bc_PB_makeRoomForReference_L11 (N : Nat) : Nat → Int32 → Int32 → Int32 → bp_M → Option bp_M
  | 0, _, _, _, _ => none
  | n + 1, x1, x2, x3, m =>
    if x3 < 0 then
      bc_PB_makeRoomForReference_L38 N x1 x2 m
    else
      bp_gi x3 4 <|
      bp_nN (m.2 40 x3.toNatClampNeg) fun q1 =>
      bp_g (isPI q1) <|
      if (m.1 q1 2) = 0 then
        bc_PB_makeRoomForReference_L32 (bc_PB_makeRoomForReference_L11 N n) N x1 x2 x3 m
      else
        bp_nI (x2 + 1) fun y2 =>
        bc_PB_makeRoomForReference_L32 (bc_PB_makeRoomForReference_L11 N n) N x3 y2 x3 m
def bc_PB_makeRoomForReference (N : Nat)  (m : bp_M) : Option bp_M :=
  bp_nI ((m.1 4 1) - 1 : Int32) fun y1 =>
  bc_PB_makeRoomForReference_L11 N N (-1) 0 y1 m
def bc_PB_sweep_L61 (N : Nat) (x1 : Int32) (m : bp_M) : Option bp_M :=
  bp_nM (bp_sI m 4 1 x1) fun m1 =>
  some m1
def bc_PB_sweep_L55 (r4 : Int32 → Int32 → bp_M → Option bp_M) (N : Nat) (x1 : Int32) (x2 : Int32) (m : bp_M) : Option bp_M :=
  bp_nI (x2 + 1) fun y1 =>
  r4 x1 y1 m
def bc_PB_sweep_L33 (r4 : Int32 → Int32 → bp_M → Option bp_M) (N : Nat) (x1 : Int32) (x2 : Int32) (ql3 : Nat) (m : bp_M) : Option bp_M :=
  bp_gi x1 4 <|
  bp_nN (m.2 40 x1.toNatClampNeg) fun q1 =>
  bp_g (isPI q1) <|
  bp_gi x2 4 <|
  bp_nM (bp_sR m 40 x2.toNatClampNeg q1) fun m2 =>
  bp_gi x1 4 <|
  bp_nM (bp_sR m2 40 x1.toNatClampNeg ql3) fun m3 =>
  bp_nI (x1 + 1) fun y4 =>
  bc_PB_sweep_L55 r4 N y4 x2 m3
def bc_PB_sweep_L4 (N : Nat) : Nat → Int32 → Int32 → bp_M → Option bp_M
  | 0, _, _, _ => none
  | n + 1, x1, x2, m =>
    if (m.1 4 1) ≤ x2 then
      bc_PB_sweep_L61 N x1 m
    else
      bp_gi x2 4 <|
      bp_nN (m.2 40 x2.toNatClampNeg) fun q1 =>
      bp_g (isPI q1) <|
      if ¬ (m.1 q1 2) = 0 then
        bc_PB_sweep_L33 (bc_PB_sweep_L4 N n) N x1 x2 q1 m
      else
        if (m.1 q1 3) = 0 then
          bc_PB_sweep_L55 (bc_PB_sweep_L4 N n) N x1 x2 m
        else
          bc_PB_sweep_L33 (bc_PB_sweep_L4 N n) N x1 x2 q1 m
def bc_PB_sweep (N : Nat)  (m : bp_M) : Option bp_M :=
  bc_PB_sweep_L4 N N 0 0 m
def bc_PI_copy (N : Nat) (o0 : Nat) (a1 : Nat) (m : bp_M) : Option bp_M :=
  bp_g (bp_cp 0 0 256 256 256) <|
  bp_nM (bp_sC m (a1 + 24) (o0 + 24) (0 : Int32).toNatClampNeg (0 : Int32).toNatClampNeg (256 : Int32).toNatClampNeg) fun m1 =>
  bp_nM (bp_sI m1 o0 1 (m1.1 a1 1)) fun m2 =>
  bp_g (((m2.1 a1 2) : Int32) = 0 ∨ ((m2.1 a1 2) : Int32) = 1) <|
  bp_nM (bp_sI m2 o0 2 (m2.1 a1 2)) fun m3 =>
  bp_g (((m3.1 a1 3) : Int32) = 0 ∨ ((m3.1 a1 3) : Int32) = 1) <|
  bp_nM (bp_sI m3 o0 3 (m3.1 a1 3)) fun m4 =>
  some m4
def bc_PB_admit_L142 (N : Nat) (a1 : Nat) (m : bp_M) : Option bp_M :=
  some m
def bc_PB_admit_L107 (N : Nat) (a1 : Nat) (x2 : Int32) (m : bp_M) : Option bp_M :=
  if ¬ x2 = 0 then
    bc_PB_admit_L142 N a1 m
  else
    if 4 ≤ (m.1 4 1) then
      bc_PB_admit_L142 N a1 m
    else
      bp_gi (m.1 4 1) 4 <|
      bp_nN (m.2 40 (m.1 4 1).toNatClampNeg) fun q1 =>
      bp_g (isPI q1) <|
      bp_cV (bc_PI_copy N q1 a1 m) fun m2 =>
      bp_nM (bp_sI m2 4 1 ((m2.1 4 1) + 1 : Int32)) fun m3 =>
      bc_PB_admit_L142 N a1 m3
def bc_PB_admit_L101 (r19 : Int32 → Int32 → bp_M → Option bp_M) (N : Nat) (a1 : Nat) (x2 : Int32) (x3 : Int32) (m : bp_M) : Option bp_M :=
  bp_nI (x3 + 1) fun y1 =>
  r19 x2 y1 m
def bc_PB_admit_L80 (r19 : Int32 → Int32 → bp_M → Option bp_M) (N : Nat) (a1 : Nat) (x3 : Int32) (s0 : Int32) (m : bp_M) : Option bp_M :=
  if s0 = 0 then
    bp_cV (bc_PB_showLeast N m) fun m1 =>
    bp_cV (bc_PB_sweep N m1) fun m2 =>
    bc_PB_admit_L101 r19 N a1 s0 x3 m2
  else
    bp_cV (bc_PB_show N a1 m) fun m3 =>
    bc_PB_admit_L101 r19 N a1 s0 x3 m3
def bc_PB_admit_L79 (r19 : Int32 → Int32 → bp_M → Option bp_M) (N : Nat) (a1 : Nat) (x3 : Int32) (m : bp_M) : Option bp_M :=
  bc_PB_admit_L80 r19 N a1 x3 0 m
def bc_PB_admit_L75 (r19 : Int32 → Int32 → bp_M → Option bp_M) (N : Nat) (a1 : Nat) (x3 : Int32) (m : bp_M) : Option bp_M :=
  bc_PB_admit_L80 r19 N a1 x3 1 m
def bc_PB_admit_L19 (N : Nat) (a1 : Nat) : Nat → Int32 → Int32 → bp_M → Option bp_M
  | 0, _, _, _ => none
  | n + 1, x2, x3, m =>
    if 4 < x3 then
      bc_PB_admit_L107 N a1 x2 m
    else
      if (m.1 4 1) < (m.1 4 2) then
        bc_PB_admit_L107 N a1 x2 m
      else
        if ¬ x2 = 0 then
          bc_PB_admit_L107 N a1 x2 m
        else
          bp_cI (bc_PB_leastWaiting N m) fun z2 m1 =>
          if ¬ (m1.1 a1 2) = 0 then
            bc_PB_admit_L79 (bc_PB_admit_L19 N a1 n) N a1 x3 m1
          else
            if z2 = (-1) then
              bc_PB_admit_L75 (bc_PB_admit_L19 N a1 n) N a1 x3 m1
            else
              bp_gi z2 4 <|
              bp_nN (m1.2 40 z2.toNatClampNeg) fun q3 =>
              bp_g (isPI q3) <|
              if (m1.1 q3 1) ≤ (m1.1 a1 1) then
                bc_PB_admit_L79 (bc_PB_admit_L19 N a1 n) N a1 x3 m1
              else
                bc_PB_admit_L75 (bc_PB_admit_L19 N a1 n) N a1 x3 m1
def bc_PB_admit_L11 (N : Nat) (a1 : Nat) (m : bp_M) : Option bp_M :=
  bp_cV (bc_PB_sweep N m) fun m1 =>
  bc_PB_admit_L19 N a1 N 0 0 m1
def bc_PB_admit (N : Nat) (a1 : Nat) (m : bp_M) : Option bp_M :=
  if (m.1 a1 2) = 0 then
    bc_PB_admit_L11 N a1 m
  else
    bp_cV (bc_PB_makeRoomForReference N m) fun m1 =>
    bc_PB_admit_L11 N a1 m1
def bc_BP_takePicture_L182 (N : Nat) (a1 : Int32) (a2 : Int32) (m : bp_M) : Option bp_M :=
  bp_cV (bc_PB_admit N 10 m) fun m1 =>
  some m1
def bc_BP_takePicture_L118 (N : Nat) (a1 : Int32) (a2 : Int32) (m : bp_M) : Option bp_M :=
  if (m.1 6 3) = 0 then
    bp_cV (bc_PD_finish N m) fun m1 =>
    if a1 = 0 then
      bp_cV (bc_PB_release N (m1.1 3 5) m1) fun m2 =>
      bc_BP_takePicture_L182 N a1 a2 m2
    else
      bp_cV (bc_PA_takePending N m1) fun m3 =>
      bp_cV (bc_PB_showAll N m3) fun m4 =>
      bp_nM (bp_sI m4 4 2 (m4.1 2 4)) fun m5 =>
      bc_BP_takePicture_L182 N a1 a2 m5
  else
    some m
def bc_BP_takePicture_L82 (N : Nat) (a1 : Int32) (a2 : Int32) (m : bp_M) : Option bp_M :=
  if ¬ (m.1 6 3) = 0 then
    bc_BP_takePicture_L118 N a1 a2 m
  else
    bp_cI (bc_PA_baseFor N a1 m) fun z2 m1 =>
    bp_cV (bc_PD_readHeader N a1 a2 z2 m1) fun m3 =>
    bp_cV (bc_PD_readBlocks N a1 m3) fun m4 =>
    bp_cV (bc_BR_needEnd N m4) fun m5 =>
    bc_BP_takePicture_L118 N a1 a2 m5
def bc_BP_takePicture_L62 (N : Nat) (a1 : Int32) (a2 : Int32) (m : bp_M) : Option bp_M :=
  if ¬ a1 = 0 then
    bc_BP_takePicture_L82 N a1 a2 m
  else
    if ¬ (m.1 3 4) = 0 then
      bc_BP_takePicture_L82 N a1 a2 m
    else
      bp_cV (bc_BR_fail N 8 m) fun m1 =>
      bc_BP_takePicture_L82 N a1 a2 m1
def bc_BP_takePicture (N : Nat) (a1 : Int32) (a2 : Int32) (m : bp_M) : Option bp_M :=
  bp_cI (bc_PB_listReferences N m) fun z2 m1 =>
  bp_nM (bp_sI m1 3 4 z2) fun m3 =>
  if a1 = 0 then
    bc_BP_takePicture_L62 N a1 a2 m3
  else
    if ¬ (m3.1 2 0) = 0 then
      bc_BP_takePicture_L62 N a1 a2 m3
    else
      if ¬ (m3.1 2 3) = 0 then
        bc_BP_takePicture_L62 N a1 a2 m3
      else
        bp_cV (bc_BR_fail N 7 m3) fun m4 =>
        bc_BP_takePicture_L82 N a1 a2 m4
def bc_BP_workThrough_L134 (N : Nat) (m : bp_M) : Option bp_M :=
  some m
def bc_BP_workThrough_L109 (N : Nat) (m : bp_M) : Option bp_M :=
  bp_nM (bp_sI m 0 5 (m.1 6 3)) fun m1 =>
  if ¬ (m1.1 0 5) = 0 then
    bc_BP_workThrough_L134 N m1
  else
    bp_nM (bp_sI m1 0 6 ((m1.1 0 6) + 1 : Int32)) fun m2 =>
    bc_BP_workThrough_L134 N m2
def bc_BP_workThrough_L101 (N : Nat) (x1 : Int32) (s0 : Int32) (m : bp_M) : Option bp_M :=
  bp_cV (bc_BP_takePicture N s0 ((x1 >>> (5 &&& 31 : Int32) : Int32) &&& 3 : Int32) m) fun m1 =>
  bc_BP_workThrough_L109 N m1
def bc_BP_workThrough_L86 (N : Nat) (x1 : Int32) (x2 : Int32) (m : bp_M) : Option bp_M :=
  bp_cV (bc_BR_needMark N m) fun m1 =>
  if ¬ x2 = 5 then
    bc_BP_workThrough_L101 N x1 0 m1
  else
    bc_BP_workThrough_L101 N x1 1 m1
def bc_BP_workThrough (N : Nat)  (m : bp_M) : Option bp_M :=
  bp_gi 0 320 <|
  bp_nI (m.1 15 (0 : Int32).toNatClampNeg) fun y1 =>
  bp_nI (y1 &&& 31 : Int32) fun y2 =>
  bp_cV (bc_BR_open N 15 (m.1 1 2) m) fun m3 =>
  if y1 ≤ 127 then
    if ¬ y2 = 7 then
      if y2 = 5 then
        bc_BP_workThrough_L86 N y1 y2 m3
      else
        if ¬ y2 = 1 then
          bc_BP_workThrough_L109 N m3
        else
          bc_BP_workThrough_L86 N y1 y2 m3
    else
      bp_cV (bc_BR_needMark N m3) fun m4 =>
      bp_cV (bc_PA_readPending N m4) fun m5 =>
      bc_BP_workThrough_L109 N m5
  else
    bp_cV (bc_BR_fail N 1 m3) fun m6 =>
    bc_BP_workThrough_L109 N m6
def bc_BP_feed_L55 (N : Nat) (a1 : Int32) (a2 : Int32) (x3 : Int32) (m : bp_M) : Option (Int32 × bp_M) :=
  some (x3, m)
def bc_BP_feed_L49 (r19 : Int32 → Int32 → bp_M → Option (Int32 × bp_M)) (N : Nat) (a1 : Int32) (a2 : Int32) (x3 : Int32) (x4 : Int32) (m : bp_M) : Option (Int32 × bp_M) :=
  bp_nI (x4 + (-1)) fun y1 =>
  r19 x3 y1 m
def bc_BP_feed_L19 (N : Nat) (a1 : Int32) (a2 : Int32) : Nat → Int32 → Int32 → bp_M → Option (Int32 × bp_M)
  | 0, _, _, _ => none
  | n + 1, x3, x4, m =>
    if x4 < 0 then
      bc_BP_feed_L55 N a1 a2 x3 m
    else
      bp_cI (bc_BP_unitEndsAt N ((a1 >>> ((8 * x4 : Int32) &&& 31 : Int32) : Int32) &&& 255 : Int32) m) fun z2 m1 =>
      if z2 = 0 then
        bc_BP_feed_L49 (bc_BP_feed_L19 N a1 a2 n) N a1 a2 x3 x4 m1
      else
        bp_cV (bc_BP_workThrough N m1) fun m3 =>
        bp_nI (x3 + 1) fun y4 =>
        bc_BP_feed_L49 (bc_BP_feed_L19 N a1 a2 n) N a1 a2 y4 x4 m3
def bc_BP_feed_L10 (N : Nat) (a1 : Int32) (a2 : Int32) (m : bp_M) : Option (Int32 × bp_M) :=
  some (0, m)
def bc_BP_feed (N : Nat) (a1 : Int32) (a2 : Int32) (m : bp_M) : Option (Int32 × bp_M) :=
  if a2 < 1 then
    bc_BP_feed_L10 N a1 a2 m
  else
    if a2 ≤ 4 then
      bp_nI (a2 - 1 : Int32) fun y1 =>
      bc_BP_feed_L19 N a1 a2 N 0 y1 m
    else
      bc_BP_feed_L10 N a1 a2 m
def bc_UI_close_L20 (N : Nat) (s0 : Int32) (m : bp_M) : Option (Int32 × bp_M) :=
  bp_g ((s0 : Int32) = 0 ∨ (s0 : Int32) = 1) <|
  some (s0, m)
def bc_UI_close_L19 (N : Nat) (m : bp_M) : Option (Int32 × bp_M) :=
  bc_UI_close_L20 N 0 m
def bc_UI_close (N : Nat)  (m : bp_M) : Option (Int32 × bp_M) :=
  if (m.1 1 5) = 0 then
    bc_UI_close_L19 N m
  else
    bp_cI (bc_UI_endUnit N 0 m) fun z2 m1 =>
    if z2 = 0 then
      bc_UI_close_L19 N m1
    else
      bc_UI_close_L20 N 1 m1
def bc_PA_clear (N : Nat)  (m : bp_M) : Option bp_M :=
  bp_g ((0 : Int32) = 0 ∨ (0 : Int32) = 1) <|
  bp_nM (bp_sI m 2 0 0) fun m1 =>
  bp_g ((0 : Int32) = 0 ∨ (0 : Int32) = 1) <|
  bp_nM (bp_sI m1 2 3 0) fun m2 =>
  some m2
def bc_UI_clear (N : Nat)  (m : bp_M) : Option bp_M :=
  bp_nM (bp_sI m 1 1 0) fun m1 =>
  bp_nM (bp_sI m1 1 2 0) fun m2 =>
  bp_nM (bp_sI m2 1 3 0) fun m3 =>
  bp_nM (bp_sI m3 1 4 0) fun m4 =>
  bp_g ((0 : Int32) = 0 ∨ (0 : Int32) = 1) <|
  bp_nM (bp_sI m4 1 5 0) fun m5 =>
  some m5
def bc_BP_end_L59 (N : Nat) (x1 : Int32) (m : bp_M) : Option (Int32 × bp_M) :=
  some (((m.1 4 5) - x1 : Int32), m)
def bc_BP_end_L31 (N : Nat) (x1 : Int32) (m : bp_M) : Option (Int32 × bp_M) :=
  if ¬ (m.1 0 5) = 0 then
    bc_BP_end_L59 N x1 m
  else
    bp_cV (bc_PB_showAll N m) fun m1 =>
    bp_cV (bc_PA_clear N m1) fun m2 =>
    bp_cV (bc_UI_clear N m2) fun m3 =>
    bc_BP_end_L59 N x1 m3
def bc_BP_end (N : Nat)  (m : bp_M) : Option (Int32 × bp_M) :=
  if (m.1 0 5) = 0 then
    bp_nI (m.1 4 5) fun y1 =>
    bp_cI (bc_UI_close N m) fun z3 m2 =>
    if z3 = 0 then
      bc_BP_end_L31 N y1 m2
    else
      bp_cV (bc_BP_workThrough N m2) fun m4 =>
      bc_BP_end_L31 N y1 m4
  else
    some (0, m)
def bc_RO_clear_L19 (N : Nat) (o0 : Nat) (m : bp_M) : Option bp_M :=
  bp_nM (bp_sI m o0 5 0) fun m1 =>
  some m1
def bc_RO_clear_L2 (N : Nat) (o0 : Nat) : Nat → Int32 → bp_M → Option bp_M
  | 0, _, _ => none
  | n + 1, x1, m =>
    if 16 ≤ x1 then
      bc_RO_clear_L19 N o0 m
    else
      bp_cV (bc_RO_clearBlock N o0 x1 m) fun m1 =>
      bp_nI (x1 + 1) fun y2 =>
      bc_RO_clear_L2 N o0 n y2 m1
def bc_RO_clear (N : Nat) (o0 : Nat) (m : bp_M) : Option bp_M :=
  bc_RO_clear_L2 N o0 N 0 m
def bc_PD_forgetLatest (N : Nat)  (m : bp_M) : Option bp_M :=
  bp_nN (m.2 3 2) fun q1 =>
  bp_g (isRO q1) <|
  bp_cV (bc_RO_clear N q1 m) fun m2 =>
  some m2
def bc_PB_clear (N : Nat)  (m : bp_M) : Option bp_M :=
  bp_nM (bp_sI m 4 1 0) fun m1 =>
  bp_nM (bp_sI m1 4 2 0) fun m2 =>
  bp_nM (bp_sI m2 4 5 0) fun m3 =>
  some m3
def bc_BP_reset (N : Nat)  (m : bp_M) : Option bp_M :=
  bp_cV (bc_UI_clear N m) fun m1 =>
  bp_cV (bc_PA_clear N m1) fun m2 =>
  bp_cV (bc_PD_forgetLatest N m2) fun m3 =>
  bp_cV (bc_PB_clear N m3) fun m4 =>
  bp_nM (bp_sI m4 0 5 0) fun m5 =>
  bp_nM (bp_sI m5 0 6 0) fun m6 =>
  some m6
def bc_BP_fault (N : Nat)  (m : bp_M) : Option (Int32 × bp_M) :=
  some ((m.1 0 5), m)
def bc_BP_units (N : Nat)  (m : bp_M) : Option (Int32 × bp_M) :=
  some ((m.1 0 6), m)
def bc_BP_shown (N : Nat)  (m : bp_M) : Option (Int32 × bp_M) :=
  some ((m.1 4 5), m)
def bc_PB_shownOrder_L18 (N : Nat) (a1 : Int32) (m : bp_M) : Option (Int32 × bp_M) :=
  some ((-1), m)
def bc_PB_shownOrder (N : Nat) (a1 : Int32) (m : bp_M) : Option (Int32 × bp_M) :=
  if a1 < 0 then
    bc_PB_shownOrder_L18 N a1 m
  else
    if 8 ≤ a1 then
      bc_PB_shownOrder_L18 N a1 m
    else
      if a1 < (m.1 4 5) then
        bp_gi ((((m.1 4 5) - 1 : Int32) - a1 : Int32) - (((m.1 4 5) - 1 : Int32) - a1 : Int32) / 8 * 8 : Int32) 8 <|
        some ((m.1 21 ((((m.1 4 5) - 1 : Int32) - a1 : Int32) - (((m.1 4 5) - 1 : Int32) - a1 : Int32) / 8 * 8 : Int32).toNatClampNeg), m)
      else
        bc_PB_shownOrder_L18 N a1 m
def bc_BP_order (N : Nat) (a1 : Int32) (m : bp_M) : Option (Int32 × bp_M) :=
  bp_cI (bc_PB_shownOrder N a1 m) fun z2 m1 =>
  some (z2, m1)
def bc_BP_sample_L21 (N : Nat) (a1 : Int32) (m : bp_M) : Option (Int32 × bp_M) :=
  some ((-1), m)
def bc_BP_sample (N : Nat) (a1 : Int32) (m : bp_M) : Option (Int32 × bp_M) :=
  if (m.1 4 5) = 0 then
    bc_BP_sample_L21 N a1 m
  else
    if a1 < 0 then
      bc_BP_sample_L21 N a1 m
    else
      if a1 < 256 then
        bp_gi a1 256 <|
        some ((m.1 20 a1.toNatClampNeg), m)
      else
        bc_BP_sample_L21 N a1 m
def bc_BP_held (N : Nat)  (m : bp_M) : Option (Int32 × bp_M) :=
  some ((m.1 4 1), m)
def bc_BP_heldState_L58 (N : Nat) (a1 : Int32) (s0 : Int32) (s1 : Int32) (m : bp_M) : Option (Int32 × bp_M) :=
  some ((s1 + s0 : Int32), m)
def bc_BP_heldState_L45 (N : Nat) (a1 : Int32) (ql2 : Nat) (s0 : Int32) (s1 : Int32) (m : bp_M) : Option (Int32 × bp_M) :=
  if (m.1 ql2 3) = 0 then
    bc_BP_heldState_L58 N a1 0 (s1 + s0 : Int32) m
  else
    bc_BP_heldState_L58 N a1 2 (s1 + s0 : Int32) m
def bc_BP_heldState_L15 (N : Nat) (a1 : Int32) (m : bp_M) : Option (Int32 × bp_M) :=
  some ((-1), m)
def bc_BP_heldState (N : Nat) (a1 : Int32) (m : bp_M) : Option (Int32 × bp_M) :=
  if a1 < 0 then
    bc_BP_heldState_L15 N a1 m
  else
    if a1 < (m.1 4 1) then
      bp_gi a1 4 <|
      bp_nN (m.2 40 a1.toNatClampNeg) fun q1 =>
      bp_g (isPI q1) <|
      if (m.1 q1 2) = 0 then
        bc_BP_heldState_L45 N a1 q1 0 ((m.1 q1 1) * 4 : Int32) m
      else
        bc_BP_heldState_L45 N a1 q1 1 ((m.1 q1 1) * 4 : Int32) m
    else
      bc_BP_heldState_L15 N a1 m
def bc_BP_heldSample_L26 (N : Nat) (a1 : Int32) (a2 : Int32) (m : bp_M) : Option (Int32 × bp_M) :=
  some ((-1), m)
def bc_BP_heldSample (N : Nat) (a1 : Int32) (a2 : Int32) (m : bp_M) : Option (Int32 × bp_M) :=
  if a1 < 0 then
    bc_BP_heldSample_L26 N a1 a2 m
  else
    if (m.1 4 1) ≤ a1 then
      bc_BP_heldSample_L26 N a1 a2 m
    else
      if a2 < 0 then
        bc_BP_heldSample_L26 N a1 a2 m
      else
        if a2 < 256 then
          bp_gi a1 4 <|
          bp_nN (m.2 40 a1.toNatClampNeg) fun q1 =>
          bp_g (isPI q1) <|
          bp_gi a2 256 <|
          some ((m.1 (q1 + 24) a2.toNatClampNeg), m)
        else
          bc_BP_heldSample_L26 N a1 a2 m
def bc_BP_vector_L25 (N : Nat) (a1 : Int32) (m : bp_M) : Option (Int32 × bp_M) :=
  some ((-1), m)
def bc_BP_vector (N : Nat) (a1 : Int32) (m : bp_M) : Option (Int32 × bp_M) :=
  if a1 < 0 then
    bc_BP_vector_L25 N a1 m
  else
    if 16 ≤ a1 then
      bc_BP_vector_L25 N a1 m
    else
      bp_nN (m.2 3 2) fun q1 =>
      bp_g (isRO q1) <|
      bp_gi a1 16 <|
      if ¬ (m.1 (5 * q1 - 16) a1.toNatClampNeg) = 0 then
        bp_nN (m.2 3 2) fun q2 =>
        bp_g (isRO q2) <|
        bp_gi a1 16 <|
        bp_nN (m.2 3 2) fun q3 =>
        bp_g (isRO q3) <|
        bp_gi a1 16 <|
        some ((((256 * ((m.1 (5 * q2 - 13) a1.toNatClampNeg) + 64 : Int32) : Int32) + (m.1 (5 * q3 - 12) a1.toNatClampNeg) : Int32) + 64 : Int32), m)
      else
        bc_BP_vector_L25 N a1 m
def bc_BP_smoothed (N : Nat)  (m : bp_M) : Option (Int32 × bp_M) :=
  bp_nN (m.2 3 2) fun q1 =>
  bp_g (isRO q1) <|
  some ((m.1 q1 5), m)
def bc_BP_draw_L22 (N : Nat) (a1 : Int32) (a2 : Int32) (m : bp_M) : Option (Int32 × bp_M) :=
  bp_g ((0 : Int32) = 0 ∨ (0 : Int32) = 1) <|
  some (0, m)
def bc_BP_draw (N : Nat) (a1 : Int32) (a2 : Int32) (m : bp_M) : Option (Int32 × bp_M) :=
  if a1 < 0 then
    bc_BP_draw_L22 N a1 a2 m
  else
    if 256 ≤ a1 then
      bc_BP_draw_L22 N a1 a2 m
    else
      if a2 < 0 then
        bc_BP_draw_L22 N a1 a2 m
      else
        if a2 ≤ 255 then
          bp_gi a1 256 <|
          bp_nM (bp_sI m 22 a1.toNatClampNeg a2) fun m1 =>
          bp_g ((1 : Int32) = 0 ∨ (1 : Int32) = 1) <|
          some (1, m1)
        else
          bc_BP_draw_L22 N a1 a2 m
def bc_UW_append_L45 (N : Nat) (a1 : Int32) (s0 : Int32) (m : bp_M) : Option bp_M :=
  bp_nM (bp_sI m 5 3 s0) fun m1 =>
  some m1
def bc_UW_append_L30 (N : Nat) (a1 : Int32) (m : bp_M) : Option bp_M :=
  if ¬ a1 = 0 then
    bc_UW_append_L45 N a1 0 m
  else
    bc_UW_append_L45 N a1 ((m.1 5 3) + 1 : Int32) m
def bc_UW_append (N : Nat) (a1 : Int32) (m : bp_M) : Option bp_M :=
  if 400 ≤ (m.1 5 2) then
    bc_UW_append_L30 N a1 m
  else
    bp_gi (m.1 5 2) 400 <|
    bp_nM (bp_sI m 23 (m.1 5 2).toNatClampNeg a1) fun m1 =>
    bp_nM (bp_sI m1 5 2 ((m1.1 5 2) + 1 : Int32)) fun m2 =>
    bc_UW_append_L30 N a1 m2
def bc_UW_putByte_L18 (N : Nat) (a1 : Int32) (m : bp_M) : Option bp_M :=
  bp_cV (bc_UW_append N a1 m) fun m1 =>
  some m1
def bc_UW_putByte (N : Nat) (a1 : Int32) (m : bp_M) : Option bp_M :=
  if ¬ (m.1 5 3) = 2 then
    bc_UW_putByte_L18 N a1 m
  else
    if 3 < a1 then
      bc_UW_putByte_L18 N a1 m
    else
      bp_cV (bc_UW_append N 3 m) fun m1 =>
      bc_UW_putByte_L18 N a1 m1
def bc_UW_putBits_L67 (N : Nat) (a1 : Int32) (a2 : Int32) (m : bp_M) : Option bp_M :=
  some m
def bc_UW_putBits_L61 (r4 : Int32 → bp_M → Option bp_M) (N : Nat) (a1 : Int32) (a2 : Int32) (x3 : Int32) (m : bp_M) : Option bp_M :=
  bp_nI (x3 + (-1)) fun y1 =>
  r4 y1 m
def bc_UW_putBits_L4 (N : Nat) (a1 : Int32) (a2 : Int32) : Nat → Int32 → bp_M → Option bp_M
  | 0, _, _ => none
  | n + 1, x3, m =>
    if x3 < 0 then
      bc_UW_putBits_L67 N a1 a2 m
    else
      bp_nM (bp_sI m 5 4 ((2 * (m.1 5 4) : Int32) + ((a1 >>> (x3 &&& 31 : Int32) : Int32) &&& 1 : Int32) : Int32)) fun m1 =>
      bp_nM (bp_sI m1 5 5 ((m1.1 5 5) + 1 : Int32)) fun m2 =>
      if ¬ (m2.1 5 5) = 8 then
        bc_UW_putBits_L61 (bc_UW_putBits_L4 N a1 a2 n) N a1 a2 x3 m2
      else
        bp_cV (bc_UW_putByte N (m2.1 5 4) m2) fun m3 =>
        bp_nM (bp_sI m3 5 4 0) fun m4 =>
        bp_nM (bp_sI m4 5 5 0) fun m5 =>
        bc_UW_putBits_L61 (bc_UW_putBits_L4 N a1 a2 n) N a1 a2 x3 m5
def bc_UW_putBits (N : Nat) (a1 : Int32) (a2 : Int32) (m : bp_M) : Option bp_M :=
  bp_nI (a2 - 1 : Int32) fun y1 =>
  bc_UW_putBits_L4 N a1 a2 N y1 m
def bc_UW_begin (N : Nat) (a1 : Int32) (m : bp_M) : Option bp_M :=
  bp_gi 0 400 <|
  bp_nM (bp_sI m 23 (0 : Int32).toNatClampNeg 0) fun m1 =>
  bp_gi 1 400 <|
  bp_nM (bp_sI m1 23 (1 : Int32).toNatClampNeg 0) fun m2 =>
  bp_gi 2 400 <|
  bp_nM (bp_sI m2 23 (2 : Int32).toNatClampNeg 1) fun m3 =>
  bp_nM (bp_sI m3 5 2 3) fun m4 =>
  bp_nM (bp_sI m4 5 3 0) fun m5 =>
  bp_nM (bp_sI m5 5 4 0) fun m6 =>
  bp_nM (bp_sI m6 5 5 0) fun m7 =>
  bp_cV (bc_UW_putBits N a1 8 m7) fun m8 =>
  some m8
def bc_UW_putNumber_L23 (N : Nat) (a1 : Int32) (x2 : Int32) (m : bp_M) : Option bp_M :=
  bp_cV (bc_UW_putBits N (a1 + 1 : Int32) ((2 * x2 : Int32) + 1 : Int32) m) fun m1 =>
  some m1
def bc_UW_putNumber_L2 (N : Nat) (a1 : Int32) : Nat → Int32 → bp_M → Option bp_M
  | 0, _, _ => none
  | n + 1, x2, m =>
    if 10 ≤ x2 then
      bc_UW_putNumber_L23 N a1 x2 m
    else
      if (a1 + 1 : Int32) < (2 <<< (x2 &&& 31 : Int32) : Int32) then
        bc_UW_putNumber_L23 N a1 x2 m
      else
        bp_nI (x2 + 1) fun y1 =>
        bc_UW_putNumber_L2 N a1 n y1 m
def bc_UW_putNumber (N : Nat) (a1 : Int32) (m : bp_M) : Option bp_M :=
  bc_UW_putNumber_L2 N a1 N 0 m
def bc_UW_close_L25 (N : Nat) (m : bp_M) : Option bp_M :=
  some m
def bc_UW_close (N : Nat)  (m : bp_M) : Option bp_M :=
  bp_cV (bc_UW_putBits N 1 1 m) fun m1 =>
  if (m1.1 5 5) ≤ 0 then
    bc_UW_close_L25 N m1
  else
    bp_cV (bc_UW_putBits N 0 (8 - (m1.1 5 5) : Int32) m1) fun m2 =>
    bc_UW_close_L25 N m2
def bc_UW_putParameters (N : Nat) (a1 : Int32) (a2 : Int32) (m : bp_M) : Option bp_M :=
  bp_cV (bc_UW_begin N 39 m) fun m1 =>
  bp_cV (bc_UW_putNumber N a1 m1) fun m2 =>
  bp_cV (bc_UW_putNumber N a2 m2) fun m3 =>
  bp_cV (bc_UW_close N m3) fun m4 =>
  some m4
def bc_UW_putKeyPicture_L66 (N : Nat) (a1 : Int32) (m : bp_M) : Option bp_M :=
  bp_cV (bc_UW_close N m) fun m1 =>
  some m1
def bc_UW_putKeyPicture_L60 (r18 : Int32 → bp_M → Option bp_M) (N : Nat) (a1 : Int32) (x2 : Int32) (m : bp_M) : Option bp_M :=
  bp_nI (x2 + 1) fun y1 =>
  r18 y1 m
def bc_UW_putKeyPicture_L32 (r18 : Int32 → bp_M → Option bp_M) (N : Nat) (a1 : Int32) : Nat → Int32 → Int32 → bp_M → Option bp_M
  | 0, _, _, _ => none
  | n + 1, x2, x3, m =>
    if 16 ≤ x3 then
      bc_UW_putKeyPicture_L60 r18 N a1 x2 m
    else
      bp_cI (bc_BP_sampleNumber N x2 x3 m) fun z2 m1 =>
      bp_gi z2 256 <|
      bp_cV (bc_UW_putBits N (m1.1 22 z2.toNatClampNeg) 8 m1) fun m3 =>
      bp_nI (x3 + 1) fun y4 =>
      bc_UW_putKeyPicture_L32 r18 N a1 n x2 y4 m3
def bc_UW_putKeyPicture_L18 (N : Nat) (a1 : Int32) : Nat → Int32 → bp_M → Option bp_M
  | 0, _, _ => none
  | n + 1, x2, m =>
    if 16 ≤ x2 then
      bc_UW_putKeyPicture_L66 N a1 m
    else
      bp_cV (bc_UW_putBits N 0 2 m) fun m1 =>
      bc_UW_putKeyPicture_L32 (bc_UW_putKeyPicture_L18 N a1 n) N a1 N x2 0 m1
def bc_UW_putKeyPicture (N : Nat) (a1 : Int32) (m : bp_M) : Option bp_M :=
  bp_cV (bc_UW_begin N 101 m) fun m1 =>
  bp_cV (bc_UW_putNumber N a1 m1) fun m2 =>
  bp_cV (bc_UW_putNumber N 0 m2) fun m3 =>
  bc_UW_putKeyPicture_L18 N a1 N 0 m3
def bc_BP_write_L74 (N : Nat) (a1 : Int32) (a2 : Int32) (a3 : Int32) (m : bp_M) : Option (Int32 × bp_M) :=
  some ((-1), m)
def bc_BP_write_L42 (N : Nat) (a1 : Int32) (a2 : Int32) (a3 : Int32) (m : bp_M) : Option (Int32 × bp_M) :=
  if ¬ a1 = 5 then
    bc_BP_write_L74 N a1 a2 a3 m
  else
    if a2 < 0 then
      bc_BP_write_L74 N a1 a2 a3 m
    else
      if 255 < a2 then
        bc_BP_write_L74 N a1 a2 a3 m
      else
        bp_cV (bc_UW_putKeyPicture N a2 m) fun m1 =>
        some ((m1.1 5 2), m1)
def bc_BP_write (N : Nat) (a1 : Int32) (a2 : Int32) (a3 : Int32) (m : bp_M) : Option (Int32 × bp_M) :=
  if ¬ a1 = 7 then
    bc_BP_write_L42 N a1 a2 a3 m
  else
    if a2 < 0 then
      bc_BP_write_L42 N a1 a2 a3 m
    else
      if 4 ≤ a2 then
        bc_BP_write_L42 N a1 a2 a3 m
      else
        if a3 < 0 then
          bc_BP_write_L42 N a1 a2 a3 m
        else
          if 11 < a3 then
            bc_BP_write_L42 N a1 a2 a3 m
          else
            bp_cV (bc_UW_putParameters N a2 a3 m) fun m1 =>
            some ((m1.1 5 2), m1)
def bc_BP_written_L28 (N : Nat) (a1 : Int32) (s0 : Int32) (m : bp_M) : Option (Int32 × bp_M) :=
  some (s0, m)
def bc_BP_written_L15 (N : Nat) (a1 : Int32) (m : bp_M) : Option (Int32 × bp_M) :=
  bc_BP_written_L28 N a1 (-1) m
def bc_BP_written (N : Nat) (a1 : Int32) (m : bp_M) : Option (Int32 × bp_M) :=
  if a1 < 0 then
    bc_BP_written_L15 N a1 m
  else
    if a1 < (m.1 5 2) then
      bp_gi a1 400 <|
      bc_BP_written_L28 N a1 (m.1 23 a1.toNatClampNeg) m
    else
      bc_BP_written_L15 N a1 m
def bc_BP_pass_L44 (N : Nat) (x1 : Int32) (m : bp_M) : Option (Int32 × bp_M) :=
  some (x1, m)
def bc_BP_pass_L38 (r4 : Int32 → Int32 → bp_M → Option (Int32 × bp_M)) (N : Nat) (x1 : Int32) (x2 : Int32) (m : bp_M) : Option (Int32 × bp_M) :=
  bp_nI (x2 + 1) fun y1 =>
  r4 x1 y1 m
def bc_BP_pass_L4 (N : Nat) : Nat → Int32 → Int32 → bp_M → Option (Int32 × bp_M)
  | 0, _, _, _ => none
  | n + 1, x1, x2, m =>
    if (m.1 5 2) ≤ x2 then
      bc_BP_pass_L44 N x1 m
    else
      bp_gi x2 400 <|
      bp_cI (bc_BP_unitEndsAt N (m.1 23 x2.toNatClampNeg) m) fun z2 m1 =>
      if z2 = 0 then
        bc_BP_pass_L38 (bc_BP_pass_L4 N n) N x1 x2 m1
      else
        bp_cV (bc_BP_workThrough N m1) fun m3 =>
        bp_nI (x1 + 1) fun y4 =>
        bc_BP_pass_L38 (bc_BP_pass_L4 N n) N y4 x2 m3
def bc_BP_pass (N : Nat)  (m : bp_M) : Option (Int32 × bp_M) :=
  bc_BP_pass_L4 N N 0 0 m
