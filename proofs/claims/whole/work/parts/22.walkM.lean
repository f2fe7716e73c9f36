set_option maxHeartbeats 4000000 in
set_option maxRecDepth 100000 in
theorem wbm_M_strength (l : Launch) (E : bm_E) (N : Nat) (a1 : Int32) (a2 : Int32) (m : bp_M) (sz : Nat) (r : Int32) (mr : bp_M)  (h : bm_M_strength N a1 a2 m = some (r, mr)) : Met l y_bm_M_strength (Cond.code y_bm_M_strength prog_13_method_33_code 4 (some .int) :: bp_tb) ({ frames := 1, cells := 0, slots := 0, locals := 21 }) (bm_Pc E m sz [.ref (E.2.1 0), .int a1, .int a2]) (bm_Qi E m sz r mr) 0 0 (va_A (bm_W E m) sz) := by
  refine Met.ofW (cc := prog_13_method_33_code) (maxL := 4) (ret := (some .int)) (by decide) rfl ?_
  intro p e s mt args below meth c s₁ B hml hv
  obtain ⟨rfl, hsz, hP, hK, hD0, hst⟩ := hv
  have hx := B.exec
  have hb := B.bytes
  have hr := B.returns
  have htb : ∀ w ∈ bp_tb, w.before _ s = true := fun w hw => atoms_spec (ws := Cond.code y_bm_M_strength prog_13_method_33_code 4 (some .int) :: bp_tb) B.pre w (List.mem_cons_of_mem _ hw)
  have hown : s.vm.findClass "BlockPicturesModel" = some mt.cls := findClass_of_methodNamed B.named
  have hlocks := B.notSynchronized
  subst hsz
  have hD := hD0.self (sz := s.heap.size)
  generalize hAe : va_A (bm_W E m) s.heap.size = A at hD hst ⊢
  have hsub : ∀ (u : bp_M) (z q : Nat), s.heap.size ≤ z → va_A (bm_W E u) z q → A q := bm_sub hAe
  have hS : va_S A s.heap s.heap [] := va_S.rf
  have hl := lv_entry ([.ref (E.2.1 0), .int a1, .int a2]) (n := 4) (Nat.le_of_ble_eq_true rfl)
  rw [lg_entry_eq]
  generalize (lg_sl ([.ref (E.2.1 0), .int a1, .int a2]) ++ List.replicate (4 - (lg_sl ([.ref (E.2.1 0), .int a1, .int a2])).length) Slot.unset).toArray = ls at hl ⊢
  have hl : lv_has ls 4 [(0, .ref (E.2.1 0)), (1, .int a1), (2, .int a2)] := hl
  refine bm_keyI (R := ({ frames := 1, cells := 0, slots := 0, locals := 21 })) E hx hb hr hlocks hK hAe (fun Q hret => ?_)
  clear B hD0 hlocks hr
  generalize ([.ref (E.2.1 0), .int a1, .int a2] : List Value).toArray = args at htb hret ⊢
  clear hAe
  have hL106 : ∀ (s0 : Int32) (m : bp_M), bm_M_strength_L106 N a1 a2 s0 m = some (r, mr) → ∀ (ls : Array Slot) (H : Heap) (locs : List Loc), lv_has ls 4 [] → va_P E.1 bp_cl (bm_W E m) H → va_D A (bm_W E m) → va_S A s.heap H locs → W p l e ({ frames := 1, cells := 0, slots := 0, locals := 21 }) s mt args below meth c H locs 0 0 Q (F0 mt 106 ls [.int s0]) := by
    intro s0 m h ls H locs hl hP hD hS
    rw [bm_M_strength_L106] at h
    exact hret _ _ _ _ _ _ h hP hD hS (dt_bm_M_strength 62 rfl)
  have hL101 : ∀ (m : bp_M), bm_M_strength_L101 N a1 a2 m = some (r, mr) → ∀ (ls : Array Slot) (H : Heap) (locs : List Loc), lv_has ls 4 [] → va_P E.1 bp_cl (bm_W E m) H → va_D A (bm_W E m) → va_S A s.heap H locs → W p l e ({ frames := 1, cells := 0, slots := 0, locals := 21 }) s mt args below meth c H locs 0 0 Q (F0 mt 101 ls []) := by
    intro m h ls H locs hl hP hD hS
    rw [bm_M_strength_L101] at h
    refine lv_iconst (v := 1) hx hb (dt_bm_M_strength 59 rfl) (by decide) ?_
    refine lv_goto (tgt := 106) hx hb (dt_bm_M_strength 60 rfl) (by decide) ?_
    exact hL106 _ _ h ls H locs (lv_sub hl [] rfl) hP hD hS
  have hL63 : ∀ (s0 : Int32) (m : bp_M), bm_M_strength_L63 N a1 a2 s0 m = some (r, mr) → ∀ (ls : Array Slot) (H : Heap) (locs : List Loc), lv_has ls 4 [(0, .ref (E.2.1 0)), (1, .int a1), (2, .int a2)] → va_P E.1 bp_cl (bm_W E m) H → va_D A (bm_W E m) → va_S A s.heap H locs → W p l e ({ frames := 1, cells := 0, slots := 0, locals := 21 }) s mt args below meth c H locs 0 0 Q (F0 mt 63 ls [.int s0]) := by
    intro s0 m h ls H locs hl hP hD hS
    rw [bm_M_strength_L63] at h
    refine lv_istore_n hx hb (dt_bm_M_strength 37 rfl) rfl hl (Nat.le_of_ble_eq_true rfl) rfl (fun ls hl => ?_)
    have hl : lv_has ls 4 [(3, .int s0), (0, .ref (E.2.1 0)), (1, .int a1), (2, .int a2)] := hl
    refine lv_aload_n hx hb (dt_bm_M_strength 38 rfl) rfl (lv_at hl 1 rfl) ?_
    refine va_get (D := E.1) (ci := 10) (v := .ref (E.2.1 7)) (C := "BlockPicturesModel") (T := bF_M) (N := 48) hx hb htb bm_in_M hown hK hP 0 (bm_gM E m) rfl 25 (by decide) (htb _ tw_793) (fun _ h9 => h9) rfl (dt_bm_M_strength 39 rfl) ?_
    refine lv_iload_n hx hb (dt_bm_M_strength 40 rfl) rfl (lv_at hl 2 rfl) ?_
    obtain ⟨hg1, h⟩ := bp_gi_s h
    refine bm_lZ E hx hb hK hP (bm_ga7 E) hg1 (dt_bm_M_strength 41 rfl) ?_
    refine lv_if_ne (tgt := 101) hx hb (dt_bm_M_strength 42 rfl) (by decide) (fun hc => ?_) (fun hc => ?_)
    · replace h := (if_pos hc).symm.trans h
      exact hL101 _ h ls H locs (lv_sub hl [] rfl) hP hD hS
    · replace h := (if_neg (fun hn => hn hc)).symm.trans h
      refine lv_aload_n hx hb (dt_bm_M_strength 43 rfl) rfl (lv_at hl 1 rfl) ?_
      refine va_get (D := E.1) (ci := 10) (v := .ref (E.2.1 7)) (C := "BlockPicturesModel") (T := bF_M) (N := 48) hx hb htb bm_in_M hown hK hP 0 (bm_gM E m) rfl 25 (by decide) (htb _ tw_793) (fun _ h9 => h9) rfl (dt_bm_M_strength 44 rfl) ?_
      refine lv_iload_n hx hb (dt_bm_M_strength 45 rfl) rfl (lv_at hl 3 rfl) ?_
      obtain ⟨hg2, h⟩ := bp_gi_s h
      refine bm_lZ E hx hb hK hP (bm_ga7 E) hg2 (dt_bm_M_strength 46 rfl) ?_
      refine lv_if_ne (tgt := 101) hx hb (dt_bm_M_strength 47 rfl) (by decide) (fun hc => ?_) (fun hc => ?_)
      · replace h := (if_pos hc).symm.trans h
        exact hL101 _ h ls H locs (lv_sub hl [] rfl) hP hD hS
      · replace h := (if_neg (fun hn => hn hc)).symm.trans h
        refine lv_aload_n hx hb (dt_bm_M_strength 48 rfl) rfl (lv_at hl 1 rfl) ?_
        refine va_get (D := E.1) (ci := 10) (v := .ref (E.2.1 10)) (C := "BlockPicturesModel") (T := bF_M) (N := 48) hx hb htb bm_in_M hown hK hP 0 (bm_gM E m) rfl 28 (by decide) (htb _ tw_796) (fun _ h9 => h9) rfl (dt_bm_M_strength 49 rfl) ?_
        refine lv_iload_n hx hb (dt_bm_M_strength 50 rfl) rfl (lv_at hl 2 rfl) ?_
        obtain ⟨hg3, h⟩ := bp_gi_s h
        refine bm_lI E hx hb hK hP (bm_ga10 E) hg3 (dt_bm_M_strength 51 rfl) ?_
        refine lv_aload_n hx hb (dt_bm_M_strength 52 rfl) rfl (lv_at hl 1 rfl) ?_
        refine va_get (D := E.1) (ci := 10) (v := .ref (E.2.1 10)) (C := "BlockPicturesModel") (T := bF_M) (N := 48) hx hb htb bm_in_M hown hK hP 0 (bm_gM E m) rfl 28 (by decide) (htb _ tw_796) (fun _ h9 => h9) rfl (dt_bm_M_strength 53 rfl) ?_
        refine lv_iload_n hx hb (dt_bm_M_strength 54 rfl) rfl (lv_at hl 3 rfl) ?_
        obtain ⟨hg4, h⟩ := bp_gi_s h
        refine bm_lI E hx hb hK hP (bm_ga10 E) hg4 (dt_bm_M_strength 55 rfl) ?_
        refine lv_icmp_ne (tgt := 101) hx hb (dt_bm_M_strength 56 rfl) (by decide) (fun hc => ?_) (fun hc => ?_)
        · replace h := (if_pos hc).symm.trans h
          exact hL101 _ h ls H locs (lv_sub hl [] rfl) hP hD hS
        · replace h := (if_neg (fun hn => hn hc)).symm.trans h
          refine lv_iload_n hx hb (dt_bm_M_strength 57 rfl) rfl (lv_at hl 0 rfl) ?_
          refine lv_if_eq (tgt := 105) hx hb (dt_bm_M_strength 58 rfl) (by decide) (fun hc => ?_) (fun hc => ?_)
          · replace h := (if_pos hc).symm.trans h
            refine lv_iconst (v := 0) hx hb (dt_bm_M_strength 61 rfl) (by decide) ?_
            exact hL106 _ _ h ls H locs (lv_sub hl [] rfl) hP hD hS
          · replace h := (if_neg hc).symm.trans h
            exact hL101 _ h ls H locs (lv_sub hl [] rfl) hP hD hS
  have hL58 : ∀ (m : bp_M), bm_M_strength_L58 N a1 a2 m = some (r, mr) → ∀ (ls : Array Slot) (H : Heap) (locs : List Loc), lv_has ls 4 [(0, .ref (E.2.1 0)), (1, .int a1), (2, .int a2)] → va_P E.1 bp_cl (bm_W E m) H → va_D A (bm_W E m) → va_S A s.heap H locs → W p l e ({ frames := 1, cells := 0, slots := 0, locals := 21 }) s mt args below meth c H locs 0 0 Q (F0 mt 58 ls []) := by
    intro m h ls H locs hl hP hD hS
    rw [bm_M_strength_L58] at h
    refine lv_iconst (v := 1) hx hb (dt_bm_M_strength 34 rfl) (by decide) ?_
    refine lv_goto (tgt := 63) hx hb (dt_bm_M_strength 35 rfl) (by decide) ?_
    exact hL63 _ _ h ls H locs (lv_sub hl [0, 1, 2] rfl) hP hD hS
  have hL18 : ∀ (m : bp_M), bm_M_strength_L18 N a1 a2 m = some (r, mr) → ∀ (ls : Array Slot) (H : Heap) (locs : List Loc), lv_has ls 4 [] → va_P E.1 bp_cl (bm_W E m) H → va_D A (bm_W E m) → va_S A s.heap H locs → W p l e ({ frames := 1, cells := 0, slots := 0, locals := 21 }) s mt args below meth c H locs 0 0 Q (F0 mt 18 ls []) := by
    intro m h ls H locs hl hP hD hS
    rw [bm_M_strength_L18] at h
    refine lv_iconst (v := 2) hx hb (dt_bm_M_strength 10 rfl) (by decide) ?_
    exact hret _ _ _ _ _ _ h hP hD hS (dt_bm_M_strength 11 rfl)
  suffices hgo : ∀ (H : Heap) (locs : List Loc), va_P E.1 bp_cl (bm_W E m) H → va_D A (bm_W E m) → va_S A s.heap H locs → W p l e ({ frames := 1, cells := 0, slots := 0, locals := 21 }) s mt args below meth c H locs 0 0 Q (F0 mt 0 ls []) from hgo _ _ hP hD hS
  clear hP hD hS
  intro H locs hP hD hS
  unfold bm_M_strength at h
  refine lv_aload_n hx hb (dt_bm_M_strength 0 rfl) rfl (lv_at hl 0 rfl) ?_
  refine va_get (D := E.1) (ci := 10) (v := .ref (E.2.1 6)) (C := "BlockPicturesModel") (T := bF_M) (N := 48) hx hb htb bm_in_M hown hK hP 0 (bm_gM E m) rfl 24 (by decide) (htb _ tw_792) (fun _ h9 => h9) rfl (dt_bm_M_strength 1 rfl) ?_
  refine lv_iload_n hx hb (dt_bm_M_strength 2 rfl) rfl (lv_at hl 1 rfl) ?_
  obtain ⟨hg1, h⟩ := bp_gi_s h
  refine bm_lZ E hx hb hK hP (bm_ga6 E) hg1 (dt_bm_M_strength 3 rfl) ?_
  refine lv_if_ne (tgt := 18) hx hb (dt_bm_M_strength 4 rfl) (by decide) (fun hc => ?_) (fun hc => ?_)
  · replace h := (if_pos hc).symm.trans h
    exact hL18 _ h ls H locs (lv_sub hl [] rfl) hP hD hS
  · replace h := (if_neg (fun hn => hn hc)).symm.trans h
    refine lv_aload_n hx hb (dt_bm_M_strength 5 rfl) rfl (lv_at hl 0 rfl) ?_
    refine va_get (D := E.1) (ci := 10) (v := .ref (E.2.1 6)) (C := "BlockPicturesModel") (T := bF_M) (N := 48) hx hb htb bm_in_M hown hK hP 0 (bm_gM E m) rfl 24 (by decide) (htb _ tw_792) (fun _ h9 => h9) rfl (dt_bm_M_strength 6 rfl) ?_
    refine lv_iload_n hx hb (dt_bm_M_strength 7 rfl) rfl (lv_at hl 2 rfl) ?_
    obtain ⟨hg2, h⟩ := bp_gi_s h
    refine bm_lZ E hx hb hK hP (bm_ga6 E) hg2 (dt_bm_M_strength 8 rfl) ?_
    refine lv_if_eq (tgt := 20) hx hb (dt_bm_M_strength 9 rfl) (by decide) (fun hc => ?_) (fun hc => ?_)
    · replace h := (if_pos hc).symm.trans h
      refine lv_aload_n hx hb (dt_bm_M_strength 12 rfl) rfl (lv_at hl 0 rfl) ?_
      refine va_get (D := E.1) (ci := 10) (v := .ref (E.2.1 8)) (C := "BlockPicturesModel") (T := bF_M) (N := 48) hx hb htb bm_in_M hown hK hP 0 (bm_gM E m) rfl 26 (by decide) (htb _ tw_794) (fun _ h9 => h9) rfl (dt_bm_M_strength 13 rfl) ?_
      refine lv_iload_n hx hb (dt_bm_M_strength 14 rfl) rfl (lv_at hl 1 rfl) ?_
      obtain ⟨hg3, h⟩ := bp_gi_s h
      refine bm_lI E hx hb hK hP (bm_ga8 E) hg3 (dt_bm_M_strength 15 rfl) ?_
      refine lv_aload_n hx hb (dt_bm_M_strength 16 rfl) rfl (lv_at hl 0 rfl) ?_
      refine va_get (D := E.1) (ci := 10) (v := .ref (E.2.1 8)) (C := "BlockPicturesModel") (T := bF_M) (N := 48) hx hb htb bm_in_M hown hK hP 0 (bm_gM E m) rfl 26 (by decide) (htb _ tw_794) (fun _ h9 => h9) rfl (dt_bm_M_strength 17 rfl) ?_
      refine lv_iload_n hx hb (dt_bm_M_strength 18 rfl) rfl (lv_at hl 2 rfl) ?_
      obtain ⟨hg4, h⟩ := bp_gi_s h
      refine bm_lI E hx hb hK hP (bm_ga8 E) hg4 (dt_bm_M_strength 19 rfl) ?_
      obtain ⟨z6, m5, hm5, h⟩ := bp_cI_s h
      refine bm_callI E hsub hS (va_runS (As := [.int (m.1 8 a1.toNatClampNeg), .int (m.1 8 a2.toNatClampNeg)]) (rest := []) ⟨hx, hb, hml, hown, htb⟩ (wbm_M_distance l E N (m.1 8 a1.toNatClampNeg) (m.1 8 a2.toNatClampNeg) m H.size z6 m5 hm5) (va_cwS 2 htb (bp_goodW tw_1028 tw_1029 tw_79 tw_1030) rfl rfl rfl hd_bm_M_distance ⟨Nat.le_of_ble_eq_true rfl, Nat.le_of_ble_eq_true rfl⟩) (bm_preS E hsub hst hK hP hD hS _) rfl rfl hl.1 rfl (lv_room (Nat.le_of_ble_eq_true rfl)) (dt_bm_M_strength 20 rfl) ⟨Nat.zero_le _, Nat.zero_le _⟩) (fun H locs hP hD hS => ?_)
      refine lv_iconst (v := 2) hx hb (dt_bm_M_strength 21 rfl) (by decide) ?_
      refine lv_icmp_ge (tgt := 58) hx hb (dt_bm_M_strength 22 rfl) (by decide) (fun hc => ?_) (fun hc => ?_)
      · replace h := (if_pos hc).symm.trans h
        exact hL58 _ h ls H locs (lv_sub hl [0, 1, 2] rfl) hP hD hS
      · replace h := (if_neg hc).symm.trans h
        refine lv_aload_n hx hb (dt_bm_M_strength 23 rfl) rfl (lv_at hl 0 rfl) ?_
        refine va_get (D := E.1) (ci := 10) (v := .ref (E.2.1 9)) (C := "BlockPicturesModel") (T := bF_M) (N := 48) hx hb htb bm_in_M hown hK hP 0 (bm_gM E m5) rfl 27 (by decide) (htb _ tw_795) (fun _ h9 => h9) rfl (dt_bm_M_strength 24 rfl) ?_
        refine lv_iload_n hx hb (dt_bm_M_strength 25 rfl) rfl (lv_at hl 1 rfl) ?_
        obtain ⟨hg7, h⟩ := bp_gi_s h
        refine bm_lI E hx hb hK hP (bm_ga9 E) hg7 (dt_bm_M_strength 26 rfl) ?_
        refine lv_aload_n hx hb (dt_bm_M_strength 27 rfl) rfl (lv_at hl 0 rfl) ?_
        refine va_get (D := E.1) (ci := 10) (v := .ref (E.2.1 9)) (C := "BlockPicturesModel") (T := bF_M) (N := 48) hx hb htb bm_in_M hown hK hP 0 (bm_gM E m5) rfl 27 (by decide) (htb _ tw_795) (fun _ h9 => h9) rfl (dt_bm_M_strength 28 rfl) ?_
        refine lv_iload_n hx hb (dt_bm_M_strength 29 rfl) rfl (lv_at hl 2 rfl) ?_
        obtain ⟨hg8, h⟩ := bp_gi_s h
        refine bm_lI E hx hb hK hP (bm_ga9 E) hg8 (dt_bm_M_strength 30 rfl) ?_
        obtain ⟨z10, m9, hm9, h⟩ := bp_cI_s h
        refine bm_callI E hsub hS (va_runS (As := [.int (m5.1 9 a1.toNatClampNeg), .int (m5.1 9 a2.toNatClampNeg)]) (rest := []) ⟨hx, hb, hml, hown, htb⟩ (wbm_M_distance l E N (m5.1 9 a1.toNatClampNeg) (m5.1 9 a2.toNatClampNeg) m5 H.size z10 m9 hm9) (va_cwS 2 htb (bp_goodW tw_1028 tw_1029 tw_79 tw_1030) rfl rfl rfl hd_bm_M_distance ⟨Nat.le_of_ble_eq_true rfl, Nat.le_of_ble_eq_true rfl⟩) (bm_preS E hsub hst hK hP hD hS _) rfl rfl hl.1 rfl (lv_room (Nat.le_of_ble_eq_true rfl)) (dt_bm_M_strength 31 rfl) ⟨Nat.zero_le _, Nat.zero_le _⟩) (fun H locs hP hD hS => ?_)
        refine lv_iconst (v := 2) hx hb (dt_bm_M_strength 32 rfl) (by decide) ?_
        refine lv_icmp_lt (tgt := 62) hx hb (dt_bm_M_strength 33 rfl) (by decide) (fun hc => ?_) (fun hc => ?_)
        · replace h := (if_pos hc).symm.trans h
          refine lv_iconst (v := 0) hx hb (dt_bm_M_strength 36 rfl) (by decide) ?_
          exact hL63 _ _ h ls H locs (lv_sub hl [0, 1, 2] rfl) hP hD hS
        · replace h := (if_neg hc).symm.trans h
          exact hL58 _ h ls H locs (lv_sub hl [0, 1, 2] rfl) hP hD hS
    · replace h := (if_neg hc).symm.trans h
      exact hL18 _ h ls H locs (lv_sub hl [] rfl) hP hD hS
set_option maxHeartbeats 4000000 in
set_option maxRecDepth 100000 in
theorem wbm_M_line (l : Launch) (E : bm_E) (N : Nat) (a1 : Int32) (a2 : Int32) (a3 : Int32) (m : bp_M) (sz : Nat) (mr : bp_M)  (h : bm_M_line N a1 a2 a3 m = some mr) : Met l y_bm_M_line (Cond.code y_bm_M_line prog_13_method_35_code 9 none :: bp_tb) ({ frames := 1, cells := 0, slots := 0, locals := 21 }) (bm_Pc E m sz [.ref (E.2.1 0), .int a1, .int a2, .int a3]) (bm_Qv E m sz mr) 0 0 (va_A (bm_W E m) sz) := by
  refine Met.ofW (cc := prog_13_method_35_code) (maxL := 9) (ret := none) (by decide) rfl ?_
  intro p e s mt args below meth c s₁ B hml hv
  obtain ⟨rfl, hsz, hP, hK, hD0, hst⟩ := hv
  have hx := B.exec
  have hb := B.bytes
  have hr := B.returns
  have htb : ∀ w ∈ bp_tb, w.before _ s = true := fun w hw => atoms_spec (ws := Cond.code y_bm_M_line prog_13_method_35_code 9 none :: bp_tb) B.pre w (List.mem_cons_of_mem _ hw)
  have hown : s.vm.findClass "BlockPicturesModel" = some mt.cls := findClass_of_methodNamed B.named
  have hlocks := B.notSynchronized
  subst hsz
  have hD := hD0.self (sz := s.heap.size)
  generalize hAe : va_A (bm_W E m) s.heap.size = A at hD hst ⊢
  have hsub : ∀ (u : bp_M) (z q : Nat), s.heap.size ≤ z → va_A (bm_W E u) z q → A q := bm_sub hAe
  have hS : va_S A s.heap s.heap [] := va_S.rf
  have hl := lv_entry ([.ref (E.2.1 0), .int a1, .int a2, .int a3]) (n := 9) (Nat.le_of_ble_eq_true rfl)
  rw [lg_entry_eq]
  generalize (lg_sl ([.ref (E.2.1 0), .int a1, .int a2, .int a3]) ++ List.replicate (9 - (lg_sl ([.ref (E.2.1 0), .int a1, .int a2, .int a3])).length) Slot.unset).toArray = ls at hl ⊢
  have hl : lv_has ls 9 [(0, .ref (E.2.1 0)), (1, .int a1), (2, .int a2), (3, .int a3)] := hl
  refine bm_keyV (R := ({ frames := 1, cells := 0, slots := 0, locals := 21 })) E hx hb hr hlocks hK hAe (fun Q hret => ?_)
  clear B hD0 hlocks hr
  generalize ([.ref (E.2.1 0), .int a1, .int a2, .int a3] : List Value).toArray = args at htb hret ⊢
  clear hAe
  have hL200 : ∀ (s0 : Int32) (s1 : Int32) (m : bp_M), bm_M_line_L200 N a1 a2 a3 s0 s1 m = some mr → ∀ (ls : Array Slot) (H : Heap) (locs : List Loc), lv_has ls 9 [] → va_P E.1 bp_cl (bm_W E m) H → va_D A (bm_W E m) → va_S A s.heap H locs → W p l e ({ frames := 1, cells := 0, slots := 0, locals := 21 }) s mt args below meth c H locs 0 0 Q (F0 mt 200 ls [.int s0, .int s1, .ref (E.2.1 0)]) := by
    intro s0 s1 m h ls H locs hl hP hD hS
    rw [bm_M_line_L200] at h
    refine lv_iadd hx hb (dt_bm_M_line 121 rfl) ?_
    refine bm_pM_30 E hx hb htb hown hK hP hD hS (htb _ tw_798) (dt_bm_M_line 122 rfl) (fun m1 em1 H locs hP hD hS => ?_)
    replace h := bp_nM_s h em1
    exact hret _ _ _ _ _ h hP hD hS (dt_bm_M_line 123 rfl)
  have hL195 : ∀ (s0 : Int32) (m : bp_M), bm_M_line_L195 N a1 a2 a3 s0 m = some mr → ∀ (ls : Array Slot) (H : Heap) (locs : List Loc), lv_has ls 9 [] → va_P E.1 bp_cl (bm_W E m) H → va_D A (bm_W E m) → va_S A s.heap H locs → W p l e ({ frames := 1, cells := 0, slots := 0, locals := 21 }) s mt args below meth c H locs 0 0 Q (F0 mt 195 ls [.int s0, .ref (E.2.1 0)]) := by
    intro s0 m h ls H locs hl hP hD hS
    rw [bm_M_line_L195] at h
    refine lv_iconst (v := 1) hx hb (dt_bm_M_line 118 rfl) (by decide) ?_
    refine lv_goto (tgt := 200) hx hb (dt_bm_M_line 119 rfl) (by decide) ?_
    exact hL200 _ _ _ h ls H locs (lv_sub hl [] rfl) hP hD hS
  have hL134 : ∀ (x5 : Int32) (x6 : Int32) (s0 : Int32) (m : bp_M), bm_M_line_L134 N a1 a2 a3 x5 x6 s0 m = some mr → ∀ (ls : Array Slot) (H : Heap) (locs : List Loc), lv_has ls 9 [(0, .ref (E.2.1 0)), (1, .int a1), (2, .int a2), (5, .int x5), (6, .int x6)] → va_P E.1 bp_cl (bm_W E m) H → va_D A (bm_W E m) → va_S A s.heap H locs → W p l e ({ frames := 1, cells := 0, slots := 0, locals := 21 }) s mt args below meth c H locs 0 0 Q (F0 mt 134 ls [.int s0]) := by
    intro x5 x6 s0 m h ls H locs hl hP hD hS
    rw [bm_M_line_L134] at h
    refine lv_istore hx hb (dt_bm_M_line 82 rfl) hl (Nat.le_of_ble_eq_true rfl) rfl (fun ls hl => ?_)
    have hl : lv_has ls 9 [(8, .int s0), (0, .ref (E.2.1 0)), (1, .int a1), (2, .int a2), (5, .int x5), (6, .int x6)] := hl
    refine lv_aload_n hx hb (dt_bm_M_line 83 rfl) rfl (lv_at hl 1 rfl) ?_
    refine va_get (D := E.1) (ci := 10) (v := .ref (E.2.1 5)) (C := "BlockPicturesModel") (T := bF_M) (N := 48) hx hb htb bm_in_M hown hK hP 0 (bm_gM E m) rfl 23 (by decide) (htb _ tw_791) (fun _ h9 => h9) rfl (dt_bm_M_line 84 rfl) ?_
    refine lv_iload_n hx hb (dt_bm_M_line 85 rfl) rfl (lv_at hl 2 rfl) ?_
    refine lv_iload_n hx hb (dt_bm_M_line 86 rfl) rfl (lv_at hl 3 rfl) ?_
    refine lv_isub hx hb (dt_bm_M_line 87 rfl) ?_
    refine lv_iload hx hb (dt_bm_M_line 88 rfl) (lv_at hl 4 rfl) ?_
    refine lv_iload hx hb (dt_bm_M_line 89 rfl) (lv_at hl 0 rfl) ?_
    refine lv_iadd hx hb (dt_bm_M_line 90 rfl) ?_
    obtain ⟨z2, m1, hm1, h⟩ := bp_cI_s h
    refine bm_callI E hsub hS (va_runS (As := [.int (x5 + s0 : Int32)]) (rest := [.int (a1 - a2 : Int32), .ref (E.2.1 5)]) ⟨hx, hb, hml, hown, htb⟩ (wbm_M_limit l E N (x5 + s0 : Int32) m H.size z2 m1 hm1) (va_cwS 1 htb (bp_goodW tw_1002 tw_1003 tw_79 tw_1004) rfl rfl rfl hd_bm_M_limit ⟨Nat.le_of_ble_eq_true rfl, Nat.le_of_ble_eq_true rfl⟩) (bm_preS E hsub hst hK hP hD hS _) rfl rfl hl.1 rfl (lv_room (Nat.le_of_ble_eq_true rfl)) (dt_bm_M_line 91 rfl) ⟨Nat.zero_le _, Nat.zero_le _⟩) (fun H locs hP hD hS => ?_)
    obtain ⟨hg3, h⟩ := bp_gi_s h
    refine bm_sI E hx hb hK hP hD hS (bm_ga5 E) hg3 (dt_bm_M_line 92 rfl) (fun m4 em4 H locs hP hD hS => ?_)
    replace h := bp_nM_s h em4
    refine lv_aload_n hx hb (dt_bm_M_line 93 rfl) rfl (lv_at hl 1 rfl) ?_
    refine va_get (D := E.1) (ci := 10) (v := .ref (E.2.1 5)) (C := "BlockPicturesModel") (T := bF_M) (N := 48) hx hb htb bm_in_M hown hK hP 0 (bm_gM E m4) rfl 23 (by decide) (htb _ tw_791) (fun _ h9 => h9) rfl (dt_bm_M_line 94 rfl) ?_
    refine lv_iload_n hx hb (dt_bm_M_line 95 rfl) rfl (lv_at hl 2 rfl) ?_
    refine lv_iload hx hb (dt_bm_M_line 96 rfl) (lv_at hl 5 rfl) ?_
    refine lv_iload hx hb (dt_bm_M_line 97 rfl) (lv_at hl 0 rfl) ?_
    refine lv_isub hx hb (dt_bm_M_line 98 rfl) ?_
    obtain ⟨z6, m5, hm5, h⟩ := bp_cI_s h
    refine bm_callI E hsub hS (va_runS (As := [.int (x6 - s0 : Int32)]) (rest := [.int a1, .ref (E.2.1 5)]) ⟨hx, hb, hml, hown, htb⟩ (wbm_M_limit l E N (x6 - s0 : Int32) m4 H.size z6 m5 hm5) (va_cwS 1 htb (bp_goodW tw_1002 tw_1003 tw_79 tw_1004) rfl rfl rfl hd_bm_M_limit ⟨Nat.le_of_ble_eq_true rfl, Nat.le_of_ble_eq_true rfl⟩) (bm_preS E hsub hst hK hP hD hS _) rfl rfl hl.1 rfl (lv_room (Nat.le_of_ble_eq_true rfl)) (dt_bm_M_line 99 rfl) ⟨Nat.zero_le _, Nat.zero_le _⟩) (fun H locs hP hD hS => ?_)
    obtain ⟨hg7, h⟩ := bp_gi_s h
    refine bm_sI E hx hb hK hP hD hS (bm_ga5 E) hg7 (dt_bm_M_line 100 rfl) (fun m8 em8 H locs hP hD hS => ?_)
    replace h := bp_nM_s h em8
    refine lv_aload_n hx hb (dt_bm_M_line 101 rfl) rfl (lv_at hl 1 rfl) ?_
    refine lv_dup hx hb (dt_bm_M_line 102 rfl) rfl ?_
    refine va_get (D := E.1) (ci := 10) (v := .int (m8.1 0 30)) (C := "BlockPicturesModel") (T := bF_M) (N := 48) hx hb htb bm_in_M hown hK hP 0 (bm_gM E m8) rfl 30 (by decide) (htb _ tw_798) (fun _ h9 => h9) rfl (dt_bm_M_line 103 rfl) ?_
    refine lv_aload_n hx hb (dt_bm_M_line 104 rfl) rfl (lv_at hl 1 rfl) ?_
    refine va_get (D := E.1) (ci := 10) (v := .ref (E.2.1 5)) (C := "BlockPicturesModel") (T := bF_M) (N := 48) hx hb htb bm_in_M hown hK hP 0 (bm_gM E m8) rfl 23 (by decide) (htb _ tw_791) (fun _ h9 => h9) rfl (dt_bm_M_line 105 rfl) ?_
    refine lv_iload_n hx hb (dt_bm_M_line 106 rfl) rfl (lv_at hl 2 rfl) ?_
    refine lv_iload_n hx hb (dt_bm_M_line 107 rfl) rfl (lv_at hl 3 rfl) ?_
    refine lv_isub hx hb (dt_bm_M_line 108 rfl) ?_
    obtain ⟨hg9, h⟩ := bp_gi_s h
    refine bm_lI E hx hb hK hP (bm_ga5 E) hg9 (dt_bm_M_line 109 rfl) ?_
    refine lv_iload hx hb (dt_bm_M_line 110 rfl) (lv_at hl 4 rfl) ?_
    refine lv_icmp_ne (tgt := 195) hx hb (dt_bm_M_line 111 rfl) (by decide) (fun hc => ?_) (fun hc => ?_)
    · replace h := (if_pos hc).symm.trans h
      exact hL195 _ _ h ls H locs (lv_sub hl [] rfl) hP hD hS
    · replace h := (if_neg (fun hn => hn hc)).symm.trans h
      refine lv_aload_n hx hb (dt_bm_M_line 112 rfl) rfl (lv_at hl 1 rfl) ?_
      refine va_get (D := E.1) (ci := 10) (v := .ref (E.2.1 5)) (C := "BlockPicturesModel") (T := bF_M) (N := 48) hx hb htb bm_in_M hown hK hP 0 (bm_gM E m8) rfl 23 (by decide) (htb _ tw_791) (fun _ h9 => h9) rfl (dt_bm_M_line 113 rfl) ?_
      refine lv_iload_n hx hb (dt_bm_M_line 114 rfl) rfl (lv_at hl 2 rfl) ?_
      obtain ⟨hg10, h⟩ := bp_gi_s h
      refine bm_lI E hx hb hK hP (bm_ga5 E) hg10 (dt_bm_M_line 115 rfl) ?_
      refine lv_iload hx hb (dt_bm_M_line 116 rfl) (lv_at hl 5 rfl) ?_
      refine lv_icmp_eq (tgt := 199) hx hb (dt_bm_M_line 117 rfl) (by decide) (fun hc => ?_) (fun hc => ?_)
      · replace h := (if_pos hc).symm.trans h
        refine lv_iconst (v := 0) hx hb (dt_bm_M_line 120 rfl) (by decide) ?_
        exact hL200 _ _ _ h ls H locs (lv_sub hl [] rfl) hP hD hS
      · replace h := (if_neg hc).symm.trans h
        exact hL195 _ _ h ls H locs (lv_sub hl [] rfl) hP hD hS
  have hL90 : ∀ (m : bp_M), bm_M_line_L90 N a1 a2 a3 m = some mr → ∀ (ls : Array Slot) (H : Heap) (locs : List Loc), lv_has ls 9 [] → va_P E.1 bp_cl (bm_W E m) H → va_D A (bm_W E m) → va_S A s.heap H locs → W p l e ({ frames := 1, cells := 0, slots := 0, locals := 21 }) s mt args below meth c H locs 0 0 Q (F0 mt 90 ls []) := by
    intro m h ls H locs hl hP hD hS
    rw [bm_M_line_L90] at h
    exact hret _ _ _ _ _ h hP hD hS (dt_bm_M_line 54 rfl)
  suffices hgo : ∀ (H : Heap) (locs : List Loc), va_P E.1 bp_cl (bm_W E m) H → va_D A (bm_W E m) → va_S A s.heap H locs → W p l e ({ frames := 1, cells := 0, slots := 0, locals := 21 }) s mt args below meth c H locs 0 0 Q (F0 mt 0 ls []) from hgo _ _ hP hD hS
  clear hP hD hS
  intro H locs hP hD hS
  unfold bm_M_line at h
  refine lv_aload_n hx hb (dt_bm_M_line 0 rfl) rfl (lv_at hl 0 rfl) ?_
  refine va_get (D := E.1) (ci := 10) (v := .ref (E.2.1 5)) (C := "BlockPicturesModel") (T := bF_M) (N := 48) hx hb htb bm_in_M hown hK hP 0 (bm_gM E m) rfl 23 (by decide) (htb _ tw_791) (fun _ h9 => h9) rfl (dt_bm_M_line 1 rfl) ?_
  refine lv_iload_n hx hb (dt_bm_M_line 2 rfl) rfl (lv_at hl 1 rfl) ?_
  refine lv_iconst (v := 2) hx hb (dt_bm_M_line 3 rfl) (by decide) ?_
  refine lv_iload_n hx hb (dt_bm_M_line 4 rfl) rfl (lv_at hl 2 rfl) ?_
  refine lv_imul hx hb (dt_bm_M_line 5 rfl) ?_
  refine lv_isub hx hb (dt_bm_M_line 6 rfl) ?_
  obtain ⟨hg1, h⟩ := bp_gi_s h
  refine bm_lI E hx hb hK hP (bm_ga5 E) hg1 (dt_bm_M_line 7 rfl) ?_
  refine lv_topi (fun y2 ey2 => ?_)
  replace h := bp_nI_s h ey2
  refine lv_istore hx hb (dt_bm_M_line 8 rfl) hl (Nat.le_of_ble_eq_true rfl) rfl (fun ls hl => ?_)
  have hl : lv_has ls 9 [(4, .int y2), (0, .ref (E.2.1 0)), (1, .int a1), (2, .int a2), (3, .int a3)] := hl
  refine lv_aload_n hx hb (dt_bm_M_line 9 rfl) rfl (lv_at hl 1 rfl) ?_
  refine va_get (D := E.1) (ci := 10) (v := .ref (E.2.1 5)) (C := "BlockPicturesModel") (T := bF_M) (N := 48) hx hb htb bm_in_M hown hK hP 0 (bm_gM E m) rfl 23 (by decide) (htb _ tw_791) (fun _ h9 => h9) rfl (dt_bm_M_line 10 rfl) ?_
  refine lv_iload_n hx hb (dt_bm_M_line 11 rfl) rfl (lv_at hl 2 rfl) ?_
  refine lv_iload_n hx hb (dt_bm_M_line 12 rfl) rfl (lv_at hl 3 rfl) ?_
  refine lv_isub hx hb (dt_bm_M_line 13 rfl) ?_
  obtain ⟨hg3, h⟩ := bp_gi_s h
  refine bm_lI E hx hb hK hP (bm_ga5 E) hg3 (dt_bm_M_line 14 rfl) ?_
  refine lv_topi (fun y4 ey4 => ?_)
  replace h := bp_nI_s h ey4
  refine lv_istore hx hb (dt_bm_M_line 15 rfl) hl (Nat.le_of_ble_eq_true rfl) rfl (fun ls hl => ?_)
  have hl : lv_has ls 9 [(5, .int y4), (4, .int y2), (0, .ref (E.2.1 0)), (1, .int a1), (2, .int a2), (3, .int a3)] := hl
  refine lv_aload_n hx hb (dt_bm_M_line 16 rfl) rfl (lv_at hl 2 rfl) ?_
  refine va_get (D := E.1) (ci := 10) (v := .ref (E.2.1 5)) (C := "BlockPicturesModel") (T := bF_M) (N := 48) hx hb htb bm_in_M hown hK hP 0 (bm_gM E m) rfl 23 (by decide) (htb _ tw_791) (fun _ h9 => h9) rfl (dt_bm_M_line 17 rfl) ?_
  refine lv_iload_n hx hb (dt_bm_M_line 18 rfl) rfl (lv_at hl 3 rfl) ?_
  obtain ⟨hg5, h⟩ := bp_gi_s h
  refine bm_lI E hx hb hK hP (bm_ga5 E) hg5 (dt_bm_M_line 19 rfl) ?_
  refine lv_topi (fun y6 ey6 => ?_)
  replace h := bp_nI_s h ey6
  refine lv_istore hx hb (dt_bm_M_line 20 rfl) hl (Nat.le_of_ble_eq_true rfl) rfl (fun ls hl => ?_)
  have hl : lv_has ls 9 [(6, .int y6), (5, .int y4), (4, .int y2), (0, .ref (E.2.1 0)), (1, .int a1), (2, .int a2), (3, .int a3)] := hl
  refine lv_aload_n hx hb (dt_bm_M_line 21 rfl) rfl (lv_at hl 3 rfl) ?_
  refine va_get (D := E.1) (ci := 10) (v := .ref (E.2.1 5)) (C := "BlockPicturesModel") (T := bF_M) (N := 48) hx hb htb bm_in_M hown hK hP 0 (bm_gM E m) rfl 23 (by decide) (htb _ tw_791) (fun _ h9 => h9) rfl (dt_bm_M_line 22 rfl) ?_
  refine lv_iload_n hx hb (dt_bm_M_line 23 rfl) rfl (lv_at hl 4 rfl) ?_
  refine lv_iload_n hx hb (dt_bm_M_line 24 rfl) rfl (lv_at hl 5 rfl) ?_
  refine lv_iadd hx hb (dt_bm_M_line 25 rfl) ?_
  obtain ⟨hg7, h⟩ := bp_gi_s h
  refine bm_lI E hx hb hK hP (bm_ga5 E) hg7 (dt_bm_M_line 26 rfl) ?_
  refine lv_topi (fun y8 ey8 => ?_)
  replace h := bp_nI_s h ey8
  refine lv_istore hx hb (dt_bm_M_line 27 rfl) hl (Nat.le_of_ble_eq_true rfl) rfl (fun ls hl => ?_)
  have hl : lv_has ls 9 [(7, .int y8), (6, .int y6), (5, .int y4), (4, .int y2), (0, .ref (E.2.1 0)), (1, .int a1), (2, .int a2), (3, .int a3)] := hl
  refine lv_iload hx hb (dt_bm_M_line 28 rfl) (lv_at hl 2 rfl) ?_
  refine lv_iload hx hb (dt_bm_M_line 29 rfl) (lv_at hl 1 rfl) ?_
  obtain ⟨z10, m9, hm9, h⟩ := bp_cI_s h
  refine bm_callI E hsub hS (va_runS (As := [.int y4, .int y6]) (rest := []) ⟨hx, hb, hml, hown, htb⟩ (wbm_M_distance l E N y4 y6 m H.size z10 m9 hm9) (va_cwS 2 htb (bp_goodW tw_1028 tw_1029 tw_79 tw_1030) rfl rfl rfl hd_bm_M_distance ⟨Nat.le_of_ble_eq_true rfl, Nat.le_of_ble_eq_true rfl⟩) (bm_preS E hsub hst hK hP hD hS _) rfl rfl hl.1 rfl (lv_room (Nat.le_of_ble_eq_true rfl)) (dt_bm_M_line 30 rfl) ⟨Nat.zero_le _, Nat.zero_le _⟩) (fun H locs hP hD hS => ?_)
  refine lv_iconst (v := 4) hx hb (dt_bm_M_line 31 rfl) (by decide) ?_
  refine lv_iconst (v := 3) hx hb (dt_bm_M_line 32 rfl) (by decide) ?_
  refine lv_aload_n hx hb (dt_bm_M_line 33 rfl) rfl (lv_at hl 4 rfl) ?_
  refine va_get (D := E.1) (ci := 10) (v := .int (m9.1 0 19)) (C := "BlockPicturesModel") (T := bF_M) (N := 48) hx hb htb bm_in_M hown hK hP 0 (bm_gM E m9) rfl 19 (by decide) (htb _ tw_787) (fun _ h9 => h9) rfl (dt_bm_M_line 34 rfl) ?_
  refine lv_imul hx hb (dt_bm_M_line 35 rfl) ?_
  refine lv_iadd hx hb (dt_bm_M_line 36 rfl) ?_
  refine lv_icmp_ge (tgt := 90) hx hb (dt_bm_M_line 37 rfl) (by decide) (fun hc => ?_) (fun hc => ?_)
  · replace h := (if_pos hc).symm.trans h
    exact hL90 _ h ls H locs (lv_sub hl [] rfl) hP hD hS
  · replace h := (if_neg hc).symm.trans h
    refine lv_iload hx hb (dt_bm_M_line 38 rfl) (lv_at hl 3 rfl) ?_
    refine lv_iload hx hb (dt_bm_M_line 39 rfl) (lv_at hl 2 rfl) ?_
    obtain ⟨z12, m11, hm11, h⟩ := bp_cI_s h
    refine bm_callI E hsub hS (va_runS (As := [.int y2, .int y4]) (rest := []) ⟨hx, hb, hml, hown, htb⟩ (wbm_M_distance l E N y2 y4 m9 H.size z12 m11 hm11) (va_cwS 2 htb (bp_goodW tw_1028 tw_1029 tw_79 tw_1030) rfl rfl rfl hd_bm_M_distance ⟨Nat.le_of_ble_eq_true rfl, Nat.le_of_ble_eq_true rfl⟩) (bm_preS E hsub hst hK hP hD hS _) rfl rfl hl.1 rfl (lv_room (Nat.le_of_ble_eq_true rfl)) (dt_bm_M_line 40 rfl) ⟨Nat.zero_le _, Nat.zero_le _⟩) (fun H locs hP hD hS => ?_)
    refine lv_iconst (v := 2) hx hb (dt_bm_M_line 41 rfl) (by decide) ?_
    refine lv_aload_n hx hb (dt_bm_M_line 42 rfl) rfl (lv_at hl 4 rfl) ?_
    refine va_get (D := E.1) (ci := 10) (v := .int (m11.1 0 19)) (C := "BlockPicturesModel") (T := bF_M) (N := 48) hx hb htb bm_in_M hown hK hP 0 (bm_gM E m11) rfl 19 (by decide) (htb _ tw_787) (fun _ h9 => h9) rfl (dt_bm_M_line 43 rfl) ?_
    refine lv_iadd hx hb (dt_bm_M_line 44 rfl) ?_
    refine lv_icmp_ge (tgt := 90) hx hb (dt_bm_M_line 45 rfl) (by decide) (fun hc => ?_) (fun hc => ?_)
    · replace h := (if_pos hc).symm.trans h
      exact hL90 _ h ls H locs (lv_sub hl [] rfl) hP hD hS
    · replace h := (if_neg hc).symm.trans h
      refine lv_iload hx hb (dt_bm_M_line 46 rfl) (lv_at hl 0 rfl) ?_
      refine lv_iload hx hb (dt_bm_M_line 47 rfl) (lv_at hl 1 rfl) ?_
      obtain ⟨z14, m13, hm13, h⟩ := bp_cI_s h
      refine bm_callI E hsub hS (va_runS (As := [.int y8, .int y6]) (rest := []) ⟨hx, hb, hml, hown, htb⟩ (wbm_M_distance l E N y8 y6 m11 H.size z14 m13 hm13) (va_cwS 2 htb (bp_goodW tw_1028 tw_1029 tw_79 tw_1030) rfl rfl rfl hd_bm_M_distance ⟨Nat.le_of_ble_eq_true rfl, Nat.le_of_ble_eq_true rfl⟩) (bm_preS E hsub hst hK hP hD hS _) rfl rfl hl.1 rfl (lv_room (Nat.le_of_ble_eq_true rfl)) (dt_bm_M_line 48 rfl) ⟨Nat.zero_le _, Nat.zero_le _⟩) (fun H locs hP hD hS => ?_)
      refine lv_iconst (v := 2) hx hb (dt_bm_M_line 49 rfl) (by decide) ?_
      refine lv_aload_n hx hb (dt_bm_M_line 50 rfl) rfl (lv_at hl 4 rfl) ?_
      refine va_get (D := E.1) (ci := 10) (v := .int (m13.1 0 19)) (C := "BlockPicturesModel") (T := bF_M) (N := 48) hx hb htb bm_in_M hown hK hP 0 (bm_gM E m13) rfl 19 (by decide) (htb _ tw_787) (fun _ h9 => h9) rfl (dt_bm_M_line 51 rfl) ?_
      refine lv_iadd hx hb (dt_bm_M_line 52 rfl) ?_
      refine lv_icmp_lt (tgt := 91) hx hb (dt_bm_M_line 53 rfl) (by decide) (fun hc => ?_) (fun hc => ?_)
      · replace h := (if_pos hc).symm.trans h
        refine lv_iconst (v := 4) hx hb (dt_bm_M_line 55 rfl) (by decide) ?_
        refine lv_iload hx hb (dt_bm_M_line 56 rfl) (lv_at hl 1 rfl) ?_
        refine lv_iload hx hb (dt_bm_M_line 57 rfl) (lv_at hl 2 rfl) ?_
        refine lv_isub hx hb (dt_bm_M_line 58 rfl) ?_
        refine lv_imul hx hb (dt_bm_M_line 59 rfl) ?_
        refine lv_iload hx hb (dt_bm_M_line 60 rfl) (lv_at hl 3 rfl) ?_
        refine lv_iadd hx hb (dt_bm_M_line 61 rfl) ?_
        refine lv_iload hx hb (dt_bm_M_line 62 rfl) (lv_at hl 0 rfl) ?_
        refine lv_isub hx hb (dt_bm_M_line 63 rfl) ?_
        refine lv_iconst (v := 4) hx hb (dt_bm_M_line 64 rfl) (by decide) ?_
        refine lv_iadd hx hb (dt_bm_M_line 65 rfl) ?_
        refine lv_iconst (v := 3) hx hb (dt_bm_M_line 66 rfl) (by decide) ?_
        refine lv_ishr hx hb (dt_bm_M_line 67 rfl) ?_
        refine lv_topi (fun y15 ey15 => ?_)
        replace h := bp_nI_s h ey15
        refine lv_istore hx hb (dt_bm_M_line 68 rfl) hl (Nat.le_of_ble_eq_true rfl) rfl (fun ls hl => ?_)
        have hl : lv_has ls 9 [(8, .int y15), (7, .int y8), (6, .int y6), (5, .int y4), (4, .int y2), (0, .ref (E.2.1 0)), (1, .int a1), (2, .int a2), (3, .int a3)] := hl
        refine lv_iload hx hb (dt_bm_M_line 69 rfl) (lv_at hl 0 rfl) ?_
        refine lv_iload_n hx hb (dt_bm_M_line 70 rfl) rfl (lv_at hl 8 rfl) ?_
        refine lv_ineg hx hb (dt_bm_M_line 71 rfl) ?_
        refine lv_icmp_ge (tgt := 122) hx hb (dt_bm_M_line 72 rfl) (by decide) (fun hc => ?_) (fun hc => ?_)
        · replace h := (if_pos hc).symm.trans h
          refine lv_iload hx hb (dt_bm_M_line 76 rfl) (lv_at hl 0 rfl) ?_
          refine lv_iload_n hx hb (dt_bm_M_line 77 rfl) rfl (lv_at hl 8 rfl) ?_
          refine lv_icmp_le (tgt := 132) hx hb (dt_bm_M_line 78 rfl) (by decide) (fun hc => ?_) (fun hc => ?_)
          · replace h := (if_pos hc).symm.trans h
            refine lv_iload hx hb (dt_bm_M_line 81 rfl) (lv_at hl 0 rfl) ?_
            exact hL134 _ _ _ _ h ls H locs (lv_sub hl [5, 6, 7, 3, 2] rfl) hP hD hS
          · replace h := (if_neg hc).symm.trans h
            refine lv_iload_n hx hb (dt_bm_M_line 79 rfl) rfl (lv_at hl 8 rfl) ?_
            refine lv_goto (tgt := 134) hx hb (dt_bm_M_line 80 rfl) (by decide) ?_
            exact hL134 _ _ _ _ h ls H locs (lv_sub hl [5, 6, 7, 3, 2] rfl) hP hD hS
        · replace h := (if_neg hc).symm.trans h
          refine lv_iload_n hx hb (dt_bm_M_line 73 rfl) rfl (lv_at hl 8 rfl) ?_
          refine lv_ineg hx hb (dt_bm_M_line 74 rfl) ?_
          refine lv_goto (tgt := 134) hx hb (dt_bm_M_line 75 rfl) (by decide) ?_
          exact hL134 _ _ _ _ h ls H locs (lv_sub hl [5, 6, 7, 3, 2] rfl) hP hD hS
      · replace h := (if_neg hc).symm.trans h
        exact hL90 _ h ls H locs (lv_sub hl [] rfl) hP hD hS
set_option maxHeartbeats 4000000 in
set_option maxRecDepth 100000 in
theorem wbm_M_edge (l : Launch) (E : bm_E) (N : Nat) (a1 : Int32) (a2 : Int32) (a3 : Int32) (a4 : Int32) (m : bp_M) (sz : Nat) (mr : bp_M)  (h : bm_M_edge N a1 a2 a3 a4 m = some mr) : Met l y_bm_M_edge (Cond.code y_bm_M_edge prog_13_method_34_code 7 none :: bp_tb) ({ frames := 2, cells := 0, slots := 0, locals := 49 }) (bm_Pc E m sz [.ref (E.2.1 0), .int a1, .int a2, .int a3, .int a4]) (bm_Qv E m sz mr) 0 0 (va_A (bm_W E m) sz) := by
  refine Met.ofW (cc := prog_13_method_34_code) (maxL := 7) (ret := none) (by decide) rfl ?_
  intro p e s mt args below meth c s₁ B hml hv
  obtain ⟨rfl, hsz, hP, hK, hD0, hst⟩ := hv
  have hx := B.exec
  have hb := B.bytes
  have hr := B.returns
  have htb : ∀ w ∈ bp_tb, w.before _ s = true := fun w hw => atoms_spec (ws := Cond.code y_bm_M_edge prog_13_method_34_code 7 none :: bp_tb) B.pre w (List.mem_cons_of_mem _ hw)
  have hown : s.vm.findClass "BlockPicturesModel" = some mt.cls := findClass_of_methodNamed B.named
  have hlocks := B.notSynchronized
  subst hsz
  have hD := hD0.self (sz := s.heap.size)
  generalize hAe : va_A (bm_W E m) s.heap.size = A at hD hst ⊢
  have hsub : ∀ (u : bp_M) (z q : Nat), s.heap.size ≤ z → va_A (bm_W E u) z q → A q := bm_sub hAe
  have hS : va_S A s.heap s.heap [] := va_S.rf
  have hl := lv_entry ([.ref (E.2.1 0), .int a1, .int a2, .int a3, .int a4]) (n := 7) (Nat.le_of_ble_eq_true rfl)
  rw [lg_entry_eq]
  generalize (lg_sl ([.ref (E.2.1 0), .int a1, .int a2, .int a3, .int a4]) ++ List.replicate (7 - (lg_sl ([.ref (E.2.1 0), .int a1, .int a2, .int a3, .int a4])).length) Slot.unset).toArray = ls at hl ⊢
  have hl : lv_has ls 7 [(0, .ref (E.2.1 0)), (1, .int a1), (2, .int a2), (3, .int a3), (4, .int a4)] := hl
  refine bm_keyV (R := ({ frames := 2, cells := 0, slots := 0, locals := 49 })) E hx hb hr hlocks hK hAe (fun Q hret => ?_)
  clear B hD0 hlocks hr
  generalize ([.ref (E.2.1 0), .int a1, .int a2, .int a3, .int a4] : List Value).toArray = args at htb hret ⊢
  clear hAe
  have hL52 : ∀ (m : bp_M), bm_M_edge_L52 N a1 a2 a3 a4 m = some mr → ∀ (ls : Array Slot) (H : Heap) (locs : List Loc), lv_has ls 7 [] → va_P E.1 bp_cl (bm_W E m) H → va_D A (bm_W E m) → va_S A s.heap H locs → W p l e ({ frames := 2, cells := 0, slots := 0, locals := 49 }) s mt args below meth c H locs 0 0 Q (F0 mt 52 ls []) := by
    intro m h ls H locs hl hP hD hS
    rw [bm_M_edge_L52] at h
    exact hret _ _ _ _ _ h hP hD hS (dt_bm_M_edge 29 rfl)
  have hL11 : ∀ (n11 : Nat) (x5 : Int32) (x6 : Int32) (m : bp_M), bm_M_edge_L11 N a1 a2 a3 a4 n11 x5 x6 m = some mr → ∀ (ls : Array Slot) (H : Heap) (locs : List Loc), lv_has ls 7 [(0, .ref (E.2.1 0)), (2, .int a2), (3, .int a3), (4, .int a4), (5, .int x5), (6, .int x6)] → va_P E.1 bp_cl (bm_W E m) H → va_D A (bm_W E m) → va_S A s.heap H locs → W p l e ({ frames := 2, cells := 0, slots := 0, locals := 49 }) s mt args below meth c H locs 0 0 Q (F0 mt 11 ls []) := by
    intro n11
    induction n11 with
    | zero =>
      intro x5 x6 m h ls H locs hl hP hD hS
      rw [bm_M_edge_L11] at h
      cases h
    | succ n11 ih11 =>
      intro x5 x6 m h ls H locs hl hP hD hS
      rw [bm_M_edge_L11] at h
      refine lv_iload hx hb (dt_bm_M_edge 7 rfl) (lv_at hl 5 rfl) ?_
      refine lv_iconst (v := 4) hx hb (dt_bm_M_edge 8 rfl) (by decide) ?_
      refine lv_icmp_ge (tgt := 52) hx hb (dt_bm_M_edge 9 rfl) (by decide) (fun hc => ?_) (fun hc => ?_)
      · replace h := (if_pos hc).symm.trans h
        exact hL52 _ h ls H locs (lv_sub hl [] rfl) hP hD hS
      · replace h := (if_neg hc).symm.trans h
        refine lv_iload hx hb (dt_bm_M_edge 10 rfl) (lv_at hl 4 rfl) ?_
        refine lv_if_le (tgt := 52) hx hb (dt_bm_M_edge 11 rfl) (by decide) (fun hc => ?_) (fun hc => ?_)
        · replace h := (if_pos hc).symm.trans h
          exact hL52 _ h ls H locs (lv_sub hl [] rfl) hP hD hS
        · replace h := (if_neg hc).symm.trans h
          refine lv_aload_n hx hb (dt_bm_M_edge 12 rfl) rfl (lv_at hl 0 rfl) ?_
          refine lv_iload_n hx hb (dt_bm_M_edge 13 rfl) rfl (lv_at hl 1 rfl) ?_
          obtain ⟨z2, m1, hm1, h⟩ := bp_cI_s h
          refine bm_callI E hsub hS (va_runS (As := [.int a2]) (rest := [.ref (E.2.1 0)]) ⟨hx, hb, hml, hown, htb⟩ (wbm_M_corner l E N a2 m H.size z2 m1 hm1) (va_cwS 1 htb (bp_goodW tw_1013 tw_1014 tw_79 tw_1015) rfl rfl rfl hd_bm_M_corner ⟨Nat.le_of_ble_eq_true rfl, Nat.le_of_ble_eq_true rfl⟩) (bm_preS E hsub hst hK hP hD hS _) rfl rfl hl.1 rfl (lv_room (Nat.le_of_ble_eq_true rfl)) (dt_bm_M_edge 14 rfl) ⟨Nat.zero_le _, Nat.zero_le _⟩) (fun H locs hP hD hS => ?_)
          refine lv_iload hx hb (dt_bm_M_edge 15 rfl) (lv_at hl 5 rfl) ?_
          refine lv_iload hx hb (dt_bm_M_edge 16 rfl) (lv_at hl 3 rfl) ?_
          refine lv_imul hx hb (dt_bm_M_edge 17 rfl) ?_
          refine lv_iadd hx hb (dt_bm_M_edge 18 rfl) ?_
          refine lv_iload_n hx hb (dt_bm_M_edge 19 rfl) rfl (lv_at hl 2 rfl) ?_
          refine lv_iload hx hb (dt_bm_M_edge 20 rfl) (lv_at hl 4 rfl) ?_
          refine lv_aload_n hx hb (dt_bm_M_edge 21 rfl) rfl (lv_at hl 0 rfl) ?_
          refine va_get (D := E.1) (ci := 10) (v := .int (m1.1 0 19)) (C := "BlockPicturesModel") (T := bF_M) (N := 48) hx hb htb bm_in_M hown hK hP 0 (bm_gM E m1) rfl 19 (by decide) (htb _ tw_787) (fun _ h9 => h9) rfl (dt_bm_M_edge 22 rfl) ?_
          refine lv_iconst (v := 3) hx hb (dt_bm_M_edge 23 rfl) (by decide) ?_
          refine lv_idiv hx hb (dt_bm_M_edge 24 rfl) (by decide) ?_
          refine lv_iadd hx hb (dt_bm_M_edge 25 rfl) ?_
          obtain ⟨m3, hm3, h⟩ := bp_cV_s h
          refine bm_callV E hsub hS (va_runV (As := [.int (z2 + (x6 * a4 : Int32) : Int32), .int a3, .int (x5 + ((m1.1 0 19) / 3 : Int32) : Int32)]) (rest := []) ⟨hx, hb, hml, hown, htb⟩ (wbm_M_line l E N (z2 + (x6 * a4 : Int32) : Int32) a3 (x5 + ((m1.1 0 19) / 3 : Int32) : Int32) m1 H.size m3 hm3) (cwV 3 htb (bp_goodV tw_1031 tw_1033 tw_57 tw_79 tw_1034) rfl rfl rfl ⟨rfl, hd_bm_M_line⟩ ⟨Nat.le_of_ble_eq_true rfl, Nat.le_of_ble_eq_true rfl⟩) (bm_preV E hsub hst hK hP hD hS (bm_gM E m1) rfl rfl _) rfl rfl hl.1 rfl (lv_room (Nat.le_of_ble_eq_true rfl)) (dt_bm_M_edge 26 rfl) ⟨Nat.zero_le _, Nat.zero_le _⟩) (fun H locs hP hD hS => ?_)
          obtain ⟨y4, ey4⟩ : ∃ z : Int32, z = x6 + 1 := ⟨_, rfl⟩
          replace h := bp_nI_s h ey4
          refine lv_iinc (k := 5) (v := y4) hx hb (dt_bm_M_edge 27 rfl) hl rfl (by rw [ey4]; rfl) (Nat.le_of_ble_eq_true rfl) rfl (fun ls hl => ?_)
          have hl : lv_has ls 7 [(6, .int y4), (0, .ref (E.2.1 0)), (2, .int a2), (3, .int a3), (4, .int a4), (5, .int x5)] := hl
          refine lv_goto (tgt := 11) hx hb (dt_bm_M_edge 28 rfl) (by decide) ?_
          exact ih11 _ _ _ h ls H locs (lv_sub hl [1, 2, 3, 4, 5, 0] rfl) hP hD hS
  suffices hgo : ∀ (H : Heap) (locs : List Loc), va_P E.1 bp_cl (bm_W E m) H → va_D A (bm_W E m) → va_S A s.heap H locs → W p l e ({ frames := 2, cells := 0, slots := 0, locals := 49 }) s mt args below meth c H locs 0 0 Q (F0 mt 0 ls []) from hgo _ _ hP hD hS
  clear hP hD hS
  intro H locs hP hD hS
  unfold bm_M_edge at h
  refine lv_aload_n hx hb (dt_bm_M_edge 0 rfl) rfl (lv_at hl 0 rfl) ?_
  refine lv_iload_n hx hb (dt_bm_M_edge 1 rfl) rfl (lv_at hl 1 rfl) ?_
  refine lv_iload_n hx hb (dt_bm_M_edge 2 rfl) rfl (lv_at hl 2 rfl) ?_
  obtain ⟨z2, m1, hm1, h⟩ := bp_cI_s h
  refine bm_callI E hsub hS (va_runV (As := [.int a1, .int a2]) (rest := []) ⟨hx, hb, hml, hown, htb⟩ (wbm_M_strength l E N a1 a2 m H.size z2 m1 hm1) (cwV 2 htb (bp_goodV tw_1024 tw_1026 tw_56 tw_79 tw_1027) rfl rfl rfl ⟨rfl, hd_bm_M_strength⟩ ⟨Nat.le_of_ble_eq_true rfl, Nat.le_of_ble_eq_true rfl⟩) (bm_preV E hsub hst hK hP hD hS (bm_gM E m) rfl rfl _) rfl rfl hl.1 rfl (lv_room (Nat.le_of_ble_eq_true rfl)) (dt_bm_M_edge 3 rfl) ⟨Nat.zero_le _, Nat.zero_le _⟩) (fun H locs hP hD hS => ?_)
  refine lv_istore hx hb (dt_bm_M_edge 4 rfl) hl (Nat.le_of_ble_eq_true rfl) rfl (fun ls hl => ?_)
  have hl : lv_has ls 7 [(5, .int z2), (0, .ref (E.2.1 0)), (1, .int a1), (2, .int a2), (3, .int a3), (4, .int a4)] := hl
  refine lv_iconst (v := 0) hx hb (dt_bm_M_edge 5 rfl) (by decide) ?_
  refine lv_istore hx hb (dt_bm_M_edge 6 rfl) hl (Nat.le_of_ble_eq_true rfl) rfl (fun ls hl => ?_)
  have hl : lv_has ls 7 [(6, .int 0), (5, .int z2), (0, .ref (E.2.1 0)), (1, .int a1), (2, .int a2), (3, .int a3), (4, .int a4)] := hl
  exact hL11 _ _ _ _ h ls H locs (lv_sub hl [2, 4, 5, 6, 1, 0] rfl) hP hD hS
set_option maxHeartbeats 4000000 in
set_option maxRecDepth 100000 in
theorem wbm_M_edges (l : Launch) (E : bm_E) (N : Nat)  (m : bp_M) (sz : Nat) (mr : bp_M)  (h : bm_M_edges N m = some mr) : Met l y_bm_M_edges (Cond.code y_bm_M_edges prog_13_method_32_code 2 none :: bp_tb) ({ frames := 3, cells := 0, slots := 0, locals := 75 }) (bm_Pc E m sz [.ref (E.2.1 0)]) (bm_Qv E m sz mr) 0 0 (va_A (bm_W E m) sz) := by
  refine Met.ofW (cc := prog_13_method_32_code) (maxL := 2) (ret := none) (by decide) rfl ?_
  intro p e s mt args below meth c s₁ B hml hv
  obtain ⟨rfl, hsz, hP, hK, hD0, hst⟩ := hv
  have hx := B.exec
  have hb := B.bytes
  have hr := B.returns
  have htb : ∀ w ∈ bp_tb, w.before _ s = true := fun w hw => atoms_spec (ws := Cond.code y_bm_M_edges prog_13_method_32_code 2 none :: bp_tb) B.pre w (List.mem_cons_of_mem _ hw)
  have hown : s.vm.findClass "BlockPicturesModel" = some mt.cls := findClass_of_methodNamed B.named
  have hlocks := B.notSynchronized
  subst hsz
  have hD := hD0.self (sz := s.heap.size)
  generalize hAe : va_A (bm_W E m) s.heap.size = A at hD hst ⊢
  have hsub : ∀ (u : bp_M) (z q : Nat), s.heap.size ≤ z → va_A (bm_W E u) z q → A q := bm_sub hAe
  have hS : va_S A s.heap s.heap [] := va_S.rf
  have hl := lv_entry ([.ref (E.2.1 0)]) (n := 2) (Nat.le_of_ble_eq_true rfl)
  rw [lg_entry_eq]
  generalize (lg_sl ([.ref (E.2.1 0)]) ++ List.replicate (2 - (lg_sl ([.ref (E.2.1 0)])).length) Slot.unset).toArray = ls at hl ⊢
  have hl : lv_has ls 2 [(0, .ref (E.2.1 0))] := hl
  refine bm_keyV (R := ({ frames := 3, cells := 0, slots := 0, locals := 75 })) E hx hb hr hlocks hK hAe (fun Q hret => ?_)
  clear B hD0 hlocks hr
  generalize ([.ref (E.2.1 0)] : List Value).toArray = args at htb hret ⊢
  clear hAe
  have hL52 : ∀ (m : bp_M), bm_M_edges_L52 N m = some mr → ∀ (ls : Array Slot) (H : Heap) (locs : List Loc), lv_has ls 2 [] → va_P E.1 bp_cl (bm_W E m) H → va_D A (bm_W E m) → va_S A s.heap H locs → W p l e ({ frames := 3, cells := 0, slots := 0, locals := 75 }) s mt args below meth c H locs 0 0 Q (F0 mt 52 ls []) := by
    intro m h ls H locs hl hP hD hS
    rw [bm_M_edges_L52] at h
    exact hret _ _ _ _ _ h hP hD hS (dt_bm_M_edges 33 rfl)
  have hL7 : ∀ (n7 : Nat) (x1 : Int32) (m : bp_M), bm_M_edges_L7 N n7 x1 m = some mr → ∀ (ls : Array Slot) (H : Heap) (locs : List Loc), lv_has ls 2 [(0, .ref (E.2.1 0)), (1, .int x1)] → va_P E.1 bp_cl (bm_W E m) H → va_D A (bm_W E m) → va_S A s.heap H locs → W p l e ({ frames := 3, cells := 0, slots := 0, locals := 75 }) s mt args below meth c H locs 0 0 Q (F0 mt 7 ls []) := by
    intro n7
    induction n7 with
    | zero =>
      intro x1 m h ls H locs hl hP hD hS
      rw [bm_M_edges_L7] at h
      cases h
    | succ n7 ih7 =>
      have hL46 : ∀ (x1 : Int32) (m : bp_M), bm_M_edges_L46 (bm_M_edges_L7 N n7) N x1 m = some mr → ∀ (ls : Array Slot) (H : Heap) (locs : List Loc), lv_has ls 2 [(0, .ref (E.2.1 0)), (1, .int x1)] → va_P E.1 bp_cl (bm_W E m) H → va_D A (bm_W E m) → va_S A s.heap H locs → W p l e ({ frames := 3, cells := 0, slots := 0, locals := 75 }) s mt args below meth c H locs 0 0 Q (F0 mt 46 ls []) := by
        intro x1 m h ls H locs hl hP hD hS
        rw [bm_M_edges_L46] at h
        obtain ⟨y1, ey1⟩ : ∃ z : Int32, z = x1 + 1 := ⟨_, rfl⟩
        replace h := bp_nI_s h ey1
        refine lv_iinc (k := 1) (v := y1) hx hb (dt_bm_M_edges 31 rfl) hl rfl (by rw [ey1]; rfl) (Nat.le_of_ble_eq_true rfl) rfl (fun ls hl => ?_)
        have hl : lv_has ls 2 [(1, .int y1), (0, .ref (E.2.1 0))] := hl
        refine lv_goto (tgt := 7) hx hb (dt_bm_M_edges 32 rfl) (by decide) ?_
        exact ih7 _ _ h ls H locs (lv_sub hl [1, 0] rfl) hP hD hS
      have hL30 : ∀ (x1 : Int32) (m : bp_M), bm_M_edges_L30 (bm_M_edges_L7 N n7) N x1 m = some mr → ∀ (ls : Array Slot) (H : Heap) (locs : List Loc), lv_has ls 2 [(0, .ref (E.2.1 0)), (1, .int x1)] → va_P E.1 bp_cl (bm_W E m) H → va_D A (bm_W E m) → va_S A s.heap H locs → W p l e ({ frames := 3, cells := 0, slots := 0, locals := 75 }) s mt args below meth c H locs 0 0 Q (F0 mt 30 ls []) := by
        intro x1 m h ls H locs hl hP hD hS
        rw [bm_M_edges_L30] at h
        refine lv_iload_n hx hb (dt_bm_M_edges 20 rfl) rfl (lv_at hl 1 rfl) ?_
        refine lv_iconst (v := 4) hx hb (dt_bm_M_edges 21 rfl) (by decide) ?_
        refine lv_icmp_lt (tgt := 46) hx hb (dt_bm_M_edges 22 rfl) (by decide) (fun hc => ?_) (fun hc => ?_)
        · replace h := (if_pos hc).symm.trans h
          exact hL46 _ _ h ls H locs (lv_sub hl [0, 1] rfl) hP hD hS
        · replace h := (if_neg hc).symm.trans h
          refine lv_aload_n hx hb (dt_bm_M_edges 23 rfl) rfl (lv_at hl 0 rfl) ?_
          refine lv_iload_n hx hb (dt_bm_M_edges 24 rfl) rfl (lv_at hl 1 rfl) ?_
          refine lv_iconst (v := 4) hx hb (dt_bm_M_edges 25 rfl) (by decide) ?_
          refine lv_isub hx hb (dt_bm_M_edges 26 rfl) ?_
          refine lv_iload_n hx hb (dt_bm_M_edges 27 rfl) rfl (lv_at hl 1 rfl) ?_
          refine lv_bipush (v := 16) hx hb (dt_bm_M_edges 28 rfl) (by decide) ?_
          refine lv_iconst (v := 1) hx hb (dt_bm_M_edges 29 rfl) (by decide) ?_
          obtain ⟨m1, hm1, h⟩ := bp_cV_s h
          refine bm_callV E hsub hS (va_runV (As := [.int (x1 - 4 : Int32), .int x1, .int 16, .int 1]) (rest := []) ⟨hx, hb, hml, hown, htb⟩ (wbm_M_edge l E N (x1 - 4 : Int32) x1 16 1 m H.size m1 hm1) (cwV 4 htb (bp_goodV tw_1020 tw_1022 tw_55 tw_79 tw_1023) rfl rfl rfl ⟨rfl, hd_bm_M_edge⟩ ⟨Nat.le_of_ble_eq_true rfl, Nat.le_of_ble_eq_true rfl⟩) (bm_preV E hsub hst hK hP hD hS (bm_gM E m) rfl rfl _) rfl rfl hl.1 rfl (lv_room (Nat.le_of_ble_eq_true rfl)) (dt_bm_M_edges 30 rfl) ⟨Nat.zero_le _, Nat.zero_le _⟩) (fun H locs hP hD hS => ?_)
          exact hL46 _ _ h ls H locs (lv_sub hl [0, 1] rfl) hP hD hS
      intro x1 m h ls H locs hl hP hD hS
      rw [bm_M_edges_L7] at h
      refine lv_iload_n hx hb (dt_bm_M_edges 5 rfl) rfl (lv_at hl 1 rfl) ?_
      refine lv_bipush (v := 16) hx hb (dt_bm_M_edges 6 rfl) (by decide) ?_
      refine lv_icmp_ge (tgt := 52) hx hb (dt_bm_M_edges 7 rfl) (by decide) (fun hc => ?_) (fun hc => ?_)
      · replace h := (if_pos hc).symm.trans h
        exact hL52 _ h ls H locs (lv_sub hl [] rfl) hP hD hS
      · replace h := (if_neg hc).symm.trans h
        refine lv_iload_n hx hb (dt_bm_M_edges 8 rfl) rfl (lv_at hl 1 rfl) ?_
        refine lv_iconst (v := 4) hx hb (dt_bm_M_edges 9 rfl) (by decide) ?_
        refine lv_irem hx hb (dt_bm_M_edges 10 rfl) (by decide) ?_
        refine lv_if_le (tgt := 30) hx hb (dt_bm_M_edges 11 rfl) (by decide) (fun hc => ?_) (fun hc => ?_)
        · replace h := (if_pos hc).symm.trans h
          exact hL30 _ _ h ls H locs (lv_sub hl [0, 1] rfl) hP hD hS
        · replace h := (if_neg hc).symm.trans h
          refine lv_aload_n hx hb (dt_bm_M_edges 12 rfl) rfl (lv_at hl 0 rfl) ?_
          refine lv_iload_n hx hb (dt_bm_M_edges 13 rfl) rfl (lv_at hl 1 rfl) ?_
          refine lv_iconst (v := 1) hx hb (dt_bm_M_edges 14 rfl) (by decide) ?_
          refine lv_isub hx hb (dt_bm_M_edges 15 rfl) ?_
          refine lv_iload_n hx hb (dt_bm_M_edges 16 rfl) rfl (lv_at hl 1 rfl) ?_
          refine lv_iconst (v := 1) hx hb (dt_bm_M_edges 17 rfl) (by decide) ?_
          refine lv_bipush (v := 16) hx hb (dt_bm_M_edges 18 rfl) (by decide) ?_
          obtain ⟨m1, hm1, h⟩ := bp_cV_s h
          refine bm_callV E hsub hS (va_runV (As := [.int (x1 - 1 : Int32), .int x1, .int 1, .int 16]) (rest := []) ⟨hx, hb, hml, hown, htb⟩ (wbm_M_edge l E N (x1 - 1 : Int32) x1 1 16 m H.size m1 hm1) (cwV 4 htb (bp_goodV tw_1020 tw_1022 tw_55 tw_79 tw_1023) rfl rfl rfl ⟨rfl, hd_bm_M_edge⟩ ⟨Nat.le_of_ble_eq_true rfl, Nat.le_of_ble_eq_true rfl⟩) (bm_preV E hsub hst hK hP hD hS (bm_gM E m) rfl rfl _) rfl rfl hl.1 rfl (lv_room (Nat.le_of_ble_eq_true rfl)) (dt_bm_M_edges 19 rfl) ⟨Nat.zero_le _, Nat.zero_le _⟩) (fun H locs hP hD hS => ?_)
          exact hL30 _ _ h ls H locs (lv_sub hl [0, 1] rfl) hP hD hS
  suffices hgo : ∀ (H : Heap) (locs : List Loc), va_P E.1 bp_cl (bm_W E m) H → va_D A (bm_W E m) → va_S A s.heap H locs → W p l e ({ frames := 3, cells := 0, slots := 0, locals := 75 }) s mt args below meth c H locs 0 0 Q (F0 mt 0 ls []) from hgo _ _ hP hD hS
  clear hP hD hS
  intro H locs hP hD hS
  unfold bm_M_edges at h
  refine lv_aload_n hx hb (dt_bm_M_edges 0 rfl) rfl (lv_at hl 0 rfl) ?_
  refine lv_iconst (v := 0) hx hb (dt_bm_M_edges 1 rfl) (by decide) ?_
  refine bm_pM_30 E hx hb htb hown hK hP hD hS (htb _ tw_798) (dt_bm_M_edges 2 rfl) (fun m1 em1 H locs hP hD hS => ?_)
  replace h := bp_nM_s h em1
  refine lv_iconst (v := 0) hx hb (dt_bm_M_edges 3 rfl) (by decide) ?_
  refine lv_istore_n hx hb (dt_bm_M_edges 4 rfl) rfl hl (Nat.le_of_ble_eq_true rfl) rfl (fun ls hl => ?_)
  have hl : lv_has ls 2 [(1, .int 0), (0, .ref (E.2.1 0))] := hl
  exact hL7 _ _ _ h ls H locs (lv_sub hl [1, 0] rfl) hP hD hS
set_option maxHeartbeats 4000000 in
set_option maxRecDepth 100000 in
theorem wbm_M_remember (l : Launch) (E : bm_E) (N : Nat)  (m : bp_M) (sz : Nat) (mr : bp_M)  (h : bm_M_remember N m = some mr) : Met l y_bm_M_remember (Cond.code y_bm_M_remember prog_13_method_36_code 2 none :: bp_tb) ({ frames := 0, cells := 0, slots := 0, locals := 0 }) (bm_Pc E m sz [.ref (E.2.1 0)]) (bm_Qv E m sz mr) 0 0 (va_A (bm_W E m) sz) := by
  refine Met.ofW (cc := prog_13_method_36_code) (maxL := 2) (ret := none) (by decide) rfl ?_
  intro p e s mt args below meth c s₁ B hml hv
  obtain ⟨rfl, hsz, hP, hK, hD0, hst⟩ := hv
  have hx := B.exec
  have hb := B.bytes
  have hr := B.returns
  have htb : ∀ w ∈ bp_tb, w.before _ s = true := fun w hw => atoms_spec (ws := Cond.code y_bm_M_remember prog_13_method_36_code 2 none :: bp_tb) B.pre w (List.mem_cons_of_mem _ hw)
  have hown : s.vm.findClass "BlockPicturesModel" = some mt.cls := findClass_of_methodNamed B.named
  have hlocks := B.notSynchronized
  subst hsz
  have hD := hD0.self (sz := s.heap.size)
  generalize hAe : va_A (bm_W E m) s.heap.size = A at hD hst ⊢
  have hsub : ∀ (u : bp_M) (z q : Nat), s.heap.size ≤ z → va_A (bm_W E u) z q → A q := bm_sub hAe
  have hS : va_S A s.heap s.heap [] := va_S.rf
  have hl := lv_entry ([.ref (E.2.1 0)]) (n := 2) (Nat.le_of_ble_eq_true rfl)
  rw [lg_entry_eq]
  generalize (lg_sl ([.ref (E.2.1 0)]) ++ List.replicate (2 - (lg_sl ([.ref (E.2.1 0)])).length) Slot.unset).toArray = ls at hl ⊢
  have hl : lv_has ls 2 [(0, .ref (E.2.1 0))] := hl
  refine bm_keyV (R := ({ frames := 0, cells := 0, slots := 0, locals := 0 })) E hx hb hr hlocks hK hAe (fun Q hret => ?_)
  clear B hD0 hlocks hr
  generalize ([.ref (E.2.1 0)] : List Value).toArray = args at htb hret ⊢
  clear hAe
  have hL56 : ∀ (m : bp_M), bm_M_remember_L56 N m = some mr → ∀ (ls : Array Slot) (H : Heap) (locs : List Loc), lv_has ls 2 [(0, .ref (E.2.1 0))] → va_P E.1 bp_cl (bm_W E m) H → va_D A (bm_W E m) → va_S A s.heap H locs → W p l e ({ frames := 0, cells := 0, slots := 0, locals := 0 }) s mt args below meth c H locs 0 0 Q (F0 mt 56 ls []) := by
    intro m h ls H locs hl hP hD hS
    rw [bm_M_remember_L56] at h
    refine lv_aload_n hx hb (dt_bm_M_remember 33 rfl) rfl (lv_at hl 0 rfl) ?_
    refine lv_aload_n hx hb (dt_bm_M_remember 34 rfl) rfl (lv_at hl 0 rfl) ?_
    refine va_get (D := E.1) (ci := 10) (v := .int (m.1 0 30)) (C := "BlockPicturesModel") (T := bF_M) (N := 48) hx hb htb bm_in_M hown hK hP 0 (bm_gM E m) rfl 30 (by decide) (htb _ tw_798) (fun _ h9 => h9) rfl (dt_bm_M_remember 35 rfl) ?_
    refine bm_pM_32 E hx hb htb hown hK hP hD hS (htb _ tw_800) (dt_bm_M_remember 36 rfl) (fun m1 em1 H locs hP hD hS => ?_)
    replace h := bp_nM_s h em1
    refine lv_aload_n hx hb (dt_bm_M_remember 37 rfl) rfl (lv_at hl 0 rfl) ?_
    refine lv_iconst (v := 1) hx hb (dt_bm_M_remember 38 rfl) (by decide) ?_
    obtain ⟨hg3, h⟩ := bp_g_s h
    refine bm_pM_33 E hx hb htb hown hK hP hD hS hg3 (htb _ tw_801) (dt_bm_M_remember 39 rfl) (fun m2 em2 H locs hP hD hS => ?_)
    replace h := bp_nM_s h em2
    exact hret _ _ _ _ _ h hP hD hS (dt_bm_M_remember 40 rfl)
  have hL2 : ∀ (n2 : Nat) (x1 : Int32) (m : bp_M), bm_M_remember_L2 N n2 x1 m = some mr → ∀ (ls : Array Slot) (H : Heap) (locs : List Loc), lv_has ls 2 [(0, .ref (E.2.1 0)), (1, .int x1)] → va_P E.1 bp_cl (bm_W E m) H → va_D A (bm_W E m) → va_S A s.heap H locs → W p l e ({ frames := 0, cells := 0, slots := 0, locals := 0 }) s mt args below meth c H locs 0 0 Q (F0 mt 2 ls []) := by
    intro n2
    induction n2 with
    | zero =>
      intro x1 m h ls H locs hl hP hD hS
      rw [bm_M_remember_L2] at h
      cases h
    | succ n2 ih2 =>
      have hL49 : ∀ (x1 : Int32) (s0 : Int32) (s1 : Int32) (m : bp_M), bm_M_remember_L49 (bm_M_remember_L2 N n2) N x1 s0 s1 m = some mr → ∀ (ls : Array Slot) (H : Heap) (locs : List Loc), lv_has ls 2 [(0, .ref (E.2.1 0)), (1, .int x1)] → va_P E.1 bp_cl (bm_W E m) H → va_D A (bm_W E m) → va_S A s.heap H locs → W p l e ({ frames := 0, cells := 0, slots := 0, locals := 0 }) s mt args below meth c H locs 0 0 Q (F0 mt 49 ls [.int s0, .int s1, .ref (E.2.1 12)]) := by
        intro x1 s0 s1 m h ls H locs hl hP hD hS
        rw [bm_M_remember_L49] at h
        obtain ⟨hg1, h⟩ := bp_gi_s h
        refine bm_sI E hx hb hK hP hD hS (bm_ga12 E) hg1 (dt_bm_M_remember 30 rfl) (fun m2 em2 H locs hP hD hS => ?_)
        replace h := bp_nM_s h em2
        obtain ⟨y3, ey3⟩ : ∃ z : Int32, z = x1 + 1 := ⟨_, rfl⟩
        replace h := bp_nI_s h ey3
        refine lv_iinc (k := 1) (v := y3) hx hb (dt_bm_M_remember 31 rfl) hl rfl (by rw [ey3]; rfl) (Nat.le_of_ble_eq_true rfl) rfl (fun ls hl => ?_)
        have hl : lv_has ls 2 [(1, .int y3), (0, .ref (E.2.1 0))] := hl
        refine lv_goto (tgt := 2) hx hb (dt_bm_M_remember 32 rfl) (by decide) ?_
        exact ih2 _ _ h ls H locs (lv_sub hl [1, 0] rfl) hP hD hS
      intro x1 m h ls H locs hl hP hD hS
      rw [bm_M_remember_L2] at h
      refine lv_iload_n hx hb (dt_bm_M_remember 2 rfl) rfl (lv_at hl 1 rfl) ?_
      refine lv_bipush (v := 16) hx hb (dt_bm_M_remember 3 rfl) (by decide) ?_
      refine lv_icmp_ge (tgt := 56) hx hb (dt_bm_M_remember 4 rfl) (by decide) (fun hc => ?_) (fun hc => ?_)
      · replace h := (if_pos hc).symm.trans h
        exact hL56 _ h ls H locs (lv_sub hl [0] rfl) hP hD hS
      · replace h := (if_neg hc).symm.trans h
        refine lv_aload_n hx hb (dt_bm_M_remember 5 rfl) rfl (lv_at hl 0 rfl) ?_
        refine va_get (D := E.1) (ci := 10) (v := .ref (E.2.1 12)) (C := "BlockPicturesModel") (T := bF_M) (N := 48) hx hb htb bm_in_M hown hK hP 0 (bm_gM E m) rfl 31 (by decide) (htb _ tw_799) (fun _ h9 => h9) rfl (dt_bm_M_remember 6 rfl) ?_
        refine lv_iload_n hx hb (dt_bm_M_remember 7 rfl) rfl (lv_at hl 1 rfl) ?_
        refine lv_aload_n hx hb (dt_bm_M_remember 8 rfl) rfl (lv_at hl 0 rfl) ?_
        refine va_get (D := E.1) (ci := 10) (v := .ref (E.2.1 6)) (C := "BlockPicturesModel") (T := bF_M) (N := 48) hx hb htb bm_in_M hown hK hP 0 (bm_gM E m) rfl 24 (by decide) (htb _ tw_792) (fun _ h9 => h9) rfl (dt_bm_M_remember 9 rfl) ?_
        refine lv_iload_n hx hb (dt_bm_M_remember 10 rfl) rfl (lv_at hl 1 rfl) ?_
        obtain ⟨hg1, h⟩ := bp_gi_s h
        refine bm_lZ E hx hb hK hP (bm_ga6 E) hg1 (dt_bm_M_remember 11 rfl) ?_
        refine lv_if_eq (tgt := 26) hx hb (dt_bm_M_remember 12 rfl) (by decide) (fun hc => ?_) (fun hc => ?_)
        · replace h := (if_pos hc).symm.trans h
          refine lv_sipush (v := 256) hx hb (dt_bm_M_remember 15 rfl) (by decide) ?_
          refine lv_aload_n hx hb (dt_bm_M_remember 16 rfl) rfl (lv_at hl 0 rfl) ?_
          refine va_get (D := E.1) (ci := 10) (v := .ref (E.2.1 8)) (C := "BlockPicturesModel") (T := bF_M) (N := 48) hx hb htb bm_in_M hown hK hP 0 (bm_gM E m) rfl 26 (by decide) (htb _ tw_794) (fun _ h9 => h9) rfl (dt_bm_M_remember 17 rfl) ?_
          refine lv_iload_n hx hb (dt_bm_M_remember 18 rfl) rfl (lv_at hl 1 rfl) ?_
          obtain ⟨hg2, h⟩ := bp_gi_s h
          refine bm_lI E hx hb hK hP (bm_ga8 E) hg2 (dt_bm_M_remember 19 rfl) ?_
          refine lv_bipush (v := 64) hx hb (dt_bm_M_remember 20 rfl) (by decide) ?_
          refine lv_iadd hx hb (dt_bm_M_remember 21 rfl) ?_
          refine lv_imul hx hb (dt_bm_M_remember 22 rfl) ?_
          refine lv_aload_n hx hb (dt_bm_M_remember 23 rfl) rfl (lv_at hl 0 rfl) ?_
          refine va_get (D := E.1) (ci := 10) (v := .ref (E.2.1 9)) (C := "BlockPicturesModel") (T := bF_M) (N := 48) hx hb htb bm_in_M hown hK hP 0 (bm_gM E m) rfl 27 (by decide) (htb _ tw_795) (fun _ h9 => h9) rfl (dt_bm_M_remember 24 rfl) ?_
          refine lv_iload_n hx hb (dt_bm_M_remember 25 rfl) rfl (lv_at hl 1 rfl) ?_
          obtain ⟨hg3, h⟩ := bp_gi_s h
          refine bm_lI E hx hb hK hP (bm_ga9 E) hg3 (dt_bm_M_remember 26 rfl) ?_
          refine lv_iadd hx hb (dt_bm_M_remember 27 rfl) ?_
          refine lv_bipush (v := 64) hx hb (dt_bm_M_remember 28 rfl) (by decide) ?_
          refine lv_iadd hx hb (dt_bm_M_remember 29 rfl) ?_
          exact hL49 _ _ _ _ h ls H locs (lv_sub hl [0, 1] rfl) hP hD hS
        · replace h := (if_neg hc).symm.trans h
          refine lv_iconst (v := (-1)) hx hb (dt_bm_M_remember 13 rfl) (by decide) ?_
          refine lv_goto (tgt := 49) hx hb (dt_bm_M_remember 14 rfl) (by decide) ?_
          exact hL49 _ _ _ _ h ls H locs (lv_sub hl [0, 1] rfl) hP hD hS
  suffices hgo : ∀ (H : Heap) (locs : List Loc), va_P E.1 bp_cl (bm_W E m) H → va_D A (bm_W E m) → va_S A s.heap H locs → W p l e ({ frames := 0, cells := 0, slots := 0, locals := 0 }) s mt args below meth c H locs 0 0 Q (F0 mt 0 ls []) from hgo _ _ hP hD hS
  clear hP hD hS
  intro H locs hP hD hS
  unfold bm_M_remember at h
  refine lv_iconst (v := 0) hx hb (dt_bm_M_remember 0 rfl) (by decide) ?_
  refine lv_istore_n hx hb (dt_bm_M_remember 1 rfl) rfl hl (Nat.le_of_ble_eq_true rfl) rfl (fun ls hl => ?_)
  have hl : lv_has ls 2 [(1, .int 0), (0, .ref (E.2.1 0))] := hl
  exact hL2 _ _ _ h ls H locs (lv_sub hl [1, 0] rfl) hP hD hS
set_option maxHeartbeats 4000000 in
set_option maxRecDepth 100000 in
theorem wbm_M_first (l : Launch) (E : bm_E) (N : Nat)  (m : bp_M) (sz : Nat) (r : Int32) (mr : bp_M)  (h : bm_M_first N m = some (r, mr)) : Met l y_bm_M_first (Cond.code y_bm_M_first prog_13_method_38_code 3 (some .int) :: bp_tb) ({ frames := 0, cells := 0, slots := 0, locals := 0 }) (bm_Pc E m sz [.ref (E.2.1 0)]) (bm_Qi E m sz r mr) 0 0 (va_A (bm_W E m) sz) := by
  refine Met.ofW (cc := prog_13_method_38_code) (maxL := 3) (ret := (some .int)) (by decide) rfl ?_
  intro p e s mt args below meth c s₁ B hml hv
  obtain ⟨rfl, hsz, hP, hK, hD0, hst⟩ := hv
  have hx := B.exec
  have hb := B.bytes
  have hr := B.returns
  have htb : ∀ w ∈ bp_tb, w.before _ s = true := fun w hw => atoms_spec (ws := Cond.code y_bm_M_first prog_13_method_38_code 3 (some .int) :: bp_tb) B.pre w (List.mem_cons_of_mem _ hw)
  have hown : s.vm.findClass "BlockPicturesModel" = some mt.cls := findClass_of_methodNamed B.named
  have hlocks := B.notSynchronized
  subst hsz
  have hD := hD0.self (sz := s.heap.size)
  generalize hAe : va_A (bm_W E m) s.heap.size = A at hD hst ⊢
  have hsub : ∀ (u : bp_M) (z q : Nat), s.heap.size ≤ z → va_A (bm_W E u) z q → A q := bm_sub hAe
  have hS : va_S A s.heap s.heap [] := va_S.rf
  have hl := lv_entry ([.ref (E.2.1 0)]) (n := 3) (Nat.le_of_ble_eq_true rfl)
  rw [lg_entry_eq]
  generalize (lg_sl ([.ref (E.2.1 0)]) ++ List.replicate (3 - (lg_sl ([.ref (E.2.1 0)])).length) Slot.unset).toArray = ls at hl ⊢
  have hl : lv_has ls 3 [(0, .ref (E.2.1 0))] := hl
  refine bm_keyI (R := ({ frames := 0, cells := 0, slots := 0, locals := 0 })) E hx hb hr hlocks hK hAe (fun Q hret => ?_)
  clear B hD0 hlocks hr
  generalize ([.ref (E.2.1 0)] : List Value).toArray = args at htb hret ⊢
  clear hAe
  have hL48 : ∀ (x1 : Int32) (m : bp_M), bm_M_first_L48 N x1 m = some (r, mr) → ∀ (ls : Array Slot) (H : Heap) (locs : List Loc), lv_has ls 3 [(1, .int x1)] → va_P E.1 bp_cl (bm_W E m) H → va_D A (bm_W E m) → va_S A s.heap H locs → W p l e ({ frames := 0, cells := 0, slots := 0, locals := 0 }) s mt args below meth c H locs 0 0 Q (F0 mt 48 ls []) := by
    intro x1 m h ls H locs hl hP hD hS
    rw [bm_M_first_L48] at h
    refine lv_iload_n hx hb (dt_bm_M_first 28 rfl) rfl (lv_at hl 0 rfl) ?_
    exact hret _ _ _ _ _ _ h hP hD hS (dt_bm_M_first 29 rfl)
  have hL4 : ∀ (n4 : Nat) (x1 : Int32) (x2 : Int32) (m : bp_M), bm_M_first_L4 N n4 x1 x2 m = some (r, mr) → ∀ (ls : Array Slot) (H : Heap) (locs : List Loc), lv_has ls 3 [(0, .ref (E.2.1 0)), (1, .int x1), (2, .int x2)] → va_P E.1 bp_cl (bm_W E m) H → va_D A (bm_W E m) → va_S A s.heap H locs → W p l e ({ frames := 0, cells := 0, slots := 0, locals := 0 }) s mt args below meth c H locs 0 0 Q (F0 mt 4 ls []) := by
    intro n4
    induction n4 with
    | zero =>
      intro x1 x2 m h ls H locs hl hP hD hS
      rw [bm_M_first_L4] at h
      cases h
    | succ n4 ih4 =>
      have hL42 : ∀ (x1 : Int32) (x2 : Int32) (m : bp_M), bm_M_first_L42 (bm_M_first_L4 N n4) N x1 x2 m = some (r, mr) → ∀ (ls : Array Slot) (H : Heap) (locs : List Loc), lv_has ls 3 [(0, .ref (E.2.1 0)), (1, .int x1), (2, .int x2)] → va_P E.1 bp_cl (bm_W E m) H → va_D A (bm_W E m) → va_S A s.heap H locs → W p l e ({ frames := 0, cells := 0, slots := 0, locals := 0 }) s mt args below meth c H locs 0 0 Q (F0 mt 42 ls []) := by
        intro x1 x2 m h ls H locs hl hP hD hS
        rw [bm_M_first_L42] at h
        obtain ⟨y1, ey1⟩ : ∃ z : Int32, z = x2 + 1 := ⟨_, rfl⟩
        replace h := bp_nI_s h ey1
        refine lv_iinc (k := 2) (v := y1) hx hb (dt_bm_M_first 26 rfl) hl rfl (by rw [ey1]; rfl) (Nat.le_of_ble_eq_true rfl) rfl (fun ls hl => ?_)
        have hl : lv_has ls 3 [(2, .int y1), (0, .ref (E.2.1 0)), (1, .int x1)] := hl
        refine lv_goto (tgt := 4) hx hb (dt_bm_M_first 27 rfl) (by decide) ?_
        exact ih4 _ _ _ h ls H locs (lv_sub hl [1, 2, 0] rfl) hP hD hS
      have hL40 : ∀ (x2 : Int32) (m : bp_M), bm_M_first_L40 (bm_M_first_L4 N n4) N x2 m = some (r, mr) → ∀ (ls : Array Slot) (H : Heap) (locs : List Loc), lv_has ls 3 [(0, .ref (E.2.1 0)), (2, .int x2)] → va_P E.1 bp_cl (bm_W E m) H → va_D A (bm_W E m) → va_S A s.heap H locs → W p l e ({ frames := 0, cells := 0, slots := 0, locals := 0 }) s mt args below meth c H locs 0 0 Q (F0 mt 40 ls []) := by
        intro x2 m h ls H locs hl hP hD hS
        rw [bm_M_first_L40] at h
        refine lv_iload_n hx hb (dt_bm_M_first 24 rfl) rfl (lv_at hl 1 rfl) ?_
        refine lv_istore_n hx hb (dt_bm_M_first 25 rfl) rfl hl (Nat.le_of_ble_eq_true rfl) rfl (fun ls hl => ?_)
        have hl : lv_has ls 3 [(1, .int x2), (0, .ref (E.2.1 0)), (2, .int x2)] := hl
        exact hL42 _ _ _ h ls H locs (lv_sub hl [1, 0, 2] rfl) hP hD hS
      intro x1 x2 m h ls H locs hl hP hD hS
      rw [bm_M_first_L4] at h
      refine lv_iload_n hx hb (dt_bm_M_first 4 rfl) rfl (lv_at hl 2 rfl) ?_
      refine lv_aload_n hx hb (dt_bm_M_first 5 rfl) rfl (lv_at hl 0 rfl) ?_
      refine va_get (D := E.1) (ci := 10) (v := .int (m.1 0 34)) (C := "BlockPicturesModel") (T := bF_M) (N := 48) hx hb htb bm_in_M hown hK hP 0 (bm_gM E m) rfl 34 (by decide) (htb _ tw_802) (fun _ h9 => h9) rfl (dt_bm_M_first 6 rfl) ?_
      refine lv_icmp_ge (tgt := 48) hx hb (dt_bm_M_first 7 rfl) (by decide) (fun hc => ?_) (fun hc => ?_)
      · replace h := (if_pos hc).symm.trans h
        exact hL48 _ _ h ls H locs (lv_sub hl [1] rfl) hP hD hS
      · replace h := (if_neg hc).symm.trans h
        refine lv_aload_n hx hb (dt_bm_M_first 8 rfl) rfl (lv_at hl 0 rfl) ?_
        refine va_get (D := E.1) (ci := 10) (v := .ref (E.2.1 16)) (C := "BlockPicturesModel") (T := bF_M) (N := 48) hx hb htb bm_in_M hown hK hP 0 (bm_gM E m) rfl 38 (by decide) (htb _ tw_806) (fun _ h9 => h9) rfl (dt_bm_M_first 9 rfl) ?_
        refine lv_iload_n hx hb (dt_bm_M_first 10 rfl) rfl (lv_at hl 2 rfl) ?_
        obtain ⟨hg1, h⟩ := bp_gi_s h
        refine bm_lZ E hx hb hK hP (bm_ga16 E) hg1 (dt_bm_M_first 11 rfl) ?_
        refine lv_if_eq (tgt := 42) hx hb (dt_bm_M_first 12 rfl) (by decide) (fun hc => ?_) (fun hc => ?_)
        · replace h := (if_pos hc).symm.trans h
          exact hL42 _ _ _ h ls H locs (lv_sub hl [0, 1, 2] rfl) hP hD hS
        · replace h := (if_neg hc).symm.trans h
          refine lv_iload_n hx hb (dt_bm_M_first 13 rfl) rfl (lv_at hl 1 rfl) ?_
          refine lv_if_lt (tgt := 40) hx hb (dt_bm_M_first 14 rfl) (by decide) (fun hc => ?_) (fun hc => ?_)
          · replace h := (if_pos hc).symm.trans h
            exact hL40 _ _ h ls H locs (lv_sub hl [0, 2] rfl) hP hD hS
          · replace h := (if_neg hc).symm.trans h
            refine lv_aload_n hx hb (dt_bm_M_first 15 rfl) rfl (lv_at hl 0 rfl) ?_
            refine va_get (D := E.1) (ci := 10) (v := .ref (E.2.1 14)) (C := "BlockPicturesModel") (T := bF_M) (N := 48) hx hb htb bm_in_M hown hK hP 0 (bm_gM E m) rfl 36 (by decide) (htb _ tw_804) (fun _ h9 => h9) rfl (dt_bm_M_first 16 rfl) ?_
            refine lv_iload_n hx hb (dt_bm_M_first 17 rfl) rfl (lv_at hl 2 rfl) ?_
            obtain ⟨hg2, h⟩ := bp_gi_s h
            refine bm_lI E hx hb hK hP (bm_ga14 E) hg2 (dt_bm_M_first 18 rfl) ?_
            refine lv_aload_n hx hb (dt_bm_M_first 19 rfl) rfl (lv_at hl 0 rfl) ?_
            refine va_get (D := E.1) (ci := 10) (v := .ref (E.2.1 14)) (C := "BlockPicturesModel") (T := bF_M) (N := 48) hx hb htb bm_in_M hown hK hP 0 (bm_gM E m) rfl 36 (by decide) (htb _ tw_804) (fun _ h9 => h9) rfl (dt_bm_M_first 20 rfl) ?_
            refine lv_iload_n hx hb (dt_bm_M_first 21 rfl) rfl (lv_at hl 1 rfl) ?_
            obtain ⟨hg3, h⟩ := bp_gi_s h
            refine bm_lI E hx hb hK hP (bm_ga14 E) hg3 (dt_bm_M_first 22 rfl) ?_
            refine lv_icmp_ge (tgt := 42) hx hb (dt_bm_M_first 23 rfl) (by decide) (fun hc => ?_) (fun hc => ?_)
            · replace h := (if_pos hc).symm.trans h
              exact hL42 _ _ _ h ls H locs (lv_sub hl [0, 1, 2] rfl) hP hD hS
            · replace h := (if_neg hc).symm.trans h
              exact hL40 _ _ h ls H locs (lv_sub hl [0, 2] rfl) hP hD hS
  suffices hgo : ∀ (H : Heap) (locs : List Loc), va_P E.1 bp_cl (bm_W E m) H → va_D A (bm_W E m) → va_S A s.heap H locs → W p l e ({ frames := 0, cells := 0, slots := 0, locals := 0 }) s mt args below meth c H locs 0 0 Q (F0 mt 0 ls []) from hgo _ _ hP hD hS
  clear hP hD hS
  intro H locs hP hD hS
  unfold bm_M_first at h
  refine lv_iconst (v := (-1)) hx hb (dt_bm_M_first 0 rfl) (by decide) ?_
  refine lv_istore_n hx hb (dt_bm_M_first 1 rfl) rfl hl (Nat.le_of_ble_eq_true rfl) rfl (fun ls hl => ?_)
  have hl : lv_has ls 3 [(1, .int (-1)), (0, .ref (E.2.1 0))] := hl
  refine lv_iconst (v := 0) hx hb (dt_bm_M_first 2 rfl) (by decide) ?_
  refine lv_istore_n hx hb (dt_bm_M_first 3 rfl) rfl hl (Nat.le_of_ble_eq_true rfl) rfl (fun ls hl => ?_)
  have hl : lv_has ls 3 [(2, .int 0), (1, .int (-1)), (0, .ref (E.2.1 0))] := hl
  exact hL4 _ _ _ _ h ls H locs (lv_sub hl [2, 1, 0] rfl) hP hD hS
set_option maxHeartbeats 4000000 in
set_option maxRecDepth 100000 in
theorem wbm_M_show (l : Launch) (E : bm_E) (N : Nat) (a1 : Int32) (m : bp_M) (sz : Nat) (mr : bp_M)  (h : bm_M_show N a1 m = some mr) : Met l y_bm_M_show (Cond.code y_bm_M_show prog_13_method_37_code 3 none :: bp_tb) ({ frames := 0, cells := 0, slots := 0, locals := 0 }) (bm_Pc E m sz [.ref (E.2.1 0), .int a1]) (bm_Qv E m sz mr) 0 0 (va_A (bm_W E m) sz) := by
  refine Met.ofW (cc := prog_13_method_37_code) (maxL := 3) (ret := none) (by decide) rfl ?_
  intro p e s mt args below meth c s₁ B hml hv
  obtain ⟨rfl, hsz, hP, hK, hD0, hst⟩ := hv
  have hx := B.exec
  have hb := B.bytes
  have hr := B.returns
  have htb : ∀ w ∈ bp_tb, w.before _ s = true := fun w hw => atoms_spec (ws := Cond.code y_bm_M_show prog_13_method_37_code 3 none :: bp_tb) B.pre w (List.mem_cons_of_mem _ hw)
  have hown : s.vm.findClass "BlockPicturesModel" = some mt.cls := findClass_of_methodNamed B.named
  have hlocks := B.notSynchronized
  subst hsz
  have hD := hD0.self (sz := s.heap.size)
  generalize hAe : va_A (bm_W E m) s.heap.size = A at hD hst ⊢
  have hsub : ∀ (u : bp_M) (z q : Nat), s.heap.size ≤ z → va_A (bm_W E u) z q → A q := bm_sub hAe
  have hS : va_S A s.heap s.heap [] := va_S.rf
  have hl := lv_entry ([.ref (E.2.1 0), .int a1]) (n := 3) (Nat.le_of_ble_eq_true rfl)
  rw [lg_entry_eq]
  generalize (lg_sl ([.ref (E.2.1 0), .int a1]) ++ List.replicate (3 - (lg_sl ([.ref (E.2.1 0), .int a1])).length) Slot.unset).toArray = ls at hl ⊢
  have hl : lv_has ls 3 [(0, .ref (E.2.1 0)), (1, .int a1)] := hl
  refine bm_keyV (R := ({ frames := 0, cells := 0, slots := 0, locals := 0 })) E hx hb hr hlocks hK hAe (fun Q hret => ?_)
  clear B hD0 hlocks hr
  generalize ([.ref (E.2.1 0), .int a1] : List Value).toArray = args at htb hret ⊢
  clear hAe
  have hL27 : ∀ (m : bp_M), bm_M_show_L27 N a1 m = some mr → ∀ (ls : Array Slot) (H : Heap) (locs : List Loc), lv_has ls 3 [(0, .ref (E.2.1 0)), (1, .int a1)] → va_P E.1 bp_cl (bm_W E m) H → va_D A (bm_W E m) → va_S A s.heap H locs → W p l e ({ frames := 0, cells := 0, slots := 0, locals := 0 }) s mt args below meth c H locs 0 0 Q (F0 mt 27 ls []) := by
    intro m h ls H locs hl hP hD hS
    rw [bm_M_show_L27] at h
    refine lv_aload_n hx hb (dt_bm_M_show 16 rfl) rfl (lv_at hl 0 rfl) ?_
    refine va_get (D := E.1) (ci := 10) (v := .ref (E.2.1 17)) (C := "BlockPicturesModel") (T := bF_M) (N := 48) hx hb htb bm_in_M hown hK hP 0 (bm_gM E m) rfl 40 (by decide) (htb _ tw_808) (fun _ h9 => h9) rfl (dt_bm_M_show 17 rfl) ?_
    refine lv_iconst (v := 0) hx hb (dt_bm_M_show 18 rfl) (by decide) ?_
    refine lv_iload_n hx hb (dt_bm_M_show 19 rfl) rfl (lv_at hl 1 rfl) ?_
    obtain ⟨hg1, h⟩ := bp_gi_s h
    refine bm_sI E hx hb hK hP hD hS (bm_ga17 E) hg1 (dt_bm_M_show 20 rfl) (fun m2 em2 H locs hP hD hS => ?_)
    replace h := bp_nM_s h em2
    refine lv_aload_n hx hb (dt_bm_M_show 21 rfl) rfl (lv_at hl 0 rfl) ?_
    refine lv_dup hx hb (dt_bm_M_show 22 rfl) rfl ?_
    refine va_get (D := E.1) (ci := 10) (v := .int (m2.1 0 39)) (C := "BlockPicturesModel") (T := bF_M) (N := 48) hx hb htb bm_in_M hown hK hP 0 (bm_gM E m2) rfl 39 (by decide) (htb _ tw_807) (fun _ h9 => h9) rfl (dt_bm_M_show 23 rfl) ?_
    refine lv_iconst (v := 1) hx hb (dt_bm_M_show 24 rfl) (by decide) ?_
    refine lv_iadd hx hb (dt_bm_M_show 25 rfl) ?_
    refine bm_pM_39 E hx hb htb hown hK hP hD hS (htb _ tw_807) (dt_bm_M_show 26 rfl) (fun m3 em3 H locs hP hD hS => ?_)
    replace h := bp_nM_s h em3
    exact hret _ _ _ _ _ h hP hD hS (dt_bm_M_show 27 rfl)
  have hL3 : ∀ (n3 : Nat) (x2 : Int32) (m : bp_M), bm_M_show_L3 N a1 n3 x2 m = some mr → ∀ (ls : Array Slot) (H : Heap) (locs : List Loc), lv_has ls 3 [(0, .ref (E.2.1 0)), (1, .int a1), (2, .int x2)] → va_P E.1 bp_cl (bm_W E m) H → va_D A (bm_W E m) → va_S A s.heap H locs → W p l e ({ frames := 0, cells := 0, slots := 0, locals := 0 }) s mt args below meth c H locs 0 0 Q (F0 mt 3 ls []) := by
    intro n3
    induction n3 with
    | zero =>
      intro x2 m h ls H locs hl hP hD hS
      rw [bm_M_show_L3] at h
      cases h
    | succ n3 ih3 =>
      intro x2 m h ls H locs hl hP hD hS
      rw [bm_M_show_L3] at h
      refine lv_iload_n hx hb (dt_bm_M_show 2 rfl) rfl (lv_at hl 2 rfl) ?_
      refine lv_if_le (tgt := 27) hx hb (dt_bm_M_show 3 rfl) (by decide) (fun hc => ?_) (fun hc => ?_)
      · replace h := (if_pos hc).symm.trans h
        exact hL27 _ h ls H locs (lv_sub hl [0, 1] rfl) hP hD hS
      · replace h := (if_neg hc).symm.trans h
        refine lv_aload_n hx hb (dt_bm_M_show 4 rfl) rfl (lv_at hl 0 rfl) ?_
        refine va_get (D := E.1) (ci := 10) (v := .ref (E.2.1 17)) (C := "BlockPicturesModel") (T := bF_M) (N := 48) hx hb htb bm_in_M hown hK hP 0 (bm_gM E m) rfl 40 (by decide) (htb _ tw_808) (fun _ h9 => h9) rfl (dt_bm_M_show 5 rfl) ?_
        refine lv_iload_n hx hb (dt_bm_M_show 6 rfl) rfl (lv_at hl 2 rfl) ?_
        refine lv_aload_n hx hb (dt_bm_M_show 7 rfl) rfl (lv_at hl 0 rfl) ?_
        refine va_get (D := E.1) (ci := 10) (v := .ref (E.2.1 17)) (C := "BlockPicturesModel") (T := bF_M) (N := 48) hx hb htb bm_in_M hown hK hP 0 (bm_gM E m) rfl 40 (by decide) (htb _ tw_808) (fun _ h9 => h9) rfl (dt_bm_M_show 8 rfl) ?_
        refine lv_iload_n hx hb (dt_bm_M_show 9 rfl) rfl (lv_at hl 2 rfl) ?_
        refine lv_iconst (v := 1) hx hb (dt_bm_M_show 10 rfl) (by decide) ?_
        refine lv_isub hx hb (dt_bm_M_show 11 rfl) ?_
        obtain ⟨hg1, h⟩ := bp_gi_s h
        refine bm_lI E hx hb hK hP (bm_ga17 E) hg1 (dt_bm_M_show 12 rfl) ?_
        obtain ⟨hg2, h⟩ := bp_gi_s h
        refine bm_sI E hx hb hK hP hD hS (bm_ga17 E) hg2 (dt_bm_M_show 13 rfl) (fun m3 em3 H locs hP hD hS => ?_)
        replace h := bp_nM_s h em3
        obtain ⟨y4, ey4⟩ : ∃ z : Int32, z = x2 + (-1) := ⟨_, rfl⟩
        replace h := bp_nI_s h ey4
        refine lv_iinc (k := 2) (v := y4) hx hb (dt_bm_M_show 14 rfl) hl rfl (by rw [ey4]; rfl) (Nat.le_of_ble_eq_true rfl) rfl (fun ls hl => ?_)
        have hl : lv_has ls 3 [(2, .int y4), (0, .ref (E.2.1 0)), (1, .int a1)] := hl
        refine lv_goto (tgt := 3) hx hb (dt_bm_M_show 15 rfl) (by decide) ?_
        exact ih3 _ _ h ls H locs (lv_sub hl [1, 2, 0] rfl) hP hD hS
  suffices hgo : ∀ (H : Heap) (locs : List Loc), va_P E.1 bp_cl (bm_W E m) H → va_D A (bm_W E m) → va_S A s.heap H locs → W p l e ({ frames := 0, cells := 0, slots := 0, locals := 0 }) s mt args below meth c H locs 0 0 Q (F0 mt 0 ls []) from hgo _ _ hP hD hS
  clear hP hD hS
  intro H locs hP hD hS
  unfold bm_M_show at h
  refine lv_bipush (v := 7) hx hb (dt_bm_M_show 0 rfl) (by decide) ?_
  refine lv_istore_n hx hb (dt_bm_M_show 1 rfl) rfl hl (Nat.le_of_ble_eq_true rfl) rfl (fun ls hl => ?_)
  have hl : lv_has ls 3 [(2, .int 7), (0, .ref (E.2.1 0)), (1, .int a1)] := hl
  exact hL3 _ _ _ h ls H locs (lv_sub hl [1, 2, 0] rfl) hP hD hS
set_option maxHeartbeats 4000000 in
set_option maxRecDepth 100000 in
theorem wbm_M_showFirst (l : Launch) (E : bm_E) (N : Nat)  (m : bp_M) (sz : Nat) (mr : bp_M)  (h : bm_M_showFirst N m = some mr) : Met l y_bm_M_showFirst (Cond.code y_bm_M_showFirst prog_13_method_39_code 3 none :: bp_tb) ({ frames := 1, cells := 0, slots := 0, locals := 22 }) (bm_Pc E m sz [.ref (E.2.1 0)]) (bm_Qv E m sz mr) 0 0 (va_A (bm_W E m) sz) := by
  refine Met.ofW (cc := prog_13_method_39_code) (maxL := 3) (ret := none) (by decide) rfl ?_
  intro p e s mt args below meth c s₁ B hml hv
  obtain ⟨rfl, hsz, hP, hK, hD0, hst⟩ := hv
  have hx := B.exec
  have hb := B.bytes
  have hr := B.returns
  have htb : ∀ w ∈ bp_tb, w.before _ s = true := fun w hw => atoms_spec (ws := Cond.code y_bm_M_showFirst prog_13_method_39_code 3 none :: bp_tb) B.pre w (List.mem_cons_of_mem _ hw)
  have hown : s.vm.findClass "BlockPicturesModel" = some mt.cls := findClass_of_methodNamed B.named
  have hlocks := B.notSynchronized
  subst hsz
  have hD := hD0.self (sz := s.heap.size)
  generalize hAe : va_A (bm_W E m) s.heap.size = A at hD hst ⊢
  have hsub : ∀ (u : bp_M) (z q : Nat), s.heap.size ≤ z → va_A (bm_W E u) z q → A q := bm_sub hAe
  have hS : va_S A s.heap s.heap [] := va_S.rf
  have hl := lv_entry ([.ref (E.2.1 0)]) (n := 3) (Nat.le_of_ble_eq_true rfl)
  rw [lg_entry_eq]
  generalize (lg_sl ([.ref (E.2.1 0)]) ++ List.replicate (3 - (lg_sl ([.ref (E.2.1 0)])).length) Slot.unset).toArray = ls at hl ⊢
  have hl : lv_has ls 3 [(0, .ref (E.2.1 0))] := hl
  refine bm_keyV (R := ({ frames := 1, cells := 0, slots := 0, locals := 22 })) E hx hb hr hlocks hK hAe (fun Q hret => ?_)
  clear B hD0 hlocks hr
  generalize ([.ref (E.2.1 0)] : List Value).toArray = args at htb hret ⊢
  clear hAe
  have hL60 : ∀ (m : bp_M), bm_M_showFirst_L60 N m = some mr → ∀ (ls : Array Slot) (H : Heap) (locs : List Loc), lv_has ls 3 [] → va_P E.1 bp_cl (bm_W E m) H → va_D A (bm_W E m) → va_S A s.heap H locs → W p l e ({ frames := 1, cells := 0, slots := 0, locals := 22 }) s mt args below meth c H locs 0 0 Q (F0 mt 60 ls []) := by
    intro m h ls H locs hl hP hD hS
    rw [bm_M_showFirst_L60] at h
    exact hret _ _ _ _ _ h hP hD hS (dt_bm_M_showFirst 36 rfl)
  have hL29 : ∀ (n29 : Nat) (x1 : Int32) (x2 : Int32) (m : bp_M), bm_M_showFirst_L29 N n29 x1 x2 m = some mr → ∀ (ls : Array Slot) (H : Heap) (locs : List Loc), lv_has ls 3 [(0, .ref (E.2.1 0)), (1, .int x1), (2, .int x2)] → va_P E.1 bp_cl (bm_W E m) H → va_D A (bm_W E m) → va_S A s.heap H locs → W p l e ({ frames := 1, cells := 0, slots := 0, locals := 22 }) s mt args below meth c H locs 0 0 Q (F0 mt 29 ls []) := by
    intro n29
    induction n29 with
    | zero =>
      intro x1 x2 m h ls H locs hl hP hD hS
      rw [bm_M_showFirst_L29] at h
      cases h
    | succ n29 ih29 =>
      intro x1 x2 m h ls H locs hl hP hD hS
      rw [bm_M_showFirst_L29] at h
      refine lv_iload_n hx hb (dt_bm_M_showFirst 19 rfl) rfl (lv_at hl 2 rfl) ?_
      refine lv_sipush (v := 256) hx hb (dt_bm_M_showFirst 20 rfl) (by decide) ?_
      refine lv_icmp_ge (tgt := 60) hx hb (dt_bm_M_showFirst 21 rfl) (by decide) (fun hc => ?_) (fun hc => ?_)
      · replace h := (if_pos hc).symm.trans h
        exact hL60 _ h ls H locs (lv_sub hl [] rfl) hP hD hS
      · replace h := (if_neg hc).symm.trans h
        refine lv_aload_n hx hb (dt_bm_M_showFirst 22 rfl) rfl (lv_at hl 0 rfl) ?_
        refine va_get (D := E.1) (ci := 10) (v := .ref (E.2.1 18)) (C := "BlockPicturesModel") (T := bF_M) (N := 48) hx hb htb bm_in_M hown hK hP 0 (bm_gM E m) rfl 41 (by decide) (htb _ tw_809) (fun _ h9 => h9) rfl (dt_bm_M_showFirst 23 rfl) ?_
        refine lv_iload_n hx hb (dt_bm_M_showFirst 24 rfl) rfl (lv_at hl 2 rfl) ?_
        refine lv_aload_n hx hb (dt_bm_M_showFirst 25 rfl) rfl (lv_at hl 0 rfl) ?_
        refine va_get (D := E.1) (ci := 10) (v := .ref (E.2.1 13)) (C := "BlockPicturesModel") (T := bF_M) (N := 48) hx hb htb bm_in_M hown hK hP 0 (bm_gM E m) rfl 35 (by decide) (htb _ tw_803) (fun _ h9 => h9) rfl (dt_bm_M_showFirst 26 rfl) ?_
        refine lv_sipush (v := 256) hx hb (dt_bm_M_showFirst 27 rfl) (by decide) ?_
        refine lv_iload_n hx hb (dt_bm_M_showFirst 28 rfl) rfl (lv_at hl 1 rfl) ?_
        refine lv_imul hx hb (dt_bm_M_showFirst 29 rfl) ?_
        refine lv_iload_n hx hb (dt_bm_M_showFirst 30 rfl) rfl (lv_at hl 2 rfl) ?_
        refine lv_iadd hx hb (dt_bm_M_showFirst 31 rfl) ?_
        obtain ⟨hg1, h⟩ := bp_gi_s h
        refine bm_lI E hx hb hK hP (bm_ga13 E) hg1 (dt_bm_M_showFirst 32 rfl) ?_
        obtain ⟨hg2, h⟩ := bp_gi_s h
        refine bm_sI E hx hb hK hP hD hS (bm_ga18 E) hg2 (dt_bm_M_showFirst 33 rfl) (fun m3 em3 H locs hP hD hS => ?_)
        replace h := bp_nM_s h em3
        obtain ⟨y4, ey4⟩ : ∃ z : Int32, z = x2 + 1 := ⟨_, rfl⟩
        replace h := bp_nI_s h ey4
        refine lv_iinc (k := 2) (v := y4) hx hb (dt_bm_M_showFirst 34 rfl) hl rfl (by rw [ey4]; rfl) (Nat.le_of_ble_eq_true rfl) rfl (fun ls hl => ?_)
        have hl : lv_has ls 3 [(2, .int y4), (0, .ref (E.2.1 0)), (1, .int x1)] := hl
        refine lv_goto (tgt := 29) hx hb (dt_bm_M_showFirst 35 rfl) (by decide) ?_
        exact ih29 _ _ _ h ls H locs (lv_sub hl [1, 2, 0] rfl) hP hD hS
  suffices hgo : ∀ (H : Heap) (locs : List Loc), va_P E.1 bp_cl (bm_W E m) H → va_D A (bm_W E m) → va_S A s.heap H locs → W p l e ({ frames := 1, cells := 0, slots := 0, locals := 22 }) s mt args below meth c H locs 0 0 Q (F0 mt 0 ls []) from hgo _ _ hP hD hS
  clear hP hD hS
  intro H locs hP hD hS
  unfold bm_M_showFirst at h
  refine lv_aload_n hx hb (dt_bm_M_showFirst 0 rfl) rfl (lv_at hl 0 rfl) ?_
  obtain ⟨z2, m1, hm1, h⟩ := bp_cI_s h
  refine bm_callI E hsub hS (va_runV (As := []) (rest := []) ⟨hx, hb, hml, hown, htb⟩ (wbm_M_first l E N  m H.size z2 m1 hm1) (cwV 0 htb (bp_goodV tw_1051 tw_1053 tw_62 tw_79 tw_1054) rfl rfl rfl ⟨rfl, hd_bm_M_first⟩ ⟨Nat.le_of_ble_eq_true rfl, Nat.le_of_ble_eq_true rfl⟩) (bm_preV E hsub hst hK hP hD hS (bm_gM E m) rfl rfl _) rfl rfl hl.1 rfl (lv_room (Nat.le_of_ble_eq_true rfl)) (dt_bm_M_showFirst 1 rfl) ⟨Nat.zero_le _, Nat.zero_le _⟩) (fun H locs hP hD hS => ?_)
  refine lv_istore_n hx hb (dt_bm_M_showFirst 2 rfl) rfl hl (Nat.le_of_ble_eq_true rfl) rfl (fun ls hl => ?_)
  have hl : lv_has ls 3 [(1, .int z2), (0, .ref (E.2.1 0))] := hl
  refine lv_iload_n hx hb (dt_bm_M_showFirst 3 rfl) rfl (lv_at hl 0 rfl) ?_
  refine lv_if_ge (tgt := 10) hx hb (dt_bm_M_showFirst 4 rfl) (by decide) (fun hc => ?_) (fun hc => ?_)
  · replace h := (if_pos hc).symm.trans h
    refine lv_aload_n hx hb (dt_bm_M_showFirst 6 rfl) rfl (lv_at hl 1 rfl) ?_
    refine va_get (D := E.1) (ci := 10) (v := .ref (E.2.1 16)) (C := "BlockPicturesModel") (T := bF_M) (N := 48) hx hb htb bm_in_M hown hK hP 0 (bm_gM E m1) rfl 38 (by decide) (htb _ tw_806) (fun _ h9 => h9) rfl (dt_bm_M_showFirst 7 rfl) ?_
    refine lv_iload_n hx hb (dt_bm_M_showFirst 8 rfl) rfl (lv_at hl 0 rfl) ?_
    refine lv_iconst (v := 0) hx hb (dt_bm_M_showFirst 9 rfl) (by decide) ?_
    obtain ⟨hg3, h⟩ := bp_gi_s h
    obtain ⟨hg4, h⟩ := bp_g_s h
    refine bm_sZ E hx hb hK hP hD hS (bm_ga16 E) hg3 hg4 (dt_bm_M_showFirst 10 rfl) (fun m5 em5 H locs hP hD hS => ?_)
    replace h := bp_nM_s h em5
    refine lv_aload_n hx hb (dt_bm_M_showFirst 11 rfl) rfl (lv_at hl 1 rfl) ?_
    refine lv_aload_n hx hb (dt_bm_M_showFirst 12 rfl) rfl (lv_at hl 1 rfl) ?_
    refine va_get (D := E.1) (ci := 10) (v := .ref (E.2.1 14)) (C := "BlockPicturesModel") (T := bF_M) (N := 48) hx hb htb bm_in_M hown hK hP 0 (bm_gM E m5) rfl 36 (by decide) (htb _ tw_804) (fun _ h9 => h9) rfl (dt_bm_M_showFirst 13 rfl) ?_
    refine lv_iload_n hx hb (dt_bm_M_showFirst 14 rfl) rfl (lv_at hl 0 rfl) ?_
    obtain ⟨hg6, h⟩ := bp_gi_s h
    refine bm_lI E hx hb hK hP (bm_ga14 E) hg6 (dt_bm_M_showFirst 15 rfl) ?_
    obtain ⟨m7, hm7, h⟩ := bp_cV_s h
    refine bm_callV E hsub hS (va_runV (As := [.int (m5.1 14 z2.toNatClampNeg)]) (rest := []) ⟨hx, hb, hml, hown, htb⟩ (wbm_M_show l E N (m5.1 14 z2.toNatClampNeg) m5 H.size m7 hm7) (cwV 1 htb (bp_goodV tw_1055 tw_1057 tw_63 tw_79 tw_1058) rfl rfl rfl ⟨rfl, hd_bm_M_show⟩ ⟨Nat.le_of_ble_eq_true rfl, Nat.le_of_ble_eq_true rfl⟩) (bm_preV E hsub hst hK hP hD hS (bm_gM E m5) rfl rfl _) rfl rfl hl.1 rfl (lv_room (Nat.le_of_ble_eq_true rfl)) (dt_bm_M_showFirst 16 rfl) ⟨Nat.zero_le _, Nat.zero_le _⟩) (fun H locs hP hD hS => ?_)
    refine lv_iconst (v := 0) hx hb (dt_bm_M_showFirst 17 rfl) (by decide) ?_
    refine lv_istore_n hx hb (dt_bm_M_showFirst 18 rfl) rfl hl (Nat.le_of_ble_eq_true rfl) rfl (fun ls hl => ?_)
    have hl : lv_has ls 3 [(2, .int 0), (1, .int z2), (0, .ref (E.2.1 0))] := hl
    exact hL29 _ _ _ _ h ls H locs (lv_sub hl [2, 1, 0] rfl) hP hD hS
  · replace h := (if_neg hc).symm.trans h
    exact hret _ _ _ _ _ h hP hD hS (dt_bm_M_showFirst 5 rfl)
