set_option maxHeartbeats 4000000 in
set_option maxRecDepth 100000 in
theorem wbm_M_showAll (l : Launch) (E : bm_E) (N : Nat)  (m : bp_M) (sz : Nat) (mr : bp_M)  (h : bm_M_showAll N m = some mr) : Met l y_bm_M_showAll (Cond.code y_bm_M_showAll prog_13_method_40_code 2 none :: bp_tb) ({ frames := 2, cells := 0, slots := 0, locals := 44 }) (bm_Pc E m sz [.ref (E.2.1 0)]) (bm_Qv E m sz mr) 0 0 (va_A (bm_W E m) sz) := by
  refine Met.ofW (cc := prog_13_method_40_code) (maxL := 2) (ret := none) (by decide) rfl ?_
  intro p e s mt args below meth c s₁ B hml hv
  obtain ⟨rfl, hsz, hP, hK, hD0, hst⟩ := hv
  have hx := B.exec
  have hb := B.bytes
  have hr := B.returns
  have htb : ∀ w ∈ bp_tb, w.before _ s = true := fun w hw => atoms_spec (ws := Cond.code y_bm_M_showAll prog_13_method_40_code 2 none :: bp_tb) B.pre w (List.mem_cons_of_mem _ hw)
  have hown : s.vm.findClass "BlockPicturesModel" = some mt.cls := findClass_of_methodNamed B.named
  have hlocks := B.notSynchronized
  subst hsz
  have hD := hD0.self (sz := s.heap.size)
  generalize hAe : va_A (bm_W E m) s.heap.size = A at hD hst ⊢
  have hsub : ∀ (u : bp_M) (z q : Nat), s.heap.size ≤ z → va_A (bm_W E u) z q → A q := bm_sub hAe
  have hS : va_S A s.heap s.heap [] := va_S.rf
  have hl := lv_entry ([.ref (E.2.1 0)]) (n := 2) (Nat.le_of_ble_eq_true rfl)
  rw [lg_entry_eq]
  generalize (lg_sl ([.ref (E.2.1 0)]) ++ List.replicate (2 - (lg_sl ([.ref (E.2.1 0)])).length) Slot.unset).toArray = ls at hl ⊢
  have hl : lv_has ls 2 [(0, .ref (E.2.1 0))] := hl
  refine bm_keyV (R := ({ frames := 2, cells := 0, slots := 0, locals := 44 })) E hx hb hr hlocks hK hAe (fun Q hret => ?_)
  clear B hD0 hlocks hr
  generalize ([.ref (E.2.1 0)] : List Value).toArray = args at htb hret ⊢
  clear hAe
  have hL17 : ∀ (m : bp_M), bm_M_showAll_L17 N m = some mr → ∀ (ls : Array Slot) (H : Heap) (locs : List Loc), lv_has ls 2 [(0, .ref (E.2.1 0))] → va_P E.1 bp_cl (bm_W E m) H → va_D A (bm_W E m) → va_S A s.heap H locs → W p l e ({ frames := 2, cells := 0, slots := 0, locals := 44 }) s mt args below meth c H locs 0 0 Q (F0 mt 17 ls []) := by
    intro m h ls H locs hl hP hD hS
    rw [bm_M_showAll_L17] at h
    refine lv_aload_n hx hb (dt_bm_M_showAll 9 rfl) rfl (lv_at hl 0 rfl) ?_
    refine lv_iconst (v := 0) hx hb (dt_bm_M_showAll 10 rfl) (by decide) ?_
    refine bm_pM_34 E hx hb htb hown hK hP hD hS (htb _ tw_802) (dt_bm_M_showAll 11 rfl) (fun m1 em1 H locs hP hD hS => ?_)
    replace h := bp_nM_s h em1
    exact hret _ _ _ _ _ h hP hD hS (dt_bm_M_showAll 12 rfl)
  have hL2 : ∀ (n2 : Nat) (x1 : Int32) (m : bp_M), bm_M_showAll_L2 N n2 x1 m = some mr → ∀ (ls : Array Slot) (H : Heap) (locs : List Loc), lv_has ls 2 [(0, .ref (E.2.1 0)), (1, .int x1)] → va_P E.1 bp_cl (bm_W E m) H → va_D A (bm_W E m) → va_S A s.heap H locs → W p l e ({ frames := 2, cells := 0, slots := 0, locals := 44 }) s mt args below meth c H locs 0 0 Q (F0 mt 2 ls []) := by
    intro n2
    induction n2 with
    | zero =>
      intro x1 m h ls H locs hl hP hD hS
      rw [bm_M_showAll_L2] at h
      cases h
    | succ n2 ih2 =>
      intro x1 m h ls H locs hl hP hD hS
      rw [bm_M_showAll_L2] at h
      refine lv_iload_n hx hb (dt_bm_M_showAll 2 rfl) rfl (lv_at hl 1 rfl) ?_
      refine lv_iconst (v := 4) hx hb (dt_bm_M_showAll 3 rfl) (by decide) ?_
      refine lv_icmp_ge (tgt := 17) hx hb (dt_bm_M_showAll 4 rfl) (by decide) (fun hc => ?_) (fun hc => ?_)
      · replace h := (if_pos hc).symm.trans h
        exact hL17 _ h ls H locs (lv_sub hl [0] rfl) hP hD hS
      · replace h := (if_neg hc).symm.trans h
        refine lv_aload_n hx hb (dt_bm_M_showAll 5 rfl) rfl (lv_at hl 0 rfl) ?_
        obtain ⟨m1, hm1, h⟩ := bp_cV_s h
        refine bm_callV E hsub hS (va_runV (As := []) (rest := []) ⟨hx, hb, hml, hown, htb⟩ (wbm_M_showFirst l E N  m H.size m1 hm1) (cwV 0 htb (bp_goodV tw_1047 tw_1049 tw_61 tw_79 tw_1050) rfl rfl rfl ⟨rfl, hd_bm_M_showFirst⟩ ⟨Nat.le_of_ble_eq_true rfl, Nat.le_of_ble_eq_true rfl⟩) (bm_preV E hsub hst hK hP hD hS (bm_gM E m) rfl rfl _) rfl rfl hl.1 rfl (lv_room (Nat.le_of_ble_eq_true rfl)) (dt_bm_M_showAll 6 rfl) ⟨Nat.zero_le _, Nat.zero_le _⟩) (fun H locs hP hD hS => ?_)
        obtain ⟨y2, ey2⟩ : ∃ z : Int32, z = x1 + 1 := ⟨_, rfl⟩
        replace h := bp_nI_s h ey2
        refine lv_iinc (k := 1) (v := y2) hx hb (dt_bm_M_showAll 7 rfl) hl rfl (by rw [ey2]; rfl) (Nat.le_of_ble_eq_true rfl) rfl (fun ls hl => ?_)
        have hl : lv_has ls 2 [(1, .int y2), (0, .ref (E.2.1 0))] := hl
        refine lv_goto (tgt := 2) hx hb (dt_bm_M_showAll 8 rfl) (by decide) ?_
        exact ih2 _ _ h ls H locs (lv_sub hl [1, 0] rfl) hP hD hS
  suffices hgo : ∀ (H : Heap) (locs : List Loc), va_P E.1 bp_cl (bm_W E m) H → va_D A (bm_W E m) → va_S A s.heap H locs → W p l e ({ frames := 2, cells := 0, slots := 0, locals := 44 }) s mt args below meth c H locs 0 0 Q (F0 mt 0 ls []) from hgo _ _ hP hD hS
  clear hP hD hS
  intro H locs hP hD hS
  unfold bm_M_showAll at h
  refine lv_iconst (v := 0) hx hb (dt_bm_M_showAll 0 rfl) (by decide) ?_
  refine lv_istore_n hx hb (dt_bm_M_showAll 1 rfl) rfl hl (Nat.le_of_ble_eq_true rfl) rfl (fun ls hl => ?_)
  have hl : lv_has ls 2 [(1, .int 0), (0, .ref (E.2.1 0))] := hl
  exact hL2 _ _ _ h ls H locs (lv_sub hl [1, 0] rfl) hP hD hS
set_option maxHeartbeats 4000000 in
set_option maxRecDepth 100000 in
theorem wbm_M_clean (l : Launch) (E : bm_E) (N : Nat)  (m : bp_M) (sz : Nat) (mr : bp_M)  (h : bm_M_clean N m = some mr) : Met l y_bm_M_clean (Cond.code y_bm_M_clean prog_13_method_41_code 4 none :: bp_tb) ({ frames := 0, cells := 0, slots := 0, locals := 0 }) (bm_Pc E m sz [.ref (E.2.1 0)]) (bm_Qv E m sz mr) 0 0 (va_A (bm_W E m) sz) := by
  refine Met.ofW (cc := prog_13_method_41_code) (maxL := 4) (ret := none) (by decide) rfl ?_
  intro p e s mt args below meth c s₁ B hml hv
  obtain ⟨rfl, hsz, hP, hK, hD0, hst⟩ := hv
  have hx := B.exec
  have hb := B.bytes
  have hr := B.returns
  have htb : ∀ w ∈ bp_tb, w.before _ s = true := fun w hw => atoms_spec (ws := Cond.code y_bm_M_clean prog_13_method_41_code 4 none :: bp_tb) B.pre w (List.mem_cons_of_mem _ hw)
  have hown : s.vm.findClass "BlockPicturesModel" = some mt.cls := findClass_of_methodNamed B.named
  have hlocks := B.notSynchronized
  subst hsz
  have hD := hD0.self (sz := s.heap.size)
  generalize hAe : va_A (bm_W E m) s.heap.size = A at hD hst ⊢
  have hsub : ∀ (u : bp_M) (z q : Nat), s.heap.size ≤ z → va_A (bm_W E u) z q → A q := bm_sub hAe
  have hS : va_S A s.heap s.heap [] := va_S.rf
  have hl := lv_entry ([.ref (E.2.1 0)]) (n := 4) (Nat.le_of_ble_eq_true rfl)
  rw [lg_entry_eq]
  generalize (lg_sl ([.ref (E.2.1 0)]) ++ List.replicate (4 - (lg_sl ([.ref (E.2.1 0)])).length) Slot.unset).toArray = ls at hl ⊢
  have hl : lv_has ls 4 [(0, .ref (E.2.1 0))] := hl
  refine bm_keyV (R := ({ frames := 0, cells := 0, slots := 0, locals := 0 })) E hx hb hr hlocks hK hAe (fun Q hret => ?_)
  clear B hD0 hlocks hr
  generalize ([.ref (E.2.1 0)] : List Value).toArray = args at htb hret ⊢
  clear hAe
  have hL114 : ∀ (x1 : Int32) (m : bp_M), bm_M_clean_L114 N x1 m = some mr → ∀ (ls : Array Slot) (H : Heap) (locs : List Loc), lv_has ls 4 [(0, .ref (E.2.1 0)), (1, .int x1)] → va_P E.1 bp_cl (bm_W E m) H → va_D A (bm_W E m) → va_S A s.heap H locs → W p l e ({ frames := 0, cells := 0, slots := 0, locals := 0 }) s mt args below meth c H locs 0 0 Q (F0 mt 114 ls []) := by
    intro x1 m h ls H locs hl hP hD hS
    rw [bm_M_clean_L114] at h
    refine lv_aload_n hx hb (dt_bm_M_clean 68 rfl) rfl (lv_at hl 0 rfl) ?_
    refine lv_iload_n hx hb (dt_bm_M_clean 69 rfl) rfl (lv_at hl 1 rfl) ?_
    refine bm_pM_34 E hx hb htb hown hK hP hD hS (htb _ tw_802) (dt_bm_M_clean 70 rfl) (fun m1 em1 H locs hP hD hS => ?_)
    replace h := bp_nM_s h em1
    exact hret _ _ _ _ _ h hP hD hS (dt_bm_M_clean 71 rfl)
  have hL4 : ∀ (n4 : Nat) (x1 : Int32) (x2 : Int32) (m : bp_M), bm_M_clean_L4 N n4 x1 x2 m = some mr → ∀ (ls : Array Slot) (H : Heap) (locs : List Loc), lv_has ls 4 [(0, .ref (E.2.1 0)), (1, .int x1), (2, .int x2)] → va_P E.1 bp_cl (bm_W E m) H → va_D A (bm_W E m) → va_S A s.heap H locs → W p l e ({ frames := 0, cells := 0, slots := 0, locals := 0 }) s mt args below meth c H locs 0 0 Q (F0 mt 4 ls []) := by
    intro n4
    induction n4 with
    | zero =>
      intro x1 x2 m h ls H locs hl hP hD hS
      rw [bm_M_clean_L4] at h
      cases h
    | succ n4 ih4 =>
      have hL108 : ∀ (x1 : Int32) (x2 : Int32) (m : bp_M), bm_M_clean_L108 (bm_M_clean_L4 N n4) N x1 x2 m = some mr → ∀ (ls : Array Slot) (H : Heap) (locs : List Loc), lv_has ls 4 [(0, .ref (E.2.1 0)), (1, .int x1), (2, .int x2)] → va_P E.1 bp_cl (bm_W E m) H → va_D A (bm_W E m) → va_S A s.heap H locs → W p l e ({ frames := 0, cells := 0, slots := 0, locals := 0 }) s mt args below meth c H locs 0 0 Q (F0 mt 108 ls []) := by
        intro x1 x2 m h ls H locs hl hP hD hS
        rw [bm_M_clean_L108] at h
        obtain ⟨y1, ey1⟩ : ∃ z : Int32, z = x2 + 1 := ⟨_, rfl⟩
        replace h := bp_nI_s h ey1
        refine lv_iinc (k := 2) (v := y1) hx hb (dt_bm_M_clean 66 rfl) hl rfl (by rw [ey1]; rfl) (Nat.le_of_ble_eq_true rfl) rfl (fun ls hl => ?_)
        have hl : lv_has ls 4 [(2, .int y1), (0, .ref (E.2.1 0)), (1, .int x1)] := hl
        refine lv_goto (tgt := 4) hx hb (dt_bm_M_clean 67 rfl) (by decide) ?_
        exact ih4 _ _ _ h ls H locs (lv_sub hl [1, 2, 0] rfl) hP hD hS
      have hL105 : ∀ (x1 : Int32) (x2 : Int32) (m : bp_M), bm_M_clean_L105 (bm_M_clean_L4 N n4) N x1 x2 m = some mr → ∀ (ls : Array Slot) (H : Heap) (locs : List Loc), lv_has ls 4 [(0, .ref (E.2.1 0)), (1, .int x1), (2, .int x2)] → va_P E.1 bp_cl (bm_W E m) H → va_D A (bm_W E m) → va_S A s.heap H locs → W p l e ({ frames := 0, cells := 0, slots := 0, locals := 0 }) s mt args below meth c H locs 0 0 Q (F0 mt 105 ls []) := by
        intro x1 x2 m h ls H locs hl hP hD hS
        rw [bm_M_clean_L105] at h
        obtain ⟨y1, ey1⟩ : ∃ z : Int32, z = x1 + 1 := ⟨_, rfl⟩
        replace h := bp_nI_s h ey1
        refine lv_iinc (k := 1) (v := y1) hx hb (dt_bm_M_clean 65 rfl) hl rfl (by rw [ey1]; rfl) (Nat.le_of_ble_eq_true rfl) rfl (fun ls hl => ?_)
        have hl : lv_has ls 4 [(1, .int y1), (0, .ref (E.2.1 0)), (2, .int x2)] := hl
        exact hL108 _ _ _ h ls H locs (lv_sub hl [1, 0, 2] rfl) hP hD hS
      have hL68 : ∀ (n68 : Nat) (x1 : Int32) (x2 : Int32) (x3 : Int32) (m : bp_M), bm_M_clean_L68 (bm_M_clean_L4 N n4) N n68 x1 x2 x3 m = some mr → ∀ (ls : Array Slot) (H : Heap) (locs : List Loc), lv_has ls 4 [(0, .ref (E.2.1 0)), (1, .int x1), (2, .int x2), (3, .int x3)] → va_P E.1 bp_cl (bm_W E m) H → va_D A (bm_W E m) → va_S A s.heap H locs → W p l e ({ frames := 0, cells := 0, slots := 0, locals := 0 }) s mt args below meth c H locs 0 0 Q (F0 mt 68 ls []) := by
        intro n68
        induction n68 with
        | zero =>
          intro x1 x2 x3 m h ls H locs hl hP hD hS
          rw [bm_M_clean_L68] at h
          cases h
        | succ n68 ih68 =>
          intro x1 x2 x3 m h ls H locs hl hP hD hS
          rw [bm_M_clean_L68] at h
          refine lv_iload_n hx hb (dt_bm_M_clean 44 rfl) rfl (lv_at hl 3 rfl) ?_
          refine lv_sipush (v := 256) hx hb (dt_bm_M_clean 45 rfl) (by decide) ?_
          refine lv_icmp_ge (tgt := 105) hx hb (dt_bm_M_clean 46 rfl) (by decide) (fun hc => ?_) (fun hc => ?_)
          · replace h := (if_pos hc).symm.trans h
            exact hL105 _ _ _ h ls H locs (lv_sub hl [0, 1, 2] rfl) hP hD hS
          · replace h := (if_neg hc).symm.trans h
            refine lv_aload_n hx hb (dt_bm_M_clean 47 rfl) rfl (lv_at hl 0 rfl) ?_
            refine va_get (D := E.1) (ci := 10) (v := .ref (E.2.1 13)) (C := "BlockPicturesModel") (T := bF_M) (N := 48) hx hb htb bm_in_M hown hK hP 0 (bm_gM E m) rfl 35 (by decide) (htb _ tw_803) (fun _ h9 => h9) rfl (dt_bm_M_clean 48 rfl) ?_
            refine lv_sipush (v := 256) hx hb (dt_bm_M_clean 49 rfl) (by decide) ?_
            refine lv_iload_n hx hb (dt_bm_M_clean 50 rfl) rfl (lv_at hl 1 rfl) ?_
            refine lv_imul hx hb (dt_bm_M_clean 51 rfl) ?_
            refine lv_iload_n hx hb (dt_bm_M_clean 52 rfl) rfl (lv_at hl 3 rfl) ?_
            refine lv_iadd hx hb (dt_bm_M_clean 53 rfl) ?_
            refine lv_aload_n hx hb (dt_bm_M_clean 54 rfl) rfl (lv_at hl 0 rfl) ?_
            refine va_get (D := E.1) (ci := 10) (v := .ref (E.2.1 13)) (C := "BlockPicturesModel") (T := bF_M) (N := 48) hx hb htb bm_in_M hown hK hP 0 (bm_gM E m) rfl 35 (by decide) (htb _ tw_803) (fun _ h9 => h9) rfl (dt_bm_M_clean 55 rfl) ?_
            refine lv_sipush (v := 256) hx hb (dt_bm_M_clean 56 rfl) (by decide) ?_
            refine lv_iload_n hx hb (dt_bm_M_clean 57 rfl) rfl (lv_at hl 2 rfl) ?_
            refine lv_imul hx hb (dt_bm_M_clean 58 rfl) ?_
            refine lv_iload_n hx hb (dt_bm_M_clean 59 rfl) rfl (lv_at hl 3 rfl) ?_
            refine lv_iadd hx hb (dt_bm_M_clean 60 rfl) ?_
            obtain ⟨hg1, h⟩ := bp_gi_s h
            refine bm_lI E hx hb hK hP (bm_ga13 E) hg1 (dt_bm_M_clean 61 rfl) ?_
            obtain ⟨hg2, h⟩ := bp_gi_s h
            refine bm_sI E hx hb hK hP hD hS (bm_ga13 E) hg2 (dt_bm_M_clean 62 rfl) (fun m3 em3 H locs hP hD hS => ?_)
            replace h := bp_nM_s h em3
            obtain ⟨y4, ey4⟩ : ∃ z : Int32, z = x3 + 1 := ⟨_, rfl⟩
            replace h := bp_nI_s h ey4
            refine lv_iinc (k := 3) (v := y4) hx hb (dt_bm_M_clean 63 rfl) hl rfl (by rw [ey4]; rfl) (Nat.le_of_ble_eq_true rfl) rfl (fun ls hl => ?_)
            have hl : lv_has ls 4 [(3, .int y4), (0, .ref (E.2.1 0)), (1, .int x1), (2, .int x2)] := hl
            refine lv_goto (tgt := 68) hx hb (dt_bm_M_clean 64 rfl) (by decide) ?_
            exact ih68 _ _ _ _ h ls H locs (lv_sub hl [1, 2, 3, 0] rfl) hP hD hS
      have hL30 : ∀ (x1 : Int32) (x2 : Int32) (m : bp_M), bm_M_clean_L30 (bm_M_clean_L4 N n4) N x1 x2 m = some mr → ∀ (ls : Array Slot) (H : Heap) (locs : List Loc), lv_has ls 4 [(0, .ref (E.2.1 0)), (1, .int x1), (2, .int x2)] → va_P E.1 bp_cl (bm_W E m) H → va_D A (bm_W E m) → va_S A s.heap H locs → W p l e ({ frames := 0, cells := 0, slots := 0, locals := 0 }) s mt args below meth c H locs 0 0 Q (F0 mt 30 ls []) := by
        intro x1 x2 m h ls H locs hl hP hD hS
        rw [bm_M_clean_L30] at h
        refine lv_aload_n hx hb (dt_bm_M_clean 18 rfl) rfl (lv_at hl 0 rfl) ?_
        refine va_get (D := E.1) (ci := 10) (v := .ref (E.2.1 14)) (C := "BlockPicturesModel") (T := bF_M) (N := 48) hx hb htb bm_in_M hown hK hP 0 (bm_gM E m) rfl 36 (by decide) (htb _ tw_804) (fun _ h9 => h9) rfl (dt_bm_M_clean 19 rfl) ?_
        refine lv_iload_n hx hb (dt_bm_M_clean 20 rfl) rfl (lv_at hl 1 rfl) ?_
        refine lv_aload_n hx hb (dt_bm_M_clean 21 rfl) rfl (lv_at hl 0 rfl) ?_
        refine va_get (D := E.1) (ci := 10) (v := .ref (E.2.1 14)) (C := "BlockPicturesModel") (T := bF_M) (N := 48) hx hb htb bm_in_M hown hK hP 0 (bm_gM E m) rfl 36 (by decide) (htb _ tw_804) (fun _ h9 => h9) rfl (dt_bm_M_clean 22 rfl) ?_
        refine lv_iload_n hx hb (dt_bm_M_clean 23 rfl) rfl (lv_at hl 2 rfl) ?_
        obtain ⟨hg1, h⟩ := bp_gi_s h
        refine bm_lI E hx hb hK hP (bm_ga14 E) hg1 (dt_bm_M_clean 24 rfl) ?_
        obtain ⟨hg2, h⟩ := bp_gi_s h
        refine bm_sI E hx hb hK hP hD hS (bm_ga14 E) hg2 (dt_bm_M_clean 25 rfl) (fun m3 em3 H locs hP hD hS => ?_)
        replace h := bp_nM_s h em3
        refine lv_aload_n hx hb (dt_bm_M_clean 26 rfl) rfl (lv_at hl 0 rfl) ?_
        refine va_get (D := E.1) (ci := 10) (v := .ref (E.2.1 15)) (C := "BlockPicturesModel") (T := bF_M) (N := 48) hx hb htb bm_in_M hown hK hP 0 (bm_gM E m3) rfl 37 (by decide) (htb _ tw_805) (fun _ h9 => h9) rfl (dt_bm_M_clean 27 rfl) ?_
        refine lv_iload_n hx hb (dt_bm_M_clean 28 rfl) rfl (lv_at hl 1 rfl) ?_
        refine lv_aload_n hx hb (dt_bm_M_clean 29 rfl) rfl (lv_at hl 0 rfl) ?_
        refine va_get (D := E.1) (ci := 10) (v := .ref (E.2.1 15)) (C := "BlockPicturesModel") (T := bF_M) (N := 48) hx hb htb bm_in_M hown hK hP 0 (bm_gM E m3) rfl 37 (by decide) (htb _ tw_805) (fun _ h9 => h9) rfl (dt_bm_M_clean 30 rfl) ?_
        refine lv_iload_n hx hb (dt_bm_M_clean 31 rfl) rfl (lv_at hl 2 rfl) ?_
        obtain ⟨hg4, h⟩ := bp_gi_s h
        refine bm_lZ E hx hb hK hP (bm_ga15 E) hg4 (dt_bm_M_clean 32 rfl) ?_
        obtain ⟨hg5, h⟩ := bp_gi_s h
        obtain ⟨hg6, h⟩ := bp_g_s h
        refine bm_sZ E hx hb hK hP hD hS (bm_ga15 E) hg5 hg6 (dt_bm_M_clean 33 rfl) (fun m7 em7 H locs hP hD hS => ?_)
        replace h := bp_nM_s h em7
        refine lv_aload_n hx hb (dt_bm_M_clean 34 rfl) rfl (lv_at hl 0 rfl) ?_
        refine va_get (D := E.1) (ci := 10) (v := .ref (E.2.1 16)) (C := "BlockPicturesModel") (T := bF_M) (N := 48) hx hb htb bm_in_M hown hK hP 0 (bm_gM E m7) rfl 38 (by decide) (htb _ tw_806) (fun _ h9 => h9) rfl (dt_bm_M_clean 35 rfl) ?_
        refine lv_iload_n hx hb (dt_bm_M_clean 36 rfl) rfl (lv_at hl 1 rfl) ?_
        refine lv_aload_n hx hb (dt_bm_M_clean 37 rfl) rfl (lv_at hl 0 rfl) ?_
        refine va_get (D := E.1) (ci := 10) (v := .ref (E.2.1 16)) (C := "BlockPicturesModel") (T := bF_M) (N := 48) hx hb htb bm_in_M hown hK hP 0 (bm_gM E m7) rfl 38 (by decide) (htb _ tw_806) (fun _ h9 => h9) rfl (dt_bm_M_clean 38 rfl) ?_
        refine lv_iload_n hx hb (dt_bm_M_clean 39 rfl) rfl (lv_at hl 2 rfl) ?_
        obtain ⟨hg8, h⟩ := bp_gi_s h
        refine bm_lZ E hx hb hK hP (bm_ga16 E) hg8 (dt_bm_M_clean 40 rfl) ?_
        obtain ⟨hg9, h⟩ := bp_gi_s h
        obtain ⟨hg10, h⟩ := bp_g_s h
        refine bm_sZ E hx hb hK hP hD hS (bm_ga16 E) hg9 hg10 (dt_bm_M_clean 41 rfl) (fun m11 em11 H locs hP hD hS => ?_)
        replace h := bp_nM_s h em11
        refine lv_iconst (v := 0) hx hb (dt_bm_M_clean 42 rfl) (by decide) ?_
        refine lv_istore_n hx hb (dt_bm_M_clean 43 rfl) rfl hl (Nat.le_of_ble_eq_true rfl) rfl (fun ls hl => ?_)
        have hl : lv_has ls 4 [(3, .int 0), (0, .ref (E.2.1 0)), (1, .int x1), (2, .int x2)] := hl
        exact hL68 _ _ _ _ _ h ls H locs (lv_sub hl [1, 2, 3, 0] rfl) hP hD hS
      intro x1 x2 m h ls H locs hl hP hD hS
      rw [bm_M_clean_L4] at h
      refine lv_iload_n hx hb (dt_bm_M_clean 4 rfl) rfl (lv_at hl 2 rfl) ?_
      refine lv_aload_n hx hb (dt_bm_M_clean 5 rfl) rfl (lv_at hl 0 rfl) ?_
      refine va_get (D := E.1) (ci := 10) (v := .int (m.1 0 34)) (C := "BlockPicturesModel") (T := bF_M) (N := 48) hx hb htb bm_in_M hown hK hP 0 (bm_gM E m) rfl 34 (by decide) (htb _ tw_802) (fun _ h9 => h9) rfl (dt_bm_M_clean 6 rfl) ?_
      refine lv_icmp_ge (tgt := 114) hx hb (dt_bm_M_clean 7 rfl) (by decide) (fun hc => ?_) (fun hc => ?_)
      · replace h := (if_pos hc).symm.trans h
        exact hL114 _ _ h ls H locs (lv_sub hl [0, 1] rfl) hP hD hS
      · replace h := (if_neg hc).symm.trans h
        refine lv_aload_n hx hb (dt_bm_M_clean 8 rfl) rfl (lv_at hl 0 rfl) ?_
        refine va_get (D := E.1) (ci := 10) (v := .ref (E.2.1 15)) (C := "BlockPicturesModel") (T := bF_M) (N := 48) hx hb htb bm_in_M hown hK hP 0 (bm_gM E m) rfl 37 (by decide) (htb _ tw_805) (fun _ h9 => h9) rfl (dt_bm_M_clean 9 rfl) ?_
        refine lv_iload_n hx hb (dt_bm_M_clean 10 rfl) rfl (lv_at hl 2 rfl) ?_
        obtain ⟨hg1, h⟩ := bp_gi_s h
        refine bm_lZ E hx hb hK hP (bm_ga15 E) hg1 (dt_bm_M_clean 11 rfl) ?_
        refine lv_if_ne (tgt := 30) hx hb (dt_bm_M_clean 12 rfl) (by decide) (fun hc => ?_) (fun hc => ?_)
        · replace h := (if_pos hc).symm.trans h
          exact hL30 _ _ _ h ls H locs (lv_sub hl [0, 1, 2] rfl) hP hD hS
        · replace h := (if_neg (fun hn => hn hc)).symm.trans h
          refine lv_aload_n hx hb (dt_bm_M_clean 13 rfl) rfl (lv_at hl 0 rfl) ?_
          refine va_get (D := E.1) (ci := 10) (v := .ref (E.2.1 16)) (C := "BlockPicturesModel") (T := bF_M) (N := 48) hx hb htb bm_in_M hown hK hP 0 (bm_gM E m) rfl 38 (by decide) (htb _ tw_806) (fun _ h9 => h9) rfl (dt_bm_M_clean 14 rfl) ?_
          refine lv_iload_n hx hb (dt_bm_M_clean 15 rfl) rfl (lv_at hl 2 rfl) ?_
          obtain ⟨hg2, h⟩ := bp_gi_s h
          refine bm_lZ E hx hb hK hP (bm_ga16 E) hg2 (dt_bm_M_clean 16 rfl) ?_
          refine lv_if_eq (tgt := 108) hx hb (dt_bm_M_clean 17 rfl) (by decide) (fun hc => ?_) (fun hc => ?_)
          · replace h := (if_pos hc).symm.trans h
            exact hL108 _ _ _ h ls H locs (lv_sub hl [0, 1, 2] rfl) hP hD hS
          · replace h := (if_neg hc).symm.trans h
            exact hL30 _ _ _ h ls H locs (lv_sub hl [0, 1, 2] rfl) hP hD hS
  suffices hgo : ∀ (H : Heap) (locs : List Loc), va_P E.1 bp_cl (bm_W E m) H → va_D A (bm_W E m) → va_S A s.heap H locs → W p l e ({ frames := 0, cells := 0, slots := 0, locals := 0 }) s mt args below meth c H locs 0 0 Q (F0 mt 0 ls []) from hgo _ _ hP hD hS
  clear hP hD hS
  intro H locs hP hD hS
  unfold bm_M_clean at h
  refine lv_iconst (v := 0) hx hb (dt_bm_M_clean 0 rfl) (by decide) ?_
  refine lv_istore_n hx hb (dt_bm_M_clean 1 rfl) rfl hl (Nat.le_of_ble_eq_true rfl) rfl (fun ls hl => ?_)
  have hl : lv_has ls 4 [(1, .int 0), (0, .ref (E.2.1 0))] := hl
  refine lv_iconst (v := 0) hx hb (dt_bm_M_clean 2 rfl) (by decide) ?_
  refine lv_istore_n hx hb (dt_bm_M_clean 3 rfl) rfl hl (Nat.le_of_ble_eq_true rfl) rfl (fun ls hl => ?_)
  have hl : lv_has ls 4 [(2, .int 0), (1, .int 0), (0, .ref (E.2.1 0))] := hl
  exact hL4 _ _ _ _ h ls H locs (lv_sub hl [2, 1, 0] rfl) hP hD hS
set_option maxHeartbeats 4000000 in
set_option maxRecDepth 100000 in
theorem wbm_M_keep (l : Launch) (E : bm_E) (N : Nat) (a1 : Int32) (a2 : Int32) (a3 : Int32) (m : bp_M) (sz : Nat) (mr : bp_M)  (h : bm_M_keep N a1 a2 a3 m = some mr) : Met l y_bm_M_keep (Cond.code y_bm_M_keep prog_13_method_42_code 9 none :: bp_tb) ({ frames := 3, cells := 0, slots := 0, locals := 65 }) (bm_Pc E m sz [.ref (E.2.1 0), .int a1, .int a2, .int a3]) (bm_Qv E m sz mr) 0 0 (va_A (bm_W E m) sz) := by
  refine Met.ofW (cc := prog_13_method_42_code) (maxL := 9) (ret := none) (by decide) rfl ?_
  intro p e s mt args below meth c s₁ B hml hv
  obtain ⟨rfl, hsz, hP, hK, hD0, hst⟩ := hv
  have hx := B.exec
  have hb := B.bytes
  have hr := B.returns
  have htb : ∀ w ∈ bp_tb, w.before _ s = true := fun w hw => atoms_spec (ws := Cond.code y_bm_M_keep prog_13_method_42_code 9 none :: bp_tb) B.pre w (List.mem_cons_of_mem _ hw)
  have hown : s.vm.findClass "BlockPicturesModel" = some mt.cls := findClass_of_methodNamed B.named
  have hlocks := B.notSynchronized
  subst hsz
  have hD := hD0.self (sz := s.heap.size)
  generalize hAe : va_A (bm_W E m) s.heap.size = A at hD hst ⊢
  have hsub : ∀ (u : bp_M) (z q : Nat), s.heap.size ≤ z → va_A (bm_W E u) z q → A q := bm_sub hAe
  have hS : va_S A s.heap s.heap [] := va_S.rf
  have hl := lv_entry ([.ref (E.2.1 0), .int a1, .int a2, .int a3]) (n := 9) (Nat.le_of_ble_eq_true rfl)
  rw [lg_entry_eq]
  generalize (lg_sl ([.ref (E.2.1 0), .int a1, .int a2, .int a3]) ++ List.replicate (9 - (lg_sl ([.ref (E.2.1 0), .int a1, .int a2, .int a3])).length) Slot.unset).toArray = ls at hl ⊢
  have hl : lv_has ls 9 [(0, .ref (E.2.1 0)), (1, .int a1), (2, .int a2), (3, .int a3)] := hl
  refine bm_keyV (R := ({ frames := 3, cells := 0, slots := 0, locals := 65 })) E hx hb hr hlocks hK hAe (fun Q hret => ?_)
  clear B hD0 hlocks hr
  generalize ([.ref (E.2.1 0), .int a1, .int a2, .int a3] : List Value).toArray = args at htb hret ⊢
  clear hAe
  have hL327 : ∀ (m : bp_M), bm_M_keep_L327 N a1 a2 a3 m = some mr → ∀ (ls : Array Slot) (H : Heap) (locs : List Loc), lv_has ls 9 [] → va_P E.1 bp_cl (bm_W E m) H → va_D A (bm_W E m) → va_S A s.heap H locs → W p l e ({ frames := 3, cells := 0, slots := 0, locals := 65 }) s mt args below meth c H locs 0 0 Q (F0 mt 327 ls []) := by
    intro m h ls H locs hl hP hD hS
    rw [bm_M_keep_L327] at h
    exact hret _ _ _ _ _ h hP hD hS (dt_bm_M_keep 166 rfl)
  have hL317 : ∀ (m : bp_M), bm_M_keep_L317 N a1 a2 a3 m = some mr → ∀ (ls : Array Slot) (H : Heap) (locs : List Loc), lv_has ls 9 [(0, .ref (E.2.1 0))] → va_P E.1 bp_cl (bm_W E m) H → va_D A (bm_W E m) → va_S A s.heap H locs → W p l e ({ frames := 3, cells := 0, slots := 0, locals := 65 }) s mt args below meth c H locs 0 0 Q (F0 mt 317 ls []) := by
    intro m h ls H locs hl hP hD hS
    rw [bm_M_keep_L317] at h
    refine lv_aload_n hx hb (dt_bm_M_keep 160 rfl) rfl (lv_at hl 0 rfl) ?_
    refine lv_dup hx hb (dt_bm_M_keep 161 rfl) rfl ?_
    refine va_get (D := E.1) (ci := 10) (v := .int (m.1 0 34)) (C := "BlockPicturesModel") (T := bF_M) (N := 48) hx hb htb bm_in_M hown hK hP 0 (bm_gM E m) rfl 34 (by decide) (htb _ tw_802) (fun _ h9 => h9) rfl (dt_bm_M_keep 162 rfl) ?_
    refine lv_iconst (v := 1) hx hb (dt_bm_M_keep 163 rfl) (by decide) ?_
    refine lv_iadd hx hb (dt_bm_M_keep 164 rfl) ?_
    refine bm_pM_34 E hx hb htb hown hK hP hD hS (htb _ tw_802) (dt_bm_M_keep 165 rfl) (fun m1 em1 H locs hP hD hS => ?_)
    replace h := bp_nM_s h em1
    exact hL327 _ h ls H locs (lv_sub hl [] rfl) hP hD hS
  have hL280 : ∀ (n280 : Nat) (x6 : Int32) (m : bp_M), bm_M_keep_L280 N a1 a2 a3 n280 x6 m = some mr → ∀ (ls : Array Slot) (H : Heap) (locs : List Loc), lv_has ls 9 [(0, .ref (E.2.1 0)), (6, .int x6)] → va_P E.1 bp_cl (bm_W E m) H → va_D A (bm_W E m) → va_S A s.heap H locs → W p l e ({ frames := 3, cells := 0, slots := 0, locals := 65 }) s mt args below meth c H locs 0 0 Q (F0 mt 280 ls []) := by
    intro n280
    induction n280 with
    | zero =>
      intro x6 m h ls H locs hl hP hD hS
      rw [bm_M_keep_L280] at h
      cases h
    | succ n280 ih280 =>
      intro x6 m h ls H locs hl hP hD hS
      rw [bm_M_keep_L280] at h
      refine lv_iload hx hb (dt_bm_M_keep 142 rfl) (lv_at hl 1 rfl) ?_
      refine lv_sipush (v := 256) hx hb (dt_bm_M_keep 143 rfl) (by decide) ?_
      refine lv_icmp_ge (tgt := 317) hx hb (dt_bm_M_keep 144 rfl) (by decide) (fun hc => ?_) (fun hc => ?_)
      · replace h := (if_pos hc).symm.trans h
        exact hL317 _ h ls H locs (lv_sub hl [0] rfl) hP hD hS
      · replace h := (if_neg hc).symm.trans h
        refine lv_aload_n hx hb (dt_bm_M_keep 145 rfl) rfl (lv_at hl 0 rfl) ?_
        refine va_get (D := E.1) (ci := 10) (v := .ref (E.2.1 13)) (C := "BlockPicturesModel") (T := bF_M) (N := 48) hx hb htb bm_in_M hown hK hP 0 (bm_gM E m) rfl 35 (by decide) (htb _ tw_803) (fun _ h9 => h9) rfl (dt_bm_M_keep 146 rfl) ?_
        refine lv_sipush (v := 256) hx hb (dt_bm_M_keep 147 rfl) (by decide) ?_
        refine lv_aload_n hx hb (dt_bm_M_keep 148 rfl) rfl (lv_at hl 0 rfl) ?_
        refine va_get (D := E.1) (ci := 10) (v := .int (m.1 0 34)) (C := "BlockPicturesModel") (T := bF_M) (N := 48) hx hb htb bm_in_M hown hK hP 0 (bm_gM E m) rfl 34 (by decide) (htb _ tw_802) (fun _ h9 => h9) rfl (dt_bm_M_keep 149 rfl) ?_
        refine lv_imul hx hb (dt_bm_M_keep 150 rfl) ?_
        refine lv_iload hx hb (dt_bm_M_keep 151 rfl) (lv_at hl 1 rfl) ?_
        refine lv_iadd hx hb (dt_bm_M_keep 152 rfl) ?_
        refine lv_aload_n hx hb (dt_bm_M_keep 153 rfl) rfl (lv_at hl 0 rfl) ?_
        refine va_get (D := E.1) (ci := 10) (v := .ref (E.2.1 5)) (C := "BlockPicturesModel") (T := bF_M) (N := 48) hx hb htb bm_in_M hown hK hP 0 (bm_gM E m) rfl 23 (by decide) (htb _ tw_791) (fun _ h9 => h9) rfl (dt_bm_M_keep 154 rfl) ?_
        refine lv_iload hx hb (dt_bm_M_keep 155 rfl) (lv_at hl 1 rfl) ?_
        obtain ⟨hg1, h⟩ := bp_gi_s h
        refine bm_lI E hx hb hK hP (bm_ga5 E) hg1 (dt_bm_M_keep 156 rfl) ?_
        obtain ⟨hg2, h⟩ := bp_gi_s h
        refine bm_sI E hx hb hK hP hD hS (bm_ga13 E) hg2 (dt_bm_M_keep 157 rfl) (fun m3 em3 H locs hP hD hS => ?_)
        replace h := bp_nM_s h em3
        obtain ⟨y4, ey4⟩ : ∃ z : Int32, z = x6 + 1 := ⟨_, rfl⟩
        replace h := bp_nI_s h ey4
        refine lv_iinc (k := 1) (v := y4) hx hb (dt_bm_M_keep 158 rfl) hl rfl (by rw [ey4]; rfl) (Nat.le_of_ble_eq_true rfl) rfl (fun ls hl => ?_)
        have hl : lv_has ls 9 [(6, .int y4), (0, .ref (E.2.1 0))] := hl
        refine lv_goto (tgt := 280) hx hb (dt_bm_M_keep 159 rfl) (by decide) ?_
        exact ih280 _ _ h ls H locs (lv_sub hl [1, 0] rfl) hP hD hS
  have hL234 : ∀ (x5 : Int32) (m : bp_M), bm_M_keep_L234 N a1 a2 a3 x5 m = some mr → ∀ (ls : Array Slot) (H : Heap) (locs : List Loc), lv_has ls 9 [(0, .ref (E.2.1 0)), (2, .int a2), (3, .int a3), (5, .int x5)] → va_P E.1 bp_cl (bm_W E m) H → va_D A (bm_W E m) → va_S A s.heap H locs → W p l e ({ frames := 3, cells := 0, slots := 0, locals := 65 }) s mt args below meth c H locs 0 0 Q (F0 mt 234 ls []) := by
    intro x5 m h ls H locs hl hP hD hS
    rw [bm_M_keep_L234] at h
    refine lv_iload hx hb (dt_bm_M_keep 116 rfl) (lv_at hl 3 rfl) ?_
    refine lv_if_ne (tgt := 327) hx hb (dt_bm_M_keep 117 rfl) (by decide) (fun hc => ?_) (fun hc => ?_)
    · replace h := (if_pos hc).symm.trans h
      exact hL327 _ h ls H locs (lv_sub hl [] rfl) hP hD hS
    · replace h := (if_neg (fun hn => hn hc)).symm.trans h
      refine lv_aload_n hx hb (dt_bm_M_keep 118 rfl) rfl (lv_at hl 0 rfl) ?_
      refine va_get (D := E.1) (ci := 10) (v := .int (m.1 0 34)) (C := "BlockPicturesModel") (T := bF_M) (N := 48) hx hb htb bm_in_M hown hK hP 0 (bm_gM E m) rfl 34 (by decide) (htb _ tw_802) (fun _ h9 => h9) rfl (dt_bm_M_keep 119 rfl) ?_
      refine lv_iconst (v := 4) hx hb (dt_bm_M_keep 120 rfl) (by decide) ?_
      refine lv_icmp_ge (tgt := 327) hx hb (dt_bm_M_keep 121 rfl) (by decide) (fun hc => ?_) (fun hc => ?_)
      · replace h := (if_pos hc).symm.trans h
        exact hL327 _ h ls H locs (lv_sub hl [] rfl) hP hD hS
      · replace h := (if_neg hc).symm.trans h
        refine lv_aload_n hx hb (dt_bm_M_keep 122 rfl) rfl (lv_at hl 0 rfl) ?_
        refine va_get (D := E.1) (ci := 10) (v := .ref (E.2.1 14)) (C := "BlockPicturesModel") (T := bF_M) (N := 48) hx hb htb bm_in_M hown hK hP 0 (bm_gM E m) rfl 36 (by decide) (htb _ tw_804) (fun _ h9 => h9) rfl (dt_bm_M_keep 123 rfl) ?_
        refine lv_aload_n hx hb (dt_bm_M_keep 124 rfl) rfl (lv_at hl 0 rfl) ?_
        refine va_get (D := E.1) (ci := 10) (v := .int (m.1 0 34)) (C := "BlockPicturesModel") (T := bF_M) (N := 48) hx hb htb bm_in_M hown hK hP 0 (bm_gM E m) rfl 34 (by decide) (htb _ tw_802) (fun _ h9 => h9) rfl (dt_bm_M_keep 125 rfl) ?_
        refine lv_iload_n hx hb (dt_bm_M_keep 126 rfl) rfl (lv_at hl 1 rfl) ?_
        obtain ⟨hg1, h⟩ := bp_gi_s h
        refine bm_sI E hx hb hK hP hD hS (bm_ga14 E) hg1 (dt_bm_M_keep 127 rfl) (fun m2 em2 H locs hP hD hS => ?_)
        replace h := bp_nM_s h em2
        refine lv_aload_n hx hb (dt_bm_M_keep 128 rfl) rfl (lv_at hl 0 rfl) ?_
        refine va_get (D := E.1) (ci := 10) (v := .ref (E.2.1 15)) (C := "BlockPicturesModel") (T := bF_M) (N := 48) hx hb htb bm_in_M hown hK hP 0 (bm_gM E m2) rfl 37 (by decide) (htb _ tw_805) (fun _ h9 => h9) rfl (dt_bm_M_keep 129 rfl) ?_
        refine lv_aload_n hx hb (dt_bm_M_keep 130 rfl) rfl (lv_at hl 0 rfl) ?_
        refine va_get (D := E.1) (ci := 10) (v := .int (m2.1 0 34)) (C := "BlockPicturesModel") (T := bF_M) (N := 48) hx hb htb bm_in_M hown hK hP 0 (bm_gM E m2) rfl 34 (by decide) (htb _ tw_802) (fun _ h9 => h9) rfl (dt_bm_M_keep 131 rfl) ?_
        refine lv_iload_n hx hb (dt_bm_M_keep 132 rfl) rfl (lv_at hl 2 rfl) ?_
        obtain ⟨hg3, h⟩ := bp_gi_s h
        obtain ⟨hg4, h⟩ := bp_g_s h
        refine bm_sZ E hx hb hK hP hD hS (bm_ga15 E) hg3 hg4 (dt_bm_M_keep 133 rfl) (fun m5 em5 H locs hP hD hS => ?_)
        replace h := bp_nM_s h em5
        refine lv_aload_n hx hb (dt_bm_M_keep 134 rfl) rfl (lv_at hl 0 rfl) ?_
        refine va_get (D := E.1) (ci := 10) (v := .ref (E.2.1 16)) (C := "BlockPicturesModel") (T := bF_M) (N := 48) hx hb htb bm_in_M hown hK hP 0 (bm_gM E m5) rfl 38 (by decide) (htb _ tw_806) (fun _ h9 => h9) rfl (dt_bm_M_keep 135 rfl) ?_
        refine lv_aload_n hx hb (dt_bm_M_keep 136 rfl) rfl (lv_at hl 0 rfl) ?_
        refine va_get (D := E.1) (ci := 10) (v := .int (m5.1 0 34)) (C := "BlockPicturesModel") (T := bF_M) (N := 48) hx hb htb bm_in_M hown hK hP 0 (bm_gM E m5) rfl 34 (by decide) (htb _ tw_802) (fun _ h9 => h9) rfl (dt_bm_M_keep 137 rfl) ?_
        refine lv_iconst (v := 1) hx hb (dt_bm_M_keep 138 rfl) (by decide) ?_
        obtain ⟨hg6, h⟩ := bp_gi_s h
        obtain ⟨hg7, h⟩ := bp_g_s h
        refine bm_sZ E hx hb hK hP hD hS (bm_ga16 E) hg6 hg7 (dt_bm_M_keep 139 rfl) (fun m8 em8 H locs hP hD hS => ?_)
        replace h := bp_nM_s h em8
        refine lv_iconst (v := 0) hx hb (dt_bm_M_keep 140 rfl) (by decide) ?_
        refine lv_istore hx hb (dt_bm_M_keep 141 rfl) hl (Nat.le_of_ble_eq_true rfl) rfl (fun ls hl => ?_)
        have hl : lv_has ls 9 [(6, .int 0), (0, .ref (E.2.1 0)), (2, .int a2), (3, .int a3), (5, .int x5)] := hl
        exact hL280 _ _ _ h ls H locs (lv_sub hl [1, 0] rfl) hP hD hS
  have hL129 : ∀ (n129 : Nat) (x5 : Int32) (x6 : Int32) (m : bp_M), bm_M_keep_L129 N a1 a2 a3 n129 x5 x6 m = some mr → ∀ (ls : Array Slot) (H : Heap) (locs : List Loc), lv_has ls 9 [(0, .ref (E.2.1 0)), (2, .int a2), (3, .int a3), (5, .int x5), (6, .int x6)] → va_P E.1 bp_cl (bm_W E m) H → va_D A (bm_W E m) → va_S A s.heap H locs → W p l e ({ frames := 3, cells := 0, slots := 0, locals := 65 }) s mt args below meth c H locs 0 0 Q (F0 mt 129 ls []) := by
    intro n129
    induction n129 with
    | zero =>
      intro x5 x6 m h ls H locs hl hP hD hS
      rw [bm_M_keep_L129] at h
      cases h
    | succ n129 ih129 =>
      have hL228 : ∀ (x5 : Int32) (x6 : Int32) (m : bp_M), bm_M_keep_L228 (bm_M_keep_L129 N a1 a2 a3 n129) N a1 a2 a3 x5 x6 m = some mr → ∀ (ls : Array Slot) (H : Heap) (locs : List Loc), lv_has ls 9 [(0, .ref (E.2.1 0)), (2, .int a2), (3, .int a3), (5, .int x5), (6, .int x6)] → va_P E.1 bp_cl (bm_W E m) H → va_D A (bm_W E m) → va_S A s.heap H locs → W p l e ({ frames := 3, cells := 0, slots := 0, locals := 65 }) s mt args below meth c H locs 0 0 Q (F0 mt 228 ls []) := by
        intro x5 x6 m h ls H locs hl hP hD hS
        rw [bm_M_keep_L228] at h
        obtain ⟨y1, ey1⟩ : ∃ z : Int32, z = x6 + 1 := ⟨_, rfl⟩
        replace h := bp_nI_s h ey1
        refine lv_iinc (k := 4) (v := y1) hx hb (dt_bm_M_keep 114 rfl) hl rfl (by rw [ey1]; rfl) (Nat.le_of_ble_eq_true rfl) rfl (fun ls hl => ?_)
        have hl : lv_has ls 9 [(6, .int y1), (0, .ref (E.2.1 0)), (2, .int a2), (3, .int a3), (5, .int x5)] := hl
        refine lv_goto (tgt := 129) hx hb (dt_bm_M_keep 115 rfl) (by decide) ?_
        exact ih129 _ _ _ h ls H locs (lv_sub hl [1, 2, 3, 4, 0] rfl) hP hD hS
      have hL220 : ∀ (x5 : Int32) (x6 : Int32) (m : bp_M), bm_M_keep_L220 (bm_M_keep_L129 N a1 a2 a3 n129) N a1 a2 a3 x5 x6 m = some mr → ∀ (ls : Array Slot) (H : Heap) (locs : List Loc), lv_has ls 9 [(0, .ref (E.2.1 0)), (2, .int a2), (3, .int a3), (5, .int x5), (6, .int x6)] → va_P E.1 bp_cl (bm_W E m) H → va_D A (bm_W E m) → va_S A s.heap H locs → W p l e ({ frames := 3, cells := 0, slots := 0, locals := 65 }) s mt args below meth c H locs 0 0 Q (F0 mt 220 ls []) := by
        intro x5 x6 m h ls H locs hl hP hD hS
        rw [bm_M_keep_L220] at h
        refine lv_aload_n hx hb (dt_bm_M_keep 110 rfl) rfl (lv_at hl 0 rfl) ?_
        obtain ⟨m1, hm1, h⟩ := bp_cV_s h
        refine bm_callV E hsub hS (va_runV (As := []) (rest := []) ⟨hx, hb, hml, hown, htb⟩ (wbm_M_showFirst l E N  m H.size m1 hm1) (cwV 0 htb (bp_goodV tw_1047 tw_1049 tw_61 tw_79 tw_1050) rfl rfl rfl ⟨rfl, hd_bm_M_showFirst⟩ ⟨Nat.le_of_ble_eq_true rfl, Nat.le_of_ble_eq_true rfl⟩) (bm_preV E hsub hst hK hP hD hS (bm_gM E m) rfl rfl _) rfl rfl hl.1 rfl (lv_room (Nat.le_of_ble_eq_true rfl)) (dt_bm_M_keep 111 rfl) ⟨Nat.zero_le _, Nat.zero_le _⟩) (fun H locs hP hD hS => ?_)
        refine lv_aload_n hx hb (dt_bm_M_keep 112 rfl) rfl (lv_at hl 0 rfl) ?_
        obtain ⟨m2, hm2, h⟩ := bp_cV_s h
        refine bm_callV E hsub hS (va_runV (As := []) (rest := []) ⟨hx, hb, hml, hown, htb⟩ (wbm_M_clean l E N  m1 H.size m2 hm2) (cwV 0 htb (bp_goodV tw_1059 tw_1061 tw_64 tw_79 tw_1062) rfl rfl rfl ⟨rfl, hd_bm_M_clean⟩ ⟨Nat.le_of_ble_eq_true rfl, Nat.le_of_ble_eq_true rfl⟩) (bm_preV E hsub hst hK hP hD hS (bm_gM E m1) rfl rfl _) rfl rfl hl.1 rfl (lv_room (Nat.le_of_ble_eq_true rfl)) (dt_bm_M_keep 113 rfl) ⟨Nat.zero_le _, Nat.zero_le _⟩) (fun H locs hP hD hS => ?_)
        exact hL228 _ _ _ h ls H locs (lv_sub hl [0, 1, 2, 3, 4] rfl) hP hD hS
      have hL217 : ∀ (x5 : Int32) (x6 : Int32) (m : bp_M), bm_M_keep_L217 (bm_M_keep_L129 N a1 a2 a3 n129) N a1 a2 a3 x5 x6 m = some mr → ∀ (ls : Array Slot) (H : Heap) (locs : List Loc), lv_has ls 9 [(0, .ref (E.2.1 0)), (2, .int a2), (3, .int a3), (5, .int x5), (6, .int x6)] → va_P E.1 bp_cl (bm_W E m) H → va_D A (bm_W E m) → va_S A s.heap H locs → W p l e ({ frames := 3, cells := 0, slots := 0, locals := 65 }) s mt args below meth c H locs 0 0 Q (F0 mt 217 ls []) := by
        intro x5 x6 m h ls H locs hl hP hD hS
        rw [bm_M_keep_L217] at h
        refine lv_goto (tgt := 228) hx hb (dt_bm_M_keep 109 rfl) (by decide) ?_
        exact hL228 _ _ _ h ls H locs (lv_sub hl [0, 1, 2, 3, 4] rfl) hP hD hS
      have hL189 : ∀ (n189 : Nat) (x5 : Int32) (x6 : Int32) (x8 : Int32) (m : bp_M), bm_M_keep_L189 (bm_M_keep_L129 N a1 a2 a3 n129) N a1 a2 a3 n189 x5 x6 x8 m = some mr → ∀ (ls : Array Slot) (H : Heap) (locs : List Loc), lv_has ls 9 [(0, .ref (E.2.1 0)), (2, .int a2), (3, .int a3), (5, .int x5), (6, .int x6), (8, .int x8)] → va_P E.1 bp_cl (bm_W E m) H → va_D A (bm_W E m) → va_S A s.heap H locs → W p l e ({ frames := 3, cells := 0, slots := 0, locals := 65 }) s mt args below meth c H locs 0 0 Q (F0 mt 189 ls []) := by
        intro n189
        induction n189 with
        | zero =>
          intro x5 x6 x8 m h ls H locs hl hP hD hS
          rw [bm_M_keep_L189] at h
          cases h
        | succ n189 ih189 =>
          intro x5 x6 x8 m h ls H locs hl hP hD hS
          rw [bm_M_keep_L189] at h
          refine lv_iload hx hb (dt_bm_M_keep 96 rfl) (lv_at hl 5 rfl) ?_
          refine lv_sipush (v := 256) hx hb (dt_bm_M_keep 97 rfl) (by decide) ?_
          refine lv_icmp_ge (tgt := 217) hx hb (dt_bm_M_keep 98 rfl) (by decide) (fun hc => ?_) (fun hc => ?_)
          · replace h := (if_pos hc).symm.trans h
            exact hL217 _ _ _ h ls H locs (lv_sub hl [0, 1, 2, 3, 4] rfl) hP hD hS
          · replace h := (if_neg hc).symm.trans h
            refine lv_aload_n hx hb (dt_bm_M_keep 99 rfl) rfl (lv_at hl 0 rfl) ?_
            refine va_get (D := E.1) (ci := 10) (v := .ref (E.2.1 18)) (C := "BlockPicturesModel") (T := bF_M) (N := 48) hx hb htb bm_in_M hown hK hP 0 (bm_gM E m) rfl 41 (by decide) (htb _ tw_809) (fun _ h9 => h9) rfl (dt_bm_M_keep 100 rfl) ?_
            refine lv_iload hx hb (dt_bm_M_keep 101 rfl) (lv_at hl 5 rfl) ?_
            refine lv_aload_n hx hb (dt_bm_M_keep 102 rfl) rfl (lv_at hl 0 rfl) ?_
            refine va_get (D := E.1) (ci := 10) (v := .ref (E.2.1 5)) (C := "BlockPicturesModel") (T := bF_M) (N := 48) hx hb htb bm_in_M hown hK hP 0 (bm_gM E m) rfl 23 (by decide) (htb _ tw_791) (fun _ h9 => h9) rfl (dt_bm_M_keep 103 rfl) ?_
            refine lv_iload hx hb (dt_bm_M_keep 104 rfl) (lv_at hl 5 rfl) ?_
            obtain ⟨hg1, h⟩ := bp_gi_s h
            refine bm_lI E hx hb hK hP (bm_ga5 E) hg1 (dt_bm_M_keep 105 rfl) ?_
            obtain ⟨hg2, h⟩ := bp_gi_s h
            refine bm_sI E hx hb hK hP hD hS (bm_ga18 E) hg2 (dt_bm_M_keep 106 rfl) (fun m3 em3 H locs hP hD hS => ?_)
            replace h := bp_nM_s h em3
            obtain ⟨y4, ey4⟩ : ∃ z : Int32, z = x8 + 1 := ⟨_, rfl⟩
            replace h := bp_nI_s h ey4
            refine lv_iinc (k := 5) (v := y4) hx hb (dt_bm_M_keep 107 rfl) hl rfl (by rw [ey4]; rfl) (Nat.le_of_ble_eq_true rfl) rfl (fun ls hl => ?_)
            have hl : lv_has ls 9 [(8, .int y4), (0, .ref (E.2.1 0)), (2, .int a2), (3, .int a3), (5, .int x5), (6, .int x6)] := hl
            refine lv_goto (tgt := 189) hx hb (dt_bm_M_keep 108 rfl) (by decide) ?_
            exact ih189 _ _ _ _ h ls H locs (lv_sub hl [1, 2, 3, 4, 5, 0] rfl) hP hD hS
      have hL178 : ∀ (x6 : Int32) (m : bp_M), bm_M_keep_L178 (bm_M_keep_L129 N a1 a2 a3 n129) N a1 a2 a3 x6 m = some mr → ∀ (ls : Array Slot) (H : Heap) (locs : List Loc), lv_has ls 9 [(0, .ref (E.2.1 0)), (2, .int a2), (3, .int a3), (6, .int x6)] → va_P E.1 bp_cl (bm_W E m) H → va_D A (bm_W E m) → va_S A s.heap H locs → W p l e ({ frames := 3, cells := 0, slots := 0, locals := 65 }) s mt args below meth c H locs 0 0 Q (F0 mt 178 ls []) := by
        intro x6 m h ls H locs hl hP hD hS
        rw [bm_M_keep_L178] at h
        refine lv_iconst (v := 1) hx hb (dt_bm_M_keep 89 rfl) (by decide) ?_
        refine lv_istore hx hb (dt_bm_M_keep 90 rfl) hl (Nat.le_of_ble_eq_true rfl) rfl (fun ls hl => ?_)
        have hl : lv_has ls 9 [(5, .int 1), (0, .ref (E.2.1 0)), (2, .int a2), (3, .int a3), (6, .int x6)] := hl
        refine lv_aload_n hx hb (dt_bm_M_keep 91 rfl) rfl (lv_at hl 1 rfl) ?_
        refine lv_iload_n hx hb (dt_bm_M_keep 92 rfl) rfl (lv_at hl 2 rfl) ?_
        obtain ⟨m1, hm1, h⟩ := bp_cV_s h
        refine bm_callV E hsub hS (va_runV (As := [.int a2]) (rest := []) ⟨hx, hb, hml, hown, htb⟩ (wbm_M_show l E N a2 m H.size m1 hm1) (cwV 1 htb (bp_goodV tw_1055 tw_1057 tw_63 tw_79 tw_1058) rfl rfl rfl ⟨rfl, hd_bm_M_show⟩ ⟨Nat.le_of_ble_eq_true rfl, Nat.le_of_ble_eq_true rfl⟩) (bm_preV E hsub hst hK hP hD hS (bm_gM E m) rfl rfl _) rfl rfl hl.1 rfl (lv_room (Nat.le_of_ble_eq_true rfl)) (dt_bm_M_keep 93 rfl) ⟨Nat.zero_le _, Nat.zero_le _⟩) (fun H locs hP hD hS => ?_)
        refine lv_iconst (v := 0) hx hb (dt_bm_M_keep 94 rfl) (by decide) ?_
        refine lv_istore hx hb (dt_bm_M_keep 95 rfl) hl (Nat.le_of_ble_eq_true rfl) rfl (fun ls hl => ?_)
        have hl : lv_has ls 9 [(8, .int 0), (5, .int 1), (0, .ref (E.2.1 0)), (2, .int a2), (3, .int a3), (6, .int x6)] := hl
        exact hL189 _ _ _ _ _ h ls H locs (lv_sub hl [2, 3, 4, 1, 5, 0] rfl) hP hD hS
      intro x5 x6 m h ls H locs hl hP hD hS
      rw [bm_M_keep_L129] at h
      refine lv_iload hx hb (dt_bm_M_keep 66 rfl) (lv_at hl 4 rfl) ?_
      refine lv_bipush (v := 10) hx hb (dt_bm_M_keep 67 rfl) (by decide) ?_
      refine lv_icmp_ge (tgt := 234) hx hb (dt_bm_M_keep 68 rfl) (by decide) (fun hc => ?_) (fun hc => ?_)
      · replace h := (if_pos hc).symm.trans h
        exact hL234 _ _ h ls H locs (lv_sub hl [0, 1, 2, 3] rfl) hP hD hS
      · replace h := (if_neg hc).symm.trans h
        refine lv_aload_n hx hb (dt_bm_M_keep 69 rfl) rfl (lv_at hl 0 rfl) ?_
        refine va_get (D := E.1) (ci := 10) (v := .int (m.1 0 34)) (C := "BlockPicturesModel") (T := bF_M) (N := 48) hx hb htb bm_in_M hown hK hP 0 (bm_gM E m) rfl 34 (by decide) (htb _ tw_802) (fun _ h9 => h9) rfl (dt_bm_M_keep 70 rfl) ?_
        refine lv_aload_n hx hb (dt_bm_M_keep 71 rfl) rfl (lv_at hl 0 rfl) ?_
        refine va_get (D := E.1) (ci := 10) (v := .int (m.1 0 17)) (C := "BlockPicturesModel") (T := bF_M) (N := 48) hx hb htb bm_in_M hown hK hP 0 (bm_gM E m) rfl 17 (by decide) (htb _ tw_785) (fun _ h9 => h9) rfl (dt_bm_M_keep 72 rfl) ?_
        refine lv_icmp_lt (tgt := 234) hx hb (dt_bm_M_keep 73 rfl) (by decide) (fun hc => ?_) (fun hc => ?_)
        · replace h := (if_pos hc).symm.trans h
          exact hL234 _ _ h ls H locs (lv_sub hl [0, 1, 2, 3] rfl) hP hD hS
        · replace h := (if_neg hc).symm.trans h
          refine lv_iload hx hb (dt_bm_M_keep 74 rfl) (lv_at hl 3 rfl) ?_
          refine lv_if_ne (tgt := 234) hx hb (dt_bm_M_keep 75 rfl) (by decide) (fun hc => ?_) (fun hc => ?_)
          · replace h := (if_pos hc).symm.trans h
            exact hL234 _ _ h ls H locs (lv_sub hl [0, 1, 2, 3] rfl) hP hD hS
          · replace h := (if_neg (fun hn => hn hc)).symm.trans h
            refine lv_aload_n hx hb (dt_bm_M_keep 76 rfl) rfl (lv_at hl 0 rfl) ?_
            obtain ⟨z2, m1, hm1, h⟩ := bp_cI_s h
            refine bm_callI E hsub hS (va_runV (As := []) (rest := []) ⟨hx, hb, hml, hown, htb⟩ (wbm_M_first l E N  m H.size z2 m1 hm1) (cwV 0 htb (bp_goodV tw_1051 tw_1053 tw_62 tw_79 tw_1054) rfl rfl rfl ⟨rfl, hd_bm_M_first⟩ ⟨Nat.le_of_ble_eq_true rfl, Nat.le_of_ble_eq_true rfl⟩) (bm_preV E hsub hst hK hP hD hS (bm_gM E m) rfl rfl _) rfl rfl hl.1 rfl (lv_room (Nat.le_of_ble_eq_true rfl)) (dt_bm_M_keep 77 rfl) ⟨Nat.zero_le _, Nat.zero_le _⟩) (fun H locs hP hD hS => ?_)
            refine lv_istore hx hb (dt_bm_M_keep 78 rfl) hl (Nat.le_of_ble_eq_true rfl) rfl (fun ls hl => ?_)
            have hl : lv_has ls 9 [(7, .int z2), (0, .ref (E.2.1 0)), (2, .int a2), (3, .int a3), (5, .int x5), (6, .int x6)] := hl
            refine lv_iload_n hx hb (dt_bm_M_keep 79 rfl) rfl (lv_at hl 3 rfl) ?_
            refine lv_if_ne (tgt := 220) hx hb (dt_bm_M_keep 80 rfl) (by decide) (fun hc => ?_) (fun hc => ?_)
            · replace h := (if_pos hc).symm.trans h
              exact hL220 _ _ _ h ls H locs (lv_sub hl [1, 2, 3, 4, 5] rfl) hP hD hS
            · replace h := (if_neg (fun hn => hn hc)).symm.trans h
              refine lv_iload hx hb (dt_bm_M_keep 81 rfl) (lv_at hl 0 rfl) ?_
              refine lv_if_lt (tgt := 178) hx hb (dt_bm_M_keep 82 rfl) (by decide) (fun hc => ?_) (fun hc => ?_)
              · replace h := (if_pos hc).symm.trans h
                exact hL178 _ _ h ls H locs (lv_sub hl [1, 2, 3, 5] rfl) hP hD hS
              · replace h := (if_neg hc).symm.trans h
                refine lv_aload_n hx hb (dt_bm_M_keep 83 rfl) rfl (lv_at hl 1 rfl) ?_
                refine va_get (D := E.1) (ci := 10) (v := .ref (E.2.1 14)) (C := "BlockPicturesModel") (T := bF_M) (N := 48) hx hb htb bm_in_M hown hK hP 0 (bm_gM E m1) rfl 36 (by decide) (htb _ tw_804) (fun _ h9 => h9) rfl (dt_bm_M_keep 84 rfl) ?_
                refine lv_iload hx hb (dt_bm_M_keep 85 rfl) (lv_at hl 0 rfl) ?_
                obtain ⟨hg3, h⟩ := bp_gi_s h
                refine bm_lI E hx hb hK hP (bm_ga14 E) hg3 (dt_bm_M_keep 86 rfl) ?_
                refine lv_iload_n hx hb (dt_bm_M_keep 87 rfl) rfl (lv_at hl 2 rfl) ?_
                refine lv_icmp_le (tgt := 220) hx hb (dt_bm_M_keep 88 rfl) (by decide) (fun hc => ?_) (fun hc => ?_)
                · replace h := (if_pos hc).symm.trans h
                  exact hL220 _ _ _ h ls H locs (lv_sub hl [1, 2, 3, 4, 5] rfl) hP hD hS
                · replace h := (if_neg hc).symm.trans h
                  exact hL178 _ _ h ls H locs (lv_sub hl [1, 2, 3, 5] rfl) hP hD hS
  have hL119 : ∀ (m : bp_M), bm_M_keep_L119 N a1 a2 a3 m = some mr → ∀ (ls : Array Slot) (H : Heap) (locs : List Loc), lv_has ls 9 [(0, .ref (E.2.1 0)), (2, .int a2), (3, .int a3)] → va_P E.1 bp_cl (bm_W E m) H → va_D A (bm_W E m) → va_S A s.heap H locs → W p l e ({ frames := 3, cells := 0, slots := 0, locals := 65 }) s mt args below meth c H locs 0 0 Q (F0 mt 119 ls []) := by
    intro m h ls H locs hl hP hD hS
    rw [bm_M_keep_L119] at h
    refine lv_aload_n hx hb (dt_bm_M_keep 60 rfl) rfl (lv_at hl 0 rfl) ?_
    obtain ⟨m1, hm1, h⟩ := bp_cV_s h
    refine bm_callV E hsub hS (va_runV (As := []) (rest := []) ⟨hx, hb, hml, hown, htb⟩ (wbm_M_clean l E N  m H.size m1 hm1) (cwV 0 htb (bp_goodV tw_1059 tw_1061 tw_64 tw_79 tw_1062) rfl rfl rfl ⟨rfl, hd_bm_M_clean⟩ ⟨Nat.le_of_ble_eq_true rfl, Nat.le_of_ble_eq_true rfl⟩) (bm_preV E hsub hst hK hP hD hS (bm_gM E m) rfl rfl _) rfl rfl hl.1 rfl (lv_room (Nat.le_of_ble_eq_true rfl)) (dt_bm_M_keep 61 rfl) ⟨Nat.zero_le _, Nat.zero_le _⟩) (fun H locs hP hD hS => ?_)
    refine lv_iconst (v := 0) hx hb (dt_bm_M_keep 62 rfl) (by decide) ?_
    refine lv_istore hx hb (dt_bm_M_keep 63 rfl) hl (Nat.le_of_ble_eq_true rfl) rfl (fun ls hl => ?_)
    have hl : lv_has ls 9 [(5, .int 0), (0, .ref (E.2.1 0)), (2, .int a2), (3, .int a3)] := hl
    refine lv_iconst (v := 0) hx hb (dt_bm_M_keep 64 rfl) (by decide) ?_
    refine lv_istore hx hb (dt_bm_M_keep 65 rfl) hl (Nat.le_of_ble_eq_true rfl) rfl (fun ls hl => ?_)
    have hl : lv_has ls 9 [(6, .int 0), (5, .int 0), (0, .ref (E.2.1 0)), (2, .int a2), (3, .int a3)] := hl
    exact hL129 _ _ _ _ h ls H locs (lv_sub hl [2, 3, 4, 1, 0] rfl) hP hD hS
  have hL86 : ∀ (m : bp_M), bm_M_keep_L86 N a1 a2 a3 m = some mr → ∀ (ls : Array Slot) (H : Heap) (locs : List Loc), lv_has ls 9 [(0, .ref (E.2.1 0)), (2, .int a2), (3, .int a3)] → va_P E.1 bp_cl (bm_W E m) H → va_D A (bm_W E m) → va_S A s.heap H locs → W p l e ({ frames := 3, cells := 0, slots := 0, locals := 65 }) s mt args below meth c H locs 0 0 Q (F0 mt 86 ls []) := by
    intro m h ls H locs hl hP hD hS
    rw [bm_M_keep_L86] at h
    refine lv_aload_n hx hb (dt_bm_M_keep 42 rfl) rfl (lv_at hl 0 rfl) ?_
    obtain ⟨z2, m1, hm1, h⟩ := bp_cI_s h
    refine bm_callI E hsub hS (va_runV (As := []) (rest := []) ⟨hx, hb, hml, hown, htb⟩ (wbm_M_references l E N  m H.size z2 m1 hm1) (cwV 0 htb (bp_goodV tw_956 tw_958 tw_42 tw_79 tw_959) rfl rfl rfl ⟨rfl, hd_bm_M_references⟩ ⟨Nat.le_of_ble_eq_true rfl, Nat.le_of_ble_eq_true rfl⟩) (bm_preV E hsub hst hK hP hD hS (bm_gM E m) rfl rfl _) rfl rfl hl.1 rfl (lv_room (Nat.le_of_ble_eq_true rfl)) (dt_bm_M_keep 43 rfl) ⟨Nat.zero_le _, Nat.zero_le _⟩) (fun H locs hP hD hS => ?_)
    refine lv_istore hx hb (dt_bm_M_keep 44 rfl) hl (Nat.le_of_ble_eq_true rfl) rfl (fun ls hl => ?_)
    have hl : lv_has ls 9 [(4, .int z2), (0, .ref (E.2.1 0)), (2, .int a2), (3, .int a3)] := hl
    refine lv_iload_n hx hb (dt_bm_M_keep 45 rfl) rfl (lv_at hl 3 rfl) ?_
    refine lv_if_eq (tgt := 119) hx hb (dt_bm_M_keep 46 rfl) (by decide) (fun hc => ?_) (fun hc => ?_)
    · replace h := (if_pos hc).symm.trans h
      exact hL119 _ h ls H locs (lv_sub hl [1, 2, 3] rfl) hP hD hS
    · replace h := (if_neg hc).symm.trans h
      refine lv_iload hx hb (dt_bm_M_keep 47 rfl) (lv_at hl 0 rfl) ?_
      refine lv_aload_n hx hb (dt_bm_M_keep 48 rfl) rfl (lv_at hl 1 rfl) ?_
      refine va_get (D := E.1) (ci := 10) (v := .int (m1.1 0 17)) (C := "BlockPicturesModel") (T := bF_M) (N := 48) hx hb htb bm_in_M hown hK hP 0 (bm_gM E m1) rfl 17 (by decide) (htb _ tw_785) (fun _ h9 => h9) rfl (dt_bm_M_keep 49 rfl) ?_
      refine lv_icmp_lt (tgt := 119) hx hb (dt_bm_M_keep 50 rfl) (by decide) (fun hc => ?_) (fun hc => ?_)
      · replace h := (if_pos hc).symm.trans h
        exact hL119 _ h ls H locs (lv_sub hl [1, 2, 3] rfl) hP hD hS
      · replace h := (if_neg hc).symm.trans h
        refine lv_aload_n hx hb (dt_bm_M_keep 51 rfl) rfl (lv_at hl 1 rfl) ?_
        refine va_get (D := E.1) (ci := 10) (v := .ref (E.2.1 15)) (C := "BlockPicturesModel") (T := bF_M) (N := 48) hx hb htb bm_in_M hown hK hP 0 (bm_gM E m1) rfl 37 (by decide) (htb _ tw_805) (fun _ h9 => h9) rfl (dt_bm_M_keep 52 rfl) ?_
        refine lv_aload_n hx hb (dt_bm_M_keep 53 rfl) rfl (lv_at hl 1 rfl) ?_
        refine lv_iload hx hb (dt_bm_M_keep 54 rfl) (lv_at hl 0 rfl) ?_
        refine lv_iconst (v := 1) hx hb (dt_bm_M_keep 55 rfl) (by decide) ?_
        refine lv_isub hx hb (dt_bm_M_keep 56 rfl) ?_
        obtain ⟨z4, m3, hm3, h⟩ := bp_cI_s h
        refine bm_callI E hsub hS (va_runV (As := [.int (z2 - 1 : Int32)]) (rest := [.ref (E.2.1 15)]) ⟨hx, hb, hml, hown, htb⟩ (wbm_M_reference l E N (z2 - 1 : Int32) m1 H.size z4 m3 hm3) (cwV 1 htb (bp_goodV tw_987 tw_989 tw_49 tw_79 tw_990) rfl rfl rfl ⟨rfl, hd_bm_M_reference⟩ ⟨Nat.le_of_ble_eq_true rfl, Nat.le_of_ble_eq_true rfl⟩) (bm_preV E hsub hst hK hP hD hS (bm_gM E m1) rfl rfl _) rfl rfl hl.1 rfl (lv_room (Nat.le_of_ble_eq_true rfl)) (dt_bm_M_keep 57 rfl) ⟨Nat.zero_le _, Nat.zero_le _⟩) (fun H locs hP hD hS => ?_)
        refine lv_iconst (v := 0) hx hb (dt_bm_M_keep 58 rfl) (by decide) ?_
        obtain ⟨hg5, h⟩ := bp_gi_s h
        obtain ⟨hg6, h⟩ := bp_g_s h
        refine bm_sZ E hx hb hK hP hD hS (bm_ga15 E) hg5 hg6 (dt_bm_M_keep 59 rfl) (fun m7 em7 H locs hP hD hS => ?_)
        replace h := bp_nM_s h em7
        exact hL119 _ h ls H locs (lv_sub hl [1, 2, 3] rfl) hP hD hS
  have hL49 : ∀ (s0 : Int32) (m : bp_M), bm_M_keep_L49 N a1 a2 a3 s0 m = some mr → ∀ (ls : Array Slot) (H : Heap) (locs : List Loc), lv_has ls 9 [(0, .ref (E.2.1 0)), (2, .int a2), (3, .int a3)] → va_P E.1 bp_cl (bm_W E m) H → va_D A (bm_W E m) → va_S A s.heap H locs → W p l e ({ frames := 3, cells := 0, slots := 0, locals := 65 }) s mt args below meth c H locs 0 0 Q (F0 mt 49 ls [.int s0, .ref (E.2.1 0)]) := by
    intro s0 m h ls H locs hl hP hD hS
    rw [bm_M_keep_L49] at h
    refine bm_pM_18 E hx hb htb hown hK hP hD hS (htb _ tw_786) (dt_bm_M_keep 23 rfl) (fun m1 em1 H locs hP hD hS => ?_)
    replace h := bp_nM_s h em1
    refine lv_aload_n hx hb (dt_bm_M_keep 24 rfl) rfl (lv_at hl 0 rfl) ?_
    refine lv_iconst (v := 1) hx hb (dt_bm_M_keep 25 rfl) (by decide) ?_
    obtain ⟨hg3, h⟩ := bp_g_s h
    refine bm_pM_16 E hx hb htb hown hK hP hD hS hg3 (htb _ tw_784) (dt_bm_M_keep 26 rfl) (fun m2 em2 H locs hP hD hS => ?_)
    replace h := bp_nM_s h em2
    refine lv_aload_n hx hb (dt_bm_M_keep 27 rfl) rfl (lv_at hl 0 rfl) ?_
    refine lv_iconst (v := 0) hx hb (dt_bm_M_keep 28 rfl) (by decide) ?_
    obtain ⟨hg5, h⟩ := bp_g_s h
    refine bm_pM_13 E hx hb htb hown hK hP hD hS hg5 (htb _ tw_781) (dt_bm_M_keep 29 rfl) (fun m4 em4 H locs hP hD hS => ?_)
    replace h := bp_nM_s h em4
    refine lv_goto (tgt := 86) hx hb (dt_bm_M_keep 30 rfl) (by decide) ?_
    exact hL86 _ h ls H locs (lv_sub hl [0, 1, 2] rfl) hP hD hS
  have hL27 : ∀ (s0 : Int32) (m : bp_M), bm_M_keep_L27 N a1 a2 a3 s0 m = some mr → ∀ (ls : Array Slot) (H : Heap) (locs : List Loc), lv_has ls 9 [(0, .ref (E.2.1 0)), (2, .int a2), (3, .int a3)] → va_P E.1 bp_cl (bm_W E m) H → va_D A (bm_W E m) → va_S A s.heap H locs → W p l e ({ frames := 3, cells := 0, slots := 0, locals := 65 }) s mt args below meth c H locs 0 0 Q (F0 mt 27 ls [.int s0, .ref (E.2.1 0)]) := by
    intro s0 m h ls H locs hl hP hD hS
    rw [bm_M_keep_L27] at h
    refine bm_pM_17 E hx hb htb hown hK hP hD hS (htb _ tw_785) (dt_bm_M_keep 13 rfl) (fun m1 em1 H locs hP hD hS => ?_)
    replace h := bp_nM_s h em1
    refine lv_aload_n hx hb (dt_bm_M_keep 14 rfl) rfl (lv_at hl 0 rfl) ?_
    refine lv_aload_n hx hb (dt_bm_M_keep 15 rfl) rfl (lv_at hl 0 rfl) ?_
    refine va_get (D := E.1) (ci := 10) (v := .int (m1.1 0 13)) (C := "BlockPicturesModel") (T := bF_M) (N := 48) hx hb htb bm_in_M hown hK hP 0 (bm_gM E m1) rfl 13 (by decide) (htb _ tw_781) (fun _ h9 => h9) rfl (dt_bm_M_keep 16 rfl) ?_
    refine lv_if_eq (tgt := 45) hx hb (dt_bm_M_keep 17 rfl) (by decide) (fun hc => ?_) (fun hc => ?_)
    · replace h := (if_pos hc).symm.trans h
      refine lv_aload_n hx hb (dt_bm_M_keep 21 rfl) rfl (lv_at hl 0 rfl) ?_
      refine va_get (D := E.1) (ci := 10) (v := .int (m1.1 0 18)) (C := "BlockPicturesModel") (T := bF_M) (N := 48) hx hb htb bm_in_M hown hK hP 0 (bm_gM E m1) rfl 18 (by decide) (htb _ tw_786) (fun _ h9 => h9) rfl (dt_bm_M_keep 22 rfl) ?_
      exact hL49 _ _ h ls H locs (lv_sub hl [0, 1, 2] rfl) hP hD hS
    · replace h := (if_neg hc).symm.trans h
      refine lv_aload_n hx hb (dt_bm_M_keep 18 rfl) rfl (lv_at hl 0 rfl) ?_
      refine va_get (D := E.1) (ci := 10) (v := .int (m1.1 0 15)) (C := "BlockPicturesModel") (T := bF_M) (N := 48) hx hb htb bm_in_M hown hK hP 0 (bm_gM E m1) rfl 15 (by decide) (htb _ tw_783) (fun _ h9 => h9) rfl (dt_bm_M_keep 19 rfl) ?_
      refine lv_goto (tgt := 49) hx hb (dt_bm_M_keep 20 rfl) (by decide) ?_
      exact hL49 _ _ h ls H locs (lv_sub hl [0, 1, 2] rfl) hP hD hS
  suffices hgo : ∀ (H : Heap) (locs : List Loc), va_P E.1 bp_cl (bm_W E m) H → va_D A (bm_W E m) → va_S A s.heap H locs → W p l e ({ frames := 3, cells := 0, slots := 0, locals := 65 }) s mt args below meth c H locs 0 0 Q (F0 mt 0 ls []) from hgo _ _ hP hD hS
  clear hP hD hS
  intro H locs hP hD hS
  unfold bm_M_keep at h
  refine lv_iload_n hx hb (dt_bm_M_keep 0 rfl) rfl (lv_at hl 1 rfl) ?_
  refine lv_if_eq (tgt := 65) hx hb (dt_bm_M_keep 1 rfl) (by decide) (fun hc => ?_) (fun hc => ?_)
  · replace h := (if_pos hc).symm.trans h
    refine lv_aload_n hx hb (dt_bm_M_keep 31 rfl) rfl (lv_at hl 0 rfl) ?_
    refine va_get (D := E.1) (ci := 10) (v := .int (m.1 0 22)) (C := "BlockPicturesModel") (T := bF_M) (N := 48) hx hb htb bm_in_M hown hK hP 0 (bm_gM E m) rfl 22 (by decide) (htb _ tw_790) (fun _ h9 => h9) rfl (dt_bm_M_keep 32 rfl) ?_
    refine lv_if_lt (tgt := 86) hx hb (dt_bm_M_keep 33 rfl) (by decide) (fun hc => ?_) (fun hc => ?_)
    · replace h := (if_pos hc).symm.trans h
      exact hL86 _ h ls H locs (lv_sub hl [0, 2, 3] rfl) hP hD hS
    · replace h := (if_neg hc).symm.trans h
      refine lv_aload_n hx hb (dt_bm_M_keep 34 rfl) rfl (lv_at hl 0 rfl) ?_
      refine va_get (D := E.1) (ci := 10) (v := .ref (E.2.1 15)) (C := "BlockPicturesModel") (T := bF_M) (N := 48) hx hb htb bm_in_M hown hK hP 0 (bm_gM E m) rfl 37 (by decide) (htb _ tw_805) (fun _ h9 => h9) rfl (dt_bm_M_keep 35 rfl) ?_
      refine lv_aload_n hx hb (dt_bm_M_keep 36 rfl) rfl (lv_at hl 0 rfl) ?_
      refine lv_aload_n hx hb (dt_bm_M_keep 37 rfl) rfl (lv_at hl 0 rfl) ?_
      refine va_get (D := E.1) (ci := 10) (v := .int (m.1 0 22)) (C := "BlockPicturesModel") (T := bF_M) (N := 48) hx hb htb bm_in_M hown hK hP 0 (bm_gM E m) rfl 22 (by decide) (htb _ tw_790) (fun _ h9 => h9) rfl (dt_bm_M_keep 38 rfl) ?_
      obtain ⟨z2, m1, hm1, h⟩ := bp_cI_s h
      refine bm_callI E hsub hS (va_runV (As := [.int (m.1 0 22)]) (rest := [.ref (E.2.1 15)]) ⟨hx, hb, hml, hown, htb⟩ (wbm_M_reference l E N (m.1 0 22) m H.size z2 m1 hm1) (cwV 1 htb (bp_goodV tw_987 tw_989 tw_49 tw_79 tw_990) rfl rfl rfl ⟨rfl, hd_bm_M_reference⟩ ⟨Nat.le_of_ble_eq_true rfl, Nat.le_of_ble_eq_true rfl⟩) (bm_preV E hsub hst hK hP hD hS (bm_gM E m) rfl rfl _) rfl rfl hl.1 rfl (lv_room (Nat.le_of_ble_eq_true rfl)) (dt_bm_M_keep 39 rfl) ⟨Nat.zero_le _, Nat.zero_le _⟩) (fun H locs hP hD hS => ?_)
      refine lv_iconst (v := 0) hx hb (dt_bm_M_keep 40 rfl) (by decide) ?_
      obtain ⟨hg3, h⟩ := bp_gi_s h
      obtain ⟨hg4, h⟩ := bp_g_s h
      refine bm_sZ E hx hb hK hP hD hS (bm_ga15 E) hg3 hg4 (dt_bm_M_keep 41 rfl) (fun m5 em5 H locs hP hD hS => ?_)
      replace h := bp_nM_s h em5
      exact hL86 _ h ls H locs (lv_sub hl [0, 2, 3] rfl) hP hD hS
  · replace h := (if_neg hc).symm.trans h
    refine lv_aload_n hx hb (dt_bm_M_keep 2 rfl) rfl (lv_at hl 0 rfl) ?_
    obtain ⟨m6, hm6, h⟩ := bp_cV_s h
    refine bm_callV E hsub hS (va_runV (As := []) (rest := []) ⟨hx, hb, hml, hown, htb⟩ (wbm_M_showAll l E N  m H.size m6 hm6) (cwV 0 htb (bp_goodV tw_1043 tw_1045 tw_60 tw_79 tw_1046) rfl rfl rfl ⟨rfl, hd_bm_M_showAll⟩ ⟨Nat.le_of_ble_eq_true rfl, Nat.le_of_ble_eq_true rfl⟩) (bm_preV E hsub hst hK hP hD hS (bm_gM E m) rfl rfl _) rfl rfl hl.1 rfl (lv_room (Nat.le_of_ble_eq_true rfl)) (dt_bm_M_keep 3 rfl) ⟨Nat.zero_le _, Nat.zero_le _⟩) (fun H locs hP hD hS => ?_)
    refine lv_aload_n hx hb (dt_bm_M_keep 4 rfl) rfl (lv_at hl 0 rfl) ?_
    refine lv_aload_n hx hb (dt_bm_M_keep 5 rfl) rfl (lv_at hl 0 rfl) ?_
    refine va_get (D := E.1) (ci := 10) (v := .int (m6.1 0 13)) (C := "BlockPicturesModel") (T := bF_M) (N := 48) hx hb htb bm_in_M hown hK hP 0 (bm_gM E m6) rfl 13 (by decide) (htb _ tw_781) (fun _ h9 => h9) rfl (dt_bm_M_keep 6 rfl) ?_
    refine lv_if_eq (tgt := 23) hx hb (dt_bm_M_keep 7 rfl) (by decide) (fun hc => ?_) (fun hc => ?_)
    · replace h := (if_pos hc).symm.trans h
      refine lv_aload_n hx hb (dt_bm_M_keep 11 rfl) rfl (lv_at hl 0 rfl) ?_
      refine va_get (D := E.1) (ci := 10) (v := .int (m6.1 0 17)) (C := "BlockPicturesModel") (T := bF_M) (N := 48) hx hb htb bm_in_M hown hK hP 0 (bm_gM E m6) rfl 17 (by decide) (htb _ tw_785) (fun _ h9 => h9) rfl (dt_bm_M_keep 12 rfl) ?_
      exact hL27 _ _ h ls H locs (lv_sub hl [0, 2, 3] rfl) hP hD hS
    · replace h := (if_neg hc).symm.trans h
      refine lv_aload_n hx hb (dt_bm_M_keep 8 rfl) rfl (lv_at hl 0 rfl) ?_
      refine va_get (D := E.1) (ci := 10) (v := .int (m6.1 0 14)) (C := "BlockPicturesModel") (T := bF_M) (N := 48) hx hb htb bm_in_M hown hK hP 0 (bm_gM E m6) rfl 14 (by decide) (htb _ tw_782) (fun _ h9 => h9) rfl (dt_bm_M_keep 9 rfl) ?_
      refine lv_goto (tgt := 27) hx hb (dt_bm_M_keep 10 rfl) (by decide) ?_
      exact hL27 _ _ h ls H locs (lv_sub hl [0, 2, 3] rfl) hP hD hS
set_option maxHeartbeats 4000000 in
set_option maxRecDepth 100000 in
theorem wbm_M_picture (l : Launch) (E : bm_E) (N : Nat) (a1 : Int32) (a2 : Int32) (m : bp_M) (sz : Nat) (mr : bp_M)  (h : bm_M_picture N a1 a2 m = some mr) : Met l y_bm_M_picture (Cond.code y_bm_M_picture prog_13_method_20_code 7 none :: bp_tb) ({ frames := 6, cells := 0, slots := 0, locals := 154 }) (bm_Pc E m sz [.ref (E.2.1 0), .int a1, .int a2]) (bm_Qv E m sz mr) 0 0 (va_A (bm_W E m) sz) := by
  refine Met.ofW (cc := prog_13_method_20_code) (maxL := 7) (ret := none) (by decide) rfl ?_
  intro p e s mt args below meth c s₁ B hml hv
  obtain ⟨rfl, hsz, hP, hK, hD0, hst⟩ := hv
  have hx := B.exec
  have hb := B.bytes
  have hr := B.returns
  have htb : ∀ w ∈ bp_tb, w.before _ s = true := fun w hw => atoms_spec (ws := Cond.code y_bm_M_picture prog_13_method_20_code 7 none :: bp_tb) B.pre w (List.mem_cons_of_mem _ hw)
  have hown : s.vm.findClass "BlockPicturesModel" = some mt.cls := findClass_of_methodNamed B.named
  have hlocks := B.notSynchronized
  subst hsz
  have hD := hD0.self (sz := s.heap.size)
  generalize hAe : va_A (bm_W E m) s.heap.size = A at hD hst ⊢
  have hsub : ∀ (u : bp_M) (z q : Nat), s.heap.size ≤ z → va_A (bm_W E u) z q → A q := bm_sub hAe
  have hS : va_S A s.heap s.heap [] := va_S.rf
  have hl := lv_entry ([.ref (E.2.1 0), .int a1, .int a2]) (n := 7) (Nat.le_of_ble_eq_true rfl)
  rw [lg_entry_eq]
  generalize (lg_sl ([.ref (E.2.1 0), .int a1, .int a2]) ++ List.replicate (7 - (lg_sl ([.ref (E.2.1 0), .int a1, .int a2])).length) Slot.unset).toArray = ls at hl ⊢
  have hl : lv_has ls 7 [(0, .ref (E.2.1 0)), (1, .int a1), (2, .int a2)] := hl
  refine bm_keyV (R := ({ frames := 6, cells := 0, slots := 0, locals := 154 })) E hx hb hr hlocks hK hAe (fun Q hret => ?_)
  clear B hD0 hlocks hr
  generalize ([.ref (E.2.1 0), .int a1, .int a2] : List Value).toArray = args at htb hret ⊢
  clear hAe
  have hL277 : ∀ (m : bp_M), bm_M_picture_L277 N a1 a2 m = some mr → ∀ (ls : Array Slot) (H : Heap) (locs : List Loc), lv_has ls 7 [] → va_P E.1 bp_cl (bm_W E m) H → va_D A (bm_W E m) → va_S A s.heap H locs → W p l e ({ frames := 6, cells := 0, slots := 0, locals := 154 }) s mt args below meth c H locs 0 0 Q (F0 mt 277 ls []) := by
    intro m h ls H locs hl hP hD hS
    rw [bm_M_picture_L277] at h
    exact hret _ _ _ _ _ h hP hD hS (dt_bm_M_picture 143 rfl)
  have hL274 : ∀ (s0 : Int32) (s1 : Int32) (s2 : Int32) (m : bp_M), bm_M_picture_L274 N a1 a2 s0 s1 s2 m = some mr → ∀ (ls : Array Slot) (H : Heap) (locs : List Loc), lv_has ls 7 [] → va_P E.1 bp_cl (bm_W E m) H → va_D A (bm_W E m) → va_S A s.heap H locs → W p l e ({ frames := 6, cells := 0, slots := 0, locals := 154 }) s mt args below meth c H locs 0 0 Q (F0 mt 274 ls [.int s0, .int s1, .int s2, .ref (E.2.1 0)]) := by
    intro s0 s1 s2 m h ls H locs hl hP hD hS
    rw [bm_M_picture_L274] at h
    obtain ⟨m1, hm1, h⟩ := bp_cV_s h
    refine bm_callV E hsub hS (va_runV (As := [.int s2, .int s1, .int s0]) (rest := []) ⟨hx, hb, hml, hown, htb⟩ (wbm_M_keep l E N s2 s1 s0 m H.size m1 hm1) (cwV 3 htb (bp_goodV tw_1039 tw_1041 tw_59 tw_79 tw_1042) rfl rfl rfl ⟨rfl, hd_bm_M_keep⟩ ⟨Nat.le_of_ble_eq_true rfl, Nat.le_of_ble_eq_true rfl⟩) (bm_preV E hsub hst hK hP hD hS (bm_gM E m) rfl rfl _) rfl rfl hl.1 rfl (lv_room (Nat.le_of_ble_eq_true rfl)) (dt_bm_M_picture 142 rfl) ⟨Nat.zero_le _, Nat.zero_le _⟩) (fun H locs hP hD hS => ?_)
    exact hL277 _ h ls H locs (lv_sub hl [] rfl) hP hD hS
  have hL269 : ∀ (s0 : Int32) (s1 : Int32) (m : bp_M), bm_M_picture_L269 N a1 a2 s0 s1 m = some mr → ∀ (ls : Array Slot) (H : Heap) (locs : List Loc), lv_has ls 7 [] → va_P E.1 bp_cl (bm_W E m) H → va_D A (bm_W E m) → va_S A s.heap H locs → W p l e ({ frames := 6, cells := 0, slots := 0, locals := 154 }) s mt args below meth c H locs 0 0 Q (F0 mt 269 ls [.int s0, .int s1, .ref (E.2.1 0)]) := by
    intro s0 s1 m h ls H locs hl hP hD hS
    rw [bm_M_picture_L269] at h
    refine lv_iconst (v := 1) hx hb (dt_bm_M_picture 139 rfl) (by decide) ?_
    refine lv_goto (tgt := 274) hx hb (dt_bm_M_picture 140 rfl) (by decide) ?_
    exact hL274 _ _ _ _ h ls H locs (lv_sub hl [] rfl) hP hD hS
  have hL238 : ∀ (x4 : Int32) (m : bp_M), bm_M_picture_L238 N a1 a2 x4 m = some mr → ∀ (ls : Array Slot) (H : Heap) (locs : List Loc), lv_has ls 7 [(0, .ref (E.2.1 0)), (1, .int a1), (2, .int a2), (4, .int x4)] → va_P E.1 bp_cl (bm_W E m) H → va_D A (bm_W E m) → va_S A s.heap H locs → W p l e ({ frames := 6, cells := 0, slots := 0, locals := 154 }) s mt args below meth c H locs 0 0 Q (F0 mt 238 ls []) := by
    intro x4 m h ls H locs hl hP hD hS
    rw [bm_M_picture_L238] at h
    refine lv_aload_n hx hb (dt_bm_M_picture 123 rfl) rfl (lv_at hl 0 rfl) ?_
    obtain ⟨m1, hm1, h⟩ := bp_cV_s h
    refine bm_callV E hsub hS (va_runV (As := []) (rest := []) ⟨hx, hb, hml, hown, htb⟩ (wbm_M_toEnd l E N  m H.size m1 hm1) (cwV 0 htb (bp_goodV tw_948 tw_950 tw_40 tw_79 tw_951) rfl rfl rfl ⟨rfl, hd_bm_M_toEnd⟩ ⟨Nat.le_of_ble_eq_true rfl, Nat.le_of_ble_eq_true rfl⟩) (bm_preV E hsub hst hK hP hD hS (bm_gM E m) rfl rfl _) rfl rfl hl.1 rfl (lv_room (Nat.le_of_ble_eq_true rfl)) (dt_bm_M_picture 124 rfl) ⟨Nat.zero_le _, Nat.zero_le _⟩) (fun H locs hP hD hS => ?_)
    refine lv_aload_n hx hb (dt_bm_M_picture 125 rfl) rfl (lv_at hl 0 rfl) ?_
    refine va_get (D := E.1) (ci := 10) (v := .int (m1.1 0 12)) (C := "BlockPicturesModel") (T := bF_M) (N := 48) hx hb htb bm_in_M hown hK hP 0 (bm_gM E m1) rfl 12 (by decide) (htb _ tw_780) (fun _ h9 => h9) rfl (dt_bm_M_picture 126 rfl) ?_
    refine lv_if_ne (tgt := 277) hx hb (dt_bm_M_picture 127 rfl) (by decide) (fun hc => ?_) (fun hc => ?_)
    · replace h := (if_pos hc).symm.trans h
      exact hL277 _ h ls H locs (lv_sub hl [] rfl) hP hD hS
    · replace h := (if_neg (fun hn => hn hc)).symm.trans h
      refine lv_aload_n hx hb (dt_bm_M_picture 128 rfl) rfl (lv_at hl 0 rfl) ?_
      obtain ⟨m2, hm2, h⟩ := bp_cV_s h
      refine bm_callV E hsub hS (va_runV (As := []) (rest := []) ⟨hx, hb, hml, hown, htb⟩ (wbm_M_edges l E N  m1 H.size m2 hm2) (cwV 0 htb (bp_goodV tw_1016 tw_1018 tw_54 tw_79 tw_1019) rfl rfl rfl ⟨rfl, hd_bm_M_edges⟩ ⟨Nat.le_of_ble_eq_true rfl, Nat.le_of_ble_eq_true rfl⟩) (bm_preV E hsub hst hK hP hD hS (bm_gM E m1) rfl rfl _) rfl rfl hl.1 rfl (lv_room (Nat.le_of_ble_eq_true rfl)) (dt_bm_M_picture 129 rfl) ⟨Nat.zero_le _, Nat.zero_le _⟩) (fun H locs hP hD hS => ?_)
      refine lv_aload_n hx hb (dt_bm_M_picture 130 rfl) rfl (lv_at hl 0 rfl) ?_
      obtain ⟨m3, hm3, h⟩ := bp_cV_s h
      refine bm_callV E hsub hS (va_runV (As := []) (rest := []) ⟨hx, hb, hml, hown, htb⟩ (wbm_M_remember l E N  m2 H.size m3 hm3) (cwV 0 htb (bp_goodV tw_1035 tw_1037 tw_58 tw_79 tw_1038) rfl rfl rfl ⟨rfl, hd_bm_M_remember⟩ ⟨Nat.le_of_ble_eq_true rfl, Nat.le_of_ble_eq_true rfl⟩) (bm_preV E hsub hst hK hP hD hS (bm_gM E m2) rfl rfl _) rfl rfl hl.1 rfl (lv_room (Nat.le_of_ble_eq_true rfl)) (dt_bm_M_picture 131 rfl) ⟨Nat.zero_le _, Nat.zero_le _⟩) (fun H locs hP hD hS => ?_)
      refine lv_aload_n hx hb (dt_bm_M_picture 132 rfl) rfl (lv_at hl 0 rfl) ?_
      refine lv_iload_n hx hb (dt_bm_M_picture 133 rfl) rfl (lv_at hl 1 rfl) ?_
      refine lv_iload hx hb (dt_bm_M_picture 134 rfl) (lv_at hl 3 rfl) ?_
      refine lv_iload_n hx hb (dt_bm_M_picture 135 rfl) rfl (lv_at hl 1 rfl) ?_
      refine lv_if_ne (tgt := 269) hx hb (dt_bm_M_picture 136 rfl) (by decide) (fun hc => ?_) (fun hc => ?_)
      · replace h := (if_pos hc).symm.trans h
        exact hL269 _ _ _ h ls H locs (lv_sub hl [] rfl) hP hD hS
      · replace h := (if_neg (fun hn => hn hc)).symm.trans h
        refine lv_iload_n hx hb (dt_bm_M_picture 137 rfl) rfl (lv_at hl 2 rfl) ?_
        refine lv_if_le (tgt := 273) hx hb (dt_bm_M_picture 138 rfl) (by decide) (fun hc => ?_) (fun hc => ?_)
        · replace h := (if_pos hc).symm.trans h
          refine lv_iconst (v := 0) hx hb (dt_bm_M_picture 141 rfl) (by decide) ?_
          exact hL274 _ _ _ _ h ls H locs (lv_sub hl [] rfl) hP hD hS
        · replace h := (if_neg hc).symm.trans h
          exact hL269 _ _ _ h ls H locs (lv_sub hl [] rfl) hP hD hS
  have hL211 : ∀ (n211 : Nat) (x4 : Int32) (x6 : Int32) (m : bp_M), bm_M_picture_L211 N a1 a2 n211 x4 x6 m = some mr → ∀ (ls : Array Slot) (H : Heap) (locs : List Loc), lv_has ls 7 [(0, .ref (E.2.1 0)), (1, .int a1), (2, .int a2), (4, .int x4), (6, .int x6)] → va_P E.1 bp_cl (bm_W E m) H → va_D A (bm_W E m) → va_S A s.heap H locs → W p l e ({ frames := 6, cells := 0, slots := 0, locals := 154 }) s mt args below meth c H locs 0 0 Q (F0 mt 211 ls []) := by
    intro n211
    induction n211 with
    | zero =>
      intro x4 x6 m h ls H locs hl hP hD hS
      rw [bm_M_picture_L211] at h
      cases h
    | succ n211 ih211 =>
      intro x4 x6 m h ls H locs hl hP hD hS
      rw [bm_M_picture_L211] at h
      refine lv_iload hx hb (dt_bm_M_picture 111 rfl) (lv_at hl 4 rfl) ?_
      refine lv_bipush (v := 16) hx hb (dt_bm_M_picture 112 rfl) (by decide) ?_
      refine lv_icmp_ge (tgt := 238) hx hb (dt_bm_M_picture 113 rfl) (by decide) (fun hc => ?_) (fun hc => ?_)
      · replace h := (if_pos hc).symm.trans h
        exact hL238 _ _ h ls H locs (lv_sub hl [0, 1, 2, 3] rfl) hP hD hS
      · replace h := (if_neg hc).symm.trans h
        refine lv_aload_n hx hb (dt_bm_M_picture 114 rfl) rfl (lv_at hl 0 rfl) ?_
        refine va_get (D := E.1) (ci := 10) (v := .int (m.1 0 12)) (C := "BlockPicturesModel") (T := bF_M) (N := 48) hx hb htb bm_in_M hown hK hP 0 (bm_gM E m) rfl 12 (by decide) (htb _ tw_780) (fun _ h9 => h9) rfl (dt_bm_M_picture 115 rfl) ?_
        refine lv_if_ne (tgt := 238) hx hb (dt_bm_M_picture 116 rfl) (by decide) (fun hc => ?_) (fun hc => ?_)
        · replace h := (if_pos hc).symm.trans h
          exact hL238 _ _ h ls H locs (lv_sub hl [0, 1, 2, 3] rfl) hP hD hS
        · replace h := (if_neg (fun hn => hn hc)).symm.trans h
          refine lv_aload_n hx hb (dt_bm_M_picture 117 rfl) rfl (lv_at hl 0 rfl) ?_
          refine lv_iload_n hx hb (dt_bm_M_picture 118 rfl) rfl (lv_at hl 1 rfl) ?_
          refine lv_iload hx hb (dt_bm_M_picture 119 rfl) (lv_at hl 4 rfl) ?_
          obtain ⟨m1, hm1, h⟩ := bp_cV_s h
          refine bm_callV E hsub hS (va_runV (As := [.int a1, .int x6]) (rest := []) ⟨hx, hb, hml, hown, htb⟩ (wbm_M_block l E N a1 x6 m H.size m1 hm1) (cwV 2 htb (bp_goodV tw_964 tw_966 tw_44 tw_79 tw_967) rfl rfl rfl ⟨rfl, hd_bm_M_block⟩ ⟨Nat.le_of_ble_eq_true rfl, Nat.le_of_ble_eq_true rfl⟩) (bm_preV E hsub hst hK hP hD hS (bm_gM E m) rfl rfl _) rfl rfl hl.1 rfl (lv_room (Nat.le_of_ble_eq_true rfl)) (dt_bm_M_picture 120 rfl) ⟨Nat.zero_le _, Nat.zero_le _⟩) (fun H locs hP hD hS => ?_)
          obtain ⟨y2, ey2⟩ : ∃ z : Int32, z = x6 + 1 := ⟨_, rfl⟩
          replace h := bp_nI_s h ey2
          refine lv_iinc (k := 4) (v := y2) hx hb (dt_bm_M_picture 121 rfl) hl rfl (by rw [ey2]; rfl) (Nat.le_of_ble_eq_true rfl) rfl (fun ls hl => ?_)
          have hl : lv_has ls 7 [(6, .int y2), (0, .ref (E.2.1 0)), (1, .int a1), (2, .int a2), (4, .int x4)] := hl
          refine lv_goto (tgt := 211) hx hb (dt_bm_M_picture 122 rfl) (by decide) ?_
          exact ih211 _ _ _ h ls H locs (lv_sub hl [1, 2, 3, 4, 0] rfl) hP hD hS
  have hL208 : ∀ (x4 : Int32) (m : bp_M), bm_M_picture_L208 N a1 a2 x4 m = some mr → ∀ (ls : Array Slot) (H : Heap) (locs : List Loc), lv_has ls 7 [(0, .ref (E.2.1 0)), (1, .int a1), (2, .int a2), (4, .int x4)] → va_P E.1 bp_cl (bm_W E m) H → va_D A (bm_W E m) → va_S A s.heap H locs → W p l e ({ frames := 6, cells := 0, slots := 0, locals := 154 }) s mt args below meth c H locs 0 0 Q (F0 mt 208 ls []) := by
    intro x4 m h ls H locs hl hP hD hS
    rw [bm_M_picture_L208] at h
    refine lv_iconst (v := 0) hx hb (dt_bm_M_picture 109 rfl) (by decide) ?_
    refine lv_istore hx hb (dt_bm_M_picture 110 rfl) hl (Nat.le_of_ble_eq_true rfl) rfl (fun ls hl => ?_)
    have hl : lv_has ls 7 [(6, .int 0), (0, .ref (E.2.1 0)), (1, .int a1), (2, .int a2), (4, .int x4)] := hl
    exact hL211 _ _ _ _ h ls H locs (lv_sub hl [1, 2, 3, 4, 0] rfl) hP hD hS
  have hL205 : ∀ (x4 : Int32) (s0 : Int32) (m : bp_M), bm_M_picture_L205 N a1 a2 x4 s0 m = some mr → ∀ (ls : Array Slot) (H : Heap) (locs : List Loc), lv_has ls 7 [(0, .ref (E.2.1 0)), (1, .int a1), (2, .int a2), (4, .int x4)] → va_P E.1 bp_cl (bm_W E m) H → va_D A (bm_W E m) → va_S A s.heap H locs → W p l e ({ frames := 6, cells := 0, slots := 0, locals := 154 }) s mt args below meth c H locs 0 0 Q (F0 mt 205 ls [.int s0, .ref (E.2.1 0)]) := by
    intro x4 s0 m h ls H locs hl hP hD hS
    rw [bm_M_picture_L205] at h
    refine bm_pM_22 E hx hb htb hown hK hP hD hS (htb _ tw_790) (dt_bm_M_picture 108 rfl) (fun m1 em1 H locs hP hD hS => ?_)
    replace h := bp_nM_s h em1
    exact hL208 _ _ h ls H locs (lv_sub hl [0, 1, 2, 3] rfl) hP hD hS
  have hL174 : ∀ (x3 : Int32) (x4 : Int32) (m : bp_M), bm_M_picture_L174 N a1 a2 x3 x4 m = some mr → ∀ (ls : Array Slot) (H : Heap) (locs : List Loc), lv_has ls 7 [(0, .ref (E.2.1 0)), (1, .int a1), (2, .int a2), (3, .int x3), (4, .int x4)] → va_P E.1 bp_cl (bm_W E m) H → va_D A (bm_W E m) → va_S A s.heap H locs → W p l e ({ frames := 6, cells := 0, slots := 0, locals := 154 }) s mt args below meth c H locs 0 0 Q (F0 mt 174 ls []) := by
    intro x3 x4 m h ls H locs hl hP hD hS
    rw [bm_M_picture_L174] at h
    refine lv_iload_n hx hb (dt_bm_M_picture 90 rfl) rfl (lv_at hl 1 rfl) ?_
    refine lv_if_ne (tgt := 208) hx hb (dt_bm_M_picture 91 rfl) (by decide) (fun hc => ?_) (fun hc => ?_)
    · replace h := (if_pos hc).symm.trans h
      exact hL208 _ _ h ls H locs (lv_sub hl [0, 1, 2, 4] rfl) hP hD hS
    · replace h := (if_neg (fun hn => hn hc)).symm.trans h
      refine lv_iload_n hx hb (dt_bm_M_picture 92 rfl) rfl (lv_at hl 2 rfl) ?_
      refine lv_if_le (tgt := 208) hx hb (dt_bm_M_picture 93 rfl) (by decide) (fun hc => ?_) (fun hc => ?_)
      · replace h := (if_pos hc).symm.trans h
        exact hL208 _ _ h ls H locs (lv_sub hl [0, 1, 2, 4] rfl) hP hD hS
      · replace h := (if_neg hc).symm.trans h
        refine lv_aload_n hx hb (dt_bm_M_picture 94 rfl) rfl (lv_at hl 0 rfl) ?_
        refine lv_aload_n hx hb (dt_bm_M_picture 95 rfl) rfl (lv_at hl 0 rfl) ?_
        refine lv_iconst (v := 1) hx hb (dt_bm_M_picture 96 rfl) (by decide) ?_
        obtain ⟨z2, m1, hm1, h⟩ := bp_cI_s h
        refine bm_callI E hsub hS (va_runV (As := [.int 1]) (rest := [.ref (E.2.1 0)]) ⟨hx, hb, hml, hown, htb⟩ (wbm_M_bits l E N 1 m H.size z2 m1 hm1) (cwV 1 htb (bp_goodV tw_944 tw_946 tw_39 tw_79 tw_947) rfl rfl rfl ⟨rfl, hd_bm_M_bits⟩ ⟨Nat.le_of_ble_eq_true rfl, Nat.le_of_ble_eq_true rfl⟩) (bm_preV E hsub hst hK hP hD hS (bm_gM E m) rfl rfl _) rfl rfl hl.1 rfl (lv_room (Nat.le_of_ble_eq_true rfl)) (dt_bm_M_picture 97 rfl) ⟨Nat.zero_le _, Nat.zero_le _⟩) (fun H locs hP hD hS => ?_)
        refine lv_iconst (v := 1) hx hb (dt_bm_M_picture 98 rfl) (by decide) ?_
        refine lv_icmp_ne (tgt := 204) hx hb (dt_bm_M_picture 99 rfl) (by decide) (fun hc => ?_) (fun hc => ?_)
        · replace h := (if_pos hc).symm.trans h
          refine lv_iconst (v := (-1)) hx hb (dt_bm_M_picture 107 rfl) (by decide) ?_
          exact hL205 _ _ _ h ls H locs (lv_sub hl [0, 1, 2, 4] rfl) hP hD hS
        · replace h := (if_neg (fun hn => hn hc)).symm.trans h
          refine lv_aload_n hx hb (dt_bm_M_picture 100 rfl) rfl (lv_at hl 0 rfl) ?_
          refine lv_iload_n hx hb (dt_bm_M_picture 101 rfl) rfl (lv_at hl 3 rfl) ?_
          refine lv_iconst (v := 1) hx hb (dt_bm_M_picture 102 rfl) (by decide) ?_
          refine lv_isub hx hb (dt_bm_M_picture 103 rfl) ?_
          refine lv_bipush (v := 8) hx hb (dt_bm_M_picture 104 rfl) (by decide) ?_
          obtain ⟨z4, m3, hm3, h⟩ := bp_cI_s h
          refine bm_callI E hsub hS (va_runV (As := [.int (x3 - 1 : Int32), .int 8]) (rest := [.ref (E.2.1 0)]) ⟨hx, hb, hml, hown, htb⟩ (wbm_M_number l E N (x3 - 1 : Int32) 8 m1 H.size z4 m3 hm3) (cwV 2 htb (bp_goodV tw_940 tw_942 tw_38 tw_79 tw_943) rfl rfl rfl ⟨rfl, hd_bm_M_number⟩ ⟨Nat.le_of_ble_eq_true rfl, Nat.le_of_ble_eq_true rfl⟩) (bm_preV E hsub hst hK hP hD hS (bm_gM E m1) rfl rfl _) rfl rfl hl.1 rfl (lv_room (Nat.le_of_ble_eq_true rfl)) (dt_bm_M_picture 105 rfl) ⟨Nat.zero_le _, Nat.zero_le _⟩) (fun H locs hP hD hS => ?_)
          refine lv_goto (tgt := 205) hx hb (dt_bm_M_picture 106 rfl) (by decide) ?_
          exact hL205 _ _ _ h ls H locs (lv_sub hl [0, 1, 2, 4] rfl) hP hD hS
  have hL171 : ∀ (x3 : Int32) (x4 : Int32) (s0 : Int32) (m : bp_M), bm_M_picture_L171 N a1 a2 x3 x4 s0 m = some mr → ∀ (ls : Array Slot) (H : Heap) (locs : List Loc), lv_has ls 7 [(0, .ref (E.2.1 0)), (1, .int a1), (2, .int a2), (3, .int x3), (4, .int x4)] → va_P E.1 bp_cl (bm_W E m) H → va_D A (bm_W E m) → va_S A s.heap H locs → W p l e ({ frames := 6, cells := 0, slots := 0, locals := 154 }) s mt args below meth c H locs 0 0 Q (F0 mt 171 ls [.int s0, .ref (E.2.1 0)]) := by
    intro x3 x4 s0 m h ls H locs hl hP hD hS
    rw [bm_M_picture_L171] at h
    refine bm_pM_21 E hx hb htb hown hK hP hD hS (htb _ tw_789) (dt_bm_M_picture 89 rfl) (fun m1 em1 H locs hP hD hS => ?_)
    replace h := bp_nM_s h em1
    exact hL174 _ _ _ h ls H locs (lv_sub hl [0, 1, 2, 3, 4] rfl) hP hD hS
  have hL116 : ∀ (x3 : Int32) (x4 : Int32) (m : bp_M), bm_M_picture_L116 N a1 a2 x3 x4 m = some mr → ∀ (ls : Array Slot) (H : Heap) (locs : List Loc), lv_has ls 7 [(0, .ref (E.2.1 0)), (1, .int a1), (2, .int a2), (3, .int x3), (4, .int x4)] → va_P E.1 bp_cl (bm_W E m) H → va_D A (bm_W E m) → va_S A s.heap H locs → W p l e ({ frames := 6, cells := 0, slots := 0, locals := 154 }) s mt args below meth c H locs 0 0 Q (F0 mt 116 ls []) := by
    intro x3 x4 m h ls H locs hl hP hD hS
    rw [bm_M_picture_L116] at h
    refine lv_aload_n hx hb (dt_bm_M_picture 56 rfl) rfl (lv_at hl 0 rfl) ?_
    refine lv_iconst (v := 0) hx hb (dt_bm_M_picture 57 rfl) (by decide) ?_
    refine bm_pM_20 E hx hb htb hown hK hP hD hS (htb _ tw_788) (dt_bm_M_picture 58 rfl) (fun m1 em1 H locs hP hD hS => ?_)
    replace h := bp_nM_s h em1
    refine lv_aload_n hx hb (dt_bm_M_picture 59 rfl) rfl (lv_at hl 0 rfl) ?_
    refine lv_iconst (v := (-1)) hx hb (dt_bm_M_picture 60 rfl) (by decide) ?_
    refine bm_pM_21 E hx hb htb hown hK hP hD hS (htb _ tw_789) (dt_bm_M_picture 61 rfl) (fun m2 em2 H locs hP hD hS => ?_)
    replace h := bp_nM_s h em2
    refine lv_aload_n hx hb (dt_bm_M_picture 62 rfl) rfl (lv_at hl 0 rfl) ?_
    refine lv_iconst (v := (-1)) hx hb (dt_bm_M_picture 63 rfl) (by decide) ?_
    refine bm_pM_22 E hx hb htb hown hK hP hD hS (htb _ tw_790) (dt_bm_M_picture 64 rfl) (fun m3 em3 H locs hP hD hS => ?_)
    replace h := bp_nM_s h em3
    refine lv_iload_n hx hb (dt_bm_M_picture 65 rfl) rfl (lv_at hl 1 rfl) ?_
    refine lv_if_ne (tgt := 174) hx hb (dt_bm_M_picture 66 rfl) (by decide) (fun hc => ?_) (fun hc => ?_)
    · replace h := (if_pos hc).symm.trans h
      exact hL174 _ _ _ h ls H locs (lv_sub hl [0, 1, 2, 3, 4] rfl) hP hD hS
    · replace h := (if_neg (fun hn => hn hc)).symm.trans h
      refine lv_aload_n hx hb (dt_bm_M_picture 67 rfl) rfl (lv_at hl 0 rfl) ?_
      refine lv_aload_n hx hb (dt_bm_M_picture 68 rfl) rfl (lv_at hl 0 rfl) ?_
      refine lv_iload_n hx hb (dt_bm_M_picture 69 rfl) rfl (lv_at hl 3 rfl) ?_
      refine lv_iconst (v := 1) hx hb (dt_bm_M_picture 70 rfl) (by decide) ?_
      refine lv_isub hx hb (dt_bm_M_picture 71 rfl) ?_
      refine lv_bipush (v := 8) hx hb (dt_bm_M_picture 72 rfl) (by decide) ?_
      obtain ⟨z5, m4, hm4, h⟩ := bp_cI_s h
      refine bm_callI E hsub hS (va_runV (As := [.int (x3 - 1 : Int32), .int 8]) (rest := [.ref (E.2.1 0)]) ⟨hx, hb, hml, hown, htb⟩ (wbm_M_number l E N (x3 - 1 : Int32) 8 m3 H.size z5 m4 hm4) (cwV 2 htb (bp_goodV tw_940 tw_942 tw_38 tw_79 tw_943) rfl rfl rfl ⟨rfl, hd_bm_M_number⟩ ⟨Nat.le_of_ble_eq_true rfl, Nat.le_of_ble_eq_true rfl⟩) (bm_preV E hsub hst hK hP hD hS (bm_gM E m3) rfl rfl _) rfl rfl hl.1 rfl (lv_room (Nat.le_of_ble_eq_true rfl)) (dt_bm_M_picture 73 rfl) ⟨Nat.zero_le _, Nat.zero_le _⟩) (fun H locs hP hD hS => ?_)
      refine bm_pM_20 E hx hb htb hown hK hP hD hS (htb _ tw_788) (dt_bm_M_picture 74 rfl) (fun m6 em6 H locs hP hD hS => ?_)
      replace h := bp_nM_s h em6
      refine lv_aload_n hx hb (dt_bm_M_picture 75 rfl) rfl (lv_at hl 0 rfl) ?_
      refine lv_aload_n hx hb (dt_bm_M_picture 76 rfl) rfl (lv_at hl 0 rfl) ?_
      refine lv_iconst (v := 1) hx hb (dt_bm_M_picture 77 rfl) (by decide) ?_
      obtain ⟨z8, m7, hm7, h⟩ := bp_cI_s h
      refine bm_callI E hsub hS (va_runV (As := [.int 1]) (rest := [.ref (E.2.1 0)]) ⟨hx, hb, hml, hown, htb⟩ (wbm_M_bits l E N 1 m6 H.size z8 m7 hm7) (cwV 1 htb (bp_goodV tw_944 tw_946 tw_39 tw_79 tw_947) rfl rfl rfl ⟨rfl, hd_bm_M_bits⟩ ⟨Nat.le_of_ble_eq_true rfl, Nat.le_of_ble_eq_true rfl⟩) (bm_preV E hsub hst hK hP hD hS (bm_gM E m6) rfl rfl _) rfl rfl hl.1 rfl (lv_room (Nat.le_of_ble_eq_true rfl)) (dt_bm_M_picture 78 rfl) ⟨Nat.zero_le _, Nat.zero_le _⟩) (fun H locs hP hD hS => ?_)
      refine lv_iconst (v := 1) hx hb (dt_bm_M_picture 79 rfl) (by decide) ?_
      refine lv_icmp_ne (tgt := 170) hx hb (dt_bm_M_picture 80 rfl) (by decide) (fun hc => ?_) (fun hc => ?_)
      · replace h := (if_pos hc).symm.trans h
        refine lv_iconst (v := (-1)) hx hb (dt_bm_M_picture 88 rfl) (by decide) ?_
        exact hL171 _ _ _ _ h ls H locs (lv_sub hl [0, 1, 2, 3, 4] rfl) hP hD hS
      · replace h := (if_neg (fun hn => hn hc)).symm.trans h
        refine lv_aload_n hx hb (dt_bm_M_picture 81 rfl) rfl (lv_at hl 0 rfl) ?_
        refine lv_iload_n hx hb (dt_bm_M_picture 82 rfl) rfl (lv_at hl 3 rfl) ?_
        refine lv_iconst (v := 1) hx hb (dt_bm_M_picture 83 rfl) (by decide) ?_
        refine lv_isub hx hb (dt_bm_M_picture 84 rfl) ?_
        refine lv_bipush (v := 8) hx hb (dt_bm_M_picture 85 rfl) (by decide) ?_
        obtain ⟨z10, m9, hm9, h⟩ := bp_cI_s h
        refine bm_callI E hsub hS (va_runV (As := [.int (x3 - 1 : Int32), .int 8]) (rest := [.ref (E.2.1 0)]) ⟨hx, hb, hml, hown, htb⟩ (wbm_M_number l E N (x3 - 1 : Int32) 8 m7 H.size z10 m9 hm9) (cwV 2 htb (bp_goodV tw_940 tw_942 tw_38 tw_79 tw_943) rfl rfl rfl ⟨rfl, hd_bm_M_number⟩ ⟨Nat.le_of_ble_eq_true rfl, Nat.le_of_ble_eq_true rfl⟩) (bm_preV E hsub hst hK hP hD hS (bm_gM E m7) rfl rfl _) rfl rfl hl.1 rfl (lv_room (Nat.le_of_ble_eq_true rfl)) (dt_bm_M_picture 86 rfl) ⟨Nat.zero_le _, Nat.zero_le _⟩) (fun H locs hP hD hS => ?_)
        refine lv_goto (tgt := 171) hx hb (dt_bm_M_picture 87 rfl) (by decide) ?_
        exact hL171 _ _ _ _ h ls H locs (lv_sub hl [0, 1, 2, 3, 4] rfl) hP hD hS
  have hL85 : ∀ (x3 : Int32) (x4 : Int32) (x5 : Int32) (s0 : Int32) (m : bp_M), bm_M_picture_L85 N a1 a2 x3 x4 x5 s0 m = some mr → ∀ (ls : Array Slot) (H : Heap) (locs : List Loc), lv_has ls 7 [(0, .ref (E.2.1 0)), (1, .int a1), (2, .int a2), (3, .int x3), (4, .int x4), (5, .int x5)] → va_P E.1 bp_cl (bm_W E m) H → va_D A (bm_W E m) → va_S A s.heap H locs → W p l e ({ frames := 6, cells := 0, slots := 0, locals := 154 }) s mt args below meth c H locs 0 0 Q (F0 mt 85 ls [.int s0, .ref (E.2.1 0)]) := by
    intro x3 x4 x5 s0 m h ls H locs hl hP hD hS
    rw [bm_M_picture_L85] at h
    refine lv_iload hx hb (dt_bm_M_picture 41 rfl) (lv_at hl 5 rfl) ?_
    refine lv_iadd hx hb (dt_bm_M_picture 42 rfl) ?_
    refine bm_pM_19 E hx hb htb hown hK hP hD hS (htb _ tw_787) (dt_bm_M_picture 43 rfl) (fun m1 em1 H locs hP hD hS => ?_)
    replace h := bp_nM_s h em1
    refine lv_aload_n hx hb (dt_bm_M_picture 44 rfl) rfl (lv_at hl 0 rfl) ?_
    refine va_get (D := E.1) (ci := 10) (v := .int (m1.1 0 12)) (C := "BlockPicturesModel") (T := bF_M) (N := 48) hx hb htb bm_in_M hown hK hP 0 (bm_gM E m1) rfl 12 (by decide) (htb _ tw_780) (fun _ h9 => h9) rfl (dt_bm_M_picture 45 rfl) ?_
    refine lv_if_ne (tgt := 116) hx hb (dt_bm_M_picture 46 rfl) (by decide) (fun hc => ?_) (fun hc => ?_)
    · replace h := (if_pos hc).symm.trans h
      exact hL116 _ _ _ h ls H locs (lv_sub hl [0, 1, 2, 3, 4] rfl) hP hD hS
    · replace h := (if_neg (fun hn => hn hc)).symm.trans h
      refine lv_aload_n hx hb (dt_bm_M_picture 47 rfl) rfl (lv_at hl 0 rfl) ?_
      refine va_get (D := E.1) (ci := 10) (v := .int (m1.1 0 19)) (C := "BlockPicturesModel") (T := bF_M) (N := 48) hx hb htb bm_in_M hown hK hP 0 (bm_gM E m1) rfl 19 (by decide) (htb _ tw_787) (fun _ h9 => h9) rfl (dt_bm_M_picture 48 rfl) ?_
      refine lv_iconst (v := 0) hx hb (dt_bm_M_picture 49 rfl) (by decide) ?_
      refine lv_bipush (v := 11) hx hb (dt_bm_M_picture 50 rfl) (by decide) ?_
      obtain ⟨z3, m2, hm2, h⟩ := bp_cI_s h
      refine bm_callI E hsub hS (va_runS (As := [.int (m1.1 0 19), .int 0, .int 11]) (rest := []) ⟨hx, hb, hml, hown, htb⟩ (wbm_M_within l E N (m1.1 0 19) 0 11 m1 H.size z3 m2 hm2) (va_cwS 3 htb (bp_goodW tw_917 tw_918 tw_79 tw_919) rfl rfl rfl hd_bm_M_within ⟨Nat.le_of_ble_eq_true rfl, Nat.le_of_ble_eq_true rfl⟩) (bm_preS E hsub hst hK hP hD hS _) rfl rfl hl.1 rfl (lv_room (Nat.le_of_ble_eq_true rfl)) (dt_bm_M_picture 51 rfl) ⟨Nat.zero_le _, Nat.zero_le _⟩) (fun H locs hP hD hS => ?_)
      refine lv_if_ne (tgt := 116) hx hb (dt_bm_M_picture 52 rfl) (by decide) (fun hc => ?_) (fun hc => ?_)
      · replace h := (if_pos hc).symm.trans h
        exact hL116 _ _ _ h ls H locs (lv_sub hl [0, 1, 2, 3, 4] rfl) hP hD hS
      · replace h := (if_neg (fun hn => hn hc)).symm.trans h
        refine lv_aload_n hx hb (dt_bm_M_picture 53 rfl) rfl (lv_at hl 0 rfl) ?_
        refine lv_iconst (v := 5) hx hb (dt_bm_M_picture 54 rfl) (by decide) ?_
        refine bm_pM_12 E hx hb htb hown hK hP hD hS (htb _ tw_780) (dt_bm_M_picture 55 rfl) (fun m4 em4 H locs hP hD hS => ?_)
        replace h := bp_nM_s h em4
        exact hL116 _ _ _ h ls H locs (lv_sub hl [0, 1, 2, 3, 4] rfl) hP hD hS
  have hL81 : ∀ (x3 : Int32) (x4 : Int32) (x5 : Int32) (m : bp_M), bm_M_picture_L81 N a1 a2 x3 x4 x5 m = some mr → ∀ (ls : Array Slot) (H : Heap) (locs : List Loc), lv_has ls 7 [(0, .ref (E.2.1 0)), (1, .int a1), (2, .int a2), (3, .int x3), (4, .int x4), (5, .int x5)] → va_P E.1 bp_cl (bm_W E m) H → va_D A (bm_W E m) → va_S A s.heap H locs → W p l e ({ frames := 6, cells := 0, slots := 0, locals := 154 }) s mt args below meth c H locs 0 0 Q (F0 mt 81 ls [.ref (E.2.1 0)]) := by
    intro x3 x4 x5 m h ls H locs hl hP hD hS
    rw [bm_M_picture_L81] at h
    refine lv_aload_n hx hb (dt_bm_M_picture 39 rfl) rfl (lv_at hl 0 rfl) ?_
    refine va_get (D := E.1) (ci := 10) (v := .int (m.1 0 18)) (C := "BlockPicturesModel") (T := bF_M) (N := 48) hx hb htb bm_in_M hown hK hP 0 (bm_gM E m) rfl 18 (by decide) (htb _ tw_786) (fun _ h9 => h9) rfl (dt_bm_M_picture 40 rfl) ?_
    exact hL85 _ _ _ _ _ h ls H locs (lv_sub hl [0, 1, 2, 3, 4, 5] rfl) hP hD hS
  have hL46 : ∀ (x3 : Int32) (m : bp_M), bm_M_picture_L46 N a1 a2 x3 m = some mr → ∀ (ls : Array Slot) (H : Heap) (locs : List Loc), lv_has ls 7 [(0, .ref (E.2.1 0)), (1, .int a1), (2, .int a2), (3, .int x3)] → va_P E.1 bp_cl (bm_W E m) H → va_D A (bm_W E m) → va_S A s.heap H locs → W p l e ({ frames := 6, cells := 0, slots := 0, locals := 154 }) s mt args below meth c H locs 0 0 Q (F0 mt 46 ls []) := by
    intro x3 m h ls H locs hl hP hD hS
    rw [bm_M_picture_L46] at h
    refine lv_aload_n hx hb (dt_bm_M_picture 22 rfl) rfl (lv_at hl 0 rfl) ?_
    refine lv_sipush (v := 255) hx hb (dt_bm_M_picture 23 rfl) (by decide) ?_
    refine lv_iconst (v := 5) hx hb (dt_bm_M_picture 24 rfl) (by decide) ?_
    obtain ⟨z2, m1, hm1, h⟩ := bp_cI_s h
    refine bm_callI E hsub hS (va_runV (As := [.int 255, .int 5]) (rest := []) ⟨hx, hb, hml, hown, htb⟩ (wbm_M_number l E N 255 5 m H.size z2 m1 hm1) (cwV 2 htb (bp_goodV tw_940 tw_942 tw_38 tw_79 tw_943) rfl rfl rfl ⟨rfl, hd_bm_M_number⟩ ⟨Nat.le_of_ble_eq_true rfl, Nat.le_of_ble_eq_true rfl⟩) (bm_preV E hsub hst hK hP hD hS (bm_gM E m) rfl rfl _) rfl rfl hl.1 rfl (lv_room (Nat.le_of_ble_eq_true rfl)) (dt_bm_M_picture 25 rfl) ⟨Nat.zero_le _, Nat.zero_le _⟩) (fun H locs hP hD hS => ?_)
    refine lv_istore hx hb (dt_bm_M_picture 26 rfl) hl (Nat.le_of_ble_eq_true rfl) rfl (fun ls hl => ?_)
    have hl : lv_has ls 7 [(4, .int z2), (0, .ref (E.2.1 0)), (1, .int a1), (2, .int a2), (3, .int x3)] := hl
    refine lv_aload_n hx hb (dt_bm_M_picture 27 rfl) rfl (lv_at hl 1 rfl) ?_
    obtain ⟨z4, m3, hm3, h⟩ := bp_cI_s h
    refine bm_callI E hsub hS (va_runV (As := []) (rest := []) ⟨hx, hb, hml, hown, htb⟩ (wbm_M_signed l E N  m1 H.size z4 m3 hm3) (cwV 0 htb (bp_goodV tw_960 tw_962 tw_43 tw_79 tw_963) rfl rfl rfl ⟨rfl, hd_bm_M_signed⟩ ⟨Nat.le_of_ble_eq_true rfl, Nat.le_of_ble_eq_true rfl⟩) (bm_preV E hsub hst hK hP hD hS (bm_gM E m1) rfl rfl _) rfl rfl hl.1 rfl (lv_room (Nat.le_of_ble_eq_true rfl)) (dt_bm_M_picture 28 rfl) ⟨Nat.zero_le _, Nat.zero_le _⟩) (fun H locs hP hD hS => ?_)
    refine lv_istore hx hb (dt_bm_M_picture 29 rfl) hl (Nat.le_of_ble_eq_true rfl) rfl (fun ls hl => ?_)
    have hl : lv_has ls 7 [(5, .int z4), (4, .int z2), (0, .ref (E.2.1 0)), (1, .int a1), (2, .int a2), (3, .int x3)] := hl
    refine lv_aload_n hx hb (dt_bm_M_picture 30 rfl) rfl (lv_at hl 2 rfl) ?_
    refine lv_iload_n hx hb (dt_bm_M_picture 31 rfl) rfl (lv_at hl 3 rfl) ?_
    refine lv_if_eq (tgt := 81) hx hb (dt_bm_M_picture 32 rfl) (by decide) (fun hc => ?_) (fun hc => ?_)
    · replace h := (if_pos hc).symm.trans h
      exact hL81 _ _ _ _ h ls H locs (lv_sub hl [2, 3, 4, 5, 1, 0] rfl) hP hD hS
    · replace h := (if_neg hc).symm.trans h
      refine lv_aload_n hx hb (dt_bm_M_picture 33 rfl) rfl (lv_at hl 2 rfl) ?_
      refine va_get (D := E.1) (ci := 10) (v := .int (m3.1 0 13)) (C := "BlockPicturesModel") (T := bF_M) (N := 48) hx hb htb bm_in_M hown hK hP 0 (bm_gM E m3) rfl 13 (by decide) (htb _ tw_781) (fun _ h9 => h9) rfl (dt_bm_M_picture 34 rfl) ?_
      refine lv_if_eq (tgt := 81) hx hb (dt_bm_M_picture 35 rfl) (by decide) (fun hc => ?_) (fun hc => ?_)
      · replace h := (if_pos hc).symm.trans h
        exact hL81 _ _ _ _ h ls H locs (lv_sub hl [2, 3, 4, 5, 1, 0] rfl) hP hD hS
      · replace h := (if_neg hc).symm.trans h
        refine lv_aload_n hx hb (dt_bm_M_picture 36 rfl) rfl (lv_at hl 2 rfl) ?_
        refine va_get (D := E.1) (ci := 10) (v := .int (m3.1 0 15)) (C := "BlockPicturesModel") (T := bF_M) (N := 48) hx hb htb bm_in_M hown hK hP 0 (bm_gM E m3) rfl 15 (by decide) (htb _ tw_783) (fun _ h9 => h9) rfl (dt_bm_M_picture 37 rfl) ?_
        refine lv_goto (tgt := 85) hx hb (dt_bm_M_picture 38 rfl) (by decide) ?_
        exact hL85 _ _ _ _ _ h ls H locs (lv_sub hl [2, 3, 4, 5, 1, 0] rfl) hP hD hS
  have hL32 : ∀ (x3 : Int32) (m : bp_M), bm_M_picture_L32 N a1 a2 x3 m = some mr → ∀ (ls : Array Slot) (H : Heap) (locs : List Loc), lv_has ls 7 [(0, .ref (E.2.1 0)), (1, .int a1), (2, .int a2), (3, .int x3)] → va_P E.1 bp_cl (bm_W E m) H → va_D A (bm_W E m) → va_S A s.heap H locs → W p l e ({ frames := 6, cells := 0, slots := 0, locals := 154 }) s mt args below meth c H locs 0 0 Q (F0 mt 32 ls []) := by
    intro x3 m h ls H locs hl hP hD hS
    rw [bm_M_picture_L32] at h
    refine lv_iload_n hx hb (dt_bm_M_picture 15 rfl) rfl (lv_at hl 1 rfl) ?_
    refine lv_if_ne (tgt := 46) hx hb (dt_bm_M_picture 16 rfl) (by decide) (fun hc => ?_) (fun hc => ?_)
    · replace h := (if_pos hc).symm.trans h
      exact hL46 _ _ h ls H locs (lv_sub hl [0, 1, 2, 3] rfl) hP hD hS
    · replace h := (if_neg (fun hn => hn hc)).symm.trans h
      refine lv_iload_n hx hb (dt_bm_M_picture 17 rfl) rfl (lv_at hl 3 rfl) ?_
      refine lv_if_ne (tgt := 46) hx hb (dt_bm_M_picture 18 rfl) (by decide) (fun hc => ?_) (fun hc => ?_)
      · replace h := (if_pos hc).symm.trans h
        exact hL46 _ _ h ls H locs (lv_sub hl [0, 1, 2, 3] rfl) hP hD hS
      · replace h := (if_neg (fun hn => hn hc)).symm.trans h
        refine lv_aload_n hx hb (dt_bm_M_picture 19 rfl) rfl (lv_at hl 0 rfl) ?_
        refine lv_bipush (v := 8) hx hb (dt_bm_M_picture 20 rfl) (by decide) ?_
        refine bm_pM_12 E hx hb htb hown hK hP hD hS (htb _ tw_780) (dt_bm_M_picture 21 rfl) (fun m1 em1 H locs hP hD hS => ?_)
        replace h := bp_nM_s h em1
        exact hL46 _ _ h ls H locs (lv_sub hl [0, 1, 2, 3] rfl) hP hD hS
  suffices hgo : ∀ (H : Heap) (locs : List Loc), va_P E.1 bp_cl (bm_W E m) H → va_D A (bm_W E m) → va_S A s.heap H locs → W p l e ({ frames := 6, cells := 0, slots := 0, locals := 154 }) s mt args below meth c H locs 0 0 Q (F0 mt 0 ls []) from hgo _ _ hP hD hS
  clear hP hD hS
  intro H locs hP hD hS
  unfold bm_M_picture at h
  refine lv_aload_n hx hb (dt_bm_M_picture 0 rfl) rfl (lv_at hl 0 rfl) ?_
  obtain ⟨z2, m1, hm1, h⟩ := bp_cI_s h
  refine bm_callI E hsub hS (va_runV (As := []) (rest := []) ⟨hx, hb, hml, hown, htb⟩ (wbm_M_references l E N  m H.size z2 m1 hm1) (cwV 0 htb (bp_goodV tw_956 tw_958 tw_42 tw_79 tw_959) rfl rfl rfl ⟨rfl, hd_bm_M_references⟩ ⟨Nat.le_of_ble_eq_true rfl, Nat.le_of_ble_eq_true rfl⟩) (bm_preV E hsub hst hK hP hD hS (bm_gM E m) rfl rfl _) rfl rfl hl.1 rfl (lv_room (Nat.le_of_ble_eq_true rfl)) (dt_bm_M_picture 1 rfl) ⟨Nat.zero_le _, Nat.zero_le _⟩) (fun H locs hP hD hS => ?_)
  refine lv_istore_n hx hb (dt_bm_M_picture 2 rfl) rfl hl (Nat.le_of_ble_eq_true rfl) rfl (fun ls hl => ?_)
  have hl : lv_has ls 7 [(3, .int z2), (0, .ref (E.2.1 0)), (1, .int a1), (2, .int a2)] := hl
  refine lv_iload_n hx hb (dt_bm_M_picture 3 rfl) rfl (lv_at hl 2 rfl) ?_
  refine lv_if_eq (tgt := 32) hx hb (dt_bm_M_picture 4 rfl) (by decide) (fun hc => ?_) (fun hc => ?_)
  · replace h := (if_pos hc).symm.trans h
    exact hL32 _ _ h ls H locs (lv_sub hl [1, 2, 3, 0] rfl) hP hD hS
  · replace h := (if_neg hc).symm.trans h
    refine lv_aload_n hx hb (dt_bm_M_picture 5 rfl) rfl (lv_at hl 1 rfl) ?_
    refine va_get (D := E.1) (ci := 10) (v := .int (m1.1 0 13)) (C := "BlockPicturesModel") (T := bF_M) (N := 48) hx hb htb bm_in_M hown hK hP 0 (bm_gM E m1) rfl 13 (by decide) (htb _ tw_781) (fun _ h9 => h9) rfl (dt_bm_M_picture 6 rfl) ?_
    refine lv_if_ne (tgt := 32) hx hb (dt_bm_M_picture 7 rfl) (by decide) (fun hc => ?_) (fun hc => ?_)
    · replace h := (if_pos hc).symm.trans h
      exact hL32 _ _ h ls H locs (lv_sub hl [1, 2, 3, 0] rfl) hP hD hS
    · replace h := (if_neg (fun hn => hn hc)).symm.trans h
      refine lv_aload_n hx hb (dt_bm_M_picture 8 rfl) rfl (lv_at hl 1 rfl) ?_
      refine va_get (D := E.1) (ci := 10) (v := .int (m1.1 0 16)) (C := "BlockPicturesModel") (T := bF_M) (N := 48) hx hb htb bm_in_M hown hK hP 0 (bm_gM E m1) rfl 16 (by decide) (htb _ tw_784) (fun _ h9 => h9) rfl (dt_bm_M_picture 9 rfl) ?_
      refine lv_if_ne (tgt := 32) hx hb (dt_bm_M_picture 10 rfl) (by decide) (fun hc => ?_) (fun hc => ?_)
      · replace h := (if_pos hc).symm.trans h
        exact hL32 _ _ h ls H locs (lv_sub hl [1, 2, 3, 0] rfl) hP hD hS
      · replace h := (if_neg (fun hn => hn hc)).symm.trans h
        refine lv_aload_n hx hb (dt_bm_M_picture 11 rfl) rfl (lv_at hl 1 rfl) ?_
        refine lv_bipush (v := 7) hx hb (dt_bm_M_picture 12 rfl) (by decide) ?_
        refine bm_pM_12 E hx hb htb hown hK hP hD hS (htb _ tw_780) (dt_bm_M_picture 13 rfl) (fun m3 em3 H locs hP hD hS => ?_)
        replace h := bp_nM_s h em3
        refine lv_goto (tgt := 46) hx hb (dt_bm_M_picture 14 rfl) (by decide) ?_
        exact hL46 _ _ h ls H locs (lv_sub hl [1, 2, 3, 0] rfl) hP hD hS
