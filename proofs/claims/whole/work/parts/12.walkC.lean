set_option maxHeartbeats 4000000 in
set_option maxRecDepth 100000 in
theorem wbc_MO_fillWindow (l : Launch) (E : bc_E) (N : Nat) (a1 : Nat) (a2 : Int32) (a3 : Int32) (m : bp_M) (sz : Nat) (mr : bp_M)  (h : bc_MO_fillWindow N a1 a2 a3 m = some mr) : Met l y_bc_MO_fillWindow (Cond.code y_bc_MO_fillWindow prog_5_method_3_code 8 none :: bp_tb) ({ frames := 1, cells := 0, slots := 0, locals := 40 }) (bc_Pc E m sz [.ref (E.2.1 7), .ref (E.2.1 a1), .int a2, .int a3]) (bc_Qv E m sz mr) 0 0 (va_A (bc_W E m) sz) := by
  refine Met.ofW (cc := prog_5_method_3_code) (maxL := 8) (ret := none) (by decide) rfl ?_
  intro p e s mt args below meth c s₁ B hml hv
  obtain ⟨rfl, hsz, hP, hK, hD0, hst⟩ := hv
  have hx := B.exec
  have hb := B.bytes
  have hr := B.returns
  have htb : ∀ w ∈ bp_tb, w.before _ s = true := fun w hw => atoms_spec (ws := Cond.code y_bc_MO_fillWindow prog_5_method_3_code 8 none :: bp_tb) B.pre w (List.mem_cons_of_mem _ hw)
  have hown : s.vm.findClass "BlockPictures$Motion" = some mt.cls := findClass_of_methodNamed B.named
  have hlocks := B.notSynchronized
  subst hsz
  have hD := hD0.self (sz := s.heap.size)
  generalize hAe : va_A (bc_W E m) s.heap.size = A at hD hst ⊢
  have hsub : ∀ (u : bp_M) (z q : Nat), s.heap.size ≤ z → va_A (bc_W E u) z q → A q := bc_sub hAe
  have hS : va_S A s.heap s.heap [] := va_S.rf
  have hl := lv_entry ([.ref (E.2.1 7), .ref (E.2.1 a1), .int a2, .int a3]) (n := 8) (Nat.le_of_ble_eq_true rfl)
  rw [lg_entry_eq]
  generalize (lg_sl ([.ref (E.2.1 7), .ref (E.2.1 a1), .int a2, .int a3]) ++ List.replicate (8 - (lg_sl ([.ref (E.2.1 7), .ref (E.2.1 a1), .int a2, .int a3])).length) Slot.unset).toArray = ls at hl ⊢
  have hl : lv_has ls 8 [(0, .ref (E.2.1 7)), (1, .ref (E.2.1 a1)), (2, .int a2), (3, .int a3)] := hl
  refine bc_keyV (R := ({ frames := 1, cells := 0, slots := 0, locals := 40 })) E hx hb hr hlocks hK hAe (fun Q hret => ?_)
  clear B hD0 hlocks hr
  generalize ([.ref (E.2.1 7), .ref (E.2.1 a1), .int a2, .int a3] : List Value).toArray = args at htb hret ⊢
  clear hAe
  have hL85 : ∀ (m : bp_M), bc_MO_fillWindow_L85 N a1 a2 a3 m = some mr → ∀ (ls : Array Slot) (H : Heap) (locs : List Loc), lv_has ls 8 [] → va_P E.1 bp_cl (bc_W E m) H → va_D A (bc_W E m) → va_S A s.heap H locs → W p l e ({ frames := 1, cells := 0, slots := 0, locals := 40 }) s mt args below meth c H locs 0 0 Q (F0 mt 85 ls []) := by
    intro m h ls H locs hl hP hD hS
    rw [bc_MO_fillWindow_L85] at h
    exact hret _ _ _ _ _ h hP hD hS (dt_bc_MO_fillWindow 45 rfl)
  have hL3 : ∀ (n3 : Nat) (x4 : Int32) (m : bp_M), bc_MO_fillWindow_L3 N a1 a2 a3 n3 x4 m = some mr → ∀ (ls : Array Slot) (H : Heap) (locs : List Loc), lv_has ls 8 [(0, .ref (E.2.1 7)), (1, .ref (E.2.1 a1)), (2, .int a2), (3, .int a3), (4, .int x4)] → va_P E.1 bp_cl (bc_W E m) H → va_D A (bc_W E m) → va_S A s.heap H locs → W p l e ({ frames := 1, cells := 0, slots := 0, locals := 40 }) s mt args below meth c H locs 0 0 Q (F0 mt 3 ls []) := by
    intro n3
    induction n3 with
    | zero =>
      intro x4 m h ls H locs hl hP hD hS
      rw [bc_MO_fillWindow_L3] at h
      cases h
    | succ n3 ih3 =>
      have hL79 : ∀ (x4 : Int32) (m : bp_M), bc_MO_fillWindow_L79 (bc_MO_fillWindow_L3 N a1 a2 a3 n3) N a1 a2 a3 x4 m = some mr → ∀ (ls : Array Slot) (H : Heap) (locs : List Loc), lv_has ls 8 [(0, .ref (E.2.1 7)), (1, .ref (E.2.1 a1)), (2, .int a2), (3, .int a3), (4, .int x4)] → va_P E.1 bp_cl (bc_W E m) H → va_D A (bc_W E m) → va_S A s.heap H locs → W p l e ({ frames := 1, cells := 0, slots := 0, locals := 40 }) s mt args below meth c H locs 0 0 Q (F0 mt 79 ls []) := by
        intro x4 m h ls H locs hl hP hD hS
        rw [bc_MO_fillWindow_L79] at h
        obtain ⟨y1, ey1⟩ : ∃ z : Int32, z = x4 + 1 := ⟨_, rfl⟩
        replace h := bp_nI_s h ey1
        refine lv_iinc (k := 4) (v := y1) hx hb (dt_bc_MO_fillWindow 43 rfl) hl rfl (by rw [ey1]; rfl) (Nat.le_of_ble_eq_true rfl) rfl (fun ls hl => ?_)
        have hl : lv_has ls 8 [(4, .int y1), (0, .ref (E.2.1 7)), (1, .ref (E.2.1 a1)), (2, .int a2), (3, .int a3)] := hl
        refine lv_goto (tgt := 3) hx hb (dt_bc_MO_fillWindow 44 rfl) (by decide) ?_
        exact ih3 _ _ h ls H locs (lv_sub hl [1, 2, 3, 4, 0] rfl) hP hD hS
      have hL28 : ∀ (n28 : Nat) (x4 : Int32) (x5 : Int32) (x6 : Int32) (m : bp_M), bc_MO_fillWindow_L28 (bc_MO_fillWindow_L3 N a1 a2 a3 n3) N a1 a2 a3 n28 x4 x5 x6 m = some mr → ∀ (ls : Array Slot) (H : Heap) (locs : List Loc), lv_has ls 8 [(0, .ref (E.2.1 7)), (1, .ref (E.2.1 a1)), (2, .int a2), (3, .int a3), (4, .int x4), (5, .int x5), (6, .int x6)] → va_P E.1 bp_cl (bc_W E m) H → va_D A (bc_W E m) → va_S A s.heap H locs → W p l e ({ frames := 1, cells := 0, slots := 0, locals := 40 }) s mt args below meth c H locs 0 0 Q (F0 mt 28 ls []) := by
        intro n28
        induction n28 with
        | zero =>
          intro x4 x5 x6 m h ls H locs hl hP hD hS
          rw [bc_MO_fillWindow_L28] at h
          cases h
        | succ n28 ih28 =>
          intro x4 x5 x6 m h ls H locs hl hP hD hS
          rw [bc_MO_fillWindow_L28] at h
          refine lv_iload hx hb (dt_bc_MO_fillWindow 15 rfl) (lv_at hl 6 rfl) ?_
          refine lv_bipush (v := 9) hx hb (dt_bc_MO_fillWindow 16 rfl) (by decide) ?_
          refine lv_icmp_ge (tgt := 79) hx hb (dt_bc_MO_fillWindow 17 rfl) (by decide) (fun hc => ?_) (fun hc => ?_)
          · replace h := (if_pos hc).symm.trans h
            exact hL79 _ _ h ls H locs (lv_sub hl [0, 1, 2, 3, 4] rfl) hP hD hS
          · replace h := (if_neg hc).symm.trans h
            refine lv_iconst (v := 0) hx hb (dt_bc_MO_fillWindow 18 rfl) (by decide) ?_
            refine lv_bipush (v := 15) hx hb (dt_bc_MO_fillWindow 19 rfl) (by decide) ?_
            refine lv_iload_n hx hb (dt_bc_MO_fillWindow 20 rfl) rfl (lv_at hl 2 rfl) ?_
            refine lv_iload hx hb (dt_bc_MO_fillWindow 21 rfl) (lv_at hl 6 rfl) ?_
            refine lv_iadd hx hb (dt_bc_MO_fillWindow 22 rfl) ?_
            refine va_mmin hx hb (hml.trans hl.1.symm) hown (htb _ tw_511) (htb _ tw_494) (htb _ tw_81) (htb _ tw_495) (Nat.le_of_ble_eq_true rfl) (Nat.le_of_ble_eq_true rfl) (Nat.zero_le _) (Nat.zero_le _) (dt_bc_MO_fillWindow 23 rfl) ?_
            refine va_mmax hx hb (hml.trans hl.1.symm) hown (htb _ tw_512) (htb _ tw_497) (htb _ tw_81) (htb _ tw_498) (Nat.le_of_ble_eq_true rfl) (Nat.le_of_ble_eq_true rfl) (Nat.zero_le _) (Nat.zero_le _) (dt_bc_MO_fillWindow 24 rfl) ?_
            refine lv_topi (fun y1 ey1 => ?_)
            replace h := bp_nI_s h ey1
            refine lv_istore hx hb (dt_bc_MO_fillWindow 25 rfl) hl (Nat.le_of_ble_eq_true rfl) rfl (fun ls hl => ?_)
            have hl : lv_has ls 8 [(7, .int y1), (0, .ref (E.2.1 7)), (1, .ref (E.2.1 a1)), (2, .int a2), (3, .int a3), (4, .int x4), (5, .int x5), (6, .int x6)] := hl
            refine lv_aload_n hx hb (dt_bc_MO_fillWindow 26 rfl) rfl (lv_at hl 1 rfl) ?_
            refine va_get (D := E.1) (ci := 7) (v := .ref (E.2.1 17)) (C := "BlockPictures$Motion") (T := bF_MO) (N := 2) hx hb htb bc_in_MO hown hK hP 7 (bc_gMO E m) rfl 0 (by decide) (htb _ tw_252) (fun _ h9 => h9) rfl (dt_bc_MO_fillWindow 27 rfl) ?_
            refine lv_bipush (v := 9) hx hb (dt_bc_MO_fillWindow 28 rfl) (by decide) ?_
            refine lv_iload hx hb (dt_bc_MO_fillWindow 29 rfl) (lv_at hl 5 rfl) ?_
            refine lv_imul hx hb (dt_bc_MO_fillWindow 30 rfl) ?_
            refine lv_iload hx hb (dt_bc_MO_fillWindow 31 rfl) (lv_at hl 7 rfl) ?_
            refine lv_iadd hx hb (dt_bc_MO_fillWindow 32 rfl) ?_
            refine lv_aload_n hx hb (dt_bc_MO_fillWindow 33 rfl) rfl (lv_at hl 2 rfl) ?_
            refine lv_bipush (v := 16) hx hb (dt_bc_MO_fillWindow 34 rfl) (by decide) ?_
            refine lv_iload hx hb (dt_bc_MO_fillWindow 35 rfl) (lv_at hl 6 rfl) ?_
            refine lv_imul hx hb (dt_bc_MO_fillWindow 36 rfl) ?_
            refine lv_iload hx hb (dt_bc_MO_fillWindow 37 rfl) (lv_at hl 0 rfl) ?_
            refine lv_iadd hx hb (dt_bc_MO_fillWindow 38 rfl) ?_
            obtain ⟨hg2, h⟩ := bp_g_s h
            obtain ⟨hg3, h⟩ := bp_gi_s h
            refine bc_lI E hx hb hK hP (bc_gisI E hg2) hg3 (dt_bc_MO_fillWindow 39 rfl) ?_
            obtain ⟨hg4, h⟩ := bp_gi_s h
            refine bc_sI E hx hb hK hP hD hS (bc_ga17 E) hg4 (dt_bc_MO_fillWindow 40 rfl) (fun m5 em5 H locs hP hD hS => ?_)
            replace h := bp_nM_s h em5
            obtain ⟨y6, ey6⟩ : ∃ z : Int32, z = x6 + 1 := ⟨_, rfl⟩
            replace h := bp_nI_s h ey6
            refine lv_iinc (k := 7) (v := y6) hx hb (dt_bc_MO_fillWindow 41 rfl) hl rfl (by rw [ey6]; rfl) (Nat.le_of_ble_eq_true rfl) rfl (fun ls hl => ?_)
            have hl : lv_has ls 8 [(6, .int y6), (7, .int y1), (0, .ref (E.2.1 7)), (1, .ref (E.2.1 a1)), (2, .int a2), (3, .int a3), (4, .int x4), (5, .int x5)] := hl
            refine lv_goto (tgt := 28) hx hb (dt_bc_MO_fillWindow 42 rfl) (by decide) ?_
            exact ih28 _ _ _ _ h ls H locs (lv_sub hl [2, 3, 4, 5, 6, 7, 0] rfl) hP hD hS
      intro x4 m h ls H locs hl hP hD hS
      rw [bc_MO_fillWindow_L3] at h
      refine lv_iload hx hb (dt_bc_MO_fillWindow 2 rfl) (lv_at hl 4 rfl) ?_
      refine lv_bipush (v := 9) hx hb (dt_bc_MO_fillWindow 3 rfl) (by decide) ?_
      refine lv_icmp_ge (tgt := 85) hx hb (dt_bc_MO_fillWindow 4 rfl) (by decide) (fun hc => ?_) (fun hc => ?_)
      · replace h := (if_pos hc).symm.trans h
        exact hL85 _ h ls H locs (lv_sub hl [] rfl) hP hD hS
      · replace h := (if_neg hc).symm.trans h
        refine lv_iconst (v := 0) hx hb (dt_bc_MO_fillWindow 5 rfl) (by decide) ?_
        refine lv_bipush (v := 15) hx hb (dt_bc_MO_fillWindow 6 rfl) (by decide) ?_
        refine lv_iload_n hx hb (dt_bc_MO_fillWindow 7 rfl) rfl (lv_at hl 3 rfl) ?_
        refine lv_iload hx hb (dt_bc_MO_fillWindow 8 rfl) (lv_at hl 4 rfl) ?_
        refine lv_iadd hx hb (dt_bc_MO_fillWindow 9 rfl) ?_
        refine va_mmin hx hb (hml.trans hl.1.symm) hown (htb _ tw_511) (htb _ tw_494) (htb _ tw_81) (htb _ tw_495) (Nat.le_of_ble_eq_true rfl) (Nat.le_of_ble_eq_true rfl) (Nat.zero_le _) (Nat.zero_le _) (dt_bc_MO_fillWindow 10 rfl) ?_
        refine va_mmax hx hb (hml.trans hl.1.symm) hown (htb _ tw_512) (htb _ tw_497) (htb _ tw_81) (htb _ tw_498) (Nat.le_of_ble_eq_true rfl) (Nat.le_of_ble_eq_true rfl) (Nat.zero_le _) (Nat.zero_le _) (dt_bc_MO_fillWindow 11 rfl) ?_
        refine lv_topi (fun y1 ey1 => ?_)
        replace h := bp_nI_s h ey1
        refine lv_istore hx hb (dt_bc_MO_fillWindow 12 rfl) hl (Nat.le_of_ble_eq_true rfl) rfl (fun ls hl => ?_)
        have hl : lv_has ls 8 [(5, .int y1), (0, .ref (E.2.1 7)), (1, .ref (E.2.1 a1)), (2, .int a2), (3, .int a3), (4, .int x4)] := hl
        refine lv_iconst (v := 0) hx hb (dt_bc_MO_fillWindow 13 rfl) (by decide) ?_
        refine lv_istore hx hb (dt_bc_MO_fillWindow 14 rfl) hl (Nat.le_of_ble_eq_true rfl) rfl (fun ls hl => ?_)
        have hl : lv_has ls 8 [(6, .int 0), (5, .int y1), (0, .ref (E.2.1 7)), (1, .ref (E.2.1 a1)), (2, .int a2), (3, .int a3), (4, .int x4)] := hl
        exact hL28 _ _ _ _ _ h ls H locs (lv_sub hl [2, 3, 4, 5, 6, 1, 0] rfl) hP hD hS
  suffices hgo : ∀ (H : Heap) (locs : List Loc), va_P E.1 bp_cl (bc_W E m) H → va_D A (bc_W E m) → va_S A s.heap H locs → W p l e ({ frames := 1, cells := 0, slots := 0, locals := 40 }) s mt args below meth c H locs 0 0 Q (F0 mt 0 ls []) from hgo _ _ hP hD hS
  clear hP hD hS
  intro H locs hP hD hS
  unfold bc_MO_fillWindow at h
  refine lv_iconst (v := 0) hx hb (dt_bc_MO_fillWindow 0 rfl) (by decide) ?_
  refine lv_istore hx hb (dt_bc_MO_fillWindow 1 rfl) hl (Nat.le_of_ble_eq_true rfl) rfl (fun ls hl => ?_)
  have hl : lv_has ls 8 [(4, .int 0), (0, .ref (E.2.1 7)), (1, .ref (E.2.1 a1)), (2, .int a2), (3, .int a3)] := hl
  exact hL3 _ _ _ h ls H locs (lv_sub hl [1, 2, 3, 4, 0] rfl) hP hD hS
set_option maxHeartbeats 4000000 in
set_option maxRecDepth 100000 in
theorem wbc_MO_taps (l : Launch) (E : bc_E) (N : Nat) (a0 : Nat) (a1 : Int32) (a2 : Int32) (m : bp_M) (sz : Nat) (r : Int32) (mr : bp_M)  (h : bc_MO_taps N a0 a1 a2 m = some (r, mr)) : Met l y_bc_MO_taps (Cond.code y_bc_MO_taps prog_5_method_5_code 3 (some .int) :: bp_tb) ({ frames := 0, cells := 0, slots := 0, locals := 0 }) (bc_Pc E m sz [.ref (E.2.1 a0), .int a1, .int a2]) (bc_Qi E m sz r mr) 0 0 (va_A (bc_W E m) sz) := by
  refine Met.ofW (cc := prog_5_method_5_code) (maxL := 3) (ret := (some .int)) (by decide) rfl ?_
  intro p e s mt args below meth c s₁ B hml hv
  obtain ⟨rfl, hsz, hP, hK, hD0, hst⟩ := hv
  have hx := B.exec
  have hb := B.bytes
  have hr := B.returns
  have htb : ∀ w ∈ bp_tb, w.before _ s = true := fun w hw => atoms_spec (ws := Cond.code y_bc_MO_taps prog_5_method_5_code 3 (some .int) :: bp_tb) B.pre w (List.mem_cons_of_mem _ hw)
  have hown : s.vm.findClass "BlockPictures$Motion" = some mt.cls := findClass_of_methodNamed B.named
  have hlocks := B.notSynchronized
  subst hsz
  have hD := hD0.self (sz := s.heap.size)
  generalize hAe : va_A (bc_W E m) s.heap.size = A at hD hst ⊢
  have hsub : ∀ (u : bp_M) (z q : Nat), s.heap.size ≤ z → va_A (bc_W E u) z q → A q := bc_sub hAe
  have hS : va_S A s.heap s.heap [] := va_S.rf
  have hl := lv_entry ([.ref (E.2.1 a0), .int a1, .int a2]) (n := 3) (Nat.le_of_ble_eq_true rfl)
  rw [lg_entry_eq]
  generalize (lg_sl ([.ref (E.2.1 a0), .int a1, .int a2]) ++ List.replicate (3 - (lg_sl ([.ref (E.2.1 a0), .int a1, .int a2])).length) Slot.unset).toArray = ls at hl ⊢
  have hl : lv_has ls 3 [(0, .ref (E.2.1 a0)), (1, .int a1), (2, .int a2)] := hl
  refine bc_keyI (R := ({ frames := 0, cells := 0, slots := 0, locals := 0 })) E hx hb hr hlocks hK hAe (fun Q hret => ?_)
  clear B hD0 hlocks hr
  generalize ([.ref (E.2.1 a0), .int a1, .int a2] : List Value).toArray = args at htb hret ⊢
  clear hAe
  suffices hgo : ∀ (H : Heap) (locs : List Loc), va_P E.1 bp_cl (bc_W E m) H → va_D A (bc_W E m) → va_S A s.heap H locs → W p l e ({ frames := 0, cells := 0, slots := 0, locals := 0 }) s mt args below meth c H locs 0 0 Q (F0 mt 0 ls []) from hgo _ _ hP hD hS
  clear hP hD hS
  intro H locs hP hD hS
  unfold bc_MO_taps at h
  refine lv_aload_n hx hb (dt_bc_MO_taps 0 rfl) rfl (lv_at hl 0 rfl) ?_
  refine lv_iload_n hx hb (dt_bc_MO_taps 1 rfl) rfl (lv_at hl 1 rfl) ?_
  refine lv_iconst (v := 2) hx hb (dt_bc_MO_taps 2 rfl) (by decide) ?_
  refine lv_iload_n hx hb (dt_bc_MO_taps 3 rfl) rfl (lv_at hl 2 rfl) ?_
  refine lv_imul hx hb (dt_bc_MO_taps 4 rfl) ?_
  refine lv_isub hx hb (dt_bc_MO_taps 5 rfl) ?_
  obtain ⟨hg1, h⟩ := bp_g_s h
  obtain ⟨hg2, h⟩ := bp_gi_s h
  refine bc_lI E hx hb hK hP (bc_gisI E hg1) hg2 (dt_bc_MO_taps 6 rfl) ?_
  refine lv_iconst (v := 5) hx hb (dt_bc_MO_taps 7 rfl) (by decide) ?_
  refine lv_aload_n hx hb (dt_bc_MO_taps 8 rfl) rfl (lv_at hl 0 rfl) ?_
  refine lv_iload_n hx hb (dt_bc_MO_taps 9 rfl) rfl (lv_at hl 1 rfl) ?_
  refine lv_iload_n hx hb (dt_bc_MO_taps 10 rfl) rfl (lv_at hl 2 rfl) ?_
  refine lv_isub hx hb (dt_bc_MO_taps 11 rfl) ?_
  obtain ⟨hg3, h⟩ := bp_g_s h
  obtain ⟨hg4, h⟩ := bp_gi_s h
  refine bc_lI E hx hb hK hP (bc_gisI E hg3) hg4 (dt_bc_MO_taps 12 rfl) ?_
  refine lv_imul hx hb (dt_bc_MO_taps 13 rfl) ?_
  refine lv_isub hx hb (dt_bc_MO_taps 14 rfl) ?_
  refine lv_bipush (v := 20) hx hb (dt_bc_MO_taps 15 rfl) (by decide) ?_
  refine lv_aload_n hx hb (dt_bc_MO_taps 16 rfl) rfl (lv_at hl 0 rfl) ?_
  refine lv_iload_n hx hb (dt_bc_MO_taps 17 rfl) rfl (lv_at hl 1 rfl) ?_
  obtain ⟨hg5, h⟩ := bp_g_s h
  obtain ⟨hg6, h⟩ := bp_gi_s h
  refine bc_lI E hx hb hK hP (bc_gisI E hg5) hg6 (dt_bc_MO_taps 18 rfl) ?_
  refine lv_imul hx hb (dt_bc_MO_taps 19 rfl) ?_
  refine lv_iadd hx hb (dt_bc_MO_taps 20 rfl) ?_
  refine lv_bipush (v := 20) hx hb (dt_bc_MO_taps 21 rfl) (by decide) ?_
  refine lv_aload_n hx hb (dt_bc_MO_taps 22 rfl) rfl (lv_at hl 0 rfl) ?_
  refine lv_iload_n hx hb (dt_bc_MO_taps 23 rfl) rfl (lv_at hl 1 rfl) ?_
  refine lv_iload_n hx hb (dt_bc_MO_taps 24 rfl) rfl (lv_at hl 2 rfl) ?_
  refine lv_iadd hx hb (dt_bc_MO_taps 25 rfl) ?_
  obtain ⟨hg7, h⟩ := bp_g_s h
  obtain ⟨hg8, h⟩ := bp_gi_s h
  refine bc_lI E hx hb hK hP (bc_gisI E hg7) hg8 (dt_bc_MO_taps 26 rfl) ?_
  refine lv_imul hx hb (dt_bc_MO_taps 27 rfl) ?_
  refine lv_iadd hx hb (dt_bc_MO_taps 28 rfl) ?_
  refine lv_iconst (v := 5) hx hb (dt_bc_MO_taps 29 rfl) (by decide) ?_
  refine lv_aload_n hx hb (dt_bc_MO_taps 30 rfl) rfl (lv_at hl 0 rfl) ?_
  refine lv_iload_n hx hb (dt_bc_MO_taps 31 rfl) rfl (lv_at hl 1 rfl) ?_
  refine lv_iconst (v := 2) hx hb (dt_bc_MO_taps 32 rfl) (by decide) ?_
  refine lv_iload_n hx hb (dt_bc_MO_taps 33 rfl) rfl (lv_at hl 2 rfl) ?_
  refine lv_imul hx hb (dt_bc_MO_taps 34 rfl) ?_
  refine lv_iadd hx hb (dt_bc_MO_taps 35 rfl) ?_
  obtain ⟨hg9, h⟩ := bp_g_s h
  obtain ⟨hg10, h⟩ := bp_gi_s h
  refine bc_lI E hx hb hK hP (bc_gisI E hg9) hg10 (dt_bc_MO_taps 36 rfl) ?_
  refine lv_imul hx hb (dt_bc_MO_taps 37 rfl) ?_
  refine lv_isub hx hb (dt_bc_MO_taps 38 rfl) ?_
  refine lv_aload_n hx hb (dt_bc_MO_taps 39 rfl) rfl (lv_at hl 0 rfl) ?_
  refine lv_iload_n hx hb (dt_bc_MO_taps 40 rfl) rfl (lv_at hl 1 rfl) ?_
  refine lv_iconst (v := 3) hx hb (dt_bc_MO_taps 41 rfl) (by decide) ?_
  refine lv_iload_n hx hb (dt_bc_MO_taps 42 rfl) rfl (lv_at hl 2 rfl) ?_
  refine lv_imul hx hb (dt_bc_MO_taps 43 rfl) ?_
  refine lv_iadd hx hb (dt_bc_MO_taps 44 rfl) ?_
  obtain ⟨hg11, h⟩ := bp_g_s h
  obtain ⟨hg12, h⟩ := bp_gi_s h
  refine bc_lI E hx hb hK hP (bc_gisI E hg11) hg12 (dt_bc_MO_taps 45 rfl) ?_
  refine lv_iadd hx hb (dt_bc_MO_taps 46 rfl) ?_
  exact hret _ _ _ _ _ _ h hP hD hS (dt_bc_MO_taps 47 rfl)
set_option maxHeartbeats 4000000 in
set_option maxRecDepth 100000 in
theorem wbc_MO_fillAcross (l : Launch) (E : bc_E) (N : Nat)  (m : bp_M) (sz : Nat) (mr : bp_M)  (h : bc_MO_fillAcross N m = some mr) : Met l y_bc_MO_fillAcross (Cond.code y_bc_MO_fillAcross prog_5_method_4_code 3 none :: bp_tb) ({ frames := 1, cells := 0, slots := 0, locals := 22 }) (bc_Pc E m sz [.ref (E.2.1 7)]) (bc_Qv E m sz mr) 0 0 (va_A (bc_W E m) sz) := by
  refine Met.ofW (cc := prog_5_method_4_code) (maxL := 3) (ret := none) (by decide) rfl ?_
  intro p e s mt args below meth c s₁ B hml hv
  obtain ⟨rfl, hsz, hP, hK, hD0, hst⟩ := hv
  have hx := B.exec
  have hb := B.bytes
  have hr := B.returns
  have htb : ∀ w ∈ bp_tb, w.before _ s = true := fun w hw => atoms_spec (ws := Cond.code y_bc_MO_fillAcross prog_5_method_4_code 3 none :: bp_tb) B.pre w (List.mem_cons_of_mem _ hw)
  have hown : s.vm.findClass "BlockPictures$Motion" = some mt.cls := findClass_of_methodNamed B.named
  have hlocks := B.notSynchronized
  subst hsz
  have hD := hD0.self (sz := s.heap.size)
  generalize hAe : va_A (bc_W E m) s.heap.size = A at hD hst ⊢
  have hsub : ∀ (u : bp_M) (z q : Nat), s.heap.size ≤ z → va_A (bc_W E u) z q → A q := bc_sub hAe
  have hS : va_S A s.heap s.heap [] := va_S.rf
  have hl := lv_entry ([.ref (E.2.1 7)]) (n := 3) (Nat.le_of_ble_eq_true rfl)
  rw [lg_entry_eq]
  generalize (lg_sl ([.ref (E.2.1 7)]) ++ List.replicate (3 - (lg_sl ([.ref (E.2.1 7)])).length) Slot.unset).toArray = ls at hl ⊢
  have hl : lv_has ls 3 [(0, .ref (E.2.1 7))] := hl
  refine bc_keyV (R := ({ frames := 1, cells := 0, slots := 0, locals := 22 })) E hx hb hr hlocks hK hAe (fun Q hret => ?_)
  clear B hD0 hlocks hr
  generalize ([.ref (E.2.1 7)] : List Value).toArray = args at htb hret ⊢
  clear hAe
  have hL53 : ∀ (m : bp_M), bc_MO_fillAcross_L53 N m = some mr → ∀ (ls : Array Slot) (H : Heap) (locs : List Loc), lv_has ls 3 [] → va_P E.1 bp_cl (bc_W E m) H → va_D A (bc_W E m) → va_S A s.heap H locs → W p l e ({ frames := 1, cells := 0, slots := 0, locals := 22 }) s mt args below meth c H locs 0 0 Q (F0 mt 53 ls []) := by
    intro m h ls H locs hl hP hD hS
    rw [bc_MO_fillAcross_L53] at h
    exact hret _ _ _ _ _ h hP hD hS (dt_bc_MO_fillAcross 33 rfl)
  have hL2 : ∀ (n2 : Nat) (x1 : Int32) (m : bp_M), bc_MO_fillAcross_L2 N n2 x1 m = some mr → ∀ (ls : Array Slot) (H : Heap) (locs : List Loc), lv_has ls 3 [(0, .ref (E.2.1 7)), (1, .int x1)] → va_P E.1 bp_cl (bc_W E m) H → va_D A (bc_W E m) → va_S A s.heap H locs → W p l e ({ frames := 1, cells := 0, slots := 0, locals := 22 }) s mt args below meth c H locs 0 0 Q (F0 mt 2 ls []) := by
    intro n2
    induction n2 with
    | zero =>
      intro x1 m h ls H locs hl hP hD hS
      rw [bc_MO_fillAcross_L2] at h
      cases h
    | succ n2 ih2 =>
      have hL47 : ∀ (x1 : Int32) (m : bp_M), bc_MO_fillAcross_L47 (bc_MO_fillAcross_L2 N n2) N x1 m = some mr → ∀ (ls : Array Slot) (H : Heap) (locs : List Loc), lv_has ls 3 [(0, .ref (E.2.1 7)), (1, .int x1)] → va_P E.1 bp_cl (bc_W E m) H → va_D A (bc_W E m) → va_S A s.heap H locs → W p l e ({ frames := 1, cells := 0, slots := 0, locals := 22 }) s mt args below meth c H locs 0 0 Q (F0 mt 47 ls []) := by
        intro x1 m h ls H locs hl hP hD hS
        rw [bc_MO_fillAcross_L47] at h
        obtain ⟨y1, ey1⟩ : ∃ z : Int32, z = x1 + 1 := ⟨_, rfl⟩
        replace h := bp_nI_s h ey1
        refine lv_iinc (k := 1) (v := y1) hx hb (dt_bc_MO_fillAcross 31 rfl) hl rfl (by rw [ey1]; rfl) (Nat.le_of_ble_eq_true rfl) rfl (fun ls hl => ?_)
        have hl : lv_has ls 3 [(1, .int y1), (0, .ref (E.2.1 7))] := hl
        refine lv_goto (tgt := 2) hx hb (dt_bc_MO_fillAcross 32 rfl) (by decide) ?_
        exact ih2 _ _ h ls H locs (lv_sub hl [1, 0] rfl) hP hD hS
      have hL10 : ∀ (n10 : Nat) (x1 : Int32) (x2 : Int32) (m : bp_M), bc_MO_fillAcross_L10 (bc_MO_fillAcross_L2 N n2) N n10 x1 x2 m = some mr → ∀ (ls : Array Slot) (H : Heap) (locs : List Loc), lv_has ls 3 [(0, .ref (E.2.1 7)), (1, .int x1), (2, .int x2)] → va_P E.1 bp_cl (bc_W E m) H → va_D A (bc_W E m) → va_S A s.heap H locs → W p l e ({ frames := 1, cells := 0, slots := 0, locals := 22 }) s mt args below meth c H locs 0 0 Q (F0 mt 10 ls []) := by
        intro n10
        induction n10 with
        | zero =>
          intro x1 x2 m h ls H locs hl hP hD hS
          rw [bc_MO_fillAcross_L10] at h
          cases h
        | succ n10 ih10 =>
          intro x1 x2 m h ls H locs hl hP hD hS
          rw [bc_MO_fillAcross_L10] at h
          refine lv_iload_n hx hb (dt_bc_MO_fillAcross 7 rfl) rfl (lv_at hl 2 rfl) ?_
          refine lv_iconst (v := 4) hx hb (dt_bc_MO_fillAcross 8 rfl) (by decide) ?_
          refine lv_icmp_ge (tgt := 47) hx hb (dt_bc_MO_fillAcross 9 rfl) (by decide) (fun hc => ?_) (fun hc => ?_)
          · replace h := (if_pos hc).symm.trans h
            exact hL47 _ _ h ls H locs (lv_sub hl [0, 1] rfl) hP hD hS
          · replace h := (if_neg hc).symm.trans h
            refine lv_aload_n hx hb (dt_bc_MO_fillAcross 10 rfl) rfl (lv_at hl 0 rfl) ?_
            refine va_get (D := E.1) (ci := 7) (v := .ref (E.2.1 18)) (C := "BlockPictures$Motion") (T := bF_MO) (N := 2) hx hb htb bc_in_MO hown hK hP 7 (bc_gMO E m) rfl 1 (by decide) (htb _ tw_253) (fun _ h9 => h9) rfl (dt_bc_MO_fillAcross 11 rfl) ?_
            refine lv_iconst (v := 4) hx hb (dt_bc_MO_fillAcross 12 rfl) (by decide) ?_
            refine lv_iload_n hx hb (dt_bc_MO_fillAcross 13 rfl) rfl (lv_at hl 1 rfl) ?_
            refine lv_imul hx hb (dt_bc_MO_fillAcross 14 rfl) ?_
            refine lv_iload_n hx hb (dt_bc_MO_fillAcross 15 rfl) rfl (lv_at hl 2 rfl) ?_
            refine lv_iadd hx hb (dt_bc_MO_fillAcross 16 rfl) ?_
            refine lv_aload_n hx hb (dt_bc_MO_fillAcross 17 rfl) rfl (lv_at hl 0 rfl) ?_
            refine va_get (D := E.1) (ci := 7) (v := .ref (E.2.1 17)) (C := "BlockPictures$Motion") (T := bF_MO) (N := 2) hx hb htb bc_in_MO hown hK hP 7 (bc_gMO E m) rfl 0 (by decide) (htb _ tw_252) (fun _ h9 => h9) rfl (dt_bc_MO_fillAcross 18 rfl) ?_
            refine lv_bipush (v := 9) hx hb (dt_bc_MO_fillAcross 19 rfl) (by decide) ?_
            refine lv_iload_n hx hb (dt_bc_MO_fillAcross 20 rfl) rfl (lv_at hl 1 rfl) ?_
            refine lv_imul hx hb (dt_bc_MO_fillAcross 21 rfl) ?_
            refine lv_iload_n hx hb (dt_bc_MO_fillAcross 22 rfl) rfl (lv_at hl 2 rfl) ?_
            refine lv_iadd hx hb (dt_bc_MO_fillAcross 23 rfl) ?_
            refine lv_iconst (v := 2) hx hb (dt_bc_MO_fillAcross 24 rfl) (by decide) ?_
            refine lv_iadd hx hb (dt_bc_MO_fillAcross 25 rfl) ?_
            refine lv_iconst (v := 1) hx hb (dt_bc_MO_fillAcross 26 rfl) (by decide) ?_
            obtain ⟨z2, m1, hm1, h⟩ := bp_cI_s h
            refine bc_callI E hsub hS (va_runS (As := [.ref (E.2.1 17), .int (((9 * x1 : Int32) + x2 : Int32) + 2 : Int32), .int 1]) (rest := [.int ((4 * x1 : Int32) + x2 : Int32), .ref (E.2.1 18)]) ⟨hx, hb, hml, hown, htb⟩ (wbc_MO_taps l E N 17 (((9 * x1 : Int32) + x2 : Int32) + 2 : Int32) 1 m H.size z2 m1 hm1) (va_cwS 3 htb (bp_goodW tw_517 tw_518 tw_76 tw_519) rfl rfl rfl hd_bc_MO_taps ⟨Nat.le_of_ble_eq_true rfl, Nat.le_of_ble_eq_true rfl⟩) (bc_preS E hsub hst hK hP hD hS _) rfl rfl hl.1 rfl (lv_room (Nat.le_of_ble_eq_true rfl)) (dt_bc_MO_fillAcross 27 rfl) ⟨Nat.zero_le _, Nat.zero_le _⟩) (fun H locs hP hD hS => ?_)
            obtain ⟨hg3, h⟩ := bp_gi_s h
            refine bc_sI E hx hb hK hP hD hS (bc_ga18 E) hg3 (dt_bc_MO_fillAcross 28 rfl) (fun m4 em4 H locs hP hD hS => ?_)
            replace h := bp_nM_s h em4
            obtain ⟨y5, ey5⟩ : ∃ z : Int32, z = x2 + 1 := ⟨_, rfl⟩
            replace h := bp_nI_s h ey5
            refine lv_iinc (k := 2) (v := y5) hx hb (dt_bc_MO_fillAcross 29 rfl) hl rfl (by rw [ey5]; rfl) (Nat.le_of_ble_eq_true rfl) rfl (fun ls hl => ?_)
            have hl : lv_has ls 3 [(2, .int y5), (0, .ref (E.2.1 7)), (1, .int x1)] := hl
            refine lv_goto (tgt := 10) hx hb (dt_bc_MO_fillAcross 30 rfl) (by decide) ?_
            exact ih10 _ _ _ h ls H locs (lv_sub hl [1, 2, 0] rfl) hP hD hS
      intro x1 m h ls H locs hl hP hD hS
      rw [bc_MO_fillAcross_L2] at h
      refine lv_iload_n hx hb (dt_bc_MO_fillAcross 2 rfl) rfl (lv_at hl 1 rfl) ?_
      refine lv_bipush (v := 9) hx hb (dt_bc_MO_fillAcross 3 rfl) (by decide) ?_
      refine lv_icmp_ge (tgt := 53) hx hb (dt_bc_MO_fillAcross 4 rfl) (by decide) (fun hc => ?_) (fun hc => ?_)
      · replace h := (if_pos hc).symm.trans h
        exact hL53 _ h ls H locs (lv_sub hl [] rfl) hP hD hS
      · replace h := (if_neg hc).symm.trans h
        refine lv_iconst (v := 0) hx hb (dt_bc_MO_fillAcross 5 rfl) (by decide) ?_
        refine lv_istore_n hx hb (dt_bc_MO_fillAcross 6 rfl) rfl hl (Nat.le_of_ble_eq_true rfl) rfl (fun ls hl => ?_)
        have hl : lv_has ls 3 [(2, .int 0), (0, .ref (E.2.1 7)), (1, .int x1)] := hl
        exact hL10 _ _ _ _ h ls H locs (lv_sub hl [1, 2, 0] rfl) hP hD hS
  suffices hgo : ∀ (H : Heap) (locs : List Loc), va_P E.1 bp_cl (bc_W E m) H → va_D A (bc_W E m) → va_S A s.heap H locs → W p l e ({ frames := 1, cells := 0, slots := 0, locals := 22 }) s mt args below meth c H locs 0 0 Q (F0 mt 0 ls []) from hgo _ _ hP hD hS
  clear hP hD hS
  intro H locs hP hD hS
  unfold bc_MO_fillAcross at h
  refine lv_iconst (v := 0) hx hb (dt_bc_MO_fillAcross 0 rfl) (by decide) ?_
  refine lv_istore_n hx hb (dt_bc_MO_fillAcross 1 rfl) rfl hl (Nat.le_of_ble_eq_true rfl) rfl (fun ls hl => ?_)
  have hl : lv_has ls 3 [(1, .int 0), (0, .ref (E.2.1 7))] := hl
  exact hL2 _ _ _ h ls H locs (lv_sub hl [1, 0] rfl) hP hD hS
set_option maxHeartbeats 4000000 in
set_option maxRecDepth 100000 in
theorem wbc_BP_limit (l : Launch) (E : bc_E) (N : Nat) (a0 : Int32) (m : bp_M) (sz : Nat) (r : Int32) (mr : bp_M)  (h : bc_BP_limit N a0 m = some (r, mr)) : Met l y_bc_BP_limit (Cond.code y_bc_BP_limit prog_1_method_22_code 1 (some .int) :: bp_tb) ({ frames := 0, cells := 0, slots := 0, locals := 0 }) (bc_Pc E m sz [.int a0]) (bc_Qi E m sz r mr) 0 0 (va_A (bc_W E m) sz) := by
  refine Met.ofW (cc := prog_1_method_22_code) (maxL := 1) (ret := (some .int)) (by decide) rfl ?_
  intro p e s mt args below meth c s₁ B hml hv
  obtain ⟨rfl, hsz, hP, hK, hD0, hst⟩ := hv
  have hx := B.exec
  have hb := B.bytes
  have hr := B.returns
  have htb : ∀ w ∈ bp_tb, w.before _ s = true := fun w hw => atoms_spec (ws := Cond.code y_bc_BP_limit prog_1_method_22_code 1 (some .int) :: bp_tb) B.pre w (List.mem_cons_of_mem _ hw)
  have hown : s.vm.findClass "BlockPictures" = some mt.cls := findClass_of_methodNamed B.named
  have hlocks := B.notSynchronized
  subst hsz
  have hD := hD0.self (sz := s.heap.size)
  generalize hAe : va_A (bc_W E m) s.heap.size = A at hD hst ⊢
  have hsub : ∀ (u : bp_M) (z q : Nat), s.heap.size ≤ z → va_A (bc_W E u) z q → A q := bc_sub hAe
  have hS : va_S A s.heap s.heap [] := va_S.rf
  have hl := lv_entry ([.int a0]) (n := 1) (Nat.le_of_ble_eq_true rfl)
  rw [lg_entry_eq]
  generalize (lg_sl ([.int a0]) ++ List.replicate (1 - (lg_sl ([.int a0])).length) Slot.unset).toArray = ls at hl ⊢
  have hl : lv_has ls 1 [(0, .int a0)] := hl
  refine bc_keyI (R := ({ frames := 0, cells := 0, slots := 0, locals := 0 })) E hx hb hr hlocks hK hAe (fun Q hret => ?_)
  clear B hD0 hlocks hr
  generalize ([.int a0] : List Value).toArray = args at htb hret ⊢
  clear hAe
  have hL22 : ∀ (s0 : Int32) (m : bp_M), bc_BP_limit_L22 N a0 s0 m = some (r, mr) → ∀ (ls : Array Slot) (H : Heap) (locs : List Loc), lv_has ls 1 [] → va_P E.1 bp_cl (bc_W E m) H → va_D A (bc_W E m) → va_S A s.heap H locs → W p l e ({ frames := 0, cells := 0, slots := 0, locals := 0 }) s mt args below meth c H locs 0 0 Q (F0 mt 22 ls [.int s0]) := by
    intro s0 m h ls H locs hl hP hD hS
    rw [bc_BP_limit_L22] at h
    exact hret _ _ _ _ _ _ h hP hD hS (dt_bc_BP_limit 10 rfl)
  suffices hgo : ∀ (H : Heap) (locs : List Loc), va_P E.1 bp_cl (bc_W E m) H → va_D A (bc_W E m) → va_S A s.heap H locs → W p l e ({ frames := 0, cells := 0, slots := 0, locals := 0 }) s mt args below meth c H locs 0 0 Q (F0 mt 0 ls []) from hgo _ _ hP hD hS
  clear hP hD hS
  intro H locs hP hD hS
  unfold bc_BP_limit at h
  refine lv_iload_n hx hb (dt_bc_BP_limit 0 rfl) rfl (lv_at hl 0 rfl) ?_
  refine lv_if_ge (tgt := 8) hx hb (dt_bc_BP_limit 1 rfl) (by decide) (fun hc => ?_) (fun hc => ?_)
  · replace h := (if_pos hc).symm.trans h
    refine lv_iload_n hx hb (dt_bc_BP_limit 4 rfl) rfl (lv_at hl 0 rfl) ?_
    refine lv_sipush (v := 255) hx hb (dt_bc_BP_limit 5 rfl) (by decide) ?_
    refine lv_icmp_le (tgt := 21) hx hb (dt_bc_BP_limit 6 rfl) (by decide) (fun hc => ?_) (fun hc => ?_)
    · replace h := (if_pos hc).symm.trans h
      refine lv_iload_n hx hb (dt_bc_BP_limit 9 rfl) rfl (lv_at hl 0 rfl) ?_
      exact hL22 _ _ h ls H locs (lv_sub hl [] rfl) hP hD hS
    · replace h := (if_neg hc).symm.trans h
      refine lv_sipush (v := 255) hx hb (dt_bc_BP_limit 7 rfl) (by decide) ?_
      refine lv_goto (tgt := 22) hx hb (dt_bc_BP_limit 8 rfl) (by decide) ?_
      exact hL22 _ _ h ls H locs (lv_sub hl [] rfl) hP hD hS
  · replace h := (if_neg hc).symm.trans h
    refine lv_iconst (v := 0) hx hb (dt_bc_BP_limit 2 rfl) (by decide) ?_
    refine lv_goto (tgt := 22) hx hb (dt_bc_BP_limit 3 rfl) (by decide) ?_
    exact hL22 _ _ h ls H locs (lv_sub hl [] rfl) hP hD hS
set_option maxHeartbeats 4000000 in
set_option maxRecDepth 100000 in
theorem wbc_BP_sampleNumber (l : Launch) (E : bc_E) (N : Nat) (a0 : Int32) (a1 : Int32) (m : bp_M) (sz : Nat) (r : Int32) (mr : bp_M)  (h : bc_BP_sampleNumber N a0 a1 m = some (r, mr)) : Met l y_bc_BP_sampleNumber (Cond.code y_bc_BP_sampleNumber prog_1_method_23_code 2 (some .int) :: bp_tb) ({ frames := 0, cells := 0, slots := 0, locals := 0 }) (bc_Pc E m sz [.int a0, .int a1]) (bc_Qi E m sz r mr) 0 0 (va_A (bc_W E m) sz) := by
  refine Met.ofW (cc := prog_1_method_23_code) (maxL := 2) (ret := (some .int)) (by decide) rfl ?_
  intro p e s mt args below meth c s₁ B hml hv
  obtain ⟨rfl, hsz, hP, hK, hD0, hst⟩ := hv
  have hx := B.exec
  have hb := B.bytes
  have hr := B.returns
  have htb : ∀ w ∈ bp_tb, w.before _ s = true := fun w hw => atoms_spec (ws := Cond.code y_bc_BP_sampleNumber prog_1_method_23_code 2 (some .int) :: bp_tb) B.pre w (List.mem_cons_of_mem _ hw)
  have hown : s.vm.findClass "BlockPictures" = some mt.cls := findClass_of_methodNamed B.named
  have hlocks := B.notSynchronized
  subst hsz
  have hD := hD0.self (sz := s.heap.size)
  generalize hAe : va_A (bc_W E m) s.heap.size = A at hD hst ⊢
  have hsub : ∀ (u : bp_M) (z q : Nat), s.heap.size ≤ z → va_A (bc_W E u) z q → A q := bc_sub hAe
  have hS : va_S A s.heap s.heap [] := va_S.rf
  have hl := lv_entry ([.int a0, .int a1]) (n := 2) (Nat.le_of_ble_eq_true rfl)
  rw [lg_entry_eq]
  generalize (lg_sl ([.int a0, .int a1]) ++ List.replicate (2 - (lg_sl ([.int a0, .int a1])).length) Slot.unset).toArray = ls at hl ⊢
  have hl : lv_has ls 2 [(0, .int a0), (1, .int a1)] := hl
  refine bc_keyI (R := ({ frames := 0, cells := 0, slots := 0, locals := 0 })) E hx hb hr hlocks hK hAe (fun Q hret => ?_)
  clear B hD0 hlocks hr
  generalize ([.int a0, .int a1] : List Value).toArray = args at htb hret ⊢
  clear hAe
  suffices hgo : ∀ (H : Heap) (locs : List Loc), va_P E.1 bp_cl (bc_W E m) H → va_D A (bc_W E m) → va_S A s.heap H locs → W p l e ({ frames := 0, cells := 0, slots := 0, locals := 0 }) s mt args below meth c H locs 0 0 Q (F0 mt 0 ls []) from hgo _ _ hP hD hS
  clear hP hD hS
  intro H locs hP hD hS
  unfold bc_BP_sampleNumber at h
  refine lv_bipush (v := 16) hx hb (dt_bc_BP_sampleNumber 0 rfl) (by decide) ?_
  refine lv_iconst (v := 4) hx hb (dt_bc_BP_sampleNumber 1 rfl) (by decide) ?_
  refine lv_iload_n hx hb (dt_bc_BP_sampleNumber 2 rfl) rfl (lv_at hl 0 rfl) ?_
  refine lv_iconst (v := 4) hx hb (dt_bc_BP_sampleNumber 3 rfl) (by decide) ?_
  refine lv_idiv hx hb (dt_bc_BP_sampleNumber 4 rfl) (by decide) ?_
  refine lv_imul hx hb (dt_bc_BP_sampleNumber 5 rfl) ?_
  refine lv_iload_n hx hb (dt_bc_BP_sampleNumber 6 rfl) rfl (lv_at hl 1 rfl) ?_
  refine lv_iconst (v := 4) hx hb (dt_bc_BP_sampleNumber 7 rfl) (by decide) ?_
  refine lv_idiv hx hb (dt_bc_BP_sampleNumber 8 rfl) (by decide) ?_
  refine lv_iadd hx hb (dt_bc_BP_sampleNumber 9 rfl) ?_
  refine lv_imul hx hb (dt_bc_BP_sampleNumber 10 rfl) ?_
  refine lv_iconst (v := 4) hx hb (dt_bc_BP_sampleNumber 11 rfl) (by decide) ?_
  refine lv_iload_n hx hb (dt_bc_BP_sampleNumber 12 rfl) rfl (lv_at hl 0 rfl) ?_
  refine lv_iconst (v := 4) hx hb (dt_bc_BP_sampleNumber 13 rfl) (by decide) ?_
  refine lv_irem hx hb (dt_bc_BP_sampleNumber 14 rfl) (by decide) ?_
  refine lv_imul hx hb (dt_bc_BP_sampleNumber 15 rfl) ?_
  refine lv_iadd hx hb (dt_bc_BP_sampleNumber 16 rfl) ?_
  refine lv_iload_n hx hb (dt_bc_BP_sampleNumber 17 rfl) rfl (lv_at hl 1 rfl) ?_
  refine lv_iconst (v := 4) hx hb (dt_bc_BP_sampleNumber 18 rfl) (by decide) ?_
  refine lv_irem hx hb (dt_bc_BP_sampleNumber 19 rfl) (by decide) ?_
  refine lv_iadd hx hb (dt_bc_BP_sampleNumber 20 rfl) ?_
  exact hret _ _ _ _ _ _ h hP hD hS (dt_bc_BP_sampleNumber 21 rfl)
set_option maxHeartbeats 4000000 in
set_option maxRecDepth 100000 in
theorem wbc_MO_predict (l : Launch) (E : bc_E) (N : Nat) (a1 : Nat) (a2 : Nat) (a3 : Int32) (a4 : Int32) (a5 : Int32) (m : bp_M) (sz : Nat) (mr : bp_M) (hp_a1 : isPI a1) (hp_a2 : isPI a2) (h : bc_MO_predict N a1 a2 a3 a4 a5 m = some mr) : Met l y_bc_MO_predict (Cond.code y_bc_MO_predict prog_5_method_2_code 13 none :: bp_tb) ({ frames := 2, cells := 0, slots := 0, locals := 67 }) (bc_Pc E m sz [.ref (E.2.1 7), .ref (E.2.1 a1), .ref (E.2.1 a2), .int a3, .int a4, .int a5]) (bc_Qv E m sz mr) 0 0 (va_A (bc_W E m) sz) := by
  refine Met.ofW (cc := prog_5_method_2_code) (maxL := 13) (ret := none) (by decide) rfl ?_
  intro p e s mt args below meth c s₁ B hml hv
  obtain ⟨rfl, hsz, hP, hK, hD0, hst⟩ := hv
  have hx := B.exec
  have hb := B.bytes
  have hr := B.returns
  have htb : ∀ w ∈ bp_tb, w.before _ s = true := fun w hw => atoms_spec (ws := Cond.code y_bc_MO_predict prog_5_method_2_code 13 none :: bp_tb) B.pre w (List.mem_cons_of_mem _ hw)
  have hown : s.vm.findClass "BlockPictures$Motion" = some mt.cls := findClass_of_methodNamed B.named
  have hlocks := B.notSynchronized
  subst hsz
  have hD := hD0.self (sz := s.heap.size)
  generalize hAe : va_A (bc_W E m) s.heap.size = A at hD hst ⊢
  have hsub : ∀ (u : bp_M) (z q : Nat), s.heap.size ≤ z → va_A (bc_W E u) z q → A q := bc_sub hAe
  have hS : va_S A s.heap s.heap [] := va_S.rf
  have hl := lv_entry ([.ref (E.2.1 7), .ref (E.2.1 a1), .ref (E.2.1 a2), .int a3, .int a4, .int a5]) (n := 13) (Nat.le_of_ble_eq_true rfl)
  rw [lg_entry_eq]
  generalize (lg_sl ([.ref (E.2.1 7), .ref (E.2.1 a1), .ref (E.2.1 a2), .int a3, .int a4, .int a5]) ++ List.replicate (13 - (lg_sl ([.ref (E.2.1 7), .ref (E.2.1 a1), .ref (E.2.1 a2), .int a3, .int a4, .int a5])).length) Slot.unset).toArray = ls at hl ⊢
  have hl : lv_has ls 13 [(0, .ref (E.2.1 7)), (1, .ref (E.2.1 a1)), (2, .ref (E.2.1 a2)), (3, .int a3), (4, .int a4), (5, .int a5)] := hl
  refine bc_keyV (R := ({ frames := 2, cells := 0, slots := 0, locals := 67 })) E hx hb hr hlocks hK hAe (fun Q hret => ?_)
  clear B hD0 hlocks hr
  generalize ([.ref (E.2.1 7), .ref (E.2.1 a1), .ref (E.2.1 a2), .int a3, .int a4, .int a5] : List Value).toArray = args at htb hret ⊢
  clear hAe
  have hL236 : ∀ (m : bp_M), bc_MO_predict_L236 N a1 a2 a3 a4 a5 m = some mr → ∀ (ls : Array Slot) (H : Heap) (locs : List Loc), lv_has ls 13 [] → va_P E.1 bp_cl (bc_W E m) H → va_D A (bc_W E m) → va_S A s.heap H locs → W p l e ({ frames := 2, cells := 0, slots := 0, locals := 67 }) s mt args below meth c H locs 0 0 Q (F0 mt 236 ls []) := by
    intro m h ls H locs hl hP hD hS
    rw [bc_MO_predict_L236] at h
    exact hret _ _ _ _ _ h hP hD hS (dt_bc_MO_predict 136 rfl)
  have hL79 : ∀ (n79 : Nat) (x6 : Int32) (x7 : Int32) (x8 : Int32) (m : bp_M), bc_MO_predict_L79 N a1 a2 a3 a4 a5 n79 x6 x7 x8 m = some mr → ∀ (ls : Array Slot) (H : Heap) (locs : List Loc), lv_has ls 13 [(0, .ref (E.2.1 7)), (2, .ref (E.2.1 a2)), (3, .int a3), (6, .int x6), (7, .int x7), (8, .int x8)] → va_P E.1 bp_cl (bc_W E m) H → va_D A (bc_W E m) → va_S A s.heap H locs → W p l e ({ frames := 2, cells := 0, slots := 0, locals := 67 }) s mt args below meth c H locs 0 0 Q (F0 mt 79 ls []) := by
    intro n79
    induction n79 with
    | zero =>
      intro x6 x7 x8 m h ls H locs hl hP hD hS
      rw [bc_MO_predict_L79] at h
      cases h
    | succ n79 ih79 =>
      have hL217 : ∀ (x6 : Int32) (x7 : Int32) (x8 : Int32) (x12 : Int32) (m : bp_M), bc_MO_predict_L217 (bc_MO_predict_L79 N a1 a2 a3 a4 a5 n79) N a1 a2 a3 a4 a5 x6 x7 x8 x12 m = some mr → ∀ (ls : Array Slot) (H : Heap) (locs : List Loc), lv_has ls 13 [(0, .ref (E.2.1 7)), (2, .ref (E.2.1 a2)), (3, .int a3), (6, .int x6), (7, .int x7), (8, .int x8), (12, .int x12)] → va_P E.1 bp_cl (bc_W E m) H → va_D A (bc_W E m) → va_S A s.heap H locs → W p l e ({ frames := 2, cells := 0, slots := 0, locals := 67 }) s mt args below meth c H locs 0 0 Q (F0 mt 217 ls []) := by
        intro x6 x7 x8 x12 m h ls H locs hl hP hD hS
        rw [bc_MO_predict_L217] at h
        refine lv_aload_n hx hb (dt_bc_MO_predict 127 rfl) rfl (lv_at hl 1 rfl) ?_
        refine va_get (D := E.1) (ci := 9) (v := .ref (E.2.1 (a2 + 24))) (C := "BlockPictures$Picture") (T := bF_PI) (N := 4) hx hb htb bc_in_PI hown hK hP a2 (bc_gPI E m hp_a2) rfl 0 (by decide) (htb _ tw_184) (fun _ h9 => h9) rfl (dt_bc_MO_predict 128 rfl) ?_
        refine lv_iload_n hx hb (dt_bc_MO_predict 129 rfl) rfl (lv_at hl 2 rfl) ?_
        refine lv_iload hx hb (dt_bc_MO_predict 130 rfl) (lv_at hl 5 rfl) ?_
        obtain ⟨z2, m1, hm1, h⟩ := bp_cI_s h
        refine bc_callI E hsub hS (va_runSN (As := [.int a3, .int x8]) (rest := [.ref (E.2.1 (a2 + 24))]) ⟨hx, hb, hml, hown, htb⟩ (wbc_BP_sampleNumber l E N a3 x8 m H.size z2 m1 hm1) ⟨va_cnB 2 htb (bp_good tw_525) rfl rfl rfl (hst.1 _ (List.mem_of_getElem? (i := 9) rfl)) (htb _ tw_69) hd_bc_BP_sampleNumber ⟨Nat.le_of_ble_eq_true rfl, Nat.le_of_ble_eq_true rfl⟩, htb _ tw_524, trivial⟩ (bc_preS E hsub hst hK hP hD hS _) rfl rfl hl.1 rfl (lv_room (Nat.le_of_ble_eq_true rfl)) (dt_bc_MO_predict 131 rfl) ⟨Nat.zero_le _, Nat.zero_le _⟩) (fun H locs hP hD hS => ?_)
        refine lv_iload hx hb (dt_bc_MO_predict 132 rfl) (lv_at hl 6 rfl) ?_
        obtain ⟨hg3, h⟩ := bp_gi_s h
        refine bc_sI E hx hb hK hP hD hS (bc_gps E hp_a2) hg3 (dt_bc_MO_predict 133 rfl) (fun m4 em4 H locs hP hD hS => ?_)
        replace h := bp_nM_s h em4
        obtain ⟨y5, ey5⟩ : ∃ z : Int32, z = x8 + 1 := ⟨_, rfl⟩
        replace h := bp_nI_s h ey5
        refine lv_iinc (k := 5) (v := y5) hx hb (dt_bc_MO_predict 134 rfl) hl rfl (by rw [ey5]; rfl) (Nat.le_of_ble_eq_true rfl) rfl (fun ls hl => ?_)
        have hl : lv_has ls 13 [(8, .int y5), (0, .ref (E.2.1 7)), (2, .ref (E.2.1 a2)), (3, .int a3), (6, .int x6), (7, .int x7), (12, .int x12)] := hl
        refine lv_goto (tgt := 79) hx hb (dt_bc_MO_predict 135 rfl) (by decide) ?_
        exact ih79 _ _ _ _ h ls H locs (lv_sub hl [1, 2, 3, 4, 5, 0] rfl) hP hD hS
      have hL163 : ∀ (x6 : Int32) (x7 : Int32) (x8 : Int32) (x11 : Int32) (x12 : Int32) (m : bp_M), bc_MO_predict_L163 (bc_MO_predict_L79 N a1 a2 a3 a4 a5 n79) N a1 a2 a3 a4 a5 x6 x7 x8 x11 x12 m = some mr → ∀ (ls : Array Slot) (H : Heap) (locs : List Loc), lv_has ls 13 [(0, .ref (E.2.1 7)), (2, .ref (E.2.1 a2)), (3, .int a3), (6, .int x6), (7, .int x7), (8, .int x8), (11, .int x11), (12, .int x12)] → va_P E.1 bp_cl (bc_W E m) H → va_D A (bc_W E m) → va_S A s.heap H locs → W p l e ({ frames := 2, cells := 0, slots := 0, locals := 67 }) s mt args below meth c H locs 0 0 Q (F0 mt 163 ls []) := by
        intro x6 x7 x8 x11 x12 m h ls H locs hl hP hD hS
        rw [bc_MO_predict_L163] at h
        refine lv_iload hx hb (dt_bc_MO_predict 100 rfl) (lv_at hl 3 rfl) ?_
        refine lv_if_eq (tgt := 191) hx hb (dt_bc_MO_predict 101 rfl) (by decide) (fun hc => ?_) (fun hc => ?_)
        · replace h := (if_pos hc).symm.trans h
          refine lv_iload hx hb (dt_bc_MO_predict 114 rfl) (lv_at hl 4 rfl) ?_
          refine lv_if_eq (tgt := 217) hx hb (dt_bc_MO_predict 115 rfl) (by decide) (fun hc => ?_) (fun hc => ?_)
          · replace h := (if_pos hc).symm.trans h
            exact hL217 _ _ _ _ _ h ls H locs (lv_sub hl [0, 1, 2, 3, 4, 5, 7] rfl) hP hD hS
          · replace h := (if_neg hc).symm.trans h
            refine lv_aload_n hx hb (dt_bc_MO_predict 116 rfl) rfl (lv_at hl 0 rfl) ?_
            refine va_get (D := E.1) (ci := 7) (v := .ref (E.2.1 17)) (C := "BlockPictures$Motion") (T := bF_MO) (N := 2) hx hb htb bc_in_MO hown hK hP 7 (bc_gMO E m) rfl 0 (by decide) (htb _ tw_252) (fun _ h9 => h9) rfl (dt_bc_MO_predict 117 rfl) ?_
            refine lv_iload hx hb (dt_bc_MO_predict 118 rfl) (lv_at hl 6 rfl) ?_
            refine lv_bipush (v := 9) hx hb (dt_bc_MO_predict 119 rfl) (by decide) ?_
            obtain ⟨z2, m1, hm1, h⟩ := bp_cI_s h
            refine bc_callI E hsub hS (va_runS (As := [.ref (E.2.1 17), .int x11, .int 9]) (rest := []) ⟨hx, hb, hml, hown, htb⟩ (wbc_MO_taps l E N 17 x11 9 m H.size z2 m1 hm1) (va_cwS 3 htb (bp_goodW tw_517 tw_518 tw_76 tw_519) rfl rfl rfl hd_bc_MO_taps ⟨Nat.le_of_ble_eq_true rfl, Nat.le_of_ble_eq_true rfl⟩) (bc_preS E hsub hst hK hP hD hS _) rfl rfl hl.1 rfl (lv_room (Nat.le_of_ble_eq_true rfl)) (dt_bc_MO_predict 120 rfl) ⟨Nat.zero_le _, Nat.zero_le _⟩) (fun H locs hP hD hS => ?_)
            refine lv_bipush (v := 16) hx hb (dt_bc_MO_predict 121 rfl) (by decide) ?_
            refine lv_iadd hx hb (dt_bc_MO_predict 122 rfl) ?_
            refine lv_iconst (v := 5) hx hb (dt_bc_MO_predict 123 rfl) (by decide) ?_
            refine lv_ishr hx hb (dt_bc_MO_predict 124 rfl) ?_
            obtain ⟨z4, m3, hm3, h⟩ := bp_cI_s h
            refine bc_callI E hsub hS (va_runSN (As := [.int ((z2 + 16 : Int32) >>> (5 &&& 31 : Int32) : Int32)]) (rest := []) ⟨hx, hb, hml, hown, htb⟩ (wbc_BP_limit l E N ((z2 + 16 : Int32) >>> (5 &&& 31 : Int32) : Int32) m1 H.size z4 m3 hm3) ⟨va_cnB 1 htb (bp_good tw_522) rfl rfl rfl (hst.1 _ (List.mem_of_getElem? (i := 8) rfl)) (htb _ tw_69) hd_bc_BP_limit ⟨Nat.le_of_ble_eq_true rfl, Nat.le_of_ble_eq_true rfl⟩, htb _ tw_521, trivial⟩ (bc_preS E hsub hst hK hP hD hS _) rfl rfl hl.1 rfl (lv_room (Nat.le_of_ble_eq_true rfl)) (dt_bc_MO_predict 125 rfl) ⟨Nat.zero_le _, Nat.zero_le _⟩) (fun H locs hP hD hS => ?_)
            refine lv_istore hx hb (dt_bc_MO_predict 126 rfl) hl (Nat.le_of_ble_eq_true rfl) rfl (fun ls hl => ?_)
            have hl : lv_has ls 13 [(12, .int z4), (0, .ref (E.2.1 7)), (2, .ref (E.2.1 a2)), (3, .int a3), (6, .int x6), (7, .int x7), (8, .int x8), (11, .int x11)] := hl
            exact hL217 _ _ _ _ _ h ls H locs (lv_sub hl [1, 2, 3, 4, 5, 6, 0] rfl) hP hD hS
        · replace h := (if_neg hc).symm.trans h
          refine lv_aload_n hx hb (dt_bc_MO_predict 102 rfl) rfl (lv_at hl 0 rfl) ?_
          refine va_get (D := E.1) (ci := 7) (v := .ref (E.2.1 17)) (C := "BlockPictures$Motion") (T := bF_MO) (N := 2) hx hb htb bc_in_MO hown hK hP 7 (bc_gMO E m) rfl 0 (by decide) (htb _ tw_252) (fun _ h9 => h9) rfl (dt_bc_MO_predict 103 rfl) ?_
          refine lv_iload hx hb (dt_bc_MO_predict 104 rfl) (lv_at hl 6 rfl) ?_
          refine lv_iconst (v := 1) hx hb (dt_bc_MO_predict 105 rfl) (by decide) ?_
          obtain ⟨z6, m5, hm5, h⟩ := bp_cI_s h
          refine bc_callI E hsub hS (va_runS (As := [.ref (E.2.1 17), .int x11, .int 1]) (rest := []) ⟨hx, hb, hml, hown, htb⟩ (wbc_MO_taps l E N 17 x11 1 m H.size z6 m5 hm5) (va_cwS 3 htb (bp_goodW tw_517 tw_518 tw_76 tw_519) rfl rfl rfl hd_bc_MO_taps ⟨Nat.le_of_ble_eq_true rfl, Nat.le_of_ble_eq_true rfl⟩) (bc_preS E hsub hst hK hP hD hS _) rfl rfl hl.1 rfl (lv_room (Nat.le_of_ble_eq_true rfl)) (dt_bc_MO_predict 106 rfl) ⟨Nat.zero_le _, Nat.zero_le _⟩) (fun H locs hP hD hS => ?_)
          refine lv_bipush (v := 16) hx hb (dt_bc_MO_predict 107 rfl) (by decide) ?_
          refine lv_iadd hx hb (dt_bc_MO_predict 108 rfl) ?_
          refine lv_iconst (v := 5) hx hb (dt_bc_MO_predict 109 rfl) (by decide) ?_
          refine lv_ishr hx hb (dt_bc_MO_predict 110 rfl) ?_
          obtain ⟨z8, m7, hm7, h⟩ := bp_cI_s h
          refine bc_callI E hsub hS (va_runSN (As := [.int ((z6 + 16 : Int32) >>> (5 &&& 31 : Int32) : Int32)]) (rest := []) ⟨hx, hb, hml, hown, htb⟩ (wbc_BP_limit l E N ((z6 + 16 : Int32) >>> (5 &&& 31 : Int32) : Int32) m5 H.size z8 m7 hm7) ⟨va_cnB 1 htb (bp_good tw_522) rfl rfl rfl (hst.1 _ (List.mem_of_getElem? (i := 8) rfl)) (htb _ tw_69) hd_bc_BP_limit ⟨Nat.le_of_ble_eq_true rfl, Nat.le_of_ble_eq_true rfl⟩, htb _ tw_521, trivial⟩ (bc_preS E hsub hst hK hP hD hS _) rfl rfl hl.1 rfl (lv_room (Nat.le_of_ble_eq_true rfl)) (dt_bc_MO_predict 111 rfl) ⟨Nat.zero_le _, Nat.zero_le _⟩) (fun H locs hP hD hS => ?_)
          refine lv_istore hx hb (dt_bc_MO_predict 112 rfl) hl (Nat.le_of_ble_eq_true rfl) rfl (fun ls hl => ?_)
          have hl : lv_has ls 13 [(12, .int z8), (0, .ref (E.2.1 7)), (2, .ref (E.2.1 a2)), (3, .int a3), (6, .int x6), (7, .int x7), (8, .int x8), (11, .int x11)] := hl
          refine lv_goto (tgt := 217) hx hb (dt_bc_MO_predict 113 rfl) (by decide) ?_
          exact hL217 _ _ _ _ _ h ls H locs (lv_sub hl [1, 2, 3, 4, 5, 6, 0] rfl) hP hD hS
      intro x6 x7 x8 m h ls H locs hl hP hD hS
      rw [bc_MO_predict_L79] at h
      refine lv_iload hx hb (dt_bc_MO_predict 52 rfl) (lv_at hl 5 rfl) ?_
      refine lv_bipush (v := 16) hx hb (dt_bc_MO_predict 53 rfl) (by decide) ?_
      refine lv_icmp_ge (tgt := 236) hx hb (dt_bc_MO_predict 54 rfl) (by decide) (fun hc => ?_) (fun hc => ?_)
      · replace h := (if_pos hc).symm.trans h
        exact hL236 _ h ls H locs (lv_sub hl [] rfl) hP hD hS
      · replace h := (if_neg hc).symm.trans h
        refine lv_iload hx hb (dt_bc_MO_predict 55 rfl) (lv_at hl 5 rfl) ?_
        refine lv_iconst (v := 4) hx hb (dt_bc_MO_predict 56 rfl) (by decide) ?_
        refine lv_irem hx hb (dt_bc_MO_predict 57 rfl) (by decide) ?_
        refine lv_topi (fun y1 ey1 => ?_)
        replace h := bp_nI_s h ey1
        refine lv_istore hx hb (dt_bc_MO_predict 58 rfl) hl (Nat.le_of_ble_eq_true rfl) rfl (fun ls hl => ?_)
        have hl : lv_has ls 13 [(9, .int y1), (0, .ref (E.2.1 7)), (2, .ref (E.2.1 a2)), (3, .int a3), (6, .int x6), (7, .int x7), (8, .int x8)] := hl
        refine lv_iload hx hb (dt_bc_MO_predict 59 rfl) (lv_at hl 6 rfl) ?_
        refine lv_iconst (v := 4) hx hb (dt_bc_MO_predict 60 rfl) (by decide) ?_
        refine lv_idiv hx hb (dt_bc_MO_predict 61 rfl) (by decide) ?_
        refine lv_topi (fun y2 ey2 => ?_)
        replace h := bp_nI_s h ey2
        refine lv_istore hx hb (dt_bc_MO_predict 62 rfl) hl (Nat.le_of_ble_eq_true rfl) rfl (fun ls hl => ?_)
        have hl : lv_has ls 13 [(10, .int y2), (9, .int y1), (0, .ref (E.2.1 7)), (2, .ref (E.2.1 a2)), (3, .int a3), (6, .int x6), (7, .int x7), (8, .int x8)] := hl
        refine lv_bipush (v := 9) hx hb (dt_bc_MO_predict 63 rfl) (by decide) ?_
        refine lv_iload hx hb (dt_bc_MO_predict 64 rfl) (lv_at hl 0 rfl) ?_
        refine lv_iconst (v := 2) hx hb (dt_bc_MO_predict 65 rfl) (by decide) ?_
        refine lv_iadd hx hb (dt_bc_MO_predict 66 rfl) ?_
        refine lv_imul hx hb (dt_bc_MO_predict 67 rfl) ?_
        refine lv_iload hx hb (dt_bc_MO_predict 68 rfl) (lv_at hl 1 rfl) ?_
        refine lv_iadd hx hb (dt_bc_MO_predict 69 rfl) ?_
        refine lv_iconst (v := 2) hx hb (dt_bc_MO_predict 70 rfl) (by decide) ?_
        refine lv_iadd hx hb (dt_bc_MO_predict 71 rfl) ?_
        refine lv_topi (fun y3 ey3 => ?_)
        replace h := bp_nI_s h ey3
        refine lv_istore hx hb (dt_bc_MO_predict 72 rfl) hl (Nat.le_of_ble_eq_true rfl) rfl (fun ls hl => ?_)
        have hl : lv_has ls 13 [(11, .int y3), (10, .int y2), (9, .int y1), (0, .ref (E.2.1 7)), (2, .ref (E.2.1 a2)), (3, .int a3), (6, .int x6), (7, .int x7), (8, .int x8)] := hl
        refine lv_aload_n hx hb (dt_bc_MO_predict 73 rfl) rfl (lv_at hl 3 rfl) ?_
        refine va_get (D := E.1) (ci := 7) (v := .ref (E.2.1 17)) (C := "BlockPictures$Motion") (T := bF_MO) (N := 2) hx hb htb bc_in_MO hown hK hP 7 (bc_gMO E m) rfl 0 (by decide) (htb _ tw_252) (fun _ h9 => h9) rfl (dt_bc_MO_predict 74 rfl) ?_
        refine lv_iload hx hb (dt_bc_MO_predict 75 rfl) (lv_at hl 0 rfl) ?_
        obtain ⟨hg4, h⟩ := bp_gi_s h
        refine bc_lI E hx hb hK hP (bc_ga17 E) hg4 (dt_bc_MO_predict 76 rfl) ?_
        refine lv_topi (fun y5 ey5 => ?_)
        replace h := bp_nI_s h ey5
        refine lv_istore hx hb (dt_bc_MO_predict 77 rfl) hl (Nat.le_of_ble_eq_true rfl) rfl (fun ls hl => ?_)
        have hl : lv_has ls 13 [(12, .int y5), (11, .int y3), (10, .int y2), (9, .int y1), (0, .ref (E.2.1 7)), (2, .ref (E.2.1 a2)), (3, .int a3), (6, .int x6), (7, .int x7), (8, .int x8)] := hl
        refine lv_iload hx hb (dt_bc_MO_predict 78 rfl) (lv_at hl 7 rfl) ?_
        refine lv_if_eq (tgt := 163) hx hb (dt_bc_MO_predict 79 rfl) (by decide) (fun hc => ?_) (fun hc => ?_)
        · replace h := (if_pos hc).symm.trans h
          exact hL163 _ _ _ _ _ _ h ls H locs (lv_sub hl [4, 5, 6, 7, 8, 9, 1, 0] rfl) hP hD hS
        · replace h := (if_neg hc).symm.trans h
          refine lv_iload hx hb (dt_bc_MO_predict 80 rfl) (lv_at hl 8 rfl) ?_
          refine lv_if_eq (tgt := 163) hx hb (dt_bc_MO_predict 81 rfl) (by decide) (fun hc => ?_) (fun hc => ?_)
          · replace h := (if_pos hc).symm.trans h
            exact hL163 _ _ _ _ _ _ h ls H locs (lv_sub hl [4, 5, 6, 7, 8, 9, 1, 0] rfl) hP hD hS
          · replace h := (if_neg hc).symm.trans h
            refine lv_aload_n hx hb (dt_bc_MO_predict 82 rfl) rfl (lv_at hl 4 rfl) ?_
            refine va_get (D := E.1) (ci := 7) (v := .ref (E.2.1 18)) (C := "BlockPictures$Motion") (T := bF_MO) (N := 2) hx hb htb bc_in_MO hown hK hP 7 (bc_gMO E m) rfl 1 (by decide) (htb _ tw_253) (fun _ h9 => h9) rfl (dt_bc_MO_predict 83 rfl) ?_
            refine lv_iconst (v := 4) hx hb (dt_bc_MO_predict 84 rfl) (by decide) ?_
            refine lv_iload hx hb (dt_bc_MO_predict 85 rfl) (lv_at hl 2 rfl) ?_
            refine lv_iconst (v := 2) hx hb (dt_bc_MO_predict 86 rfl) (by decide) ?_
            refine lv_iadd hx hb (dt_bc_MO_predict 87 rfl) ?_
            refine lv_imul hx hb (dt_bc_MO_predict 88 rfl) ?_
            refine lv_iload hx hb (dt_bc_MO_predict 89 rfl) (lv_at hl 3 rfl) ?_
            refine lv_iadd hx hb (dt_bc_MO_predict 90 rfl) ?_
            refine lv_iconst (v := 4) hx hb (dt_bc_MO_predict 91 rfl) (by decide) ?_
            obtain ⟨z7, m6, hm6, h⟩ := bp_cI_s h
            refine bc_callI E hsub hS (va_runS (As := [.ref (E.2.1 18), .int ((4 * (y2 + 2 : Int32) : Int32) + y1 : Int32), .int 4]) (rest := []) ⟨hx, hb, hml, hown, htb⟩ (wbc_MO_taps l E N 18 ((4 * (y2 + 2 : Int32) : Int32) + y1 : Int32) 4 m H.size z7 m6 hm6) (va_cwS 3 htb (bp_goodW tw_517 tw_518 tw_76 tw_519) rfl rfl rfl hd_bc_MO_taps ⟨Nat.le_of_ble_eq_true rfl, Nat.le_of_ble_eq_true rfl⟩) (bc_preS E hsub hst hK hP hD hS _) rfl rfl hl.1 rfl (lv_room (Nat.le_of_ble_eq_true rfl)) (dt_bc_MO_predict 92 rfl) ⟨Nat.zero_le _, Nat.zero_le _⟩) (fun H locs hP hD hS => ?_)
            refine lv_sipush (v := 512) hx hb (dt_bc_MO_predict 93 rfl) (by decide) ?_
            refine lv_iadd hx hb (dt_bc_MO_predict 94 rfl) ?_
            refine lv_bipush (v := 10) hx hb (dt_bc_MO_predict 95 rfl) (by decide) ?_
            refine lv_ishr hx hb (dt_bc_MO_predict 96 rfl) ?_
            obtain ⟨z9, m8, hm8, h⟩ := bp_cI_s h
            refine bc_callI E hsub hS (va_runSN (As := [.int ((z7 + 512 : Int32) >>> (10 &&& 31 : Int32) : Int32)]) (rest := []) ⟨hx, hb, hml, hown, htb⟩ (wbc_BP_limit l E N ((z7 + 512 : Int32) >>> (10 &&& 31 : Int32) : Int32) m6 H.size z9 m8 hm8) ⟨va_cnB 1 htb (bp_good tw_522) rfl rfl rfl (hst.1 _ (List.mem_of_getElem? (i := 8) rfl)) (htb _ tw_69) hd_bc_BP_limit ⟨Nat.le_of_ble_eq_true rfl, Nat.le_of_ble_eq_true rfl⟩, htb _ tw_521, trivial⟩ (bc_preS E hsub hst hK hP hD hS _) rfl rfl hl.1 rfl (lv_room (Nat.le_of_ble_eq_true rfl)) (dt_bc_MO_predict 97 rfl) ⟨Nat.zero_le _, Nat.zero_le _⟩) (fun H locs hP hD hS => ?_)
            refine lv_istore hx hb (dt_bc_MO_predict 98 rfl) hl (Nat.le_of_ble_eq_true rfl) rfl (fun ls hl => ?_)
            have hl : lv_has ls 13 [(12, .int z9), (11, .int y3), (10, .int y2), (9, .int y1), (0, .ref (E.2.1 7)), (2, .ref (E.2.1 a2)), (3, .int a3), (6, .int x6), (7, .int x7), (8, .int x8)] := hl
            refine lv_goto (tgt := 217) hx hb (dt_bc_MO_predict 99 rfl) (by decide) ?_
            exact hL217 _ _ _ _ _ h ls H locs (lv_sub hl [4, 5, 6, 7, 8, 9, 0] rfl) hP hD hS
  have hL76 : ∀ (x6 : Int32) (x7 : Int32) (m : bp_M), bc_MO_predict_L76 N a1 a2 a3 a4 a5 x6 x7 m = some mr → ∀ (ls : Array Slot) (H : Heap) (locs : List Loc), lv_has ls 13 [(0, .ref (E.2.1 7)), (2, .ref (E.2.1 a2)), (3, .int a3), (6, .int x6), (7, .int x7)] → va_P E.1 bp_cl (bc_W E m) H → va_D A (bc_W E m) → va_S A s.heap H locs → W p l e ({ frames := 2, cells := 0, slots := 0, locals := 67 }) s mt args below meth c H locs 0 0 Q (F0 mt 76 ls []) := by
    intro x6 x7 m h ls H locs hl hP hD hS
    rw [bc_MO_predict_L76] at h
    refine lv_iconst (v := 0) hx hb (dt_bc_MO_predict 50 rfl) (by decide) ?_
    refine lv_istore hx hb (dt_bc_MO_predict 51 rfl) hl (Nat.le_of_ble_eq_true rfl) rfl (fun ls hl => ?_)
    have hl : lv_has ls 13 [(8, .int 0), (0, .ref (E.2.1 7)), (2, .ref (E.2.1 a2)), (3, .int a3), (6, .int x6), (7, .int x7)] := hl
    exact hL79 _ _ _ _ _ h ls H locs (lv_sub hl [1, 2, 3, 4, 5, 0] rfl) hP hD hS
  have hL60 : ∀ (x6 : Int32) (s0 : Int32) (m : bp_M), bc_MO_predict_L60 N a1 a2 a3 a4 a5 x6 s0 m = some mr → ∀ (ls : Array Slot) (H : Heap) (locs : List Loc), lv_has ls 13 [(0, .ref (E.2.1 7)), (2, .ref (E.2.1 a2)), (3, .int a3), (6, .int x6)] → va_P E.1 bp_cl (bc_W E m) H → va_D A (bc_W E m) → va_S A s.heap H locs → W p l e ({ frames := 2, cells := 0, slots := 0, locals := 67 }) s mt args below meth c H locs 0 0 Q (F0 mt 60 ls [.int s0]) := by
    intro x6 s0 m h ls H locs hl hP hD hS
    rw [bc_MO_predict_L60] at h
    refine lv_istore hx hb (dt_bc_MO_predict 43 rfl) hl (Nat.le_of_ble_eq_true rfl) rfl (fun ls hl => ?_)
    have hl : lv_has ls 13 [(7, .int s0), (0, .ref (E.2.1 7)), (2, .ref (E.2.1 a2)), (3, .int a3), (6, .int x6)] := hl
    refine lv_iload hx hb (dt_bc_MO_predict 44 rfl) (lv_at hl 4 rfl) ?_
    refine lv_if_eq (tgt := 76) hx hb (dt_bc_MO_predict 45 rfl) (by decide) (fun hc => ?_) (fun hc => ?_)
    · replace h := (if_pos hc).symm.trans h
      exact hL76 _ _ _ h ls H locs (lv_sub hl [1, 2, 3, 4, 0] rfl) hP hD hS
    · replace h := (if_neg hc).symm.trans h
      refine lv_iload hx hb (dt_bc_MO_predict 46 rfl) (lv_at hl 0 rfl) ?_
      refine lv_if_eq (tgt := 76) hx hb (dt_bc_MO_predict 47 rfl) (by decide) (fun hc => ?_) (fun hc => ?_)
      · replace h := (if_pos hc).symm.trans h
        exact hL76 _ _ _ h ls H locs (lv_sub hl [1, 2, 3, 4, 0] rfl) hP hD hS
      · replace h := (if_neg hc).symm.trans h
        refine lv_aload_n hx hb (dt_bc_MO_predict 48 rfl) rfl (lv_at hl 1 rfl) ?_
        obtain ⟨m1, hm1, h⟩ := bp_cV_s h
        refine bc_callV E hsub hS (va_runV (As := []) (rest := []) ⟨hx, hb, hml, hown, htb⟩ (wbc_MO_fillAcross l E N  m H.size m1 hm1) (cwV 0 htb (bp_goodV tw_513 tw_515 tw_13 tw_76 tw_516) rfl rfl rfl ⟨rfl, hd_bc_MO_fillAcross⟩ ⟨Nat.le_of_ble_eq_true rfl, Nat.le_of_ble_eq_true rfl⟩) (bc_preV E hsub hst hK hP hD hS (bc_gMO E m) rfl rfl _) rfl rfl hl.1 rfl (lv_room (Nat.le_of_ble_eq_true rfl)) (dt_bc_MO_predict 49 rfl) ⟨Nat.zero_le _, Nat.zero_le _⟩) (fun H locs hP hD hS => ?_)
        exact hL76 _ _ _ h ls H locs (lv_sub hl [1, 2, 3, 4, 0] rfl) hP hD hS
  have hL45 : ∀ (s0 : Int32) (m : bp_M), bc_MO_predict_L45 N a1 a2 a3 a4 a5 s0 m = some mr → ∀ (ls : Array Slot) (H : Heap) (locs : List Loc), lv_has ls 13 [(0, .ref (E.2.1 7)), (2, .ref (E.2.1 a2)), (3, .int a3), (5, .int a5)] → va_P E.1 bp_cl (bc_W E m) H → va_D A (bc_W E m) → va_S A s.heap H locs → W p l e ({ frames := 2, cells := 0, slots := 0, locals := 67 }) s mt args below meth c H locs 0 0 Q (F0 mt 45 ls [.int s0]) := by
    intro s0 m h ls H locs hl hP hD hS
    rw [bc_MO_predict_L45] at h
    refine lv_istore hx hb (dt_bc_MO_predict 34 rfl) hl (Nat.le_of_ble_eq_true rfl) rfl (fun ls hl => ?_)
    have hl : lv_has ls 13 [(6, .int s0), (0, .ref (E.2.1 7)), (2, .ref (E.2.1 a2)), (3, .int a3), (5, .int a5)] := hl
    refine lv_iload hx hb (dt_bc_MO_predict 35 rfl) (lv_at hl 4 rfl) ?_
    refine lv_iconst (v := 1) hx hb (dt_bc_MO_predict 36 rfl) (by decide) ?_
    refine lv_iand hx hb (dt_bc_MO_predict 37 rfl) ?_
    refine lv_iconst (v := 1) hx hb (dt_bc_MO_predict 38 rfl) (by decide) ?_
    refine lv_icmp_ne (tgt := 59) hx hb (dt_bc_MO_predict 39 rfl) (by decide) (fun hc => ?_) (fun hc => ?_)
    · replace h := (if_pos hc).symm.trans h
      refine lv_iconst (v := 0) hx hb (dt_bc_MO_predict 42 rfl) (by decide) ?_
      exact hL60 _ _ _ h ls H locs (lv_sub hl [1, 2, 3, 0] rfl) hP hD hS
    · replace h := (if_neg (fun hn => hn hc)).symm.trans h
      refine lv_iconst (v := 1) hx hb (dt_bc_MO_predict 40 rfl) (by decide) ?_
      refine lv_goto (tgt := 60) hx hb (dt_bc_MO_predict 41 rfl) (by decide) ?_
      exact hL60 _ _ _ h ls H locs (lv_sub hl [1, 2, 3, 0] rfl) hP hD hS
  suffices hgo : ∀ (H : Heap) (locs : List Loc), va_P E.1 bp_cl (bc_W E m) H → va_D A (bc_W E m) → va_S A s.heap H locs → W p l e ({ frames := 2, cells := 0, slots := 0, locals := 67 }) s mt args below meth c H locs 0 0 Q (F0 mt 0 ls []) from hgo _ _ hP hD hS
  clear hP hD hS
  intro H locs hP hD hS
  unfold bc_MO_predict at h
  refine lv_aload_n hx hb (dt_bc_MO_predict 0 rfl) rfl (lv_at hl 0 rfl) ?_
  refine lv_aload_n hx hb (dt_bc_MO_predict 1 rfl) rfl (lv_at hl 1 rfl) ?_
  refine va_get (D := E.1) (ci := 9) (v := .ref (E.2.1 (a1 + 24))) (C := "BlockPictures$Picture") (T := bF_PI) (N := 4) hx hb htb bc_in_PI hown hK hP a1 (bc_gPI E m hp_a1) rfl 0 (by decide) (htb _ tw_184) (fun _ h9 => h9) rfl (dt_bc_MO_predict 2 rfl) ?_
  refine lv_iconst (v := 4) hx hb (dt_bc_MO_predict 3 rfl) (by decide) ?_
  refine lv_iload_n hx hb (dt_bc_MO_predict 4 rfl) rfl (lv_at hl 3 rfl) ?_
  refine lv_iconst (v := 4) hx hb (dt_bc_MO_predict 5 rfl) (by decide) ?_
  refine lv_irem hx hb (dt_bc_MO_predict 6 rfl) (by decide) ?_
  refine lv_imul hx hb (dt_bc_MO_predict 7 rfl) ?_
  refine lv_iload hx hb (dt_bc_MO_predict 8 rfl) (lv_at hl 4 rfl) ?_
  refine lv_iconst (v := 1) hx hb (dt_bc_MO_predict 9 rfl) (by decide) ?_
  refine lv_ishr hx hb (dt_bc_MO_predict 10 rfl) ?_
  refine lv_iadd hx hb (dt_bc_MO_predict 11 rfl) ?_
  refine lv_iconst (v := 2) hx hb (dt_bc_MO_predict 12 rfl) (by decide) ?_
  refine lv_isub hx hb (dt_bc_MO_predict 13 rfl) ?_
  refine lv_iconst (v := 4) hx hb (dt_bc_MO_predict 14 rfl) (by decide) ?_
  refine lv_iload_n hx hb (dt_bc_MO_predict 15 rfl) rfl (lv_at hl 3 rfl) ?_
  refine lv_iconst (v := 4) hx hb (dt_bc_MO_predict 16 rfl) (by decide) ?_
  refine lv_idiv hx hb (dt_bc_MO_predict 17 rfl) (by decide) ?_
  refine lv_imul hx hb (dt_bc_MO_predict 18 rfl) ?_
  refine lv_iload hx hb (dt_bc_MO_predict 19 rfl) (lv_at hl 5 rfl) ?_
  refine lv_iconst (v := 1) hx hb (dt_bc_MO_predict 20 rfl) (by decide) ?_
  refine lv_ishr hx hb (dt_bc_MO_predict 21 rfl) ?_
  refine lv_iadd hx hb (dt_bc_MO_predict 22 rfl) ?_
  refine lv_iconst (v := 2) hx hb (dt_bc_MO_predict 23 rfl) (by decide) ?_
  refine lv_isub hx hb (dt_bc_MO_predict 24 rfl) ?_
  obtain ⟨m1, hm1, h⟩ := bp_cV_s h
  refine bc_callV E hsub hS (va_runV (As := [.ref (E.2.1 (a1 + 24)), .int (((4 * (a3 - a3 / 4 * 4 : Int32) : Int32) + (a4 >>> (1 &&& 31 : Int32) : Int32) : Int32) - 2 : Int32), .int (((4 * (a3 / 4 : Int32) : Int32) + (a5 >>> (1 &&& 31 : Int32) : Int32) : Int32) - 2 : Int32)]) (rest := []) ⟨hx, hb, hml, hown, htb⟩ (wbc_MO_fillWindow l E N (a1 + 24) (((4 * (a3 - a3 / 4 * 4 : Int32) : Int32) + (a4 >>> (1 &&& 31 : Int32) : Int32) : Int32) - 2 : Int32) (((4 * (a3 / 4 : Int32) : Int32) + (a5 >>> (1 &&& 31 : Int32) : Int32) : Int32) - 2 : Int32) m H.size m1 hm1) (cwV 3 htb (bp_goodV tw_507 tw_509 tw_12 tw_76 tw_510) rfl rfl rfl ⟨rfl, hd_bc_MO_fillWindow⟩ ⟨Nat.le_of_ble_eq_true rfl, Nat.le_of_ble_eq_true rfl⟩) (bc_preV E hsub hst hK hP hD hS (bc_gMO E m) rfl rfl _) rfl rfl hl.1 rfl (lv_room (Nat.le_of_ble_eq_true rfl)) (dt_bc_MO_predict 25 rfl) ⟨Nat.zero_le _, Nat.zero_le _⟩) (fun H locs hP hD hS => ?_)
  refine lv_iload hx hb (dt_bc_MO_predict 26 rfl) (lv_at hl 4 rfl) ?_
  refine lv_iconst (v := 1) hx hb (dt_bc_MO_predict 27 rfl) (by decide) ?_
  refine lv_iand hx hb (dt_bc_MO_predict 28 rfl) ?_
  refine lv_iconst (v := 1) hx hb (dt_bc_MO_predict 29 rfl) (by decide) ?_
  refine lv_icmp_ne (tgt := 44) hx hb (dt_bc_MO_predict 30 rfl) (by decide) (fun hc => ?_) (fun hc => ?_)
  · replace h := (if_pos hc).symm.trans h
    refine lv_iconst (v := 0) hx hb (dt_bc_MO_predict 33 rfl) (by decide) ?_
    exact hL45 _ _ h ls H locs (lv_sub hl [0, 2, 3, 5] rfl) hP hD hS
  · replace h := (if_neg (fun hn => hn hc)).symm.trans h
    refine lv_iconst (v := 1) hx hb (dt_bc_MO_predict 31 rfl) (by decide) ?_
    refine lv_goto (tgt := 45) hx hb (dt_bc_MO_predict 32 rfl) (by decide) ?_
    exact hL45 _ _ h ls H locs (lv_sub hl [0, 2, 3, 5] rfl) hP hD hS
set_option maxHeartbeats 4000000 in
set_option maxRecDepth 100000 in
theorem wbc_BR_bits (l : Launch) (E : bc_E) (N : Nat) (a1 : Int32) (m : bp_M) (sz : Nat) (r : Int32) (mr : bp_M)  (h : bc_BR_bits N a1 m = some (r, mr)) : Met l y_bc_BR_bits (Cond.code y_bc_BR_bits prog_2_method_6_code 4 (some .int) :: bp_tb) ({ frames := 1, cells := 0, slots := 0, locals := 21 }) (bc_Pc E m sz [.ref (E.2.1 6), .int a1]) (bc_Qi E m sz r mr) 0 0 (va_A (bc_W E m) sz) := by
  refine Met.ofW (cc := prog_2_method_6_code) (maxL := 4) (ret := (some .int)) (by decide) rfl ?_
  intro p e s mt args below meth c s₁ B hml hv
  obtain ⟨rfl, hsz, hP, hK, hD0, hst⟩ := hv
  have hx := B.exec
  have hb := B.bytes
  have hr := B.returns
  have htb : ∀ w ∈ bp_tb, w.before _ s = true := fun w hw => atoms_spec (ws := Cond.code y_bc_BR_bits prog_2_method_6_code 4 (some .int) :: bp_tb) B.pre w (List.mem_cons_of_mem _ hw)
  have hown : s.vm.findClass "BlockPictures$BitReader" = some mt.cls := findClass_of_methodNamed B.named
  have hlocks := B.notSynchronized
  subst hsz
  have hD := hD0.self (sz := s.heap.size)
  generalize hAe : va_A (bc_W E m) s.heap.size = A at hD hst ⊢
  have hsub : ∀ (u : bp_M) (z q : Nat), s.heap.size ≤ z → va_A (bc_W E u) z q → A q := bc_sub hAe
  have hS : va_S A s.heap s.heap [] := va_S.rf
  have hl := lv_entry ([.ref (E.2.1 6), .int a1]) (n := 4) (Nat.le_of_ble_eq_true rfl)
  rw [lg_entry_eq]
  generalize (lg_sl ([.ref (E.2.1 6), .int a1]) ++ List.replicate (4 - (lg_sl ([.ref (E.2.1 6), .int a1])).length) Slot.unset).toArray = ls at hl ⊢
  have hl : lv_has ls 4 [(0, .ref (E.2.1 6)), (1, .int a1)] := hl
  refine bc_keyI (R := ({ frames := 1, cells := 0, slots := 0, locals := 21 })) E hx hb hr hlocks hK hAe (fun Q hret => ?_)
  clear B hD0 hlocks hr
  generalize ([.ref (E.2.1 6), .int a1] : List Value).toArray = args at htb hret ⊢
  clear hAe
  have hL36 : ∀ (s0 : Int32) (m : bp_M), bc_BR_bits_L36 N a1 s0 m = some (r, mr) → ∀ (ls : Array Slot) (H : Heap) (locs : List Loc), lv_has ls 4 [] → va_P E.1 bp_cl (bc_W E m) H → va_D A (bc_W E m) → va_S A s.heap H locs → W p l e ({ frames := 1, cells := 0, slots := 0, locals := 21 }) s mt args below meth c H locs 0 0 Q (F0 mt 36 ls [.int s0]) := by
    intro s0 m h ls H locs hl hP hD hS
    rw [bc_BR_bits_L36] at h
    exact hret _ _ _ _ _ _ h hP hD hS (dt_bc_BR_bits 22 rfl)
  have hL24 : ∀ (x2 : Int32) (m : bp_M), bc_BR_bits_L24 N a1 x2 m = some (r, mr) → ∀ (ls : Array Slot) (H : Heap) (locs : List Loc), lv_has ls 4 [(0, .ref (E.2.1 6)), (2, .int x2)] → va_P E.1 bp_cl (bc_W E m) H → va_D A (bc_W E m) → va_S A s.heap H locs → W p l e ({ frames := 1, cells := 0, slots := 0, locals := 21 }) s mt args below meth c H locs 0 0 Q (F0 mt 24 ls []) := by
    intro x2 m h ls H locs hl hP hD hS
    rw [bc_BR_bits_L24] at h
    refine lv_aload_n hx hb (dt_bc_BR_bits 16 rfl) rfl (lv_at hl 0 rfl) ?_
    refine va_get (D := E.1) (ci := 6) (v := .int (m.1 6 3)) (C := "BlockPictures$BitReader") (T := bF_BR) (N := 4) hx hb htb bc_in_BR hown hK hP 6 (bc_gBR E m) rfl 3 (by decide) (htb _ tw_164) (fun _ h9 => h9) rfl (dt_bc_BR_bits 17 rfl) ?_
    refine lv_if_ne (tgt := 35) hx hb (dt_bc_BR_bits 18 rfl) (by decide) (fun hc => ?_) (fun hc => ?_)
    · replace h := (if_pos hc).symm.trans h
      refine lv_iconst (v := 0) hx hb (dt_bc_BR_bits 21 rfl) (by decide) ?_
      exact hL36 _ _ h ls H locs (lv_sub hl [] rfl) hP hD hS
    · replace h := (if_neg (fun hn => hn hc)).symm.trans h
      refine lv_iload_n hx hb (dt_bc_BR_bits 19 rfl) rfl (lv_at hl 1 rfl) ?_
      refine lv_goto (tgt := 36) hx hb (dt_bc_BR_bits 20 rfl) (by decide) ?_
      exact hL36 _ _ h ls H locs (lv_sub hl [] rfl) hP hD hS
  have hL4 : ∀ (n4 : Nat) (x2 : Int32) (x3 : Int32) (m : bp_M), bc_BR_bits_L4 N a1 n4 x2 x3 m = some (r, mr) → ∀ (ls : Array Slot) (H : Heap) (locs : List Loc), lv_has ls 4 [(0, .ref (E.2.1 6)), (1, .int a1), (2, .int x2), (3, .int x3)] → va_P E.1 bp_cl (bc_W E m) H → va_D A (bc_W E m) → va_S A s.heap H locs → W p l e ({ frames := 1, cells := 0, slots := 0, locals := 21 }) s mt args below meth c H locs 0 0 Q (F0 mt 4 ls []) := by
    intro n4
    induction n4 with
    | zero =>
      intro x2 x3 m h ls H locs hl hP hD hS
      rw [bc_BR_bits_L4] at h
      cases h
    | succ n4 ih4 =>
      intro x2 x3 m h ls H locs hl hP hD hS
      rw [bc_BR_bits_L4] at h
      refine lv_iload_n hx hb (dt_bc_BR_bits 4 rfl) rfl (lv_at hl 3 rfl) ?_
      refine lv_iload_n hx hb (dt_bc_BR_bits 5 rfl) rfl (lv_at hl 1 rfl) ?_
      refine lv_icmp_ge (tgt := 24) hx hb (dt_bc_BR_bits 6 rfl) (by decide) (fun hc => ?_) (fun hc => ?_)
      · replace h := (if_pos hc).symm.trans h
        exact hL24 _ _ h ls H locs (lv_sub hl [0, 2] rfl) hP hD hS
      · replace h := (if_neg hc).symm.trans h
        refine lv_iconst (v := 2) hx hb (dt_bc_BR_bits 7 rfl) (by decide) ?_
        refine lv_iload_n hx hb (dt_bc_BR_bits 8 rfl) rfl (lv_at hl 2 rfl) ?_
        refine lv_imul hx hb (dt_bc_BR_bits 9 rfl) ?_
        refine lv_aload_n hx hb (dt_bc_BR_bits 10 rfl) rfl (lv_at hl 0 rfl) ?_
        obtain ⟨z2, m1, hm1, h⟩ := bp_cI_s h
        refine bc_callI E hsub hS (va_runV (As := []) (rest := [.int (2 * x2 : Int32)]) ⟨hx, hb, hml, hown, htb⟩ (wbc_BR_nextBit l E N  m H.size z2 m1 hm1) (cwV 0 htb (bp_goodV tw_437 tw_439 tw_6 tw_73 tw_440) rfl rfl rfl ⟨rfl, hd_bc_BR_nextBit⟩ ⟨Nat.le_of_ble_eq_true rfl, Nat.le_of_ble_eq_true rfl⟩) (bc_preV E hsub hst hK hP hD hS (bc_gBR E m) rfl rfl _) rfl rfl hl.1 rfl (lv_room (Nat.le_of_ble_eq_true rfl)) (dt_bc_BR_bits 11 rfl) ⟨Nat.zero_le _, Nat.zero_le _⟩) (fun H locs hP hD hS => ?_)
        refine lv_iadd hx hb (dt_bc_BR_bits 12 rfl) ?_
        refine lv_topi (fun y3 ey3 => ?_)
        replace h := bp_nI_s h ey3
        refine lv_istore_n hx hb (dt_bc_BR_bits 13 rfl) rfl hl (Nat.le_of_ble_eq_true rfl) rfl (fun ls hl => ?_)
        have hl : lv_has ls 4 [(2, .int y3), (0, .ref (E.2.1 6)), (1, .int a1), (3, .int x3)] := hl
        obtain ⟨y4, ey4⟩ : ∃ z : Int32, z = x3 + 1 := ⟨_, rfl⟩
        replace h := bp_nI_s h ey4
        refine lv_iinc (k := 3) (v := y4) hx hb (dt_bc_BR_bits 14 rfl) hl rfl (by rw [ey4]; rfl) (Nat.le_of_ble_eq_true rfl) rfl (fun ls hl => ?_)
        have hl : lv_has ls 4 [(3, .int y4), (2, .int y3), (0, .ref (E.2.1 6)), (1, .int a1)] := hl
        refine lv_goto (tgt := 4) hx hb (dt_bc_BR_bits 15 rfl) (by decide) ?_
        exact ih4 _ _ _ h ls H locs (lv_sub hl [2, 3, 1, 0] rfl) hP hD hS
  suffices hgo : ∀ (H : Heap) (locs : List Loc), va_P E.1 bp_cl (bc_W E m) H → va_D A (bc_W E m) → va_S A s.heap H locs → W p l e ({ frames := 1, cells := 0, slots := 0, locals := 21 }) s mt args below meth c H locs 0 0 Q (F0 mt 0 ls []) from hgo _ _ hP hD hS
  clear hP hD hS
  intro H locs hP hD hS
  unfold bc_BR_bits at h
  refine lv_iconst (v := 0) hx hb (dt_bc_BR_bits 0 rfl) (by decide) ?_
  refine lv_istore_n hx hb (dt_bc_BR_bits 1 rfl) rfl hl (Nat.le_of_ble_eq_true rfl) rfl (fun ls hl => ?_)
  have hl : lv_has ls 4 [(2, .int 0), (0, .ref (E.2.1 6)), (1, .int a1)] := hl
  refine lv_iconst (v := 0) hx hb (dt_bc_BR_bits 2 rfl) (by decide) ?_
  refine lv_istore_n hx hb (dt_bc_BR_bits 3 rfl) rfl hl (Nat.le_of_ble_eq_true rfl) rfl (fun ls hl => ?_)
  have hl : lv_has ls 4 [(3, .int 0), (2, .int 0), (0, .ref (E.2.1 6)), (1, .int a1)] := hl
  exact hL4 _ _ _ _ h ls H locs (lv_sub hl [2, 3, 1, 0] rfl) hP hD hS
set_option maxHeartbeats 4000000 in
set_option maxRecDepth 100000 in
theorem wbc_PD_predictMean (l : Launch) (E : bc_E) (N : Nat) (a1 : Int32) (m : bp_M) (sz : Nat) (mr : bp_M)  (h : bc_PD_predictMean N a1 m = some mr) : Met l y_bc_PD_predictMean (Cond.code y_bc_PD_predictMean prog_9_method_8_code 8 none :: bp_tb) ({ frames := 1, cells := 0, slots := 0, locals := 21 }) (bc_Pc E m sz [.ref (E.2.1 3), .int a1]) (bc_Qv E m sz mr) 0 0 (va_A (bc_W E m) sz) := by
  refine Met.ofW (cc := prog_9_method_8_code) (maxL := 8) (ret := none) (by decide) rfl ?_
  intro p e s mt args below meth c s₁ B hml hv
  obtain ⟨rfl, hsz, hP, hK, hD0, hst⟩ := hv
  have hx := B.exec
  have hb := B.bytes
  have hr := B.returns
  have htb : ∀ w ∈ bp_tb, w.before _ s = true := fun w hw => atoms_spec (ws := Cond.code y_bc_PD_predictMean prog_9_method_8_code 8 none :: bp_tb) B.pre w (List.mem_cons_of_mem _ hw)
  have hown : s.vm.findClass "BlockPictures$PictureDecoder" = some mt.cls := findClass_of_methodNamed B.named
  have hlocks := B.notSynchronized
  subst hsz
  have hD := hD0.self (sz := s.heap.size)
  generalize hAe : va_A (bc_W E m) s.heap.size = A at hD hst ⊢
  have hsub : ∀ (u : bp_M) (z q : Nat), s.heap.size ≤ z → va_A (bc_W E u) z q → A q := bc_sub hAe
  have hS : va_S A s.heap s.heap [] := va_S.rf
  have hl := lv_entry ([.ref (E.2.1 3), .int a1]) (n := 8) (Nat.le_of_ble_eq_true rfl)
  rw [lg_entry_eq]
  generalize (lg_sl ([.ref (E.2.1 3), .int a1]) ++ List.replicate (8 - (lg_sl ([.ref (E.2.1 3), .int a1])).length) Slot.unset).toArray = ls at hl ⊢
  have hl : lv_has ls 8 [(0, .ref (E.2.1 3)), (1, .int a1)] := hl
  refine bc_keyV (R := ({ frames := 1, cells := 0, slots := 0, locals := 21 })) E hx hb hr hlocks hK hAe (fun Q hret => ?_)
  clear B hD0 hlocks hr
  generalize ([.ref (E.2.1 3), .int a1] : List Value).toArray = args at htb hret ⊢
  clear hAe
  have hL181 : ∀ (m : bp_M), bc_PD_predictMean_L181 N a1 m = some mr → ∀ (ls : Array Slot) (H : Heap) (locs : List Loc), lv_has ls 8 [] → va_P E.1 bp_cl (bc_W E m) H → va_D A (bc_W E m) → va_S A s.heap H locs → W p l e ({ frames := 1, cells := 0, slots := 0, locals := 21 }) s mt args below meth c H locs 0 0 Q (F0 mt 181 ls []) := by
    intro m h ls H locs hl hP hD hS
    rw [bc_PD_predictMean_L181] at h
    exact hret _ _ _ _ _ h hP hD hS (dt_bc_PD_predictMean 100 rfl)
  have hL152 : ∀ (n152 : Nat) (x6 : Int32) (x7 : Int32) (m : bp_M), bc_PD_predictMean_L152 N a1 n152 x6 x7 m = some mr → ∀ (ls : Array Slot) (H : Heap) (locs : List Loc), lv_has ls 8 [(0, .ref (E.2.1 3)), (1, .int a1), (6, .int x6), (7, .int x7)] → va_P E.1 bp_cl (bc_W E m) H → va_D A (bc_W E m) → va_S A s.heap H locs → W p l e ({ frames := 1, cells := 0, slots := 0, locals := 21 }) s mt args below meth c H locs 0 0 Q (F0 mt 152 ls []) := by
    intro n152
    induction n152 with
    | zero =>
      intro x6 x7 m h ls H locs hl hP hD hS
      rw [bc_PD_predictMean_L152] at h
      cases h
    | succ n152 ih152 =>
      intro x6 x7 m h ls H locs hl hP hD hS
      rw [bc_PD_predictMean_L152] at h
      refine lv_iload hx hb (dt_bc_PD_predictMean 87 rfl) (lv_at hl 3 rfl) ?_
      refine lv_bipush (v := 16) hx hb (dt_bc_PD_predictMean 88 rfl) (by decide) ?_
      refine lv_icmp_ge (tgt := 181) hx hb (dt_bc_PD_predictMean 89 rfl) (by decide) (fun hc => ?_) (fun hc => ?_)
      · replace h := (if_pos hc).symm.trans h
        exact hL181 _ h ls H locs (lv_sub hl [] rfl) hP hD hS
      · replace h := (if_neg hc).symm.trans h
        refine lv_aload_n hx hb (dt_bc_PD_predictMean 90 rfl) rfl (lv_at hl 0 rfl) ?_
        refine va_get (D := E.1) (ci := 3) (v := .ref (E.2.1 10)) (C := "BlockPictures$PictureDecoder") (T := bF_PD) (N := 11) hx hb htb bc_in_PD hown hK hP 3 (bc_gPD E m) rfl 1 (by decide) (htb _ tw_261) (fun _ h9 => h9) rfl (dt_bc_PD_predictMean 91 rfl) ?_
        refine va_get (D := E.1) (ci := 9) (v := .ref (E.2.1 34)) (C := "BlockPictures$Picture") (T := bF_PI) (N := 4) hx hb htb bc_in_PI hown hK hP 10 (bc_gPI E m (by decide)) rfl 0 (by decide) (htb _ tw_185) (fun _ h9 => h9) rfl (dt_bc_PD_predictMean 92 rfl) ?_
        refine lv_iload_n hx hb (dt_bc_PD_predictMean 93 rfl) rfl (lv_at hl 1 rfl) ?_
        refine lv_iload hx hb (dt_bc_PD_predictMean 94 rfl) (lv_at hl 3 rfl) ?_
        obtain ⟨z2, m1, hm1, h⟩ := bp_cI_s h
        refine bc_callI E hsub hS (va_runSN (As := [.int a1, .int x7]) (rest := [.ref (E.2.1 34)]) ⟨hx, hb, hml, hown, htb⟩ (wbc_BP_sampleNumber l E N a1 x7 m H.size z2 m1 hm1) ⟨va_cnB 2 htb (bp_good tw_525) rfl rfl rfl (hst.1 _ (List.mem_of_getElem? (i := 10) rfl)) (htb _ tw_69) hd_bc_BP_sampleNumber ⟨Nat.le_of_ble_eq_true rfl, Nat.le_of_ble_eq_true rfl⟩, htb _ tw_524, trivial⟩ (bc_preS E hsub hst hK hP hD hS _) rfl rfl hl.1 rfl (lv_room (Nat.le_of_ble_eq_true rfl)) (dt_bc_PD_predictMean 95 rfl) ⟨Nat.zero_le _, Nat.zero_le _⟩) (fun H locs hP hD hS => ?_)
        refine lv_iload hx hb (dt_bc_PD_predictMean 96 rfl) (lv_at hl 2 rfl) ?_
        obtain ⟨hg3, h⟩ := bp_gi_s h
        refine bc_sI E hx hb hK hP hD hS (bc_ga34 E) hg3 (dt_bc_PD_predictMean 97 rfl) (fun m4 em4 H locs hP hD hS => ?_)
        replace h := bp_nM_s h em4
        obtain ⟨y5, ey5⟩ : ∃ z : Int32, z = x7 + 1 := ⟨_, rfl⟩
        replace h := bp_nI_s h ey5
        refine lv_iinc (k := 3) (v := y5) hx hb (dt_bc_PD_predictMean 98 rfl) hl rfl (by rw [ey5]; rfl) (Nat.le_of_ble_eq_true rfl) rfl (fun ls hl => ?_)
        have hl : lv_has ls 8 [(7, .int y5), (0, .ref (E.2.1 3)), (1, .int a1), (6, .int x6)] := hl
        refine lv_goto (tgt := 152) hx hb (dt_bc_PD_predictMean 99 rfl) (by decide) ?_
        exact ih152 _ _ _ h ls H locs (lv_sub hl [1, 2, 3, 0] rfl) hP hD hS
  have hL149 : ∀ (x6 : Int32) (m : bp_M), bc_PD_predictMean_L149 N a1 x6 m = some mr → ∀ (ls : Array Slot) (H : Heap) (locs : List Loc), lv_has ls 8 [(0, .ref (E.2.1 3)), (1, .int a1), (6, .int x6)] → va_P E.1 bp_cl (bc_W E m) H → va_D A (bc_W E m) → va_S A s.heap H locs → W p l e ({ frames := 1, cells := 0, slots := 0, locals := 21 }) s mt args below meth c H locs 0 0 Q (F0 mt 149 ls []) := by
    intro x6 m h ls H locs hl hP hD hS
    rw [bc_PD_predictMean_L149] at h
    refine lv_iconst (v := 0) hx hb (dt_bc_PD_predictMean 85 rfl) (by decide) ?_
    refine lv_istore hx hb (dt_bc_PD_predictMean 86 rfl) hl (Nat.le_of_ble_eq_true rfl) rfl (fun ls hl => ?_)
    have hl : lv_has ls 8 [(7, .int 0), (0, .ref (E.2.1 3)), (1, .int a1), (6, .int x6)] := hl
    exact hL152 _ _ _ _ h ls H locs (lv_sub hl [1, 2, 3, 0] rfl) hP hD hS
  have hL141 : ∀ (x5 : Int32) (m : bp_M), bc_PD_predictMean_L141 N a1 x5 m = some mr → ∀ (ls : Array Slot) (H : Heap) (locs : List Loc), lv_has ls 8 [(0, .ref (E.2.1 3)), (1, .int a1), (5, .int x5)] → va_P E.1 bp_cl (bc_W E m) H → va_D A (bc_W E m) → va_S A s.heap H locs → W p l e ({ frames := 1, cells := 0, slots := 0, locals := 21 }) s mt args below meth c H locs 0 0 Q (F0 mt 141 ls []) := by
    intro x5 m h ls H locs hl hP hD hS
    rw [bc_PD_predictMean_L141] at h
    refine lv_iload hx hb (dt_bc_PD_predictMean 79 rfl) (lv_at hl 2 rfl) ?_
    refine lv_iconst (v := 2) hx hb (dt_bc_PD_predictMean 80 rfl) (by decide) ?_
    refine lv_iadd hx hb (dt_bc_PD_predictMean 81 rfl) ?_
    refine lv_iconst (v := 2) hx hb (dt_bc_PD_predictMean 82 rfl) (by decide) ?_
    refine lv_ishr hx hb (dt_bc_PD_predictMean 83 rfl) ?_
    refine lv_topi (fun y1 ey1 => ?_)
    replace h := bp_nI_s h ey1
    refine lv_istore hx hb (dt_bc_PD_predictMean 84 rfl) hl (Nat.le_of_ble_eq_true rfl) rfl (fun ls hl => ?_)
    have hl : lv_has ls 8 [(6, .int y1), (0, .ref (E.2.1 3)), (1, .int a1), (5, .int x5)] := hl
    exact hL149 _ _ h ls H locs (lv_sub hl [1, 2, 0] rfl) hP hD hS
  have hL132 : ∀ (x3 : Int32) (x4 : Int32) (x5 : Int32) (x6 : Int32) (m : bp_M), bc_PD_predictMean_L132 N a1 x3 x4 x5 x6 m = some mr → ∀ (ls : Array Slot) (H : Heap) (locs : List Loc), lv_has ls 8 [(0, .ref (E.2.1 3)), (1, .int a1), (3, .int x3), (4, .int x4), (5, .int x5), (6, .int x6)] → va_P E.1 bp_cl (bc_W E m) H → va_D A (bc_W E m) → va_S A s.heap H locs → W p l e ({ frames := 1, cells := 0, slots := 0, locals := 21 }) s mt args below meth c H locs 0 0 Q (F0 mt 132 ls []) := by
    intro x3 x4 x5 x6 m h ls H locs hl hP hD hS
    rw [bc_PD_predictMean_L132] at h
    refine lv_iload_n hx hb (dt_bc_PD_predictMean 75 rfl) rfl (lv_at hl 2 rfl) ?_
    refine lv_if_ne (tgt := 141) hx hb (dt_bc_PD_predictMean 76 rfl) (by decide) (fun hc => ?_) (fun hc => ?_)
    · replace h := (if_pos hc).symm.trans h
      exact hL141 _ _ h ls H locs (lv_sub hl [0, 1, 4] rfl) hP hD hS
    · replace h := (if_neg (fun hn => hn hc)).symm.trans h
      refine lv_iload hx hb (dt_bc_PD_predictMean 77 rfl) (lv_at hl 3 rfl) ?_
      refine lv_if_eq (tgt := 149) hx hb (dt_bc_PD_predictMean 78 rfl) (by decide) (fun hc => ?_) (fun hc => ?_)
      · replace h := (if_pos hc).symm.trans h
        exact hL149 _ _ h ls H locs (lv_sub hl [0, 1, 5] rfl) hP hD hS
      · replace h := (if_neg hc).symm.trans h
        exact hL141 _ _ h ls H locs (lv_sub hl [0, 1, 4] rfl) hP hD hS
  have hL107 : ∀ (x3 : Int32) (x4 : Int32) (x5 : Int32) (m : bp_M), bc_PD_predictMean_L107 N a1 x3 x4 x5 m = some mr → ∀ (ls : Array Slot) (H : Heap) (locs : List Loc), lv_has ls 8 [(0, .ref (E.2.1 3)), (1, .int a1), (3, .int x3), (4, .int x4), (5, .int x5)] → va_P E.1 bp_cl (bc_W E m) H → va_D A (bc_W E m) → va_S A s.heap H locs → W p l e ({ frames := 1, cells := 0, slots := 0, locals := 21 }) s mt args below meth c H locs 0 0 Q (F0 mt 107 ls []) := by
    intro x3 x4 x5 m h ls H locs hl hP hD hS
    rw [bc_PD_predictMean_L107] at h
    refine lv_sipush (v := 128) hx hb (dt_bc_PD_predictMean 62 rfl) (by decide) ?_
    refine lv_istore hx hb (dt_bc_PD_predictMean 63 rfl) hl (Nat.le_of_ble_eq_true rfl) rfl (fun ls hl => ?_)
    have hl : lv_has ls 8 [(6, .int 128), (0, .ref (E.2.1 3)), (1, .int a1), (3, .int x3), (4, .int x4), (5, .int x5)] := hl
    refine lv_iload_n hx hb (dt_bc_PD_predictMean 64 rfl) rfl (lv_at hl 3 rfl) ?_
    refine lv_if_eq (tgt := 132) hx hb (dt_bc_PD_predictMean 65 rfl) (by decide) (fun hc => ?_) (fun hc => ?_)
    · replace h := (if_pos hc).symm.trans h
      exact hL132 _ _ _ _ _ h ls H locs (lv_sub hl [1, 2, 3, 4, 5, 0] rfl) hP hD hS
    · replace h := (if_neg hc).symm.trans h
      refine lv_iload hx hb (dt_bc_PD_predictMean 66 rfl) (lv_at hl 4 rfl) ?_
      refine lv_if_eq (tgt := 132) hx hb (dt_bc_PD_predictMean 67 rfl) (by decide) (fun hc => ?_) (fun hc => ?_)
      · replace h := (if_pos hc).symm.trans h
        exact hL132 _ _ _ _ _ h ls H locs (lv_sub hl [1, 2, 3, 4, 5, 0] rfl) hP hD hS
      · replace h := (if_neg hc).symm.trans h
        refine lv_iload hx hb (dt_bc_PD_predictMean 68 rfl) (lv_at hl 5 rfl) ?_
        refine lv_iconst (v := 4) hx hb (dt_bc_PD_predictMean 69 rfl) (by decide) ?_
        refine lv_iadd hx hb (dt_bc_PD_predictMean 70 rfl) ?_
        refine lv_iconst (v := 3) hx hb (dt_bc_PD_predictMean 71 rfl) (by decide) ?_
        refine lv_ishr hx hb (dt_bc_PD_predictMean 72 rfl) ?_
        refine lv_topi (fun y1 ey1 => ?_)
        replace h := bp_nI_s h ey1
        refine lv_istore hx hb (dt_bc_PD_predictMean 73 rfl) hl (Nat.le_of_ble_eq_true rfl) rfl (fun ls hl => ?_)
        have hl : lv_has ls 8 [(6, .int y1), (0, .ref (E.2.1 3)), (1, .int a1), (3, .int x3), (4, .int x4), (5, .int x5)] := hl
        refine lv_goto (tgt := 149) hx hb (dt_bc_PD_predictMean 74 rfl) (by decide) ?_
        exact hL149 _ _ h ls H locs (lv_sub hl [1, 2, 0] rfl) hP hD hS
  have hL36 : ∀ (n36 : Nat) (x2 : Int32) (x3 : Int32) (x4 : Int32) (x5 : Int32) (x6 : Int32) (m : bp_M), bc_PD_predictMean_L36 N a1 n36 x2 x3 x4 x5 x6 m = some mr → ∀ (ls : Array Slot) (H : Heap) (locs : List Loc), lv_has ls 8 [(0, .ref (E.2.1 3)), (1, .int a1), (2, .int x2), (3, .int x3), (4, .int x4), (5, .int x5), (6, .int x6)] → va_P E.1 bp_cl (bc_W E m) H → va_D A (bc_W E m) → va_S A s.heap H locs → W p l e ({ frames := 1, cells := 0, slots := 0, locals := 21 }) s mt args below meth c H locs 0 0 Q (F0 mt 36 ls []) := by
    intro n36
    induction n36 with
    | zero =>
      intro x2 x3 x4 x5 x6 m h ls H locs hl hP hD hS
      rw [bc_PD_predictMean_L36] at h
      cases h
    | succ n36 ih36 =>
      have hL98 : ∀ (x2 : Int32) (x3 : Int32) (x4 : Int32) (x6 : Int32) (s0 : Int32) (s1 : Int32) (m : bp_M), bc_PD_predictMean_L98 (bc_PD_predictMean_L36 N a1 n36) N a1 x2 x3 x4 x6 s0 s1 m = some mr → ∀ (ls : Array Slot) (H : Heap) (locs : List Loc), lv_has ls 8 [(0, .ref (E.2.1 3)), (1, .int a1), (2, .int x2), (3, .int x3), (4, .int x4), (6, .int x6)] → va_P E.1 bp_cl (bc_W E m) H → va_D A (bc_W E m) → va_S A s.heap H locs → W p l e ({ frames := 1, cells := 0, slots := 0, locals := 21 }) s mt args below meth c H locs 0 0 Q (F0 mt 98 ls [.int s0, .int s1]) := by
        intro x2 x3 x4 x6 s0 s1 m h ls H locs hl hP hD hS
        rw [bc_PD_predictMean_L98] at h
        refine lv_iadd hx hb (dt_bc_PD_predictMean 58 rfl) ?_
        refine lv_topi (fun y1 ey1 => ?_)
        replace h := bp_nI_s h ey1
        refine lv_istore hx hb (dt_bc_PD_predictMean 59 rfl) hl (Nat.le_of_ble_eq_true rfl) rfl (fun ls hl => ?_)
        have hl : lv_has ls 8 [(5, .int y1), (0, .ref (E.2.1 3)), (1, .int a1), (2, .int x2), (3, .int x3), (4, .int x4), (6, .int x6)] := hl
        obtain ⟨y2, ey2⟩ : ∃ z : Int32, z = x6 + 1 := ⟨_, rfl⟩
        replace h := bp_nI_s h ey2
        refine lv_iinc (k := 6) (v := y2) hx hb (dt_bc_PD_predictMean 60 rfl) hl rfl (by rw [ey2]; rfl) (Nat.le_of_ble_eq_true rfl) rfl (fun ls hl => ?_)
        have hl : lv_has ls 8 [(6, .int y2), (5, .int y1), (0, .ref (E.2.1 3)), (1, .int a1), (2, .int x2), (3, .int x3), (4, .int x4)] := hl
        refine lv_goto (tgt := 36) hx hb (dt_bc_PD_predictMean 61 rfl) (by decide) ?_
        exact ih36 _ _ _ _ _ _ h ls H locs (lv_sub hl [2, 3, 4, 5, 6, 1, 0] rfl) hP hD hS
      have hL67 : ∀ (x2 : Int32) (x3 : Int32) (x4 : Int32) (x6 : Int32) (s0 : Int32) (s1 : Int32) (m : bp_M), bc_PD_predictMean_L67 (bc_PD_predictMean_L36 N a1 n36) N a1 x2 x3 x4 x6 s0 s1 m = some mr → ∀ (ls : Array Slot) (H : Heap) (locs : List Loc), lv_has ls 8 [(0, .ref (E.2.1 3)), (1, .int a1), (2, .int x2), (3, .int x3), (4, .int x4), (6, .int x6)] → va_P E.1 bp_cl (bc_W E m) H → va_D A (bc_W E m) → va_S A s.heap H locs → W p l e ({ frames := 1, cells := 0, slots := 0, locals := 21 }) s mt args below meth c H locs 0 0 Q (F0 mt 67 ls [.int s0, .int s1]) := by
        intro x2 x3 x4 x6 s0 s1 m h ls H locs hl hP hD hS
        rw [bc_PD_predictMean_L67] at h
        refine lv_iadd hx hb (dt_bc_PD_predictMean 40 rfl) ?_
        refine lv_topi (fun y1 ey1 => ?_)
        replace h := bp_nI_s h ey1
        refine lv_istore hx hb (dt_bc_PD_predictMean 41 rfl) hl (Nat.le_of_ble_eq_true rfl) rfl (fun ls hl => ?_)
        have hl : lv_has ls 8 [(5, .int y1), (0, .ref (E.2.1 3)), (1, .int a1), (2, .int x2), (3, .int x3), (4, .int x4), (6, .int x6)] := hl
        refine lv_iload hx hb (dt_bc_PD_predictMean 42 rfl) (lv_at hl 0 rfl) ?_
        refine lv_iload hx hb (dt_bc_PD_predictMean 43 rfl) (lv_at hl 5 rfl) ?_
        refine lv_if_eq (tgt := 97) hx hb (dt_bc_PD_predictMean 44 rfl) (by decide) (fun hc => ?_) (fun hc => ?_)
        · replace h := (if_pos hc).symm.trans h
          refine lv_iconst (v := 0) hx hb (dt_bc_PD_predictMean 57 rfl) (by decide) ?_
          exact hL98 _ _ _ _ _ _ _ h ls H locs (lv_sub hl [1, 2, 3, 4, 5, 6] rfl) hP hD hS
        · replace h := (if_neg hc).symm.trans h
          refine lv_aload_n hx hb (dt_bc_PD_predictMean 45 rfl) rfl (lv_at hl 1 rfl) ?_
          refine va_get (D := E.1) (ci := 3) (v := .ref (E.2.1 10)) (C := "BlockPictures$PictureDecoder") (T := bF_PD) (N := 11) hx hb htb bc_in_PD hown hK hP 3 (bc_gPD E m) rfl 1 (by decide) (htb _ tw_261) (fun _ h9 => h9) rfl (dt_bc_PD_predictMean 46 rfl) ?_
          refine va_get (D := E.1) (ci := 9) (v := .ref (E.2.1 34)) (C := "BlockPictures$Picture") (T := bF_PI) (N := 4) hx hb htb bc_in_PI hown hK hP 10 (bc_gPI E m (by decide)) rfl 0 (by decide) (htb _ tw_185) (fun _ h9 => h9) rfl (dt_bc_PD_predictMean 47 rfl) ?_
          refine lv_iload_n hx hb (dt_bc_PD_predictMean 48 rfl) rfl (lv_at hl 3 rfl) ?_
          refine lv_iconst (v := 1) hx hb (dt_bc_PD_predictMean 49 rfl) (by decide) ?_
          refine lv_isub hx hb (dt_bc_PD_predictMean 50 rfl) ?_
          refine lv_bipush (v := 16) hx hb (dt_bc_PD_predictMean 51 rfl) (by decide) ?_
          refine lv_iload hx hb (dt_bc_PD_predictMean 52 rfl) (lv_at hl 6 rfl) ?_
          refine lv_imul hx hb (dt_bc_PD_predictMean 53 rfl) ?_
          refine lv_iadd hx hb (dt_bc_PD_predictMean 54 rfl) ?_
          obtain ⟨hg2, h⟩ := bp_gi_s h
          refine bc_lI E hx hb hK hP (bc_ga34 E) hg2 (dt_bc_PD_predictMean 55 rfl) ?_
          refine lv_goto (tgt := 98) hx hb (dt_bc_PD_predictMean 56 rfl) (by decide) ?_
          exact hL98 _ _ _ _ _ _ _ h ls H locs (lv_sub hl [1, 2, 3, 4, 5, 6] rfl) hP hD hS
      intro x2 x3 x4 x5 x6 m h ls H locs hl hP hD hS
      rw [bc_PD_predictMean_L36] at h
      refine lv_iload hx hb (dt_bc_PD_predictMean 23 rfl) (lv_at hl 6 rfl) ?_
      refine lv_iconst (v := 4) hx hb (dt_bc_PD_predictMean 24 rfl) (by decide) ?_
      refine lv_icmp_ge (tgt := 107) hx hb (dt_bc_PD_predictMean 25 rfl) (by decide) (fun hc => ?_) (fun hc => ?_)
      · replace h := (if_pos hc).symm.trans h
        exact hL107 _ _ _ _ h ls H locs (lv_sub hl [0, 1, 3, 4, 5] rfl) hP hD hS
      · replace h := (if_neg hc).symm.trans h
        refine lv_iload hx hb (dt_bc_PD_predictMean 26 rfl) (lv_at hl 5 rfl) ?_
        refine lv_iload_n hx hb (dt_bc_PD_predictMean 27 rfl) rfl (lv_at hl 3 rfl) ?_
        refine lv_if_eq (tgt := 66) hx hb (dt_bc_PD_predictMean 28 rfl) (by decide) (fun hc => ?_) (fun hc => ?_)
        · replace h := (if_pos hc).symm.trans h
          refine lv_iconst (v := 0) hx hb (dt_bc_PD_predictMean 39 rfl) (by decide) ?_
          exact hL67 _ _ _ _ _ _ _ h ls H locs (lv_sub hl [0, 1, 2, 3, 4, 6] rfl) hP hD hS
        · replace h := (if_neg hc).symm.trans h
          refine lv_aload_n hx hb (dt_bc_PD_predictMean 29 rfl) rfl (lv_at hl 0 rfl) ?_
          refine va_get (D := E.1) (ci := 3) (v := .ref (E.2.1 10)) (C := "BlockPictures$PictureDecoder") (T := bF_PD) (N := 11) hx hb htb bc_in_PD hown hK hP 3 (bc_gPD E m) rfl 1 (by decide) (htb _ tw_261) (fun _ h9 => h9) rfl (dt_bc_PD_predictMean 30 rfl) ?_
          refine va_get (D := E.1) (ci := 9) (v := .ref (E.2.1 34)) (C := "BlockPictures$Picture") (T := bF_PI) (N := 4) hx hb htb bc_in_PI hown hK hP 10 (bc_gPI E m (by decide)) rfl 0 (by decide) (htb _ tw_185) (fun _ h9 => h9) rfl (dt_bc_PD_predictMean 31 rfl) ?_
          refine lv_iload_n hx hb (dt_bc_PD_predictMean 32 rfl) rfl (lv_at hl 2 rfl) ?_
          refine lv_bipush (v := 16) hx hb (dt_bc_PD_predictMean 33 rfl) (by decide) ?_
          refine lv_isub hx hb (dt_bc_PD_predictMean 34 rfl) ?_
          refine lv_iload hx hb (dt_bc_PD_predictMean 35 rfl) (lv_at hl 6 rfl) ?_
          refine lv_iadd hx hb (dt_bc_PD_predictMean 36 rfl) ?_
          obtain ⟨hg1, h⟩ := bp_gi_s h
          refine bc_lI E hx hb hK hP (bc_ga34 E) hg1 (dt_bc_PD_predictMean 37 rfl) ?_
          refine lv_goto (tgt := 67) hx hb (dt_bc_PD_predictMean 38 rfl) (by decide) ?_
          exact hL67 _ _ _ _ _ _ _ h ls H locs (lv_sub hl [0, 1, 2, 3, 4, 6] rfl) hP hD hS
  have hL28 : ∀ (x2 : Int32) (x3 : Int32) (s0 : Int32) (m : bp_M), bc_PD_predictMean_L28 N a1 x2 x3 s0 m = some mr → ∀ (ls : Array Slot) (H : Heap) (locs : List Loc), lv_has ls 8 [(0, .ref (E.2.1 3)), (1, .int a1), (2, .int x2), (3, .int x3)] → va_P E.1 bp_cl (bc_W E m) H → va_D A (bc_W E m) → va_S A s.heap H locs → W p l e ({ frames := 1, cells := 0, slots := 0, locals := 21 }) s mt args below meth c H locs 0 0 Q (F0 mt 28 ls [.int s0]) := by
    intro x2 x3 s0 m h ls H locs hl hP hD hS
    rw [bc_PD_predictMean_L28] at h
    refine lv_istore hx hb (dt_bc_PD_predictMean 18 rfl) hl (Nat.le_of_ble_eq_true rfl) rfl (fun ls hl => ?_)
    have hl : lv_has ls 8 [(4, .int s0), (0, .ref (E.2.1 3)), (1, .int a1), (2, .int x2), (3, .int x3)] := hl
    refine lv_iconst (v := 0) hx hb (dt_bc_PD_predictMean 19 rfl) (by decide) ?_
    refine lv_istore hx hb (dt_bc_PD_predictMean 20 rfl) hl (Nat.le_of_ble_eq_true rfl) rfl (fun ls hl => ?_)
    have hl : lv_has ls 8 [(5, .int 0), (4, .int s0), (0, .ref (E.2.1 3)), (1, .int a1), (2, .int x2), (3, .int x3)] := hl
    refine lv_iconst (v := 0) hx hb (dt_bc_PD_predictMean 21 rfl) (by decide) ?_
    refine lv_istore hx hb (dt_bc_PD_predictMean 22 rfl) hl (Nat.le_of_ble_eq_true rfl) rfl (fun ls hl => ?_)
    have hl : lv_has ls 8 [(6, .int 0), (5, .int 0), (4, .int s0), (0, .ref (E.2.1 3)), (1, .int a1), (2, .int x2), (3, .int x3)] := hl
    exact hL36 _ _ _ _ _ _ _ h ls H locs (lv_sub hl [3, 4, 5, 6, 2, 1, 0] rfl) hP hD hS
  have hL16 : ∀ (x2 : Int32) (s0 : Int32) (m : bp_M), bc_PD_predictMean_L16 N a1 x2 s0 m = some mr → ∀ (ls : Array Slot) (H : Heap) (locs : List Loc), lv_has ls 8 [(0, .ref (E.2.1 3)), (1, .int a1), (2, .int x2)] → va_P E.1 bp_cl (bc_W E m) H → va_D A (bc_W E m) → va_S A s.heap H locs → W p l e ({ frames := 1, cells := 0, slots := 0, locals := 21 }) s mt args below meth c H locs 0 0 Q (F0 mt 16 ls [.int s0]) := by
    intro x2 s0 m h ls H locs hl hP hD hS
    rw [bc_PD_predictMean_L16] at h
    refine lv_istore_n hx hb (dt_bc_PD_predictMean 10 rfl) rfl hl (Nat.le_of_ble_eq_true rfl) rfl (fun ls hl => ?_)
    have hl : lv_has ls 8 [(3, .int s0), (0, .ref (E.2.1 3)), (1, .int a1), (2, .int x2)] := hl
    refine lv_iload_n hx hb (dt_bc_PD_predictMean 11 rfl) rfl (lv_at hl 2 rfl) ?_
    refine lv_iconst (v := 4) hx hb (dt_bc_PD_predictMean 12 rfl) (by decide) ?_
    refine lv_irem hx hb (dt_bc_PD_predictMean 13 rfl) (by decide) ?_
    refine lv_if_le (tgt := 27) hx hb (dt_bc_PD_predictMean 14 rfl) (by decide) (fun hc => ?_) (fun hc => ?_)
    · replace h := (if_pos hc).symm.trans h
      refine lv_iconst (v := 0) hx hb (dt_bc_PD_predictMean 17 rfl) (by decide) ?_
      exact hL28 _ _ _ _ h ls H locs (lv_sub hl [1, 2, 3, 0] rfl) hP hD hS
    · replace h := (if_neg hc).symm.trans h
      refine lv_iconst (v := 1) hx hb (dt_bc_PD_predictMean 15 rfl) (by decide) ?_
      refine lv_goto (tgt := 28) hx hb (dt_bc_PD_predictMean 16 rfl) (by decide) ?_
      exact hL28 _ _ _ _ h ls H locs (lv_sub hl [1, 2, 3, 0] rfl) hP hD hS
  suffices hgo : ∀ (H : Heap) (locs : List Loc), va_P E.1 bp_cl (bc_W E m) H → va_D A (bc_W E m) → va_S A s.heap H locs → W p l e ({ frames := 1, cells := 0, slots := 0, locals := 21 }) s mt args below meth c H locs 0 0 Q (F0 mt 0 ls []) from hgo _ _ hP hD hS
  clear hP hD hS
  intro H locs hP hD hS
  unfold bc_PD_predictMean at h
  refine lv_iload_n hx hb (dt_bc_PD_predictMean 0 rfl) rfl (lv_at hl 1 rfl) ?_
  refine lv_iconst (v := 0) hx hb (dt_bc_PD_predictMean 1 rfl) (by decide) ?_
  obtain ⟨z2, m1, hm1, h⟩ := bp_cI_s h
  refine bc_callI E hsub hS (va_runSN (As := [.int a1, .int 0]) (rest := []) ⟨hx, hb, hml, hown, htb⟩ (wbc_BP_sampleNumber l E N a1 0 m H.size z2 m1 hm1) ⟨va_cnB 2 htb (bp_good tw_525) rfl rfl rfl (hst.1 _ (List.mem_of_getElem? (i := 10) rfl)) (htb _ tw_69) hd_bc_BP_sampleNumber ⟨Nat.le_of_ble_eq_true rfl, Nat.le_of_ble_eq_true rfl⟩, htb _ tw_524, trivial⟩ (bc_preS E hsub hst hK hP hD hS _) rfl rfl hl.1 rfl (lv_room (Nat.le_of_ble_eq_true rfl)) (dt_bc_PD_predictMean 2 rfl) ⟨Nat.zero_le _, Nat.zero_le _⟩) (fun H locs hP hD hS => ?_)
  refine lv_istore_n hx hb (dt_bc_PD_predictMean 3 rfl) rfl hl (Nat.le_of_ble_eq_true rfl) rfl (fun ls hl => ?_)
  have hl : lv_has ls 8 [(2, .int z2), (0, .ref (E.2.1 3)), (1, .int a1)] := hl
  refine lv_iload_n hx hb (dt_bc_PD_predictMean 4 rfl) rfl (lv_at hl 2 rfl) ?_
  refine lv_iconst (v := 4) hx hb (dt_bc_PD_predictMean 5 rfl) (by decide) ?_
  refine lv_icmp_lt (tgt := 15) hx hb (dt_bc_PD_predictMean 6 rfl) (by decide) (fun hc => ?_) (fun hc => ?_)
  · replace h := (if_pos hc).symm.trans h
    refine lv_iconst (v := 0) hx hb (dt_bc_PD_predictMean 9 rfl) (by decide) ?_
    exact hL16 _ _ _ h ls H locs (lv_sub hl [1, 2, 0] rfl) hP hD hS
  · replace h := (if_neg hc).symm.trans h
    refine lv_iconst (v := 1) hx hb (dt_bc_PD_predictMean 7 rfl) (by decide) ?_
    refine lv_goto (tgt := 16) hx hb (dt_bc_PD_predictMean 8 rfl) (by decide) ?_
    exact hL16 _ _ _ h ls H locs (lv_sub hl [1, 2, 0] rfl) hP hD hS
