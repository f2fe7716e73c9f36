set_option maxHeartbeats 4000000 in
set_option maxRecDepth 100000 in
theorem wbc_PD_predictFrom (l : Launch) (E : bc_E) (N : Nat) (a1 : Int32) (a2 : Int32) (a3 : Int32) (a4 : Int32) (m : bp_M) (sz : Nat) (mr : bp_M)  (h : bc_PD_predictFrom N a1 a2 a3 a4 m = some mr) : Met l y_bc_PD_predictFrom (Cond.code y_bc_PD_predictFrom prog_9_method_9_code 7 none :: bp_tb) ({ frames := 1, cells := 0, slots := 0, locals := 21 }) (bc_Pc E m sz [.ref (E.2.1 3), .int a1, .int a2, .int a3, .int a4]) (bc_Qv E m sz mr) 0 0 (va_A (bc_W E m) sz) := by
  refine Met.ofW (cc := prog_9_method_9_code) (maxL := 7) (ret := none) (by decide) rfl ?_
  intro p e s mt args below meth c s₁ B hml hv
  obtain ⟨rfl, hsz, hP, hK, hD0, hst⟩ := hv
  have hx := B.exec
  have hb := B.bytes
  have hr := B.returns
  have htb : ∀ w ∈ bp_tb, w.before _ s = true := fun w hw => atoms_spec (ws := Cond.code y_bc_PD_predictFrom prog_9_method_9_code 7 none :: bp_tb) B.pre w (List.mem_cons_of_mem _ hw)
  have hown : s.vm.findClass "BlockPictures$PictureDecoder" = some mt.cls := findClass_of_methodNamed B.named
  have hlocks := B.notSynchronized
  subst hsz
  have hD := hD0.self (sz := s.heap.size)
  generalize hAe : va_A (bc_W E m) s.heap.size = A at hD hst ⊢
  have hsub : ∀ (u : bp_M) (z q : Nat), s.heap.size ≤ z → va_A (bc_W E u) z q → A q := bc_sub hAe
  have hS : va_S A s.heap s.heap [] := va_S.rf
  have hl := lv_entry ([.ref (E.2.1 3), .int a1, .int a2, .int a3, .int a4]) (n := 7) (Nat.le_of_ble_eq_true rfl)
  rw [lg_entry_eq]
  generalize (lg_sl ([.ref (E.2.1 3), .int a1, .int a2, .int a3, .int a4]) ++ List.replicate (7 - (lg_sl ([.ref (E.2.1 3), .int a1, .int a2, .int a3, .int a4])).length) Slot.unset).toArray = ls at hl ⊢
  have hl : lv_has ls 7 [(0, .ref (E.2.1 3)), (1, .int a1), (2, .int a2), (3, .int a3), (4, .int a4)] := hl
  refine bc_keyV (R := ({ frames := 1, cells := 0, slots := 0, locals := 21 })) E hx hb hr hlocks hK hAe (fun Q hret => ?_)
  clear B hD0 hlocks hr
  generalize ([.ref (E.2.1 3), .int a1, .int a2, .int a3, .int a4] : List Value).toArray = args at htb hret ⊢
  clear hAe
  have hL64 : ∀ (m : bp_M), bc_PD_predictFrom_L64 N a1 a2 a3 a4 m = some mr → ∀ (ls : Array Slot) (H : Heap) (locs : List Loc), lv_has ls 7 [] → va_P E.1 bp_cl (bc_W E m) H → va_D A (bc_W E m) → va_S A s.heap H locs → W p l e ({ frames := 1, cells := 0, slots := 0, locals := 21 }) s mt args below meth c H locs 0 0 Q (F0 mt 64 ls []) := by
    intro m h ls H locs hl hP hD hS
    rw [bc_PD_predictFrom_L64] at h
    exact hret _ _ _ _ _ h hP hD hS (dt_bc_PD_predictFrom 37 rfl)
  have hL12 : ∀ (n12 : Nat) (x5 : Int32) (x6 : Int32) (m : bp_M), bc_PD_predictFrom_L12 N a1 a2 a3 a4 n12 x5 x6 m = some mr → ∀ (ls : Array Slot) (H : Heap) (locs : List Loc), lv_has ls 7 [(0, .ref (E.2.1 3)), (1, .int a1), (3, .int a3), (4, .int a4), (5, .int x5), (6, .int x6)] → va_P E.1 bp_cl (bc_W E m) H → va_D A (bc_W E m) → va_S A s.heap H locs → W p l e ({ frames := 1, cells := 0, slots := 0, locals := 21 }) s mt args below meth c H locs 0 0 Q (F0 mt 12 ls []) := by
    intro n12
    induction n12 with
    | zero =>
      intro x5 x6 m h ls H locs hl hP hD hS
      rw [bc_PD_predictFrom_L12] at h
      cases h
    | succ n12 ih12 =>
      intro x5 x6 m h ls H locs hl hP hD hS
      rw [bc_PD_predictFrom_L12] at h
      refine lv_iload hx hb (dt_bc_PD_predictFrom 8 rfl) (lv_at hl 5 rfl) ?_
      refine lv_bipush (v := 16) hx hb (dt_bc_PD_predictFrom 9 rfl) (by decide) ?_
      refine lv_icmp_ge (tgt := 64) hx hb (dt_bc_PD_predictFrom 10 rfl) (by decide) (fun hc => ?_) (fun hc => ?_)
      · replace h := (if_pos hc).symm.trans h
        exact hL64 _ h ls H locs (lv_sub hl [] rfl) hP hD hS
      · replace h := (if_neg hc).symm.trans h
        refine lv_aload_n hx hb (dt_bc_PD_predictFrom 11 rfl) rfl (lv_at hl 0 rfl) ?_
        refine va_get (D := E.1) (ci := 3) (v := .ref (E.2.1 10)) (C := "BlockPictures$PictureDecoder") (T := bF_PD) (N := 11) hx hb htb bc_in_PD hown hK hP 3 (bc_gPD E m) rfl 1 (by decide) (htb _ tw_261) (fun _ h9 => h9) rfl (dt_bc_PD_predictFrom 12 rfl) ?_
        refine va_get (D := E.1) (ci := 9) (v := .ref (E.2.1 34)) (C := "BlockPictures$Picture") (T := bF_PI) (N := 4) hx hb htb bc_in_PI hown hK hP 10 (bc_gPI E m (by decide)) rfl 0 (by decide) (htb _ tw_185) (fun _ h9 => h9) rfl (dt_bc_PD_predictFrom 13 rfl) ?_
        refine lv_iload_n hx hb (dt_bc_PD_predictFrom 14 rfl) rfl (lv_at hl 1 rfl) ?_
        refine lv_iload hx hb (dt_bc_PD_predictFrom 15 rfl) (lv_at hl 5 rfl) ?_
        obtain ⟨z2, m1, hm1, h⟩ := bp_cI_s h
        refine bc_callI E hsub hS (va_runSN (As := [.int a1, .int x6]) (rest := [.ref (E.2.1 34)]) ⟨hx, hb, hml, hown, htb⟩ (wbc_BP_sampleNumber l E N a1 x6 m H.size z2 m1 hm1) ⟨va_cnB 2 htb (bp_good tw_525) rfl rfl rfl (hst.1 _ (List.mem_of_getElem? (i := 10) rfl)) (htb _ tw_69) hd_bc_BP_sampleNumber ⟨Nat.le_of_ble_eq_true rfl, Nat.le_of_ble_eq_true rfl⟩, htb _ tw_524, trivial⟩ (bc_preS E hsub hst hK hP hD hS _) rfl rfl hl.1 rfl (lv_room (Nat.le_of_ble_eq_true rfl)) (dt_bc_PD_predictFrom 16 rfl) ⟨Nat.zero_le _, Nat.zero_le _⟩) (fun H locs hP hD hS => ?_)
        refine lv_aload_n hx hb (dt_bc_PD_predictFrom 17 rfl) rfl (lv_at hl 0 rfl) ?_
        refine va_get (D := E.1) (ci := 3) (v := .ref (E.2.1 10)) (C := "BlockPictures$PictureDecoder") (T := bF_PD) (N := 11) hx hb htb bc_in_PD hown hK hP 3 (bc_gPD E m1) rfl 1 (by decide) (htb _ tw_261) (fun _ h9 => h9) rfl (dt_bc_PD_predictFrom 18 rfl) ?_
        refine va_get (D := E.1) (ci := 9) (v := .ref (E.2.1 34)) (C := "BlockPictures$Picture") (T := bF_PI) (N := 4) hx hb htb bc_in_PI hown hK hP 10 (bc_gPI E m1 (by decide)) rfl 0 (by decide) (htb _ tw_185) (fun _ h9 => h9) rfl (dt_bc_PD_predictFrom 19 rfl) ?_
        refine lv_iload hx hb (dt_bc_PD_predictFrom 20 rfl) (lv_at hl 4 rfl) ?_
        refine lv_iload_n hx hb (dt_bc_PD_predictFrom 21 rfl) rfl (lv_at hl 2 rfl) ?_
        refine lv_iload hx hb (dt_bc_PD_predictFrom 22 rfl) (lv_at hl 5 rfl) ?_
        refine lv_iconst (v := 4) hx hb (dt_bc_PD_predictFrom 23 rfl) (by decide) ?_
        refine lv_idiv hx hb (dt_bc_PD_predictFrom 24 rfl) (by decide) ?_
        refine lv_imul hx hb (dt_bc_PD_predictFrom 25 rfl) ?_
        refine lv_iadd hx hb (dt_bc_PD_predictFrom 26 rfl) ?_
        refine lv_iload hx hb (dt_bc_PD_predictFrom 27 rfl) (lv_at hl 3 rfl) ?_
        refine lv_iload hx hb (dt_bc_PD_predictFrom 28 rfl) (lv_at hl 5 rfl) ?_
        refine lv_iconst (v := 4) hx hb (dt_bc_PD_predictFrom 29 rfl) (by decide) ?_
        refine lv_irem hx hb (dt_bc_PD_predictFrom 30 rfl) (by decide) ?_
        refine lv_imul hx hb (dt_bc_PD_predictFrom 31 rfl) ?_
        refine lv_iadd hx hb (dt_bc_PD_predictFrom 32 rfl) ?_
        obtain ⟨hg3, h⟩ := bp_gi_s h
        refine bc_lI E hx hb hK hP (bc_ga34 E) hg3 (dt_bc_PD_predictFrom 33 rfl) ?_
        obtain ⟨hg4, h⟩ := bp_gi_s h
        refine bc_sI E hx hb hK hP hD hS (bc_ga34 E) hg4 (dt_bc_PD_predictFrom 34 rfl) (fun m5 em5 H locs hP hD hS => ?_)
        replace h := bp_nM_s h em5
        obtain ⟨y6, ey6⟩ : ∃ z : Int32, z = x6 + 1 := ⟨_, rfl⟩
        replace h := bp_nI_s h ey6
        refine lv_iinc (k := 5) (v := y6) hx hb (dt_bc_PD_predictFrom 35 rfl) hl rfl (by rw [ey6]; rfl) (Nat.le_of_ble_eq_true rfl) rfl (fun ls hl => ?_)
        have hl : lv_has ls 7 [(6, .int y6), (0, .ref (E.2.1 3)), (1, .int a1), (3, .int a3), (4, .int a4), (5, .int x5)] := hl
        refine lv_goto (tgt := 12) hx hb (dt_bc_PD_predictFrom 36 rfl) (by decide) ?_
        exact ih12 _ _ _ h ls H locs (lv_sub hl [1, 2, 3, 4, 5, 0] rfl) hP hD hS
  suffices hgo : ∀ (H : Heap) (locs : List Loc), va_P E.1 bp_cl (bc_W E m) H → va_D A (bc_W E m) → va_S A s.heap H locs → W p l e ({ frames := 1, cells := 0, slots := 0, locals := 21 }) s mt args below meth c H locs 0 0 Q (F0 mt 0 ls []) from hgo _ _ hP hD hS
  clear hP hD hS
  intro H locs hP hD hS
  unfold bc_PD_predictFrom at h
  refine lv_iload_n hx hb (dt_bc_PD_predictFrom 0 rfl) rfl (lv_at hl 1 rfl) ?_
  refine lv_iconst (v := 0) hx hb (dt_bc_PD_predictFrom 1 rfl) (by decide) ?_
  obtain ⟨z2, m1, hm1, h⟩ := bp_cI_s h
  refine bc_callI E hsub hS (va_runSN (As := [.int a1, .int 0]) (rest := []) ⟨hx, hb, hml, hown, htb⟩ (wbc_BP_sampleNumber l E N a1 0 m H.size z2 m1 hm1) ⟨va_cnB 2 htb (bp_good tw_525) rfl rfl rfl (hst.1 _ (List.mem_of_getElem? (i := 10) rfl)) (htb _ tw_69) hd_bc_BP_sampleNumber ⟨Nat.le_of_ble_eq_true rfl, Nat.le_of_ble_eq_true rfl⟩, htb _ tw_524, trivial⟩ (bc_preS E hsub hst hK hP hD hS _) rfl rfl hl.1 rfl (lv_room (Nat.le_of_ble_eq_true rfl)) (dt_bc_PD_predictFrom 2 rfl) ⟨Nat.zero_le _, Nat.zero_le _⟩) (fun H locs hP hD hS => ?_)
  refine lv_iload_n hx hb (dt_bc_PD_predictFrom 3 rfl) rfl (lv_at hl 2 rfl) ?_
  refine lv_iadd hx hb (dt_bc_PD_predictFrom 4 rfl) ?_
  refine lv_topi (fun y3 ey3 => ?_)
  replace h := bp_nI_s h ey3
  refine lv_istore hx hb (dt_bc_PD_predictFrom 5 rfl) hl (Nat.le_of_ble_eq_true rfl) rfl (fun ls hl => ?_)
  have hl : lv_has ls 7 [(5, .int y3), (0, .ref (E.2.1 3)), (1, .int a1), (2, .int a2), (3, .int a3), (4, .int a4)] := hl
  refine lv_iconst (v := 0) hx hb (dt_bc_PD_predictFrom 6 rfl) (by decide) ?_
  refine lv_istore hx hb (dt_bc_PD_predictFrom 7 rfl) hl (Nat.le_of_ble_eq_true rfl) rfl (fun ls hl => ?_)
  have hl : lv_has ls 7 [(6, .int 0), (5, .int y3), (0, .ref (E.2.1 3)), (1, .int a1), (2, .int a2), (3, .int a3), (4, .int a4)] := hl
  exact hL12 _ _ _ _ h ls H locs (lv_sub hl [2, 3, 5, 6, 1, 0] rfl) hP hD hS
set_option maxHeartbeats 4000000 in
set_option maxRecDepth 100000 in
theorem wbc_PD_readIntra (l : Launch) (E : bc_E) (N : Nat) (a1 : Int32) (m : bp_M) (sz : Nat) (r : Int32) (mr : bp_M)  (h : bc_PD_readIntra N a1 m = some (r, mr)) : Met l y_bc_PD_readIntra (Cond.code y_bc_PD_readIntra prog_9_method_7_code 4 (some .boolean) :: bp_tb) ({ frames := 2, cells := 0, slots := 0, locals := 48 }) (bc_Pc E m sz [.ref (E.2.1 3), .int a1]) (bc_Qi E m sz r mr) 0 0 (va_A (bc_W E m) sz) := by
  refine Met.ofW (cc := prog_9_method_7_code) (maxL := 4) (ret := (some .boolean)) (by decide) rfl ?_
  intro p e s mt args below meth c s₁ B hml hv
  obtain ⟨rfl, hsz, hP, hK, hD0, hst⟩ := hv
  have hx := B.exec
  have hb := B.bytes
  have hr := B.returns
  have htb : ∀ w ∈ bp_tb, w.before _ s = true := fun w hw => atoms_spec (ws := Cond.code y_bc_PD_readIntra prog_9_method_7_code 4 (some .boolean) :: bp_tb) B.pre w (List.mem_cons_of_mem _ hw)
  have hown : s.vm.findClass "BlockPictures$PictureDecoder" = some mt.cls := findClass_of_methodNamed B.named
  have hlocks := B.notSynchronized
  subst hsz
  have hD := hD0.self (sz := s.heap.size)
  generalize hAe : va_A (bc_W E m) s.heap.size = A at hD hst ⊢
  have hsub : ∀ (u : bp_M) (z q : Nat), s.heap.size ≤ z → va_A (bc_W E u) z q → A q := bc_sub hAe
  have hS : va_S A s.heap s.heap [] := va_S.rf
  have hl := lv_entry ([.ref (E.2.1 3), .int a1]) (n := 4) (Nat.le_of_ble_eq_true rfl)
  rw [lg_entry_eq]
  generalize (lg_sl ([.ref (E.2.1 3), .int a1]) ++ List.replicate (4 - (lg_sl ([.ref (E.2.1 3), .int a1])).length) Slot.unset).toArray = ls at hl ⊢
  have hl : lv_has ls 4 [(0, .ref (E.2.1 3)), (1, .int a1)] := hl
  refine bc_keyZ (R := ({ frames := 2, cells := 0, slots := 0, locals := 48 })) E hx hb hr hlocks hK hAe (fun Q hret => ?_)
  clear B hD0 hlocks hr
  generalize ([.ref (E.2.1 3), .int a1] : List Value).toArray = args at htb hret ⊢
  clear hAe
  have hL128 : ∀ (s0 : Int32) (m : bp_M), bc_PD_readIntra_L128 N a1 s0 m = some (r, mr) → ∀ (ls : Array Slot) (H : Heap) (locs : List Loc), lv_has ls 4 [] → va_P E.1 bp_cl (bc_W E m) H → va_D A (bc_W E m) → va_S A s.heap H locs → W p l e ({ frames := 2, cells := 0, slots := 0, locals := 48 }) s mt args below meth c H locs 0 0 Q (F0 mt 128 ls [.int s0]) := by
    intro s0 m h ls H locs hl hP hD hS
    rw [bc_PD_readIntra_L128] at h
    obtain ⟨hg1, h⟩ := bp_g_s h
    exact hret _ _ _ _ _ _ hg1 h hP hD hS (dt_bc_PD_readIntra 69 rfl)
  have hL119 : ∀ (x2 : Int32) (m : bp_M), bc_PD_readIntra_L119 N a1 x2 m = some (r, mr) → ∀ (ls : Array Slot) (H : Heap) (locs : List Loc), lv_has ls 4 [(2, .int x2)] → va_P E.1 bp_cl (bc_W E m) H → va_D A (bc_W E m) → va_S A s.heap H locs → W p l e ({ frames := 2, cells := 0, slots := 0, locals := 48 }) s mt args below meth c H locs 0 0 Q (F0 mt 119 ls []) := by
    intro x2 m h ls H locs hl hP hD hS
    rw [bc_PD_readIntra_L119] at h
    refine lv_iload_n hx hb (dt_bc_PD_readIntra 64 rfl) rfl (lv_at hl 0 rfl) ?_
    refine lv_if_eq (tgt := 127) hx hb (dt_bc_PD_readIntra 65 rfl) (by decide) (fun hc => ?_) (fun hc => ?_)
    · replace h := (if_pos hc).symm.trans h
      refine lv_iconst (v := 0) hx hb (dt_bc_PD_readIntra 68 rfl) (by decide) ?_
      exact hL128 _ _ h ls H locs (lv_sub hl [] rfl) hP hD hS
    · replace h := (if_neg hc).symm.trans h
      refine lv_iconst (v := 1) hx hb (dt_bc_PD_readIntra 66 rfl) (by decide) ?_
      refine lv_goto (tgt := 128) hx hb (dt_bc_PD_readIntra 67 rfl) (by decide) ?_
      exact hL128 _ _ h ls H locs (lv_sub hl [] rfl) hP hD hS
  have hL110 : ∀ (x2 : Int32) (m : bp_M), bc_PD_readIntra_L110 N a1 x2 m = some (r, mr) → ∀ (ls : Array Slot) (H : Heap) (locs : List Loc), lv_has ls 4 [(0, .ref (E.2.1 3)), (2, .int x2)] → va_P E.1 bp_cl (bc_W E m) H → va_D A (bc_W E m) → va_S A s.heap H locs → W p l e ({ frames := 2, cells := 0, slots := 0, locals := 48 }) s mt args below meth c H locs 0 0 Q (F0 mt 110 ls []) := by
    intro x2 m h ls H locs hl hP hD hS
    rw [bc_PD_readIntra_L110] at h
    refine lv_aload_n hx hb (dt_bc_PD_readIntra 60 rfl) rfl (lv_at hl 0 rfl) ?_
    refine va_get (D := E.1) (ci := 3) (v := .ref (E.2.1 6)) (C := "BlockPictures$PictureDecoder") (T := bF_PD) (N := 11) hx hb htb bc_in_PD hown hK hP 3 (bc_gPD E m) rfl 0 (by decide) (htb _ tw_259) (fun _ h9 => h9) rfl (dt_bc_PD_readIntra 61 rfl) ?_
    refine lv_bipush (v := 9) hx hb (dt_bc_PD_readIntra 62 rfl) (by decide) ?_
    obtain ⟨m1, hm1, h⟩ := bp_cV_s h
    refine bc_callV E hsub hS (va_runV (As := [.int 9]) (rest := []) ⟨hx, hb, hml, hown, htb⟩ (wbc_BR_fail l E N 9 m H.size m1 hm1) (cwV 1 htb (bp_goodV tw_465 tw_421 tw_422 tw_73 tw_423) rfl rfl rfl ⟨rfl, hd_bc_BR_fail⟩ ⟨Nat.le_of_ble_eq_true rfl, Nat.le_of_ble_eq_true rfl⟩) (bc_preV E hsub hst hK hP hD hS (bc_gBR E m) rfl rfl _) rfl rfl hl.1 rfl (lv_room (Nat.le_of_ble_eq_true rfl)) (dt_bc_PD_readIntra 63 rfl) ⟨Nat.zero_le _, Nat.zero_le _⟩) (fun H locs hP hD hS => ?_)
    exact hL119 _ _ h ls H locs (lv_sub hl [1] rfl) hP hD hS
  have hL87 : ∀ (x2 : Int32) (m : bp_M), bc_PD_readIntra_L87 N a1 x2 m = some (r, mr) → ∀ (ls : Array Slot) (H : Heap) (locs : List Loc), lv_has ls 4 [(0, .ref (E.2.1 3)), (1, .int a1), (2, .int x2)] → va_P E.1 bp_cl (bc_W E m) H → va_D A (bc_W E m) → va_S A s.heap H locs → W p l e ({ frames := 2, cells := 0, slots := 0, locals := 48 }) s mt args below meth c H locs 0 0 Q (F0 mt 87 ls []) := by
    intro x2 m h ls H locs hl hP hD hS
    rw [bc_PD_readIntra_L87] at h
    refine lv_iload_n hx hb (dt_bc_PD_readIntra 46 rfl) rfl (lv_at hl 2 rfl) ?_
    refine lv_iconst (v := 3) hx hb (dt_bc_PD_readIntra 47 rfl) (by decide) ?_
    refine lv_icmp_ne (tgt := 110) hx hb (dt_bc_PD_readIntra 48 rfl) (by decide) (fun hc => ?_) (fun hc => ?_)
    · replace h := (if_pos hc).symm.trans h
      exact hL110 _ _ h ls H locs (lv_sub hl [0, 2] rfl) hP hD hS
    · replace h := (if_neg (fun hn => hn hc)).symm.trans h
      refine lv_iload_n hx hb (dt_bc_PD_readIntra 49 rfl) rfl (lv_at hl 1 rfl) ?_
      refine lv_iconst (v := 4) hx hb (dt_bc_PD_readIntra 50 rfl) (by decide) ?_
      refine lv_irem hx hb (dt_bc_PD_readIntra 51 rfl) (by decide) ?_
      refine lv_if_le (tgt := 110) hx hb (dt_bc_PD_readIntra 52 rfl) (by decide) (fun hc => ?_) (fun hc => ?_)
      · replace h := (if_pos hc).symm.trans h
        exact hL110 _ _ h ls H locs (lv_sub hl [0, 2] rfl) hP hD hS
      · replace h := (if_neg hc).symm.trans h
        refine lv_aload_n hx hb (dt_bc_PD_readIntra 53 rfl) rfl (lv_at hl 0 rfl) ?_
        refine lv_iload_n hx hb (dt_bc_PD_readIntra 54 rfl) rfl (lv_at hl 1 rfl) ?_
        refine lv_iconst (v := (-1)) hx hb (dt_bc_PD_readIntra 55 rfl) (by decide) ?_
        refine lv_bipush (v := 16) hx hb (dt_bc_PD_readIntra 56 rfl) (by decide) ?_
        refine lv_iconst (v := 0) hx hb (dt_bc_PD_readIntra 57 rfl) (by decide) ?_
        obtain ⟨m1, hm1, h⟩ := bp_cV_s h
        refine bc_callV E hsub hS (va_runV (As := [.int a1, .int (-1), .int 16, .int 0]) (rest := []) ⟨hx, hb, hml, hown, htb⟩ (wbc_PD_predictFrom l E N a1 (-1) 16 0 m H.size m1 hm1) (cwV 4 htb (bp_goodV tw_539 tw_541 tw_16 tw_72 tw_542) rfl rfl rfl ⟨rfl, hd_bc_PD_predictFrom⟩ ⟨Nat.le_of_ble_eq_true rfl, Nat.le_of_ble_eq_true rfl⟩) (bc_preV E hsub hst hK hP hD hS (bc_gPD E m) rfl rfl _) rfl rfl hl.1 rfl (lv_room (Nat.le_of_ble_eq_true rfl)) (dt_bc_PD_readIntra 58 rfl) ⟨Nat.zero_le _, Nat.zero_le _⟩) (fun H locs hP hD hS => ?_)
        refine lv_goto (tgt := 119) hx hb (dt_bc_PD_readIntra 59 rfl) (by decide) ?_
        exact hL119 _ _ h ls H locs (lv_sub hl [2] rfl) hP hD hS
  have hL49 : ∀ (x2 : Int32) (m : bp_M), bc_PD_readIntra_L49 N a1 x2 m = some (r, mr) → ∀ (ls : Array Slot) (H : Heap) (locs : List Loc), lv_has ls 4 [(2, .int x2)] → va_P E.1 bp_cl (bc_W E m) H → va_D A (bc_W E m) → va_S A s.heap H locs → W p l e ({ frames := 2, cells := 0, slots := 0, locals := 48 }) s mt args below meth c H locs 0 0 Q (F0 mt 49 ls []) := by
    intro x2 m h ls H locs hl hP hD hS
    rw [bc_PD_readIntra_L49] at h
    refine lv_goto (tgt := 119) hx hb (dt_bc_PD_readIntra 25 rfl) (by decide) ?_
    exact hL119 _ _ h ls H locs (lv_sub hl [0] rfl) hP hD hS
  have hL15 : ∀ (n15 : Nat) (x2 : Int32) (x3 : Int32) (m : bp_M), bc_PD_readIntra_L15 N a1 n15 x2 x3 m = some (r, mr) → ∀ (ls : Array Slot) (H : Heap) (locs : List Loc), lv_has ls 4 [(0, .ref (E.2.1 3)), (1, .int a1), (2, .int x2), (3, .int x3)] → va_P E.1 bp_cl (bc_W E m) H → va_D A (bc_W E m) → va_S A s.heap H locs → W p l e ({ frames := 2, cells := 0, slots := 0, locals := 48 }) s mt args below meth c H locs 0 0 Q (F0 mt 15 ls []) := by
    intro n15
    induction n15 with
    | zero =>
      intro x2 x3 m h ls H locs hl hP hD hS
      rw [bc_PD_readIntra_L15] at h
      cases h
    | succ n15 ih15 =>
      intro x2 x3 m h ls H locs hl hP hD hS
      rw [bc_PD_readIntra_L15] at h
      refine lv_iload_n hx hb (dt_bc_PD_readIntra 9 rfl) rfl (lv_at hl 3 rfl) ?_
      refine lv_bipush (v := 16) hx hb (dt_bc_PD_readIntra 10 rfl) (by decide) ?_
      refine lv_icmp_ge (tgt := 49) hx hb (dt_bc_PD_readIntra 11 rfl) (by decide) (fun hc => ?_) (fun hc => ?_)
      · replace h := (if_pos hc).symm.trans h
        exact hL49 _ _ h ls H locs (lv_sub hl [2] rfl) hP hD hS
      · replace h := (if_neg hc).symm.trans h
        refine lv_aload_n hx hb (dt_bc_PD_readIntra 12 rfl) rfl (lv_at hl 0 rfl) ?_
        refine va_get (D := E.1) (ci := 3) (v := .ref (E.2.1 10)) (C := "BlockPictures$PictureDecoder") (T := bF_PD) (N := 11) hx hb htb bc_in_PD hown hK hP 3 (bc_gPD E m) rfl 1 (by decide) (htb _ tw_261) (fun _ h9 => h9) rfl (dt_bc_PD_readIntra 13 rfl) ?_
        refine va_get (D := E.1) (ci := 9) (v := .ref (E.2.1 34)) (C := "BlockPictures$Picture") (T := bF_PI) (N := 4) hx hb htb bc_in_PI hown hK hP 10 (bc_gPI E m (by decide)) rfl 0 (by decide) (htb _ tw_185) (fun _ h9 => h9) rfl (dt_bc_PD_readIntra 14 rfl) ?_
        refine lv_iload_n hx hb (dt_bc_PD_readIntra 15 rfl) rfl (lv_at hl 1 rfl) ?_
        refine lv_iload_n hx hb (dt_bc_PD_readIntra 16 rfl) rfl (lv_at hl 3 rfl) ?_
        obtain ⟨z2, m1, hm1, h⟩ := bp_cI_s h
        refine bc_callI E hsub hS (va_runSN (As := [.int a1, .int x3]) (rest := [.ref (E.2.1 34)]) ⟨hx, hb, hml, hown, htb⟩ (wbc_BP_sampleNumber l E N a1 x3 m H.size z2 m1 hm1) ⟨va_cnB 2 htb (bp_good tw_525) rfl rfl rfl (hst.1 _ (List.mem_of_getElem? (i := 10) rfl)) (htb _ tw_69) hd_bc_BP_sampleNumber ⟨Nat.le_of_ble_eq_true rfl, Nat.le_of_ble_eq_true rfl⟩, htb _ tw_524, trivial⟩ (bc_preS E hsub hst hK hP hD hS _) rfl rfl hl.1 rfl (lv_room (Nat.le_of_ble_eq_true rfl)) (dt_bc_PD_readIntra 17 rfl) ⟨Nat.zero_le _, Nat.zero_le _⟩) (fun H locs hP hD hS => ?_)
        refine lv_aload_n hx hb (dt_bc_PD_readIntra 18 rfl) rfl (lv_at hl 0 rfl) ?_
        refine va_get (D := E.1) (ci := 3) (v := .ref (E.2.1 6)) (C := "BlockPictures$PictureDecoder") (T := bF_PD) (N := 11) hx hb htb bc_in_PD hown hK hP 3 (bc_gPD E m1) rfl 0 (by decide) (htb _ tw_259) (fun _ h9 => h9) rfl (dt_bc_PD_readIntra 19 rfl) ?_
        refine lv_bipush (v := 8) hx hb (dt_bc_PD_readIntra 20 rfl) (by decide) ?_
        obtain ⟨z4, m3, hm3, h⟩ := bp_cI_s h
        refine bc_callI E hsub hS (va_runV (As := [.int 8]) (rest := [.int z2, .ref (E.2.1 34)]) ⟨hx, hb, hml, hown, htb⟩ (wbc_BR_bits l E N 8 m1 H.size z4 m3 hm3) (cwV 1 htb (bp_goodV tw_530 tw_531 tw_532 tw_73 tw_533) rfl rfl rfl ⟨rfl, hd_bc_BR_bits⟩ ⟨Nat.le_of_ble_eq_true rfl, Nat.le_of_ble_eq_true rfl⟩) (bc_preV E hsub hst hK hP hD hS (bc_gBR E m1) rfl rfl _) rfl rfl hl.1 rfl (lv_room (Nat.le_of_ble_eq_true rfl)) (dt_bc_PD_readIntra 21 rfl) ⟨Nat.zero_le _, Nat.zero_le _⟩) (fun H locs hP hD hS => ?_)
        obtain ⟨hg5, h⟩ := bp_gi_s h
        refine bc_sI E hx hb hK hP hD hS (bc_ga34 E) hg5 (dt_bc_PD_readIntra 22 rfl) (fun m6 em6 H locs hP hD hS => ?_)
        replace h := bp_nM_s h em6
        obtain ⟨y7, ey7⟩ : ∃ z : Int32, z = x3 + 1 := ⟨_, rfl⟩
        replace h := bp_nI_s h ey7
        refine lv_iinc (k := 3) (v := y7) hx hb (dt_bc_PD_readIntra 23 rfl) hl rfl (by rw [ey7]; rfl) (Nat.le_of_ble_eq_true rfl) rfl (fun ls hl => ?_)
        have hl : lv_has ls 4 [(3, .int y7), (0, .ref (E.2.1 3)), (1, .int a1), (2, .int x2)] := hl
        refine lv_goto (tgt := 15) hx hb (dt_bc_PD_readIntra 24 rfl) (by decide) ?_
        exact ih15 _ _ _ h ls H locs (lv_sub hl [1, 2, 3, 0] rfl) hP hD hS
  suffices hgo : ∀ (H : Heap) (locs : List Loc), va_P E.1 bp_cl (bc_W E m) H → va_D A (bc_W E m) → va_S A s.heap H locs → W p l e ({ frames := 2, cells := 0, slots := 0, locals := 48 }) s mt args below meth c H locs 0 0 Q (F0 mt 0 ls []) from hgo _ _ hP hD hS
  clear hP hD hS
  intro H locs hP hD hS
  unfold bc_PD_readIntra at h
  refine lv_aload_n hx hb (dt_bc_PD_readIntra 0 rfl) rfl (lv_at hl 0 rfl) ?_
  refine va_get (D := E.1) (ci := 3) (v := .ref (E.2.1 6)) (C := "BlockPictures$PictureDecoder") (T := bF_PD) (N := 11) hx hb htb bc_in_PD hown hK hP 3 (bc_gPD E m) rfl 0 (by decide) (htb _ tw_259) (fun _ h9 => h9) rfl (dt_bc_PD_readIntra 1 rfl) ?_
  refine lv_iconst (v := 2) hx hb (dt_bc_PD_readIntra 2 rfl) (by decide) ?_
  obtain ⟨z2, m1, hm1, h⟩ := bp_cI_s h
  refine bc_callI E hsub hS (va_runV (As := [.int 2]) (rest := []) ⟨hx, hb, hml, hown, htb⟩ (wbc_BR_bits l E N 2 m H.size z2 m1 hm1) (cwV 1 htb (bp_goodV tw_530 tw_531 tw_532 tw_73 tw_533) rfl rfl rfl ⟨rfl, hd_bc_BR_bits⟩ ⟨Nat.le_of_ble_eq_true rfl, Nat.le_of_ble_eq_true rfl⟩) (bc_preV E hsub hst hK hP hD hS (bc_gBR E m) rfl rfl _) rfl rfl hl.1 rfl (lv_room (Nat.le_of_ble_eq_true rfl)) (dt_bc_PD_readIntra 3 rfl) ⟨Nat.zero_le _, Nat.zero_le _⟩) (fun H locs hP hD hS => ?_)
  refine lv_istore_n hx hb (dt_bc_PD_readIntra 4 rfl) rfl hl (Nat.le_of_ble_eq_true rfl) rfl (fun ls hl => ?_)
  have hl : lv_has ls 4 [(2, .int z2), (0, .ref (E.2.1 3)), (1, .int a1)] := hl
  refine lv_iload_n hx hb (dt_bc_PD_readIntra 5 rfl) rfl (lv_at hl 0 rfl) ?_
  refine lv_if_ne (tgt := 52) hx hb (dt_bc_PD_readIntra 6 rfl) (by decide) (fun hc => ?_) (fun hc => ?_)
  · replace h := (if_pos hc).symm.trans h
    refine lv_iload_n hx hb (dt_bc_PD_readIntra 26 rfl) rfl (lv_at hl 0 rfl) ?_
    refine lv_iconst (v := 1) hx hb (dt_bc_PD_readIntra 27 rfl) (by decide) ?_
    refine lv_icmp_ne (tgt := 65) hx hb (dt_bc_PD_readIntra 28 rfl) (by decide) (fun hc => ?_) (fun hc => ?_)
    · replace h := (if_pos hc).symm.trans h
      refine lv_iload_n hx hb (dt_bc_PD_readIntra 33 rfl) rfl (lv_at hl 0 rfl) ?_
      refine lv_iconst (v := 2) hx hb (dt_bc_PD_readIntra 34 rfl) (by decide) ?_
      refine lv_icmp_ne (tgt := 87) hx hb (dt_bc_PD_readIntra 35 rfl) (by decide) (fun hc => ?_) (fun hc => ?_)
      · replace h := (if_pos hc).symm.trans h
        exact hL87 _ _ h ls H locs (lv_sub hl [1, 2, 0] rfl) hP hD hS
      · replace h := (if_neg (fun hn => hn hc)).symm.trans h
        refine lv_iload_n hx hb (dt_bc_PD_readIntra 36 rfl) rfl (lv_at hl 2 rfl) ?_
        refine lv_iconst (v := 4) hx hb (dt_bc_PD_readIntra 37 rfl) (by decide) ?_
        refine lv_icmp_lt (tgt := 87) hx hb (dt_bc_PD_readIntra 38 rfl) (by decide) (fun hc => ?_) (fun hc => ?_)
        · replace h := (if_pos hc).symm.trans h
          exact hL87 _ _ h ls H locs (lv_sub hl [1, 2, 0] rfl) hP hD hS
        · replace h := (if_neg hc).symm.trans h
          refine lv_aload_n hx hb (dt_bc_PD_readIntra 39 rfl) rfl (lv_at hl 1 rfl) ?_
          refine lv_iload_n hx hb (dt_bc_PD_readIntra 40 rfl) rfl (lv_at hl 2 rfl) ?_
          refine lv_bipush (v := (-16)) hx hb (dt_bc_PD_readIntra 41 rfl) (by decide) ?_
          refine lv_iconst (v := 0) hx hb (dt_bc_PD_readIntra 42 rfl) (by decide) ?_
          refine lv_iconst (v := 1) hx hb (dt_bc_PD_readIntra 43 rfl) (by decide) ?_
          obtain ⟨m3, hm3, h⟩ := bp_cV_s h
          refine bc_callV E hsub hS (va_runV (As := [.int a1, .int (-16), .int 0, .int 1]) (rest := []) ⟨hx, hb, hml, hown, htb⟩ (wbc_PD_predictFrom l E N a1 (-16) 0 1 m1 H.size m3 hm3) (cwV 4 htb (bp_goodV tw_539 tw_541 tw_16 tw_72 tw_542) rfl rfl rfl ⟨rfl, hd_bc_PD_predictFrom⟩ ⟨Nat.le_of_ble_eq_true rfl, Nat.le_of_ble_eq_true rfl⟩) (bc_preV E hsub hst hK hP hD hS (bc_gPD E m1) rfl rfl _) rfl rfl hl.1 rfl (lv_room (Nat.le_of_ble_eq_true rfl)) (dt_bc_PD_readIntra 44 rfl) ⟨Nat.zero_le _, Nat.zero_le _⟩) (fun H locs hP hD hS => ?_)
          refine lv_goto (tgt := 119) hx hb (dt_bc_PD_readIntra 45 rfl) (by decide) ?_
          exact hL119 _ _ h ls H locs (lv_sub hl [0] rfl) hP hD hS
    · replace h := (if_neg (fun hn => hn hc)).symm.trans h
      refine lv_aload_n hx hb (dt_bc_PD_readIntra 29 rfl) rfl (lv_at hl 1 rfl) ?_
      refine lv_iload_n hx hb (dt_bc_PD_readIntra 30 rfl) rfl (lv_at hl 2 rfl) ?_
      obtain ⟨m4, hm4, h⟩ := bp_cV_s h
      refine bc_callV E hsub hS (va_runV (As := [.int a1]) (rest := []) ⟨hx, hb, hml, hown, htb⟩ (wbc_PD_predictMean l E N a1 m1 H.size m4 hm4) (cwV 1 htb (bp_goodV tw_535 tw_537 tw_15 tw_72 tw_538) rfl rfl rfl ⟨rfl, hd_bc_PD_predictMean⟩ ⟨Nat.le_of_ble_eq_true rfl, Nat.le_of_ble_eq_true rfl⟩) (bc_preV E hsub hst hK hP hD hS (bc_gPD E m1) rfl rfl _) rfl rfl hl.1 rfl (lv_room (Nat.le_of_ble_eq_true rfl)) (dt_bc_PD_readIntra 31 rfl) ⟨Nat.zero_le _, Nat.zero_le _⟩) (fun H locs hP hD hS => ?_)
      refine lv_goto (tgt := 119) hx hb (dt_bc_PD_readIntra 32 rfl) (by decide) ?_
      exact hL119 _ _ h ls H locs (lv_sub hl [0] rfl) hP hD hS
  · replace h := (if_neg (fun hn => hn hc)).symm.trans h
    refine lv_iconst (v := 0) hx hb (dt_bc_PD_readIntra 7 rfl) (by decide) ?_
    refine lv_istore_n hx hb (dt_bc_PD_readIntra 8 rfl) rfl hl (Nat.le_of_ble_eq_true rfl) rfl (fun ls hl => ?_)
    have hl : lv_has ls 4 [(3, .int 0), (2, .int z2), (0, .ref (E.2.1 3)), (1, .int a1)] := hl
    exact hL15 _ _ _ _ h ls H locs (lv_sub hl [2, 3, 1, 0] rfl) hP hD hS
set_option maxHeartbeats 4000000 in
set_option maxRecDepth 100000 in
theorem wbc_fill (l : Launch) (E : bc_E) (N : Nat) (a0 : Nat) (a1 : Int32) (m : bp_M) (sz : Nat) (mr : bp_M)  (h : bc_fill N a0 a1 m = some mr) : Met l y_bc_fill (Cond.code y_bc_fill prog_16_method_103_code 4 none :: bp_tb) ({ frames := 0, cells := 0, slots := 0, locals := 0 }) (bc_Pc E m sz [.ref (E.2.1 a0), .int a1]) (bc_Qv E m sz mr) 0 0 (va_A (bc_W E m) sz) := by
  refine Met.ofW (cc := prog_16_method_103_code) (maxL := 4) (ret := none) (by decide) rfl ?_
  intro p e s mt args below meth c s₁ B hml hv
  obtain ⟨rfl, hsz, hP, hK, hD0, hst⟩ := hv
  have hx := B.exec
  have hb := B.bytes
  have hr := B.returns
  have htb : ∀ w ∈ bp_tb, w.before _ s = true := fun w hw => atoms_spec (ws := Cond.code y_bc_fill prog_16_method_103_code 4 none :: bp_tb) B.pre w (List.mem_cons_of_mem _ hw)
  have hown : s.vm.findClass "java/util/Arrays" = some mt.cls := findClass_of_methodNamed B.named
  have hlocks := B.notSynchronized
  subst hsz
  have hD := hD0.self (sz := s.heap.size)
  generalize hAe : va_A (bc_W E m) s.heap.size = A at hD hst ⊢
  have hsub : ∀ (u : bp_M) (z q : Nat), s.heap.size ≤ z → va_A (bc_W E u) z q → A q := bc_sub hAe
  have hS : va_S A s.heap s.heap [] := va_S.rf
  have hl := lv_entry ([.ref (E.2.1 a0), .int a1]) (n := 4) (Nat.le_of_ble_eq_true rfl)
  rw [lg_entry_eq]
  generalize (lg_sl ([.ref (E.2.1 a0), .int a1]) ++ List.replicate (4 - (lg_sl ([.ref (E.2.1 a0), .int a1])).length) Slot.unset).toArray = ls at hl ⊢
  have hl : lv_has ls 4 [(0, .ref (E.2.1 a0)), (1, .int a1)] := hl
  refine bc_keyV (R := ({ frames := 0, cells := 0, slots := 0, locals := 0 })) E hx hb hr hlocks hK hAe (fun Q hret => ?_)
  clear B hD0 hlocks hr
  generalize ([.ref (E.2.1 a0), .int a1] : List Value).toArray = args at htb hret ⊢
  clear hAe
  have hL20 : ∀ (m : bp_M), bc_fill_L20 N a0 a1 m = some mr → ∀ (ls : Array Slot) (H : Heap) (locs : List Loc), lv_has ls 4 [] → va_P E.1 bp_cl (bc_W E m) H → va_D A (bc_W E m) → va_S A s.heap H locs → W p l e ({ frames := 0, cells := 0, slots := 0, locals := 0 }) s mt args below meth c H locs 0 0 Q (F0 mt 20 ls []) := by
    intro m h ls H locs hl hP hD hS
    rw [bc_fill_L20] at h
    exact hret _ _ _ _ _ h hP hD hS (dt_bc_fill 14 rfl)
  have hL5 : ∀ (n5 : Nat) (x2 : Int32) (x3 : Int32) (m : bp_M), bc_fill_L5 N a0 a1 n5 x2 x3 m = some mr → ∀ (ls : Array Slot) (H : Heap) (locs : List Loc), lv_has ls 4 [(0, .ref (E.2.1 a0)), (1, .int a1), (2, .int x2), (3, .int x3)] → va_P E.1 bp_cl (bc_W E m) H → va_D A (bc_W E m) → va_S A s.heap H locs → W p l e ({ frames := 0, cells := 0, slots := 0, locals := 0 }) s mt args below meth c H locs 0 0 Q (F0 mt 5 ls []) := by
    intro n5
    induction n5 with
    | zero =>
      intro x2 x3 m h ls H locs hl hP hD hS
      rw [bc_fill_L5] at h
      cases h
    | succ n5 ih5 =>
      intro x2 x3 m h ls H locs hl hP hD hS
      rw [bc_fill_L5] at h
      refine lv_iload_n hx hb (dt_bc_fill 5 rfl) rfl (lv_at hl 2 rfl) ?_
      refine lv_iload_n hx hb (dt_bc_fill 6 rfl) rfl (lv_at hl 3 rfl) ?_
      refine lv_icmp_ge (tgt := 20) hx hb (dt_bc_fill 7 rfl) (by decide) (fun hc => ?_) (fun hc => ?_)
      · replace h := (if_pos hc).symm.trans h
        exact hL20 _ h ls H locs (lv_sub hl [] rfl) hP hD hS
      · replace h := (if_neg hc).symm.trans h
        refine lv_aload_n hx hb (dt_bc_fill 8 rfl) rfl (lv_at hl 0 rfl) ?_
        refine lv_iload_n hx hb (dt_bc_fill 9 rfl) rfl (lv_at hl 2 rfl) ?_
        refine lv_iload_n hx hb (dt_bc_fill 10 rfl) rfl (lv_at hl 1 rfl) ?_
        obtain ⟨hg1, h⟩ := bp_g_s h
        obtain ⟨hg2, h⟩ := bp_gi_s h
        refine bc_sI E hx hb hK hP hD hS (bc_gisI E hg1) hg2 (dt_bc_fill 11 rfl) (fun m3 em3 H locs hP hD hS => ?_)
        replace h := bp_nM_s h em3
        obtain ⟨y4, ey4⟩ : ∃ z : Int32, z = x2 + 1 := ⟨_, rfl⟩
        replace h := bp_nI_s h ey4
        refine lv_iinc (k := 2) (v := y4) hx hb (dt_bc_fill 12 rfl) hl rfl (by rw [ey4]; rfl) (Nat.le_of_ble_eq_true rfl) rfl (fun ls hl => ?_)
        have hl : lv_has ls 4 [(2, .int y4), (0, .ref (E.2.1 a0)), (1, .int a1), (3, .int x3)] := hl
        refine lv_goto (tgt := 5) hx hb (dt_bc_fill 13 rfl) (by decide) ?_
        exact ih5 _ _ _ h ls H locs (lv_sub hl [1, 2, 0, 3] rfl) hP hD hS
  suffices hgo : ∀ (H : Heap) (locs : List Loc), va_P E.1 bp_cl (bc_W E m) H → va_D A (bc_W E m) → va_S A s.heap H locs → W p l e ({ frames := 0, cells := 0, slots := 0, locals := 0 }) s mt args below meth c H locs 0 0 Q (F0 mt 0 ls []) from hgo _ _ hP hD hS
  clear hP hD hS
  intro H locs hP hD hS
  unfold bc_fill at h
  refine lv_iconst (v := 0) hx hb (dt_bc_fill 0 rfl) (by decide) ?_
  refine lv_istore_n hx hb (dt_bc_fill 1 rfl) rfl hl (Nat.le_of_ble_eq_true rfl) rfl (fun ls hl => ?_)
  have hl : lv_has ls 4 [(2, .int 0), (0, .ref (E.2.1 a0)), (1, .int a1)] := hl
  refine lv_aload_n hx hb (dt_bc_fill 2 rfl) rfl (lv_at hl 1 rfl) ?_
  obtain ⟨hg1, h⟩ := bp_g_s h
  refine bc_al E hx hb hK hP (bc_gisI E hg1) rfl (dt_bc_fill 3 rfl) ?_
  refine lv_topi (fun y2 ey2 => ?_)
  replace h := bp_nI_s h ey2
  refine lv_istore_n hx hb (dt_bc_fill 4 rfl) rfl hl (Nat.le_of_ble_eq_true rfl) rfl (fun ls hl => ?_)
  have hl : lv_has ls 4 [(3, .int y2), (2, .int 0), (0, .ref (E.2.1 a0)), (1, .int a1)] := hl
  exact hL5 _ _ _ _ h ls H locs (lv_sub hl [2, 3, 1, 0] rfl) hP hD hS
set_option maxHeartbeats 4000000 in
set_option maxRecDepth 100000 in
theorem wbc_PD_scaleAt (l : Launch) (E : bc_E) (N : Nat) (a1 : Int32) (m : bp_M) (sz : Nat) (r : Int32) (mr : bp_M)  (h : bc_PD_scaleAt N a1 m = some (r, mr)) : Met l y_bc_PD_scaleAt (Cond.code y_bc_PD_scaleAt prog_9_method_13_code 4 (some .int) :: bp_tb) ({ frames := 0, cells := 0, slots := 0, locals := 0 }) (bc_Pc E m sz [.ref (E.2.1 3), .int a1]) (bc_Qi E m sz r mr) 0 0 (va_A (bc_W E m) sz) := by
  refine Met.ofW (cc := prog_9_method_13_code) (maxL := 4) (ret := (some .int)) (by decide) rfl ?_
  intro p e s mt args below meth c s₁ B hml hv
  obtain ⟨rfl, hsz, hP, hK, hD0, hst⟩ := hv
  have hx := B.exec
  have hb := B.bytes
  have hr := B.returns
  have htb : ∀ w ∈ bp_tb, w.before _ s = true := fun w hw => atoms_spec (ws := Cond.code y_bc_PD_scaleAt prog_9_method_13_code 4 (some .int) :: bp_tb) B.pre w (List.mem_cons_of_mem _ hw)
  have hown : s.vm.findClass "BlockPictures$PictureDecoder" = some mt.cls := findClass_of_methodNamed B.named
  have hlocks := B.notSynchronized
  subst hsz
  have hD := hD0.self (sz := s.heap.size)
  generalize hAe : va_A (bc_W E m) s.heap.size = A at hD hst ⊢
  have hsub : ∀ (u : bp_M) (z q : Nat), s.heap.size ≤ z → va_A (bc_W E u) z q → A q := bc_sub hAe
  have hS : va_S A s.heap s.heap [] := va_S.rf
  have hl := lv_entry ([.ref (E.2.1 3), .int a1]) (n := 4) (Nat.le_of_ble_eq_true rfl)
  rw [lg_entry_eq]
  generalize (lg_sl ([.ref (E.2.1 3), .int a1]) ++ List.replicate (4 - (lg_sl ([.ref (E.2.1 3), .int a1])).length) Slot.unset).toArray = ls at hl ⊢
  have hl : lv_has ls 4 [(0, .ref (E.2.1 3)), (1, .int a1)] := hl
  refine bc_keyI (R := ({ frames := 0, cells := 0, slots := 0, locals := 0 })) E hx hb hr hlocks hK hAe (fun Q hret => ?_)
  clear B hD0 hlocks hr
  generalize ([.ref (E.2.1 3), .int a1] : List Value).toArray = args at htb hret ⊢
  clear hAe
  have hL31 : ∀ (s0 : Int32) (m : bp_M), bc_PD_scaleAt_L31 N a1 s0 m = some (r, mr) → ∀ (ls : Array Slot) (H : Heap) (locs : List Loc), lv_has ls 4 [(0, .ref (E.2.1 3))] → va_P E.1 bp_cl (bc_W E m) H → va_D A (bc_W E m) → va_S A s.heap H locs → W p l e ({ frames := 0, cells := 0, slots := 0, locals := 0 }) s mt args below meth c H locs 0 0 Q (F0 mt 31 ls [.int s0]) := by
    intro s0 m h ls H locs hl hP hD hS
    rw [bc_PD_scaleAt_L31] at h
    refine lv_istore_n hx hb (dt_bc_PD_scaleAt 20 rfl) rfl hl (Nat.le_of_ble_eq_true rfl) rfl (fun ls hl => ?_)
    have hl : lv_has ls 4 [(3, .int s0), (0, .ref (E.2.1 3))] := hl
    refine lv_iload_n hx hb (dt_bc_PD_scaleAt 21 rfl) rfl (lv_at hl 0 rfl) ?_
    refine lv_iconst (v := 4) hx hb (dt_bc_PD_scaleAt 22 rfl) (by decide) ?_
    refine lv_aload_n hx hb (dt_bc_PD_scaleAt 23 rfl) rfl (lv_at hl 1 rfl) ?_
    refine va_get (D := E.1) (ci := 3) (v := .int (m.1 3 10)) (C := "BlockPictures$PictureDecoder") (T := bF_PD) (N := 11) hx hb htb bc_in_PD hown hK hP 3 (bc_gPD E m) rfl 10 (by decide) (htb _ tw_275) (fun _ h9 => h9) rfl (dt_bc_PD_scaleAt 24 rfl) ?_
    refine lv_iconst (v := 4) hx hb (dt_bc_PD_scaleAt 25 rfl) (by decide) ?_
    refine lv_irem hx hb (dt_bc_PD_scaleAt 26 rfl) (by decide) ?_
    refine lv_iadd hx hb (dt_bc_PD_scaleAt 27 rfl) ?_
    refine lv_imul hx hb (dt_bc_PD_scaleAt 28 rfl) ?_
    refine lv_aload_n hx hb (dt_bc_PD_scaleAt 29 rfl) rfl (lv_at hl 1 rfl) ?_
    refine va_get (D := E.1) (ci := 3) (v := .int (m.1 3 10)) (C := "BlockPictures$PictureDecoder") (T := bF_PD) (N := 11) hx hb htb bc_in_PD hown hK hP 3 (bc_gPD E m) rfl 10 (by decide) (htb _ tw_275) (fun _ h9 => h9) rfl (dt_bc_PD_scaleAt 30 rfl) ?_
    refine lv_iconst (v := 4) hx hb (dt_bc_PD_scaleAt 31 rfl) (by decide) ?_
    refine lv_idiv hx hb (dt_bc_PD_scaleAt 32 rfl) (by decide) ?_
    refine lv_ishl hx hb (dt_bc_PD_scaleAt 33 rfl) ?_
    exact hret _ _ _ _ _ _ h hP hD hS (dt_bc_PD_scaleAt 34 rfl)
  suffices hgo : ∀ (H : Heap) (locs : List Loc), va_P E.1 bp_cl (bc_W E m) H → va_D A (bc_W E m) → va_S A s.heap H locs → W p l e ({ frames := 0, cells := 0, slots := 0, locals := 0 }) s mt args below meth c H locs 0 0 Q (F0 mt 0 ls []) from hgo _ _ hP hD hS
  clear hP hD hS
  intro H locs hP hD hS
  unfold bc_PD_scaleAt at h
  refine lv_iload_n hx hb (dt_bc_PD_scaleAt 0 rfl) rfl (lv_at hl 1 rfl) ?_
  refine lv_iconst (v := 4) hx hb (dt_bc_PD_scaleAt 1 rfl) (by decide) ?_
  refine lv_idiv hx hb (dt_bc_PD_scaleAt 2 rfl) (by decide) ?_
  refine lv_iconst (v := 2) hx hb (dt_bc_PD_scaleAt 3 rfl) (by decide) ?_
  refine lv_irem hx hb (dt_bc_PD_scaleAt 4 rfl) (by decide) ?_
  refine lv_iload_n hx hb (dt_bc_PD_scaleAt 5 rfl) rfl (lv_at hl 1 rfl) ?_
  refine lv_iconst (v := 2) hx hb (dt_bc_PD_scaleAt 6 rfl) (by decide) ?_
  refine lv_irem hx hb (dt_bc_PD_scaleAt 7 rfl) (by decide) ?_
  refine lv_iadd hx hb (dt_bc_PD_scaleAt 8 rfl) ?_
  refine lv_topi (fun y1 ey1 => ?_)
  replace h := bp_nI_s h ey1
  refine lv_istore_n hx hb (dt_bc_PD_scaleAt 9 rfl) rfl hl (Nat.le_of_ble_eq_true rfl) rfl (fun ls hl => ?_)
  have hl : lv_has ls 4 [(2, .int y1), (0, .ref (E.2.1 3)), (1, .int a1)] := hl
  refine lv_iload_n hx hb (dt_bc_PD_scaleAt 10 rfl) rfl (lv_at hl 0 rfl) ?_
  refine lv_if_ne (tgt := 19) hx hb (dt_bc_PD_scaleAt 11 rfl) (by decide) (fun hc => ?_) (fun hc => ?_)
  · replace h := (if_pos hc).symm.trans h
    refine lv_iload_n hx hb (dt_bc_PD_scaleAt 14 rfl) rfl (lv_at hl 0 rfl) ?_
    refine lv_iconst (v := 1) hx hb (dt_bc_PD_scaleAt 15 rfl) (by decide) ?_
    refine lv_icmp_ne (tgt := 29) hx hb (dt_bc_PD_scaleAt 16 rfl) (by decide) (fun hc => ?_) (fun hc => ?_)
    · replace h := (if_pos hc).symm.trans h
      refine lv_bipush (v := 16) hx hb (dt_bc_PD_scaleAt 19 rfl) (by decide) ?_
      exact hL31 _ _ h ls H locs (lv_sub hl [1] rfl) hP hD hS
    · replace h := (if_neg (fun hn => hn hc)).symm.trans h
      refine lv_bipush (v := 13) hx hb (dt_bc_PD_scaleAt 17 rfl) (by decide) ?_
      refine lv_goto (tgt := 31) hx hb (dt_bc_PD_scaleAt 18 rfl) (by decide) ?_
      exact hL31 _ _ h ls H locs (lv_sub hl [1] rfl) hP hD hS
  · replace h := (if_neg (fun hn => hn hc)).symm.trans h
    refine lv_bipush (v := 10) hx hb (dt_bc_PD_scaleAt 12 rfl) (by decide) ?_
    refine lv_goto (tgt := 31) hx hb (dt_bc_PD_scaleAt 13 rfl) (by decide) ?_
    exact hL31 _ _ h ls H locs (lv_sub hl [1] rfl) hP hD hS
set_option maxHeartbeats 4000000 in
set_option maxRecDepth 100000 in
theorem wbc_PD_readResidual (l : Launch) (E : bc_E) (N : Nat)  (m : bp_M) (sz : Nat) (mr : bp_M)  (h : bc_PD_readResidual N m = some mr) : Met l y_bc_PD_readResidual (Cond.code y_bc_PD_readResidual prog_9_method_12_code 5 none :: bp_tb) ({ frames := 2, cells := 0, slots := 0, locals := 46 }) (bc_Pc E m sz [.ref (E.2.1 3)]) (bc_Qv E m sz mr) 0 0 (va_A (bc_W E m) sz) := by
  refine Met.ofW (cc := prog_9_method_12_code) (maxL := 5) (ret := none) (by decide) rfl ?_
  intro p e s mt args below meth c s₁ B hml hv
  obtain ⟨rfl, hsz, hP, hK, hD0, hst⟩ := hv
  have hx := B.exec
  have hb := B.bytes
  have hr := B.returns
  have htb : ∀ w ∈ bp_tb, w.before _ s = true := fun w hw => atoms_spec (ws := Cond.code y_bc_PD_readResidual prog_9_method_12_code 5 none :: bp_tb) B.pre w (List.mem_cons_of_mem _ hw)
  have hown : s.vm.findClass "BlockPictures$PictureDecoder" = some mt.cls := findClass_of_methodNamed B.named
  have hlocks := B.notSynchronized
  subst hsz
  have hD := hD0.self (sz := s.heap.size)
  generalize hAe : va_A (bc_W E m) s.heap.size = A at hD hst ⊢
  have hsub : ∀ (u : bp_M) (z q : Nat), s.heap.size ≤ z → va_A (bc_W E u) z q → A q := bc_sub hAe
  have hS : va_S A s.heap s.heap [] := va_S.rf
  have hl := lv_entry ([.ref (E.2.1 3)]) (n := 5) (Nat.le_of_ble_eq_true rfl)
  rw [lg_entry_eq]
  generalize (lg_sl ([.ref (E.2.1 3)]) ++ List.replicate (5 - (lg_sl ([.ref (E.2.1 3)])).length) Slot.unset).toArray = ls at hl ⊢
  have hl : lv_has ls 5 [(0, .ref (E.2.1 3))] := hl
  refine bc_keyV (R := ({ frames := 2, cells := 0, slots := 0, locals := 46 })) E hx hb hr hlocks hK hAe (fun Q hret => ?_)
  clear B hD0 hlocks hr
  generalize ([.ref (E.2.1 3)] : List Value).toArray = args at htb hret ⊢
  clear hAe
  have hL111 : ∀ (m : bp_M), bc_PD_readResidual_L111 N m = some mr → ∀ (ls : Array Slot) (H : Heap) (locs : List Loc), lv_has ls 5 [] → va_P E.1 bp_cl (bc_W E m) H → va_D A (bc_W E m) → va_S A s.heap H locs → W p l e ({ frames := 2, cells := 0, slots := 0, locals := 46 }) s mt args below meth c H locs 0 0 Q (F0 mt 111 ls []) := by
    intro m h ls H locs hl hP hD hS
    rw [bc_PD_readResidual_L111] at h
    exact hret _ _ _ _ _ h hP hD hS (dt_bc_PD_readResidual 61 rfl)
  have hL25 : ∀ (n25 : Nat) (x1 : Int32) (x2 : Int32) (x3 : Int32) (m : bp_M), bc_PD_readResidual_L25 N n25 x1 x2 x3 m = some mr → ∀ (ls : Array Slot) (H : Heap) (locs : List Loc), lv_has ls 5 [(0, .ref (E.2.1 3)), (1, .int x1), (2, .int x2), (3, .int x3)] → va_P E.1 bp_cl (bc_W E m) H → va_D A (bc_W E m) → va_S A s.heap H locs → W p l e ({ frames := 2, cells := 0, slots := 0, locals := 46 }) s mt args below meth c H locs 0 0 Q (F0 mt 25 ls []) := by
    intro n25
    induction n25 with
    | zero =>
      intro x1 x2 x3 m h ls H locs hl hP hD hS
      rw [bc_PD_readResidual_L25] at h
      cases h
    | succ n25 ih25 =>
      have hL102 : ∀ (x1 : Int32) (x2 : Int32) (x3 : Int32) (m : bp_M), bc_PD_readResidual_L102 (bc_PD_readResidual_L25 N n25) N x1 x2 x3 m = some mr → ∀ (ls : Array Slot) (H : Heap) (locs : List Loc), lv_has ls 5 [(0, .ref (E.2.1 3)), (1, .int x1), (2, .int x2), (3, .int x3)] → va_P E.1 bp_cl (bc_W E m) H → va_D A (bc_W E m) → va_S A s.heap H locs → W p l e ({ frames := 2, cells := 0, slots := 0, locals := 46 }) s mt args below meth c H locs 0 0 Q (F0 mt 102 ls []) := by
        intro x1 x2 x3 m h ls H locs hl hP hD hS
        rw [bc_PD_readResidual_L102] at h
        obtain ⟨y1, ey1⟩ : ∃ z : Int32, z = x2 + 1 := ⟨_, rfl⟩
        replace h := bp_nI_s h ey1
        refine lv_iinc (k := 2) (v := y1) hx hb (dt_bc_PD_readResidual 58 rfl) hl rfl (by rw [ey1]; rfl) (Nat.le_of_ble_eq_true rfl) rfl (fun ls hl => ?_)
        have hl : lv_has ls 5 [(2, .int y1), (0, .ref (E.2.1 3)), (1, .int x1), (3, .int x3)] := hl
        obtain ⟨y2, ey2⟩ : ∃ z : Int32, z = x3 + 1 := ⟨_, rfl⟩
        replace h := bp_nI_s h ey2
        refine lv_iinc (k := 3) (v := y2) hx hb (dt_bc_PD_readResidual 59 rfl) hl rfl (by rw [ey2]; rfl) (Nat.le_of_ble_eq_true rfl) rfl (fun ls hl => ?_)
        have hl : lv_has ls 5 [(3, .int y2), (2, .int y1), (0, .ref (E.2.1 3)), (1, .int x1)] := hl
        refine lv_goto (tgt := 25) hx hb (dt_bc_PD_readResidual 60 rfl) (by decide) ?_
        exact ih25 _ _ _ _ h ls H locs (lv_sub hl [2, 3, 1, 0] rfl) hP hD hS
      have hL74 : ∀ (x1 : Int32) (x2 : Int32) (x3 : Int32) (x4 : Int32) (m : bp_M), bc_PD_readResidual_L74 (bc_PD_readResidual_L25 N n25) N x1 x2 x3 x4 m = some mr → ∀ (ls : Array Slot) (H : Heap) (locs : List Loc), lv_has ls 5 [(0, .ref (E.2.1 3)), (1, .int x1), (2, .int x2), (3, .int x3), (4, .int x4)] → va_P E.1 bp_cl (bc_W E m) H → va_D A (bc_W E m) → va_S A s.heap H locs → W p l e ({ frames := 2, cells := 0, slots := 0, locals := 46 }) s mt args below meth c H locs 0 0 Q (F0 mt 74 ls []) := by
        intro x1 x2 x3 x4 m h ls H locs hl hP hD hS
        rw [bc_PD_readResidual_L74] at h
        refine lv_iload_n hx hb (dt_bc_PD_readResidual 42 rfl) rfl (lv_at hl 2 rfl) ?_
        refine lv_bipush (v := 16) hx hb (dt_bc_PD_readResidual 43 rfl) (by decide) ?_
        refine lv_icmp_ge (tgt := 102) hx hb (dt_bc_PD_readResidual 44 rfl) (by decide) (fun hc => ?_) (fun hc => ?_)
        · replace h := (if_pos hc).symm.trans h
          exact hL102 _ _ _ _ h ls H locs (lv_sub hl [0, 1, 2, 3] rfl) hP hD hS
        · replace h := (if_neg hc).symm.trans h
          refine lv_aload_n hx hb (dt_bc_PD_readResidual 45 rfl) rfl (lv_at hl 0 rfl) ?_
          refine va_get (D := E.1) (ci := 3) (v := .ref (E.2.1 19)) (C := "BlockPictures$PictureDecoder") (T := bF_PD) (N := 11) hx hb htb bc_in_PD hown hK hP 3 (bc_gPD E m) rfl 8 (by decide) (htb _ tw_273) (fun _ h9 => h9) rfl (dt_bc_PD_readResidual 46 rfl) ?_
          refine va_gets hx hb hst.2.1 hS hown (htb _ tw_550) (fun _ h9 => h9) (dt_bc_PD_readResidual 47 rfl) ?_
          refine lv_iload_n hx hb (dt_bc_PD_readResidual 48 rfl) rfl (lv_at hl 2 rfl) ?_
          obtain ⟨hg1, h⟩ := bp_gi_s h
          refine va_ti hx hb hst.2.2.1 hS hg1 rfl (dt_bc_PD_readResidual 49 rfl) ?_
          refine lv_iload hx hb (dt_bc_PD_readResidual 50 rfl) (lv_at hl 4 rfl) ?_
          refine lv_aload_n hx hb (dt_bc_PD_readResidual 51 rfl) rfl (lv_at hl 0 rfl) ?_
          refine va_gets hx hb hst.2.1 hS hown (htb _ tw_550) (fun _ h9 => h9) (dt_bc_PD_readResidual 52 rfl) ?_
          refine lv_iload_n hx hb (dt_bc_PD_readResidual 53 rfl) rfl (lv_at hl 2 rfl) ?_
          obtain ⟨hg2, h⟩ := bp_gi_s h
          refine va_ti hx hb hst.2.2.1 hS hg2 rfl (dt_bc_PD_readResidual 54 rfl) ?_
          obtain ⟨z4, m3, hm3, h⟩ := bp_cI_s h
          refine bc_callI E hsub hS (va_runV (As := [.int (st_S x2.toNatClampNeg)]) (rest := [.int x4, .int (st_S x2.toNatClampNeg), .ref (E.2.1 19)]) ⟨hx, hb, hml, hown, htb⟩ (wbc_PD_scaleAt l E N (st_S x2.toNatClampNeg) m H.size z4 m3 hm3) (cwV 1 htb (bp_goodV tw_552 tw_554 tw_18 tw_72 tw_555) rfl rfl rfl ⟨rfl, hd_bc_PD_scaleAt⟩ ⟨Nat.le_of_ble_eq_true rfl, Nat.le_of_ble_eq_true rfl⟩) (bc_preV E hsub hst hK hP hD hS (bc_gPD E m) rfl rfl _) rfl rfl hl.1 rfl (lv_room (Nat.le_of_ble_eq_true rfl)) (dt_bc_PD_readResidual 55 rfl) ⟨Nat.zero_le _, Nat.zero_le _⟩) (fun H locs hP hD hS => ?_)
          refine lv_imul hx hb (dt_bc_PD_readResidual 56 rfl) ?_
          obtain ⟨hg5, h⟩ := bp_gi_s h
          refine bc_sI E hx hb hK hP hD hS (bc_ga19 E) hg5 (dt_bc_PD_readResidual 57 rfl) (fun m6 em6 H locs hP hD hS => ?_)
          replace h := bp_nM_s h em6
          exact hL102 _ _ _ _ h ls H locs (lv_sub hl [0, 1, 2, 3] rfl) hP hD hS
      intro x1 x2 x3 m h ls H locs hl hP hD hS
      rw [bc_PD_readResidual_L25] at h
      refine lv_iload_n hx hb (dt_bc_PD_readResidual 16 rfl) rfl (lv_at hl 3 rfl) ?_
      refine lv_iload_n hx hb (dt_bc_PD_readResidual 17 rfl) rfl (lv_at hl 1 rfl) ?_
      refine lv_icmp_ge (tgt := 111) hx hb (dt_bc_PD_readResidual 18 rfl) (by decide) (fun hc => ?_) (fun hc => ?_)
      · replace h := (if_pos hc).symm.trans h
        exact hL111 _ h ls H locs (lv_sub hl [] rfl) hP hD hS
      · replace h := (if_neg hc).symm.trans h
        refine lv_iload_n hx hb (dt_bc_PD_readResidual 19 rfl) rfl (lv_at hl 2 rfl) ?_
        refine lv_aload_n hx hb (dt_bc_PD_readResidual 20 rfl) rfl (lv_at hl 0 rfl) ?_
        refine va_get (D := E.1) (ci := 3) (v := .ref (E.2.1 6)) (C := "BlockPictures$PictureDecoder") (T := bF_PD) (N := 11) hx hb htb bc_in_PD hown hK hP 3 (bc_gPD E m) rfl 0 (by decide) (htb _ tw_259) (fun _ h9 => h9) rfl (dt_bc_PD_readResidual 21 rfl) ?_
        refine lv_bipush (v := 15) hx hb (dt_bc_PD_readResidual 22 rfl) (by decide) ?_
        refine lv_iload_n hx hb (dt_bc_PD_readResidual 23 rfl) rfl (lv_at hl 2 rfl) ?_
        refine lv_isub hx hb (dt_bc_PD_readResidual 24 rfl) ?_
        refine lv_iconst (v := 5) hx hb (dt_bc_PD_readResidual 25 rfl) (by decide) ?_
        obtain ⟨z2, m1, hm1, h⟩ := bp_cI_s h
        refine bc_callI E hsub hS (va_runV (As := [.int (15 - x2 : Int32), .int 5]) (rest := [.int x2]) ⟨hx, hb, hml, hown, htb⟩ (wbc_BR_number l E N (15 - x2 : Int32) 5 m H.size z2 m1 hm1) (cwV 2 htb (bp_goodV tw_461 tw_434 tw_435 tw_73 tw_436) rfl rfl rfl ⟨rfl, hd_bc_BR_number⟩ ⟨Nat.le_of_ble_eq_true rfl, Nat.le_of_ble_eq_true rfl⟩) (bc_preV E hsub hst hK hP hD hS (bc_gBR E m) rfl rfl _) rfl rfl hl.1 rfl (lv_room (Nat.le_of_ble_eq_true rfl)) (dt_bc_PD_readResidual 26 rfl) ⟨Nat.zero_le _, Nat.zero_le _⟩) (fun H locs hP hD hS => ?_)
        refine lv_iadd hx hb (dt_bc_PD_readResidual 27 rfl) ?_
        refine lv_topi (fun y3 ey3 => ?_)
        replace h := bp_nI_s h ey3
        refine lv_istore_n hx hb (dt_bc_PD_readResidual 28 rfl) rfl hl (Nat.le_of_ble_eq_true rfl) rfl (fun ls hl => ?_)
        have hl : lv_has ls 5 [(2, .int y3), (0, .ref (E.2.1 3)), (1, .int x1), (3, .int x3)] := hl
        refine lv_aload_n hx hb (dt_bc_PD_readResidual 29 rfl) rfl (lv_at hl 1 rfl) ?_
        refine va_get (D := E.1) (ci := 3) (v := .ref (E.2.1 6)) (C := "BlockPictures$PictureDecoder") (T := bF_PD) (N := 11) hx hb htb bc_in_PD hown hK hP 3 (bc_gPD E m1) rfl 0 (by decide) (htb _ tw_259) (fun _ h9 => h9) rfl (dt_bc_PD_readResidual 30 rfl) ?_
        refine lv_sipush (v := 2048) hx hb (dt_bc_PD_readResidual 31 rfl) (by decide) ?_
        refine lv_iconst (v := 5) hx hb (dt_bc_PD_readResidual 32 rfl) (by decide) ?_
        obtain ⟨z5, m4, hm4, h⟩ := bp_cI_s h
        refine bc_callI E hsub hS (va_runV (As := [.int 2048, .int 5]) (rest := []) ⟨hx, hb, hml, hown, htb⟩ (wbc_BR_number l E N 2048 5 m1 H.size z5 m4 hm4) (cwV 2 htb (bp_goodV tw_461 tw_434 tw_435 tw_73 tw_436) rfl rfl rfl ⟨rfl, hd_bc_BR_number⟩ ⟨Nat.le_of_ble_eq_true rfl, Nat.le_of_ble_eq_true rfl⟩) (bc_preV E hsub hst hK hP hD hS (bc_gBR E m1) rfl rfl _) rfl rfl hl.1 rfl (lv_room (Nat.le_of_ble_eq_true rfl)) (dt_bc_PD_readResidual 33 rfl) ⟨Nat.zero_le _, Nat.zero_le _⟩) (fun H locs hP hD hS => ?_)
        obtain ⟨z7, m6, hm6, h⟩ := bp_cI_s h
        refine bc_callI E hsub hS (va_runS (As := [.int z5]) (rest := []) ⟨hx, hb, hml, hown, htb⟩ (wbc_BR_signed l E N z5 m4 H.size z7 m6 hm6) (va_cwS 1 htb (bp_goodW tw_462 tw_463 tw_73 tw_464) rfl rfl rfl hd_bc_BR_signed ⟨Nat.le_of_ble_eq_true rfl, Nat.le_of_ble_eq_true rfl⟩) (bc_preS E hsub hst hK hP hD hS _) rfl rfl hl.1 rfl (lv_room (Nat.le_of_ble_eq_true rfl)) (dt_bc_PD_readResidual 34 rfl) ⟨Nat.zero_le _, Nat.zero_le _⟩) (fun H locs hP hD hS => ?_)
        refine lv_istore hx hb (dt_bc_PD_readResidual 35 rfl) hl (Nat.le_of_ble_eq_true rfl) rfl (fun ls hl => ?_)
        have hl : lv_has ls 5 [(4, .int z7), (2, .int y3), (0, .ref (E.2.1 3)), (1, .int x1), (3, .int x3)] := hl
        refine lv_iload hx hb (dt_bc_PD_readResidual 36 rfl) (lv_at hl 0 rfl) ?_
        refine lv_if_ne (tgt := 74) hx hb (dt_bc_PD_readResidual 37 rfl) (by decide) (fun hc => ?_) (fun hc => ?_)
        · replace h := (if_pos hc).symm.trans h
          exact hL74 _ _ _ _ _ h ls H locs (lv_sub hl [2, 3, 1, 4, 0] rfl) hP hD hS
        · replace h := (if_neg (fun hn => hn hc)).symm.trans h
          refine lv_aload_n hx hb (dt_bc_PD_readResidual 38 rfl) rfl (lv_at hl 2 rfl) ?_
          refine va_get (D := E.1) (ci := 3) (v := .ref (E.2.1 6)) (C := "BlockPictures$PictureDecoder") (T := bF_PD) (N := 11) hx hb htb bc_in_PD hown hK hP 3 (bc_gPD E m6) rfl 0 (by decide) (htb _ tw_259) (fun _ h9 => h9) rfl (dt_bc_PD_readResidual 39 rfl) ?_
          refine lv_iconst (v := 5) hx hb (dt_bc_PD_readResidual 40 rfl) (by decide) ?_
          obtain ⟨m8, hm8, h⟩ := bp_cV_s h
          refine bc_callV E hsub hS (va_runV (As := [.int 5]) (rest := []) ⟨hx, hb, hml, hown, htb⟩ (wbc_BR_fail l E N 5 m6 H.size m8 hm8) (cwV 1 htb (bp_goodV tw_465 tw_421 tw_422 tw_73 tw_423) rfl rfl rfl ⟨rfl, hd_bc_BR_fail⟩ ⟨Nat.le_of_ble_eq_true rfl, Nat.le_of_ble_eq_true rfl⟩) (bc_preV E hsub hst hK hP hD hS (bc_gBR E m6) rfl rfl _) rfl rfl hl.1 rfl (lv_room (Nat.le_of_ble_eq_true rfl)) (dt_bc_PD_readResidual 41 rfl) ⟨Nat.zero_le _, Nat.zero_le _⟩) (fun H locs hP hD hS => ?_)
          exact hL74 _ _ _ _ _ h ls H locs (lv_sub hl [2, 3, 1, 4, 0] rfl) hP hD hS
  suffices hgo : ∀ (H : Heap) (locs : List Loc), va_P E.1 bp_cl (bc_W E m) H → va_D A (bc_W E m) → va_S A s.heap H locs → W p l e ({ frames := 2, cells := 0, slots := 0, locals := 46 }) s mt args below meth c H locs 0 0 Q (F0 mt 0 ls []) from hgo _ _ hP hD hS
  clear hP hD hS
  intro H locs hP hD hS
  unfold bc_PD_readResidual at h
  refine lv_aload_n hx hb (dt_bc_PD_readResidual 0 rfl) rfl (lv_at hl 0 rfl) ?_
  refine va_get (D := E.1) (ci := 3) (v := .ref (E.2.1 19)) (C := "BlockPictures$PictureDecoder") (T := bF_PD) (N := 11) hx hb htb bc_in_PD hown hK hP 3 (bc_gPD E m) rfl 8 (by decide) (htb _ tw_273) (fun _ h9 => h9) rfl (dt_bc_PD_readResidual 1 rfl) ?_
  refine lv_iconst (v := 0) hx hb (dt_bc_PD_readResidual 2 rfl) (by decide) ?_
  obtain ⟨m1, hm1, h⟩ := bp_cV_s h
  refine bc_callV E hsub hS (va_runS (As := [.ref (E.2.1 19), .int 0]) (rest := []) ⟨hx, hb, hml, hown, htb⟩ (wbc_fill l E N 19 0 m H.size m1 hm1) (va_cwS 2 htb (bp_goodW tw_547 tw_548 tw_82 tw_549) rfl rfl rfl hd_bc_fill ⟨Nat.le_of_ble_eq_true rfl, Nat.le_of_ble_eq_true rfl⟩) (bc_preS E hsub hst hK hP hD hS _) rfl rfl hl.1 rfl (lv_room (Nat.le_of_ble_eq_true rfl)) (dt_bc_PD_readResidual 3 rfl) ⟨Nat.zero_le _, Nat.zero_le _⟩) (fun H locs hP hD hS => ?_)
  refine lv_aload_n hx hb (dt_bc_PD_readResidual 4 rfl) rfl (lv_at hl 0 rfl) ?_
  refine va_get (D := E.1) (ci := 3) (v := .ref (E.2.1 6)) (C := "BlockPictures$PictureDecoder") (T := bF_PD) (N := 11) hx hb htb bc_in_PD hown hK hP 3 (bc_gPD E m1) rfl 0 (by decide) (htb _ tw_259) (fun _ h9 => h9) rfl (dt_bc_PD_readResidual 5 rfl) ?_
  refine lv_bipush (v := 15) hx hb (dt_bc_PD_readResidual 6 rfl) (by decide) ?_
  refine lv_iconst (v := 5) hx hb (dt_bc_PD_readResidual 7 rfl) (by decide) ?_
  obtain ⟨z3, m2, hm2, h⟩ := bp_cI_s h
  refine bc_callI E hsub hS (va_runV (As := [.int 15, .int 5]) (rest := []) ⟨hx, hb, hml, hown, htb⟩ (wbc_BR_number l E N 15 5 m1 H.size z3 m2 hm2) (cwV 2 htb (bp_goodV tw_461 tw_434 tw_435 tw_73 tw_436) rfl rfl rfl ⟨rfl, hd_bc_BR_number⟩ ⟨Nat.le_of_ble_eq_true rfl, Nat.le_of_ble_eq_true rfl⟩) (bc_preV E hsub hst hK hP hD hS (bc_gBR E m1) rfl rfl _) rfl rfl hl.1 rfl (lv_room (Nat.le_of_ble_eq_true rfl)) (dt_bc_PD_readResidual 8 rfl) ⟨Nat.zero_le _, Nat.zero_le _⟩) (fun H locs hP hD hS => ?_)
  refine lv_iconst (v := 1) hx hb (dt_bc_PD_readResidual 9 rfl) (by decide) ?_
  refine lv_iadd hx hb (dt_bc_PD_readResidual 10 rfl) ?_
  refine lv_topi (fun y4 ey4 => ?_)
  replace h := bp_nI_s h ey4
  refine lv_istore_n hx hb (dt_bc_PD_readResidual 11 rfl) rfl hl (Nat.le_of_ble_eq_true rfl) rfl (fun ls hl => ?_)
  have hl : lv_has ls 5 [(1, .int y4), (0, .ref (E.2.1 3))] := hl
  refine lv_iconst (v := 0) hx hb (dt_bc_PD_readResidual 12 rfl) (by decide) ?_
  refine lv_istore_n hx hb (dt_bc_PD_readResidual 13 rfl) rfl hl (Nat.le_of_ble_eq_true rfl) rfl (fun ls hl => ?_)
  have hl : lv_has ls 5 [(2, .int 0), (1, .int y4), (0, .ref (E.2.1 3))] := hl
  refine lv_iconst (v := 0) hx hb (dt_bc_PD_readResidual 14 rfl) (by decide) ?_
  refine lv_istore_n hx hb (dt_bc_PD_readResidual 15 rfl) rfl hl (Nat.le_of_ble_eq_true rfl) rfl (fun ls hl => ?_)
  have hl : lv_has ls 5 [(3, .int 0), (2, .int 0), (1, .int y4), (0, .ref (E.2.1 3))] := hl
  exact hL25 _ _ _ _ _ h ls H locs (lv_sub hl [3, 2, 1, 0] rfl) hP hD hS
set_option maxHeartbeats 4000000 in
set_option maxRecDepth 100000 in
theorem wbc_PD_residualAt (l : Launch) (E : bc_E) (N : Nat) (a1 : Int32) (a2 : Int32) (m : bp_M) (sz : Nat) (r : Int32) (mr : bp_M)  (h : bc_PD_residualAt N a1 a2 m = some (r, mr)) : Met l y_bc_PD_residualAt (Cond.code y_bc_PD_residualAt prog_9_method_15_code 5 (some .int) :: bp_tb) ({ frames := 0, cells := 0, slots := 0, locals := 0 }) (bc_Pc E m sz [.ref (E.2.1 3), .int a1, .int a2]) (bc_Qi E m sz r mr) 0 0 (va_A (bc_W E m) sz) := by
  refine Met.ofW (cc := prog_9_method_15_code) (maxL := 5) (ret := (some .int)) (by decide) rfl ?_
  intro p e s mt args below meth c s₁ B hml hv
  obtain ⟨rfl, hsz, hP, hK, hD0, hst⟩ := hv
  have hx := B.exec
  have hb := B.bytes
  have hr := B.returns
  have htb : ∀ w ∈ bp_tb, w.before _ s = true := fun w hw => atoms_spec (ws := Cond.code y_bc_PD_residualAt prog_9_method_15_code 5 (some .int) :: bp_tb) B.pre w (List.mem_cons_of_mem _ hw)
  have hown : s.vm.findClass "BlockPictures$PictureDecoder" = some mt.cls := findClass_of_methodNamed B.named
  have hlocks := B.notSynchronized
  subst hsz
  have hD := hD0.self (sz := s.heap.size)
  generalize hAe : va_A (bc_W E m) s.heap.size = A at hD hst ⊢
  have hsub : ∀ (u : bp_M) (z q : Nat), s.heap.size ≤ z → va_A (bc_W E u) z q → A q := bc_sub hAe
  have hS : va_S A s.heap s.heap [] := va_S.rf
  have hl := lv_entry ([.ref (E.2.1 3), .int a1, .int a2]) (n := 5) (Nat.le_of_ble_eq_true rfl)
  rw [lg_entry_eq]
  generalize (lg_sl ([.ref (E.2.1 3), .int a1, .int a2]) ++ List.replicate (5 - (lg_sl ([.ref (E.2.1 3), .int a1, .int a2])).length) Slot.unset).toArray = ls at hl ⊢
  have hl : lv_has ls 5 [(0, .ref (E.2.1 3)), (1, .int a1), (2, .int a2)] := hl
  refine bc_keyI (R := ({ frames := 0, cells := 0, slots := 0, locals := 0 })) E hx hb hr hlocks hK hAe (fun Q hret => ?_)
  clear B hD0 hlocks hr
  generalize ([.ref (E.2.1 3), .int a1, .int a2] : List Value).toArray = args at htb hret ⊢
  clear hAe
  have hL56 : ∀ (x3 : Int32) (m : bp_M), bc_PD_residualAt_L56 N a1 a2 x3 m = some (r, mr) → ∀ (ls : Array Slot) (H : Heap) (locs : List Loc), lv_has ls 5 [(3, .int x3)] → va_P E.1 bp_cl (bc_W E m) H → va_D A (bc_W E m) → va_S A s.heap H locs → W p l e ({ frames := 0, cells := 0, slots := 0, locals := 0 }) s mt args below meth c H locs 0 0 Q (F0 mt 56 ls []) := by
    intro x3 m h ls H locs hl hP hD hS
    rw [bc_PD_residualAt_L56] at h
    refine lv_iload_n hx hb (dt_bc_PD_residualAt 36 rfl) rfl (lv_at hl 0 rfl) ?_
    refine lv_bipush (v := 8) hx hb (dt_bc_PD_residualAt 37 rfl) (by decide) ?_
    refine lv_ishr hx hb (dt_bc_PD_residualAt 38 rfl) ?_
    exact hret _ _ _ _ _ _ h hP hD hS (dt_bc_PD_residualAt 39 rfl)
  have hL7 : ∀ (n7 : Nat) (x3 : Int32) (x4 : Int32) (m : bp_M), bc_PD_residualAt_L7 N a1 a2 n7 x3 x4 m = some (r, mr) → ∀ (ls : Array Slot) (H : Heap) (locs : List Loc), lv_has ls 5 [(0, .ref (E.2.1 3)), (1, .int a1), (2, .int a2), (3, .int x3), (4, .int x4)] → va_P E.1 bp_cl (bc_W E m) H → va_D A (bc_W E m) → va_S A s.heap H locs → W p l e ({ frames := 0, cells := 0, slots := 0, locals := 0 }) s mt args below meth c H locs 0 0 Q (F0 mt 7 ls []) := by
    intro n7
    induction n7 with
    | zero =>
      intro x3 x4 m h ls H locs hl hP hD hS
      rw [bc_PD_residualAt_L7] at h
      cases h
    | succ n7 ih7 =>
      intro x3 x4 m h ls H locs hl hP hD hS
      rw [bc_PD_residualAt_L7] at h
      refine lv_iload hx hb (dt_bc_PD_residualAt 4 rfl) (lv_at hl 4 rfl) ?_
      refine lv_bipush (v := 16) hx hb (dt_bc_PD_residualAt 5 rfl) (by decide) ?_
      refine lv_icmp_ge (tgt := 56) hx hb (dt_bc_PD_residualAt 6 rfl) (by decide) (fun hc => ?_) (fun hc => ?_)
      · replace h := (if_pos hc).symm.trans h
        exact hL56 _ _ h ls H locs (lv_sub hl [3] rfl) hP hD hS
      · replace h := (if_neg hc).symm.trans h
        refine lv_iload_n hx hb (dt_bc_PD_residualAt 7 rfl) rfl (lv_at hl 3 rfl) ?_
        refine va_gets hx hb hst.2.2.2.1 hS hown (htb _ tw_564) (fun _ h9 => h9) (dt_bc_PD_residualAt 8 rfl) ?_
        refine lv_iconst (v := 4) hx hb (dt_bc_PD_residualAt 9 rfl) (by decide) ?_
        refine lv_iload_n hx hb (dt_bc_PD_residualAt 10 rfl) rfl (lv_at hl 1 rfl) ?_
        refine lv_imul hx hb (dt_bc_PD_residualAt 11 rfl) ?_
        refine lv_iload hx hb (dt_bc_PD_residualAt 12 rfl) (lv_at hl 4 rfl) ?_
        refine lv_iconst (v := 4) hx hb (dt_bc_PD_residualAt 13 rfl) (by decide) ?_
        refine lv_idiv hx hb (dt_bc_PD_residualAt 14 rfl) (by decide) ?_
        refine lv_iadd hx hb (dt_bc_PD_residualAt 15 rfl) ?_
        obtain ⟨hg1, h⟩ := bp_gi_s h
        refine va_ti hx hb hst.2.2.2.2 hS hg1 rfl (dt_bc_PD_residualAt 16 rfl) ?_
        refine va_gets hx hb hst.2.2.2.1 hS hown (htb _ tw_564) (fun _ h9 => h9) (dt_bc_PD_residualAt 17 rfl) ?_
        refine lv_iconst (v := 4) hx hb (dt_bc_PD_residualAt 18 rfl) (by decide) ?_
        refine lv_iload_n hx hb (dt_bc_PD_residualAt 19 rfl) rfl (lv_at hl 2 rfl) ?_
        refine lv_imul hx hb (dt_bc_PD_residualAt 20 rfl) ?_
        refine lv_iload hx hb (dt_bc_PD_residualAt 21 rfl) (lv_at hl 4 rfl) ?_
        refine lv_iconst (v := 4) hx hb (dt_bc_PD_residualAt 22 rfl) (by decide) ?_
        refine lv_irem hx hb (dt_bc_PD_residualAt 23 rfl) (by decide) ?_
        refine lv_iadd hx hb (dt_bc_PD_residualAt 24 rfl) ?_
        obtain ⟨hg2, h⟩ := bp_gi_s h
        refine va_ti hx hb hst.2.2.2.2 hS hg2 rfl (dt_bc_PD_residualAt 25 rfl) ?_
        refine lv_imul hx hb (dt_bc_PD_residualAt 26 rfl) ?_
        refine lv_aload_n hx hb (dt_bc_PD_residualAt 27 rfl) rfl (lv_at hl 0 rfl) ?_
        refine va_get (D := E.1) (ci := 3) (v := .ref (E.2.1 19)) (C := "BlockPictures$PictureDecoder") (T := bF_PD) (N := 11) hx hb htb bc_in_PD hown hK hP 3 (bc_gPD E m) rfl 8 (by decide) (htb _ tw_273) (fun _ h9 => h9) rfl (dt_bc_PD_residualAt 28 rfl) ?_
        refine lv_iload hx hb (dt_bc_PD_residualAt 29 rfl) (lv_at hl 4 rfl) ?_
        obtain ⟨hg3, h⟩ := bp_gi_s h
        refine bc_lI E hx hb hK hP (bc_ga19 E) hg3 (dt_bc_PD_residualAt 30 rfl) ?_
        refine lv_imul hx hb (dt_bc_PD_residualAt 31 rfl) ?_
        refine lv_iadd hx hb (dt_bc_PD_residualAt 32 rfl) ?_
        refine lv_topi (fun y4 ey4 => ?_)
        replace h := bp_nI_s h ey4
        refine lv_istore_n hx hb (dt_bc_PD_residualAt 33 rfl) rfl hl (Nat.le_of_ble_eq_true rfl) rfl (fun ls hl => ?_)
        have hl : lv_has ls 5 [(3, .int y4), (0, .ref (E.2.1 3)), (1, .int a1), (2, .int a2), (4, .int x4)] := hl
        obtain ⟨y5, ey5⟩ : ∃ z : Int32, z = x4 + 1 := ⟨_, rfl⟩
        replace h := bp_nI_s h ey5
        refine lv_iinc (k := 4) (v := y5) hx hb (dt_bc_PD_residualAt 34 rfl) hl rfl (by rw [ey5]; rfl) (Nat.le_of_ble_eq_true rfl) rfl (fun ls hl => ?_)
        have hl : lv_has ls 5 [(4, .int y5), (3, .int y4), (0, .ref (E.2.1 3)), (1, .int a1), (2, .int a2)] := hl
        refine lv_goto (tgt := 7) hx hb (dt_bc_PD_residualAt 35 rfl) (by decide) ?_
        exact ih7 _ _ _ h ls H locs (lv_sub hl [2, 3, 4, 1, 0] rfl) hP hD hS
  suffices hgo : ∀ (H : Heap) (locs : List Loc), va_P E.1 bp_cl (bc_W E m) H → va_D A (bc_W E m) → va_S A s.heap H locs → W p l e ({ frames := 0, cells := 0, slots := 0, locals := 0 }) s mt args below meth c H locs 0 0 Q (F0 mt 0 ls []) from hgo _ _ hP hD hS
  clear hP hD hS
  intro H locs hP hD hS
  unfold bc_PD_residualAt at h
  refine lv_sipush (v := 128) hx hb (dt_bc_PD_residualAt 0 rfl) (by decide) ?_
  refine lv_istore_n hx hb (dt_bc_PD_residualAt 1 rfl) rfl hl (Nat.le_of_ble_eq_true rfl) rfl (fun ls hl => ?_)
  have hl : lv_has ls 5 [(3, .int 128), (0, .ref (E.2.1 3)), (1, .int a1), (2, .int a2)] := hl
  refine lv_iconst (v := 0) hx hb (dt_bc_PD_residualAt 2 rfl) (by decide) ?_
  refine lv_istore hx hb (dt_bc_PD_residualAt 3 rfl) hl (Nat.le_of_ble_eq_true rfl) rfl (fun ls hl => ?_)
  have hl : lv_has ls 5 [(4, .int 0), (3, .int 128), (0, .ref (E.2.1 3)), (1, .int a1), (2, .int a2)] := hl
  exact hL7 _ _ _ _ h ls H locs (lv_sub hl [2, 3, 4, 1, 0] rfl) hP hD hS
set_option maxHeartbeats 4000000 in
set_option maxRecDepth 100000 in
theorem wbc_PD_addResidual (l : Launch) (E : bc_E) (N : Nat) (a1 : Int32) (m : bp_M) (sz : Nat) (mr : bp_M)  (h : bc_PD_addResidual N a1 m = some mr) : Met l y_bc_PD_addResidual (Cond.code y_bc_PD_addResidual prog_9_method_14_code 4 none :: bp_tb) ({ frames := 1, cells := 0, slots := 0, locals := 24 }) (bc_Pc E m sz [.ref (E.2.1 3), .int a1]) (bc_Qv E m sz mr) 0 0 (va_A (bc_W E m) sz) := by
  refine Met.ofW (cc := prog_9_method_14_code) (maxL := 4) (ret := none) (by decide) rfl ?_
  intro p e s mt args below meth c s₁ B hml hv
  obtain ⟨rfl, hsz, hP, hK, hD0, hst⟩ := hv
  have hx := B.exec
  have hb := B.bytes
  have hr := B.returns
  have htb : ∀ w ∈ bp_tb, w.before _ s = true := fun w hw => atoms_spec (ws := Cond.code y_bc_PD_addResidual prog_9_method_14_code 4 none :: bp_tb) B.pre w (List.mem_cons_of_mem _ hw)
  have hown : s.vm.findClass "BlockPictures$PictureDecoder" = some mt.cls := findClass_of_methodNamed B.named
  have hlocks := B.notSynchronized
  subst hsz
  have hD := hD0.self (sz := s.heap.size)
  generalize hAe : va_A (bc_W E m) s.heap.size = A at hD hst ⊢
  have hsub : ∀ (u : bp_M) (z q : Nat), s.heap.size ≤ z → va_A (bc_W E u) z q → A q := bc_sub hAe
  have hS : va_S A s.heap s.heap [] := va_S.rf
  have hl := lv_entry ([.ref (E.2.1 3), .int a1]) (n := 4) (Nat.le_of_ble_eq_true rfl)
  rw [lg_entry_eq]
  generalize (lg_sl ([.ref (E.2.1 3), .int a1]) ++ List.replicate (4 - (lg_sl ([.ref (E.2.1 3), .int a1])).length) Slot.unset).toArray = ls at hl ⊢
  have hl : lv_has ls 4 [(0, .ref (E.2.1 3)), (1, .int a1)] := hl
  refine bc_keyV (R := ({ frames := 1, cells := 0, slots := 0, locals := 24 })) E hx hb hr hlocks hK hAe (fun Q hret => ?_)
  clear B hD0 hlocks hr
  generalize ([.ref (E.2.1 3), .int a1] : List Value).toArray = args at htb hret ⊢
  clear hAe
  have hL52 : ∀ (m : bp_M), bc_PD_addResidual_L52 N a1 m = some mr → ∀ (ls : Array Slot) (H : Heap) (locs : List Loc), lv_has ls 4 [] → va_P E.1 bp_cl (bc_W E m) H → va_D A (bc_W E m) → va_S A s.heap H locs → W p l e ({ frames := 1, cells := 0, slots := 0, locals := 24 }) s mt args below meth c H locs 0 0 Q (F0 mt 52 ls []) := by
    intro m h ls H locs hl hP hD hS
    rw [bc_PD_addResidual_L52] at h
    exact hret _ _ _ _ _ h hP hD hS (dt_bc_PD_addResidual 31 rfl)
  have hL2 : ∀ (n2 : Nat) (x2 : Int32) (m : bp_M), bc_PD_addResidual_L2 N a1 n2 x2 m = some mr → ∀ (ls : Array Slot) (H : Heap) (locs : List Loc), lv_has ls 4 [(0, .ref (E.2.1 3)), (1, .int a1), (2, .int x2)] → va_P E.1 bp_cl (bc_W E m) H → va_D A (bc_W E m) → va_S A s.heap H locs → W p l e ({ frames := 1, cells := 0, slots := 0, locals := 24 }) s mt args below meth c H locs 0 0 Q (F0 mt 2 ls []) := by
    intro n2
    induction n2 with
    | zero =>
      intro x2 m h ls H locs hl hP hD hS
      rw [bc_PD_addResidual_L2] at h
      cases h
    | succ n2 ih2 =>
      intro x2 m h ls H locs hl hP hD hS
      rw [bc_PD_addResidual_L2] at h
      refine lv_iload_n hx hb (dt_bc_PD_addResidual 2 rfl) rfl (lv_at hl 2 rfl) ?_
      refine lv_bipush (v := 16) hx hb (dt_bc_PD_addResidual 3 rfl) (by decide) ?_
      refine lv_icmp_ge (tgt := 52) hx hb (dt_bc_PD_addResidual 4 rfl) (by decide) (fun hc => ?_) (fun hc => ?_)
      · replace h := (if_pos hc).symm.trans h
        exact hL52 _ h ls H locs (lv_sub hl [] rfl) hP hD hS
      · replace h := (if_neg hc).symm.trans h
        refine lv_iload_n hx hb (dt_bc_PD_addResidual 5 rfl) rfl (lv_at hl 1 rfl) ?_
        refine lv_iload_n hx hb (dt_bc_PD_addResidual 6 rfl) rfl (lv_at hl 2 rfl) ?_
        obtain ⟨z2, m1, hm1, h⟩ := bp_cI_s h
        refine bc_callI E hsub hS (va_runSN (As := [.int a1, .int x2]) (rest := []) ⟨hx, hb, hml, hown, htb⟩ (wbc_BP_sampleNumber l E N a1 x2 m H.size z2 m1 hm1) ⟨va_cnB 2 htb (bp_good tw_525) rfl rfl rfl (hst.1 _ (List.mem_of_getElem? (i := 10) rfl)) (htb _ tw_69) hd_bc_BP_sampleNumber ⟨Nat.le_of_ble_eq_true rfl, Nat.le_of_ble_eq_true rfl⟩, htb _ tw_524, trivial⟩ (bc_preS E hsub hst hK hP hD hS _) rfl rfl hl.1 rfl (lv_room (Nat.le_of_ble_eq_true rfl)) (dt_bc_PD_addResidual 7 rfl) ⟨Nat.zero_le _, Nat.zero_le _⟩) (fun H locs hP hD hS => ?_)
        refine lv_istore_n hx hb (dt_bc_PD_addResidual 8 rfl) rfl hl (Nat.le_of_ble_eq_true rfl) rfl (fun ls hl => ?_)
        have hl : lv_has ls 4 [(3, .int z2), (0, .ref (E.2.1 3)), (1, .int a1), (2, .int x2)] := hl
        refine lv_aload_n hx hb (dt_bc_PD_addResidual 9 rfl) rfl (lv_at hl 1 rfl) ?_
        refine va_get (D := E.1) (ci := 3) (v := .ref (E.2.1 10)) (C := "BlockPictures$PictureDecoder") (T := bF_PD) (N := 11) hx hb htb bc_in_PD hown hK hP 3 (bc_gPD E m1) rfl 1 (by decide) (htb _ tw_261) (fun _ h9 => h9) rfl (dt_bc_PD_addResidual 10 rfl) ?_
        refine va_get (D := E.1) (ci := 9) (v := .ref (E.2.1 34)) (C := "BlockPictures$Picture") (T := bF_PI) (N := 4) hx hb htb bc_in_PI hown hK hP 10 (bc_gPI E m1 (by decide)) rfl 0 (by decide) (htb _ tw_185) (fun _ h9 => h9) rfl (dt_bc_PD_addResidual 11 rfl) ?_
        refine lv_iload_n hx hb (dt_bc_PD_addResidual 12 rfl) rfl (lv_at hl 0 rfl) ?_
        refine lv_aload_n hx hb (dt_bc_PD_addResidual 13 rfl) rfl (lv_at hl 1 rfl) ?_
        refine va_get (D := E.1) (ci := 3) (v := .ref (E.2.1 10)) (C := "BlockPictures$PictureDecoder") (T := bF_PD) (N := 11) hx hb htb bc_in_PD hown hK hP 3 (bc_gPD E m1) rfl 1 (by decide) (htb _ tw_261) (fun _ h9 => h9) rfl (dt_bc_PD_addResidual 14 rfl) ?_
        refine va_get (D := E.1) (ci := 9) (v := .ref (E.2.1 34)) (C := "BlockPictures$Picture") (T := bF_PI) (N := 4) hx hb htb bc_in_PI hown hK hP 10 (bc_gPI E m1 (by decide)) rfl 0 (by decide) (htb _ tw_185) (fun _ h9 => h9) rfl (dt_bc_PD_addResidual 15 rfl) ?_
        refine lv_iload_n hx hb (dt_bc_PD_addResidual 16 rfl) rfl (lv_at hl 0 rfl) ?_
        obtain ⟨hg3, h⟩ := bp_gi_s h
        refine bc_lI E hx hb hK hP (bc_ga34 E) hg3 (dt_bc_PD_addResidual 17 rfl) ?_
        refine lv_aload_n hx hb (dt_bc_PD_addResidual 18 rfl) rfl (lv_at hl 1 rfl) ?_
        refine lv_iload_n hx hb (dt_bc_PD_addResidual 19 rfl) rfl (lv_at hl 3 rfl) ?_
        refine lv_iconst (v := 4) hx hb (dt_bc_PD_addResidual 20 rfl) (by decide) ?_
        refine lv_idiv hx hb (dt_bc_PD_addResidual 21 rfl) (by decide) ?_
        refine lv_iload_n hx hb (dt_bc_PD_addResidual 22 rfl) rfl (lv_at hl 3 rfl) ?_
        refine lv_iconst (v := 4) hx hb (dt_bc_PD_addResidual 23 rfl) (by decide) ?_
        refine lv_irem hx hb (dt_bc_PD_addResidual 24 rfl) (by decide) ?_
        obtain ⟨z5, m4, hm4, h⟩ := bp_cI_s h
        refine bc_callI E hsub hS (va_runV (As := [.int (x2 / 4 : Int32), .int (x2 - x2 / 4 * 4 : Int32)]) (rest := [.int (m1.1 34 z2.toNatClampNeg), .int z2, .ref (E.2.1 34)]) ⟨hx, hb, hml, hown, htb⟩ (wbc_PD_residualAt l E N (x2 / 4 : Int32) (x2 - x2 / 4 * 4 : Int32) m1 H.size z5 m4 hm4) (cwV 2 htb (bp_goodV tw_560 tw_562 tw_20 tw_72 tw_563) rfl rfl rfl ⟨rfl, hd_bc_PD_residualAt⟩ ⟨Nat.le_of_ble_eq_true rfl, Nat.le_of_ble_eq_true rfl⟩) (bc_preV E hsub hst hK hP hD hS (bc_gPD E m1) rfl rfl _) rfl rfl hl.1 rfl (lv_room (Nat.le_of_ble_eq_true rfl)) (dt_bc_PD_addResidual 25 rfl) ⟨Nat.zero_le _, Nat.zero_le _⟩) (fun H locs hP hD hS => ?_)
        refine lv_iadd hx hb (dt_bc_PD_addResidual 26 rfl) ?_
        obtain ⟨z7, m6, hm6, h⟩ := bp_cI_s h
        refine bc_callI E hsub hS (va_runSN (As := [.int ((m1.1 34 z2.toNatClampNeg) + z5 : Int32)]) (rest := [.int z2, .ref (E.2.1 34)]) ⟨hx, hb, hml, hown, htb⟩ (wbc_BP_limit l E N ((m1.1 34 z2.toNatClampNeg) + z5 : Int32) m4 H.size z7 m6 hm6) ⟨va_cnB 1 htb (bp_good tw_522) rfl rfl rfl (hst.1 _ (List.mem_of_getElem? (i := 11) rfl)) (htb _ tw_69) hd_bc_BP_limit ⟨Nat.le_of_ble_eq_true rfl, Nat.le_of_ble_eq_true rfl⟩, htb _ tw_521, trivial⟩ (bc_preS E hsub hst hK hP hD hS _) rfl rfl hl.1 rfl (lv_room (Nat.le_of_ble_eq_true rfl)) (dt_bc_PD_addResidual 27 rfl) ⟨Nat.zero_le _, Nat.zero_le _⟩) (fun H locs hP hD hS => ?_)
        obtain ⟨hg8, h⟩ := bp_gi_s h
        refine bc_sI E hx hb hK hP hD hS (bc_ga34 E) hg8 (dt_bc_PD_addResidual 28 rfl) (fun m9 em9 H locs hP hD hS => ?_)
        replace h := bp_nM_s h em9
        obtain ⟨y10, ey10⟩ : ∃ z : Int32, z = x2 + 1 := ⟨_, rfl⟩
        replace h := bp_nI_s h ey10
        refine lv_iinc (k := 3) (v := y10) hx hb (dt_bc_PD_addResidual 29 rfl) hl rfl (by rw [ey10]; rfl) (Nat.le_of_ble_eq_true rfl) rfl (fun ls hl => ?_)
        have hl : lv_has ls 4 [(2, .int y10), (3, .int z2), (0, .ref (E.2.1 3)), (1, .int a1)] := hl
        refine lv_goto (tgt := 2) hx hb (dt_bc_PD_addResidual 30 rfl) (by decide) ?_
        exact ih2 _ _ h ls H locs (lv_sub hl [2, 3, 0] rfl) hP hD hS
  suffices hgo : ∀ (H : Heap) (locs : List Loc), va_P E.1 bp_cl (bc_W E m) H → va_D A (bc_W E m) → va_S A s.heap H locs → W p l e ({ frames := 1, cells := 0, slots := 0, locals := 24 }) s mt args below meth c H locs 0 0 Q (F0 mt 0 ls []) from hgo _ _ hP hD hS
  clear hP hD hS
  intro H locs hP hD hS
  unfold bc_PD_addResidual at h
  refine lv_iconst (v := 0) hx hb (dt_bc_PD_addResidual 0 rfl) (by decide) ?_
  refine lv_istore_n hx hb (dt_bc_PD_addResidual 1 rfl) rfl hl (Nat.le_of_ble_eq_true rfl) rfl (fun ls hl => ?_)
  have hl : lv_has ls 4 [(2, .int 0), (0, .ref (E.2.1 3)), (1, .int a1)] := hl
  exact hL2 _ _ _ h ls H locs (lv_sub hl [1, 2, 0] rfl) hP hD hS
set_option maxHeartbeats 4000000 in
set_option maxRecDepth 100000 in
theorem wbc_PD_readBlocks (l : Launch) (E : bc_E) (N : Nat) (a1 : Int32) (m : bp_M) (sz : Nat) (mr : bp_M)  (h : bc_PD_readBlocks N a1 m = some mr) : Met l y_bc_PD_readBlocks (Cond.code y_bc_PD_readBlocks prog_9_method_6_code 5 none :: bp_tb) ({ frames := 3, cells := 0, slots := 0, locals := 99 }) (bc_Pc E m sz [.ref (E.2.1 3), .int a1]) (bc_Qv E m sz mr) 0 0 (va_A (bc_W E m) sz) := by
  refine Met.ofW (cc := prog_9_method_6_code) (maxL := 5) (ret := none) (by decide) rfl ?_
  intro p e s mt args below meth c s₁ B hml hv
  obtain ⟨rfl, hsz, hP, hK, hD0, hst⟩ := hv
  have hx := B.exec
  have hb := B.bytes
  have hr := B.returns
  have htb : ∀ w ∈ bp_tb, w.before _ s = true := fun w hw => atoms_spec (ws := Cond.code y_bc_PD_readBlocks prog_9_method_6_code 5 none :: bp_tb) B.pre w (List.mem_cons_of_mem _ hw)
  have hown : s.vm.findClass "BlockPictures$PictureDecoder" = some mt.cls := findClass_of_methodNamed B.named
  have hlocks := B.notSynchronized
  subst hsz
  have hD := hD0.self (sz := s.heap.size)
  generalize hAe : va_A (bc_W E m) s.heap.size = A at hD hst ⊢
  have hsub : ∀ (u : bp_M) (z q : Nat), s.heap.size ≤ z → va_A (bc_W E u) z q → A q := bc_sub hAe
  have hS : va_S A s.heap s.heap [] := va_S.rf
  have hl := lv_entry ([.ref (E.2.1 3), .int a1]) (n := 5) (Nat.le_of_ble_eq_true rfl)
  rw [lg_entry_eq]
  generalize (lg_sl ([.ref (E.2.1 3), .int a1]) ++ List.replicate (5 - (lg_sl ([.ref (E.2.1 3), .int a1])).length) Slot.unset).toArray = ls at hl ⊢
  have hl : lv_has ls 5 [(0, .ref (E.2.1 3)), (1, .int a1)] := hl
  refine bc_keyV (R := ({ frames := 3, cells := 0, slots := 0, locals := 99 })) E hx hb hr hlocks hK hAe (fun Q hret => ?_)
  clear B hD0 hlocks hr
  generalize ([.ref (E.2.1 3), .int a1] : List Value).toArray = args at htb hret ⊢
  clear hAe
  have hL217 : ∀ (m : bp_M), bc_PD_readBlocks_L217 N a1 m = some mr → ∀ (ls : Array Slot) (H : Heap) (locs : List Loc), lv_has ls 5 [] → va_P E.1 bp_cl (bc_W E m) H → va_D A (bc_W E m) → va_S A s.heap H locs → W p l e ({ frames := 3, cells := 0, slots := 0, locals := 99 }) s mt args below meth c H locs 0 0 Q (F0 mt 217 ls []) := by
    intro m h ls H locs hl hP hD hS
    rw [bc_PD_readBlocks_L217] at h
    exact hret _ _ _ _ _ h hP hD hS (dt_bc_PD_readBlocks 111 rfl)
  have hL2 : ∀ (n2 : Nat) (x2 : Int32) (m : bp_M), bc_PD_readBlocks_L2 N a1 n2 x2 m = some mr → ∀ (ls : Array Slot) (H : Heap) (locs : List Loc), lv_has ls 5 [(0, .ref (E.2.1 3)), (1, .int a1), (2, .int x2)] → va_P E.1 bp_cl (bc_W E m) H → va_D A (bc_W E m) → va_S A s.heap H locs → W p l e ({ frames := 3, cells := 0, slots := 0, locals := 99 }) s mt args below meth c H locs 0 0 Q (F0 mt 2 ls []) := by
    intro n2
    induction n2 with
    | zero =>
      intro x2 m h ls H locs hl hP hD hS
      rw [bc_PD_readBlocks_L2] at h
      cases h
    | succ n2 ih2 =>
      have hL211 : ∀ (x2 : Int32) (m : bp_M), bc_PD_readBlocks_L211 (bc_PD_readBlocks_L2 N a1 n2) N a1 x2 m = some mr → ∀ (ls : Array Slot) (H : Heap) (locs : List Loc), lv_has ls 5 [(0, .ref (E.2.1 3)), (1, .int a1), (2, .int x2)] → va_P E.1 bp_cl (bc_W E m) H → va_D A (bc_W E m) → va_S A s.heap H locs → W p l e ({ frames := 3, cells := 0, slots := 0, locals := 99 }) s mt args below meth c H locs 0 0 Q (F0 mt 211 ls []) := by
        intro x2 m h ls H locs hl hP hD hS
        rw [bc_PD_readBlocks_L211] at h
        obtain ⟨y1, ey1⟩ : ∃ z : Int32, z = x2 + 1 := ⟨_, rfl⟩
        replace h := bp_nI_s h ey1
        refine lv_iinc (k := 2) (v := y1) hx hb (dt_bc_PD_readBlocks 109 rfl) hl rfl (by rw [ey1]; rfl) (Nat.le_of_ble_eq_true rfl) rfl (fun ls hl => ?_)
        have hl : lv_has ls 5 [(2, .int y1), (0, .ref (E.2.1 3)), (1, .int a1)] := hl
        refine lv_goto (tgt := 2) hx hb (dt_bc_PD_readBlocks 110 rfl) (by decide) ?_
        exact ih2 _ _ h ls H locs (lv_sub hl [1, 2, 0] rfl) hP hD hS
      have hL189 : ∀ (x2 : Int32) (s0 : Int32) (s1 : Int32) (sq2 : Nat) (m : bp_M), bc_PD_readBlocks_L189 (bc_PD_readBlocks_L2 N a1 n2) N a1 x2 s0 s1 sq2 m = some mr → isRO sq2 → ∀ (ls : Array Slot) (H : Heap) (locs : List Loc), lv_has ls 5 [(0, .ref (E.2.1 3)), (1, .int a1), (2, .int x2)] → va_P E.1 bp_cl (bc_W E m) H → va_D A (bc_W E m) → va_S A s.heap H locs → W p l e ({ frames := 3, cells := 0, slots := 0, locals := 99 }) s mt args below meth c H locs 0 0 Q (F0 mt 189 ls [.int s0, .int s1, .ref (E.2.1 (5 * sq2 - 15))]) := by
        intro x2 s0 s1 sq2 m h hp_sq2 ls H locs hl hP hD hS
        rw [bc_PD_readBlocks_L189] at h
        obtain ⟨hg1, h⟩ := bp_gi_s h
        obtain ⟨hg2, h⟩ := bp_g_s h
        refine bc_sZ E hx hb hK hP hD hS (bc_gro1 E hp_sq2) hg1 hg2 (dt_bc_PD_readBlocks 97 rfl) (fun m3 em3 H locs hP hD hS => ?_)
        replace h := bp_nM_s h em3
        refine lv_aload_n hx hb (dt_bc_PD_readBlocks 98 rfl) rfl (lv_at hl 0 rfl) ?_
        refine va_get (D := E.1) (ci := 3) (v := .ref (E.2.1 (m3.2 3 6))) (C := "BlockPictures$PictureDecoder") (T := bF_PD) (N := 11) hx hb htb bc_in_PD hown hK hP 3 (bc_gPD E m3) rfl 6 (by decide) (htb _ tw_271) (fun _ h9 => h9) rfl (dt_bc_PD_readBlocks 99 rfl) ?_
        refine bp_topr E.2.1 (fun q4 eq4 => ?_)
        replace h := bp_nN_s h eq4
        obtain ⟨hg5, h⟩ := bp_g_s h
        refine va_get (D := E.1) (ci := 8) (v := .ref (E.2.1 (5 * q4 - 15))) (C := "BlockPictures$BlockRows") (T := bF_RO) (N := 6) hx hb htb bc_in_RO hown hK hP q4 (bc_gRO E m3 hg5) rfl 1 (by decide) (htb _ tw_219) (fun _ h9 => h9) rfl (dt_bc_PD_readBlocks 100 rfl) ?_
        refine lv_iload_n hx hb (dt_bc_PD_readBlocks 101 rfl) rfl (lv_at hl 2 rfl) ?_
        obtain ⟨hg6, h⟩ := bp_gi_s h
        refine bc_lZ E hx hb hK hP (bc_gro1 E hg5) hg6 (dt_bc_PD_readBlocks 102 rfl) ?_
        refine lv_if_eq (tgt := 211) hx hb (dt_bc_PD_readBlocks 103 rfl) (by decide) (fun hc => ?_) (fun hc => ?_)
        · replace h := (if_pos hc).symm.trans h
          exact hL211 _ _ h ls H locs (lv_sub hl [0, 1, 2] rfl) hP hD hS
        · replace h := (if_neg hc).symm.trans h
          refine lv_aload_n hx hb (dt_bc_PD_readBlocks 104 rfl) rfl (lv_at hl 0 rfl) ?_
          obtain ⟨m7, hm7, h⟩ := bp_cV_s h
          refine bc_callV E hsub hS (va_runV (As := []) (rest := []) ⟨hx, hb, hml, hown, htb⟩ (wbc_PD_readResidual l E N  m3 H.size m7 hm7) (cwV 0 htb (bp_goodV tw_543 tw_545 tw_17 tw_72 tw_546) rfl rfl rfl ⟨rfl, hd_bc_PD_readResidual⟩ ⟨Nat.le_of_ble_eq_true rfl, Nat.le_of_ble_eq_true rfl⟩) (bc_preV E hsub hst hK hP hD hS (bc_gPD E m3) rfl rfl _) rfl rfl hl.1 rfl (lv_room (Nat.le_of_ble_eq_true rfl)) (dt_bc_PD_readBlocks 105 rfl) ⟨Nat.zero_le _, Nat.zero_le _⟩) (fun H locs hP hD hS => ?_)
          refine lv_aload_n hx hb (dt_bc_PD_readBlocks 106 rfl) rfl (lv_at hl 0 rfl) ?_
          refine lv_iload_n hx hb (dt_bc_PD_readBlocks 107 rfl) rfl (lv_at hl 2 rfl) ?_
          obtain ⟨m8, hm8, h⟩ := bp_cV_s h
          refine bc_callV E hsub hS (va_runV (As := [.int x2]) (rest := []) ⟨hx, hb, hml, hown, htb⟩ (wbc_PD_addResidual l E N x2 m7 H.size m8 hm8) (cwV 1 htb (bp_goodV tw_556 tw_558 tw_19 tw_72 tw_559) rfl rfl rfl ⟨rfl, hd_bc_PD_addResidual⟩ ⟨Nat.le_of_ble_eq_true rfl, Nat.le_of_ble_eq_true rfl⟩) (bc_preV E hsub hst hK hP hD hS (bc_gPD E m7) rfl rfl _) rfl rfl hl.1 rfl (lv_room (Nat.le_of_ble_eq_true rfl)) (dt_bc_PD_readBlocks 108 rfl) ⟨Nat.zero_le _, Nat.zero_le _⟩) (fun H locs hP hD hS => ?_)
          exact hL211 _ _ h ls H locs (lv_sub hl [0, 1, 2] rfl) hP hD hS
      have hL188 : ∀ (x2 : Int32) (s0 : Int32) (sq1 : Nat) (m : bp_M), bc_PD_readBlocks_L188 (bc_PD_readBlocks_L2 N a1 n2) N a1 x2 s0 sq1 m = some mr → isRO sq1 → ∀ (ls : Array Slot) (H : Heap) (locs : List Loc), lv_has ls 5 [(0, .ref (E.2.1 3)), (1, .int a1), (2, .int x2)] → va_P E.1 bp_cl (bc_W E m) H → va_D A (bc_W E m) → va_S A s.heap H locs → W p l e ({ frames := 3, cells := 0, slots := 0, locals := 99 }) s mt args below meth c H locs 0 0 Q (F0 mt 188 ls [.int s0, .ref (E.2.1 (5 * sq1 - 15))]) := by
        intro x2 s0 sq1 m h hp_sq1 ls H locs hl hP hD hS
        rw [bc_PD_readBlocks_L188] at h
        refine lv_iconst (v := 0) hx hb (dt_bc_PD_readBlocks 96 rfl) (by decide) ?_
        exact hL189 _ _ _ _ _ h hp_sq1 ls H locs (lv_sub hl [0, 1, 2] rfl) hP hD hS
      have hL161 : ∀ (x2 : Int32) (x4 : Int32) (m : bp_M), bc_PD_readBlocks_L161 (bc_PD_readBlocks_L2 N a1 n2) N a1 x2 x4 m = some mr → ∀ (ls : Array Slot) (H : Heap) (locs : List Loc), lv_has ls 5 [(0, .ref (E.2.1 3)), (1, .int a1), (2, .int x2), (4, .int x4)] → va_P E.1 bp_cl (bc_W E m) H → va_D A (bc_W E m) → va_S A s.heap H locs → W p l e ({ frames := 3, cells := 0, slots := 0, locals := 99 }) s mt args below meth c H locs 0 0 Q (F0 mt 161 ls []) := by
        intro x2 x4 m h ls H locs hl hP hD hS
        rw [bc_PD_readBlocks_L161] at h
        refine lv_aload_n hx hb (dt_bc_PD_readBlocks 84 rfl) rfl (lv_at hl 0 rfl) ?_
        refine va_get (D := E.1) (ci := 3) (v := .ref (E.2.1 (m.2 3 6))) (C := "BlockPictures$PictureDecoder") (T := bF_PD) (N := 11) hx hb htb bc_in_PD hown hK hP 3 (bc_gPD E m) rfl 6 (by decide) (htb _ tw_271) (fun _ h9 => h9) rfl (dt_bc_PD_readBlocks 85 rfl) ?_
        refine bp_topr E.2.1 (fun q1 eq1 => ?_)
        replace h := bp_nN_s h eq1
        obtain ⟨hg2, h⟩ := bp_g_s h
        refine va_get (D := E.1) (ci := 8) (v := .ref (E.2.1 (5 * q1 - 15))) (C := "BlockPictures$BlockRows") (T := bF_RO) (N := 6) hx hb htb bc_in_RO hown hK hP q1 (bc_gRO E m hg2) rfl 1 (by decide) (htb _ tw_219) (fun _ h9 => h9) rfl (dt_bc_PD_readBlocks 86 rfl) ?_
        refine lv_iload_n hx hb (dt_bc_PD_readBlocks 87 rfl) rfl (lv_at hl 2 rfl) ?_
        refine lv_iload hx hb (dt_bc_PD_readBlocks 88 rfl) (lv_at hl 3 rfl) ?_
        refine lv_if_eq (tgt := 188) hx hb (dt_bc_PD_readBlocks 89 rfl) (by decide) (fun hc => ?_) (fun hc => ?_)
        · replace h := (if_pos hc).symm.trans h
          exact hL188 _ _ _ _ h hg2 ls H locs (lv_sub hl [0, 1, 2] rfl) hP hD hS
        · replace h := (if_neg hc).symm.trans h
          refine lv_aload_n hx hb (dt_bc_PD_readBlocks 90 rfl) rfl (lv_at hl 0 rfl) ?_
          refine va_get (D := E.1) (ci := 3) (v := .ref (E.2.1 6)) (C := "BlockPictures$PictureDecoder") (T := bF_PD) (N := 11) hx hb htb bc_in_PD hown hK hP 3 (bc_gPD E m) rfl 0 (by decide) (htb _ tw_259) (fun _ h9 => h9) rfl (dt_bc_PD_readBlocks 91 rfl) ?_
          obtain ⟨z4, m3, hm3, h⟩ := bp_cI_s h
          refine bc_callI E hsub hS (va_runV (As := []) (rest := [.int x2, .ref (E.2.1 (5 * q1 - 15))]) ⟨hx, hb, hml, hown, htb⟩ (wbc_BR_flag l E N  m H.size z4 m3 hm3) (cwV 0 htb (bp_goodV tw_470 tw_471 tw_472 tw_73 tw_473) rfl rfl rfl ⟨rfl, hd_bc_BR_flag⟩ ⟨Nat.le_of_ble_eq_true rfl, Nat.le_of_ble_eq_true rfl⟩) (bc_preV E hsub hst hK hP hD hS (bc_gBR E m) rfl rfl _) rfl rfl hl.1 rfl (lv_room (Nat.le_of_ble_eq_true rfl)) (dt_bc_PD_readBlocks 92 rfl) ⟨Nat.zero_le _, Nat.zero_le _⟩) (fun H locs hP hD hS => ?_)
          refine lv_if_eq (tgt := 188) hx hb (dt_bc_PD_readBlocks 93 rfl) (by decide) (fun hc => ?_) (fun hc => ?_)
          · replace h := (if_pos hc).symm.trans h
            exact hL188 _ _ _ _ h hg2 ls H locs (lv_sub hl [0, 1, 2] rfl) hP hD hS
          · replace h := (if_neg hc).symm.trans h
            refine lv_iconst (v := 1) hx hb (dt_bc_PD_readBlocks 94 rfl) (by decide) ?_
            refine lv_goto (tgt := 189) hx hb (dt_bc_PD_readBlocks 95 rfl) (by decide) ?_
            exact hL189 _ _ _ _ _ h hg2 ls H locs (lv_sub hl [0, 1, 2] rfl) hP hD hS
      have hL87 : ∀ (x2 : Int32) (x3 : Int32) (s0 : Int32) (m : bp_M), bc_PD_readBlocks_L87 (bc_PD_readBlocks_L2 N a1 n2) N a1 x2 x3 s0 m = some mr → ∀ (ls : Array Slot) (H : Heap) (locs : List Loc), lv_has ls 5 [(0, .ref (E.2.1 3)), (1, .int a1), (2, .int x2), (3, .int x3)] → va_P E.1 bp_cl (bc_W E m) H → va_D A (bc_W E m) → va_S A s.heap H locs → W p l e ({ frames := 3, cells := 0, slots := 0, locals := 99 }) s mt args below meth c H locs 0 0 Q (F0 mt 87 ls [.int s0]) := by
        intro x2 x3 s0 m h ls H locs hl hP hD hS
        rw [bc_PD_readBlocks_L87] at h
        refine lv_istore hx hb (dt_bc_PD_readBlocks 44 rfl) hl (Nat.le_of_ble_eq_true rfl) rfl (fun ls hl => ?_)
        have hl : lv_has ls 5 [(4, .int s0), (0, .ref (E.2.1 3)), (1, .int a1), (2, .int x2), (3, .int x3)] := hl
        refine lv_aload_n hx hb (dt_bc_PD_readBlocks 45 rfl) rfl (lv_at hl 1 rfl) ?_
        refine va_get (D := E.1) (ci := 3) (v := .ref (E.2.1 (m.2 3 6))) (C := "BlockPictures$PictureDecoder") (T := bF_PD) (N := 11) hx hb htb bc_in_PD hown hK hP 3 (bc_gPD E m) rfl 6 (by decide) (htb _ tw_271) (fun _ h9 => h9) rfl (dt_bc_PD_readBlocks 46 rfl) ?_
        refine bp_topr E.2.1 (fun q1 eq1 => ?_)
        replace h := bp_nN_s h eq1
        obtain ⟨hg2, h⟩ := bp_g_s h
        refine va_get (D := E.1) (ci := 8) (v := .ref (E.2.1 (5 * q1 - 16))) (C := "BlockPictures$BlockRows") (T := bF_RO) (N := 6) hx hb htb bc_in_RO hown hK hP q1 (bc_gRO E m hg2) rfl 0 (by decide) (htb _ tw_216) (fun _ h9 => h9) rfl (dt_bc_PD_readBlocks 47 rfl) ?_
        refine lv_iload_n hx hb (dt_bc_PD_readBlocks 48 rfl) rfl (lv_at hl 3 rfl) ?_
        obtain ⟨hg3, h⟩ := bp_gi_s h
        refine bc_lZ E hx hb hK hP (bc_gro0 E hg2) hg3 (dt_bc_PD_readBlocks 49 rfl) ?_
        refine lv_if_eq (tgt := 154) hx hb (dt_bc_PD_readBlocks 50 rfl) (by decide) (fun hc => ?_) (fun hc => ?_)
        · replace h := (if_pos hc).symm.trans h
          refine lv_aload_n hx hb (dt_bc_PD_readBlocks 80 rfl) rfl (lv_at hl 1 rfl) ?_
          refine lv_iload_n hx hb (dt_bc_PD_readBlocks 81 rfl) rfl (lv_at hl 3 rfl) ?_
          obtain ⟨z5, m4, hm4, h⟩ := bp_cI_s h
          refine bc_callI E hsub hS (va_runV (As := [.int x2]) (rest := []) ⟨hx, hb, hml, hown, htb⟩ (wbc_PD_readIntra l E N x2 m H.size z5 m4 hm4) (cwV 1 htb (bp_goodV tw_526 tw_528 tw_14 tw_72 tw_529) rfl rfl rfl ⟨rfl, hd_bc_PD_readIntra⟩ ⟨Nat.le_of_ble_eq_true rfl, Nat.le_of_ble_eq_true rfl⟩) (bc_preV E hsub hst hK hP hD hS (bc_gPD E m) rfl rfl _) rfl rfl hl.1 rfl (lv_room (Nat.le_of_ble_eq_true rfl)) (dt_bc_PD_readBlocks 82 rfl) ⟨Nat.zero_le _, Nat.zero_le _⟩) (fun H locs hP hD hS => ?_)
          refine lv_istore hx hb (dt_bc_PD_readBlocks 83 rfl) hl (Nat.le_of_ble_eq_true rfl) rfl (fun ls hl => ?_)
          have hl : lv_has ls 5 [(4, .int z5), (0, .ref (E.2.1 3)), (1, .int a1), (2, .int x2), (3, .int x3)] := hl
          exact hL161 _ _ _ h ls H locs (lv_sub hl [1, 2, 3, 0] rfl) hP hD hS
        · replace h := (if_neg hc).symm.trans h
          refine lv_aload_n hx hb (dt_bc_PD_readBlocks 51 rfl) rfl (lv_at hl 1 rfl) ?_
          refine lv_iload_n hx hb (dt_bc_PD_readBlocks 52 rfl) rfl (lv_at hl 3 rfl) ?_
          refine lv_iload_n hx hb (dt_bc_PD_readBlocks 53 rfl) rfl (lv_at hl 4 rfl) ?_
          obtain ⟨m6, hm6, h⟩ := bp_cV_s h
          refine bc_callV E hsub hS (va_runV (As := [.int x2, .int x3]) (rest := []) ⟨hx, hb, hml, hown, htb⟩ (wbc_PD_readInter l E N x2 x3 m H.size m6 hm6) (cwV 2 htb (bp_goodV tw_486 tw_488 tw_10 tw_72 tw_489) rfl rfl rfl ⟨rfl, hd_bc_PD_readInter⟩ ⟨Nat.le_of_ble_eq_true rfl, Nat.le_of_ble_eq_true rfl⟩) (bc_preV E hsub hst hK hP hD hS (bc_gPD E m) rfl rfl _) rfl rfl hl.1 rfl (lv_room (Nat.le_of_ble_eq_true rfl)) (dt_bc_PD_readBlocks 54 rfl) ⟨Nat.zero_le _, Nat.zero_le _⟩) (fun H locs hP hD hS => ?_)
          refine lv_aload_n hx hb (dt_bc_PD_readBlocks 55 rfl) rfl (lv_at hl 1 rfl) ?_
          refine va_get (D := E.1) (ci := 3) (v := .ref (E.2.1 7)) (C := "BlockPictures$PictureDecoder") (T := bF_PD) (N := 11) hx hb htb bc_in_PD hown hK hP 3 (bc_gPD E m6) rfl 7 (by decide) (htb _ tw_272) (fun _ h9 => h9) rfl (dt_bc_PD_readBlocks 56 rfl) ?_
          refine lv_aload_n hx hb (dt_bc_PD_readBlocks 57 rfl) rfl (lv_at hl 1 rfl) ?_
          refine va_get (D := E.1) (ci := 3) (v := .ref (E.2.1 39)) (C := "BlockPictures$PictureDecoder") (T := bF_PD) (N := 11) hx hb htb bc_in_PD hown hK hP 3 (bc_gPD E m6) rfl 3 (by decide) (htb _ tw_265) (fun _ h9 => h9) rfl (dt_bc_PD_readBlocks 58 rfl) ?_
          refine lv_aload_n hx hb (dt_bc_PD_readBlocks 59 rfl) rfl (lv_at hl 1 rfl) ?_
          refine va_get (D := E.1) (ci := 3) (v := .ref (E.2.1 (m6.2 3 6))) (C := "BlockPictures$PictureDecoder") (T := bF_PD) (N := 11) hx hb htb bc_in_PD hown hK hP 3 (bc_gPD E m6) rfl 6 (by decide) (htb _ tw_271) (fun _ h9 => h9) rfl (dt_bc_PD_readBlocks 60 rfl) ?_
          refine bp_topr E.2.1 (fun q7 eq7 => ?_)
          replace h := bp_nN_s h eq7
          obtain ⟨hg8, h⟩ := bp_g_s h
          refine va_get (D := E.1) (ci := 8) (v := .ref (E.2.1 (5 * q7 - 14))) (C := "BlockPictures$BlockRows") (T := bF_RO) (N := 6) hx hb htb bc_in_RO hown hK hP q7 (bc_gRO E m6 hg8) rfl 2 (by decide) (htb _ tw_221) (fun _ h9 => h9) rfl (dt_bc_PD_readBlocks 61 rfl) ?_
          refine lv_iload_n hx hb (dt_bc_PD_readBlocks 62 rfl) rfl (lv_at hl 3 rfl) ?_
          obtain ⟨hg9, h⟩ := bp_gi_s h
          refine bc_lI E hx hb hK hP (bc_gro2 E hg8) hg9 (dt_bc_PD_readBlocks 63 rfl) ?_
          obtain ⟨hg10, h⟩ := bp_gi_s h
          refine bc_lP E hx hb hK hP (bc_ga39 E) hg10 (dt_bc_PD_readBlocks 64 rfl) (fun q11 eq11 => ?_)
          replace h := bp_nN_s h eq11
          obtain ⟨hg12, h⟩ := bp_g_s h
          refine lv_aload_n hx hb (dt_bc_PD_readBlocks 65 rfl) rfl (lv_at hl 1 rfl) ?_
          refine va_get (D := E.1) (ci := 3) (v := .ref (E.2.1 10)) (C := "BlockPictures$PictureDecoder") (T := bF_PD) (N := 11) hx hb htb bc_in_PD hown hK hP 3 (bc_gPD E m6) rfl 1 (by decide) (htb _ tw_261) (fun _ h9 => h9) rfl (dt_bc_PD_readBlocks 66 rfl) ?_
          refine lv_iload_n hx hb (dt_bc_PD_readBlocks 67 rfl) rfl (lv_at hl 3 rfl) ?_
          refine lv_aload_n hx hb (dt_bc_PD_readBlocks 68 rfl) rfl (lv_at hl 1 rfl) ?_
          refine va_get (D := E.1) (ci := 3) (v := .ref (E.2.1 (m6.2 3 6))) (C := "BlockPictures$PictureDecoder") (T := bF_PD) (N := 11) hx hb htb bc_in_PD hown hK hP 3 (bc_gPD E m6) rfl 6 (by decide) (htb _ tw_271) (fun _ h9 => h9) rfl (dt_bc_PD_readBlocks 69 rfl) ?_
          refine bp_topr E.2.1 (fun q13 eq13 => ?_)
          replace h := bp_nN_s h eq13
          obtain ⟨hg14, h⟩ := bp_g_s h
          refine va_get (D := E.1) (ci := 8) (v := .ref (E.2.1 (5 * q13 - 13))) (C := "BlockPictures$BlockRows") (T := bF_RO) (N := 6) hx hb htb bc_in_RO hown hK hP q13 (bc_gRO E m6 hg14) rfl 3 (by decide) (htb _ tw_223) (fun _ h9 => h9) rfl (dt_bc_PD_readBlocks 70 rfl) ?_
          refine lv_iload_n hx hb (dt_bc_PD_readBlocks 71 rfl) rfl (lv_at hl 3 rfl) ?_
          obtain ⟨hg15, h⟩ := bp_gi_s h
          refine bc_lI E hx hb hK hP (bc_gro3 E hg14) hg15 (dt_bc_PD_readBlocks 72 rfl) ?_
          refine lv_aload_n hx hb (dt_bc_PD_readBlocks 73 rfl) rfl (lv_at hl 1 rfl) ?_
          refine va_get (D := E.1) (ci := 3) (v := .ref (E.2.1 (m6.2 3 6))) (C := "BlockPictures$PictureDecoder") (T := bF_PD) (N := 11) hx hb htb bc_in_PD hown hK hP 3 (bc_gPD E m6) rfl 6 (by decide) (htb _ tw_271) (fun _ h9 => h9) rfl (dt_bc_PD_readBlocks 74 rfl) ?_
          refine bp_topr E.2.1 (fun q16 eq16 => ?_)
          replace h := bp_nN_s h eq16
          obtain ⟨hg17, h⟩ := bp_g_s h
          refine va_get (D := E.1) (ci := 8) (v := .ref (E.2.1 (5 * q16 - 12))) (C := "BlockPictures$BlockRows") (T := bF_RO) (N := 6) hx hb htb bc_in_RO hown hK hP q16 (bc_gRO E m6 hg17) rfl 4 (by decide) (htb _ tw_226) (fun _ h9 => h9) rfl (dt_bc_PD_readBlocks 75 rfl) ?_
          refine lv_iload_n hx hb (dt_bc_PD_readBlocks 76 rfl) rfl (lv_at hl 3 rfl) ?_
          obtain ⟨hg18, h⟩ := bp_gi_s h
          refine bc_lI E hx hb hK hP (bc_gro4 E hg17) hg18 (dt_bc_PD_readBlocks 77 rfl) ?_
          obtain ⟨m19, hm19, h⟩ := bp_cV_s h
          refine bc_callV E hsub hS (va_runV (As := [.ref (E.2.1 q11), .ref (E.2.1 10), .int x2, .int (m6.1 (5 * q13 - 13) x2.toNatClampNeg), .int (m6.1 (5 * q16 - 12) x2.toNatClampNeg)]) (rest := []) ⟨hx, hb, hml, hown, htb⟩ (wbc_MO_predict l E N q11 10 x2 (m6.1 (5 * q13 - 13) x2.toNatClampNeg) (m6.1 (5 * q16 - 12) x2.toNatClampNeg) m6 H.size m19 hg12 (by decide) hm19) (cwV 5 htb (bp_goodV tw_503 tw_504 tw_505 tw_76 tw_506) rfl rfl rfl ⟨rfl, hd_bc_MO_predict⟩ ⟨Nat.le_of_ble_eq_true rfl, Nat.le_of_ble_eq_true rfl⟩) (bc_preV E hsub hst hK hP hD hS (bc_gMO E m6) rfl rfl _) rfl rfl hl.1 rfl (lv_room (Nat.le_of_ble_eq_true rfl)) (dt_bc_PD_readBlocks 78 rfl) ⟨Nat.zero_le _, Nat.zero_le _⟩) (fun H locs hP hD hS => ?_)
          refine lv_goto (tgt := 161) hx hb (dt_bc_PD_readBlocks 79 rfl) (by decide) ?_
          exact hL161 _ _ _ h ls H locs (lv_sub hl [1, 2, 3, 0] rfl) hP hD hS
      have hL77 : ∀ (x2 : Int32) (x3 : Int32) (s0 : Int32) (s1 : Int32) (sq2 : Nat) (m : bp_M), bc_PD_readBlocks_L77 (bc_PD_readBlocks_L2 N a1 n2) N a1 x2 x3 s0 s1 sq2 m = some mr → isRO sq2 → ∀ (ls : Array Slot) (H : Heap) (locs : List Loc), lv_has ls 5 [(0, .ref (E.2.1 3)), (1, .int a1), (2, .int x2), (3, .int x3)] → va_P E.1 bp_cl (bc_W E m) H → va_D A (bc_W E m) → va_S A s.heap H locs → W p l e ({ frames := 3, cells := 0, slots := 0, locals := 99 }) s mt args below meth c H locs 0 0 Q (F0 mt 77 ls [.int s0, .int s1, .ref (E.2.1 (5 * sq2 - 16))]) := by
        intro x2 x3 s0 s1 sq2 m h hp_sq2 ls H locs hl hP hD hS
        rw [bc_PD_readBlocks_L77] at h
        obtain ⟨hg1, h⟩ := bp_gi_s h
        obtain ⟨hg2, h⟩ := bp_g_s h
        refine bc_sZ E hx hb hK hP hD hS (bc_gro0 E hp_sq2) hg1 hg2 (dt_bc_PD_readBlocks 38 rfl) (fun m3 em3 H locs hP hD hS => ?_)
        replace h := bp_nM_s h em3
        refine lv_iload_n hx hb (dt_bc_PD_readBlocks 39 rfl) rfl (lv_at hl 3 rfl) ?_
        refine lv_if_ne (tgt := 86) hx hb (dt_bc_PD_readBlocks 40 rfl) (by decide) (fun hc => ?_) (fun hc => ?_)
        · replace h := (if_pos hc).symm.trans h
          refine lv_iconst (v := 0) hx hb (dt_bc_PD_readBlocks 43 rfl) (by decide) ?_
          exact hL87 _ _ _ _ h ls H locs (lv_sub hl [0, 1, 2, 3] rfl) hP hD hS
        · replace h := (if_neg (fun hn => hn hc)).symm.trans h
          refine lv_iconst (v := 1) hx hb (dt_bc_PD_readBlocks 41 rfl) (by decide) ?_
          refine lv_goto (tgt := 87) hx hb (dt_bc_PD_readBlocks 42 rfl) (by decide) ?_
          exact hL87 _ _ _ _ h ls H locs (lv_sub hl [0, 1, 2, 3] rfl) hP hD hS
      have hL76 : ∀ (x2 : Int32) (x3 : Int32) (s0 : Int32) (sq1 : Nat) (m : bp_M), bc_PD_readBlocks_L76 (bc_PD_readBlocks_L2 N a1 n2) N a1 x2 x3 s0 sq1 m = some mr → isRO sq1 → ∀ (ls : Array Slot) (H : Heap) (locs : List Loc), lv_has ls 5 [(0, .ref (E.2.1 3)), (1, .int a1), (2, .int x2), (3, .int x3)] → va_P E.1 bp_cl (bc_W E m) H → va_D A (bc_W E m) → va_S A s.heap H locs → W p l e ({ frames := 3, cells := 0, slots := 0, locals := 99 }) s mt args below meth c H locs 0 0 Q (F0 mt 76 ls [.int s0, .ref (E.2.1 (5 * sq1 - 16))]) := by
        intro x2 x3 s0 sq1 m h hp_sq1 ls H locs hl hP hD hS
        rw [bc_PD_readBlocks_L76] at h
        refine lv_iconst (v := 0) hx hb (dt_bc_PD_readBlocks 37 rfl) (by decide) ?_
        exact hL77 _ _ _ _ _ _ h hp_sq1 ls H locs (lv_sub hl [0, 1, 2, 3] rfl) hP hD hS
      have hL72 : ∀ (x2 : Int32) (x3 : Int32) (s0 : Int32) (sq1 : Nat) (m : bp_M), bc_PD_readBlocks_L72 (bc_PD_readBlocks_L2 N a1 n2) N a1 x2 x3 s0 sq1 m = some mr → isRO sq1 → ∀ (ls : Array Slot) (H : Heap) (locs : List Loc), lv_has ls 5 [(0, .ref (E.2.1 3)), (1, .int a1), (2, .int x2), (3, .int x3)] → va_P E.1 bp_cl (bc_W E m) H → va_D A (bc_W E m) → va_S A s.heap H locs → W p l e ({ frames := 3, cells := 0, slots := 0, locals := 99 }) s mt args below meth c H locs 0 0 Q (F0 mt 72 ls [.int s0, .ref (E.2.1 (5 * sq1 - 16))]) := by
        intro x2 x3 s0 sq1 m h hp_sq1 ls H locs hl hP hD hS
        rw [bc_PD_readBlocks_L72] at h
        refine lv_iconst (v := 1) hx hb (dt_bc_PD_readBlocks 35 rfl) (by decide) ?_
        refine lv_goto (tgt := 77) hx hb (dt_bc_PD_readBlocks 36 rfl) (by decide) ?_
        exact hL77 _ _ _ _ _ _ h hp_sq1 ls H locs (lv_sub hl [0, 1, 2, 3] rfl) hP hD hS
      have hL45 : ∀ (x2 : Int32) (s0 : Int32) (m : bp_M), bc_PD_readBlocks_L45 (bc_PD_readBlocks_L2 N a1 n2) N a1 x2 s0 m = some mr → ∀ (ls : Array Slot) (H : Heap) (locs : List Loc), lv_has ls 5 [(0, .ref (E.2.1 3)), (1, .int a1), (2, .int x2)] → va_P E.1 bp_cl (bc_W E m) H → va_D A (bc_W E m) → va_S A s.heap H locs → W p l e ({ frames := 3, cells := 0, slots := 0, locals := 99 }) s mt args below meth c H locs 0 0 Q (F0 mt 45 ls [.int s0]) := by
        intro x2 s0 m h ls H locs hl hP hD hS
        rw [bc_PD_readBlocks_L45] at h
        refine lv_istore_n hx hb (dt_bc_PD_readBlocks 22 rfl) rfl hl (Nat.le_of_ble_eq_true rfl) rfl (fun ls hl => ?_)
        have hl : lv_has ls 5 [(3, .int s0), (0, .ref (E.2.1 3)), (1, .int a1), (2, .int x2)] := hl
        refine lv_aload_n hx hb (dt_bc_PD_readBlocks 23 rfl) rfl (lv_at hl 1 rfl) ?_
        refine va_get (D := E.1) (ci := 3) (v := .ref (E.2.1 (m.2 3 6))) (C := "BlockPictures$PictureDecoder") (T := bF_PD) (N := 11) hx hb htb bc_in_PD hown hK hP 3 (bc_gPD E m) rfl 6 (by decide) (htb _ tw_271) (fun _ h9 => h9) rfl (dt_bc_PD_readBlocks 24 rfl) ?_
        refine bp_topr E.2.1 (fun q1 eq1 => ?_)
        replace h := bp_nN_s h eq1
        obtain ⟨hg2, h⟩ := bp_g_s h
        refine va_get (D := E.1) (ci := 8) (v := .ref (E.2.1 (5 * q1 - 16))) (C := "BlockPictures$BlockRows") (T := bF_RO) (N := 6) hx hb htb bc_in_RO hown hK hP q1 (bc_gRO E m hg2) rfl 0 (by decide) (htb _ tw_216) (fun _ h9 => h9) rfl (dt_bc_PD_readBlocks 25 rfl) ?_
        refine lv_iload_n hx hb (dt_bc_PD_readBlocks 26 rfl) rfl (lv_at hl 3 rfl) ?_
        refine lv_iload_n hx hb (dt_bc_PD_readBlocks 27 rfl) rfl (lv_at hl 0 rfl) ?_
        refine lv_if_ne (tgt := 72) hx hb (dt_bc_PD_readBlocks 28 rfl) (by decide) (fun hc => ?_) (fun hc => ?_)
        · replace h := (if_pos hc).symm.trans h
          exact hL72 _ _ _ _ _ h hg2 ls H locs (lv_sub hl [1, 2, 3, 0] rfl) hP hD hS
        · replace h := (if_neg (fun hn => hn hc)).symm.trans h
          refine lv_iload_n hx hb (dt_bc_PD_readBlocks 29 rfl) rfl (lv_at hl 2 rfl) ?_
          refine lv_if_ne (tgt := 76) hx hb (dt_bc_PD_readBlocks 30 rfl) (by decide) (fun hc => ?_) (fun hc => ?_)
          · replace h := (if_pos hc).symm.trans h
            exact hL76 _ _ _ _ _ h hg2 ls H locs (lv_sub hl [1, 2, 3, 0] rfl) hP hD hS
          · replace h := (if_neg (fun hn => hn hc)).symm.trans h
            refine lv_aload_n hx hb (dt_bc_PD_readBlocks 31 rfl) rfl (lv_at hl 1 rfl) ?_
            refine va_get (D := E.1) (ci := 3) (v := .ref (E.2.1 6)) (C := "BlockPictures$PictureDecoder") (T := bF_PD) (N := 11) hx hb htb bc_in_PD hown hK hP 3 (bc_gPD E m) rfl 0 (by decide) (htb _ tw_259) (fun _ h9 => h9) rfl (dt_bc_PD_readBlocks 32 rfl) ?_
            obtain ⟨z4, m3, hm3, h⟩ := bp_cI_s h
            refine bc_callI E hsub hS (va_runV (As := []) (rest := [.int x2, .ref (E.2.1 (5 * q1 - 16))]) ⟨hx, hb, hml, hown, htb⟩ (wbc_BR_flag l E N  m H.size z4 m3 hm3) (cwV 0 htb (bp_goodV tw_470 tw_471 tw_472 tw_73 tw_473) rfl rfl rfl ⟨rfl, hd_bc_BR_flag⟩ ⟨Nat.le_of_ble_eq_true rfl, Nat.le_of_ble_eq_true rfl⟩) (bc_preV E hsub hst hK hP hD hS (bc_gBR E m) rfl rfl _) rfl rfl hl.1 rfl (lv_room (Nat.le_of_ble_eq_true rfl)) (dt_bc_PD_readBlocks 33 rfl) ⟨Nat.zero_le _, Nat.zero_le _⟩) (fun H locs hP hD hS => ?_)
            refine lv_if_ne (tgt := 76) hx hb (dt_bc_PD_readBlocks 34 rfl) (by decide) (fun hc => ?_) (fun hc => ?_)
            · replace h := (if_pos hc).symm.trans h
              exact hL76 _ _ _ _ _ h hg2 ls H locs (lv_sub hl [1, 2, 3, 0] rfl) hP hD hS
            · replace h := (if_neg (fun hn => hn hc)).symm.trans h
              exact hL72 _ _ _ _ _ h hg2 ls H locs (lv_sub hl [1, 2, 3, 0] rfl) hP hD hS
      have hL44 : ∀ (x2 : Int32) (m : bp_M), bc_PD_readBlocks_L44 (bc_PD_readBlocks_L2 N a1 n2) N a1 x2 m = some mr → ∀ (ls : Array Slot) (H : Heap) (locs : List Loc), lv_has ls 5 [(0, .ref (E.2.1 3)), (1, .int a1), (2, .int x2)] → va_P E.1 bp_cl (bc_W E m) H → va_D A (bc_W E m) → va_S A s.heap H locs → W p l e ({ frames := 3, cells := 0, slots := 0, locals := 99 }) s mt args below meth c H locs 0 0 Q (F0 mt 44 ls []) := by
        intro x2 m h ls H locs hl hP hD hS
        rw [bc_PD_readBlocks_L44] at h
        refine lv_iconst (v := 0) hx hb (dt_bc_PD_readBlocks 21 rfl) (by decide) ?_
        exact hL45 _ _ _ h ls H locs (lv_sub hl [0, 1, 2] rfl) hP hD hS
      intro x2 m h ls H locs hl hP hD hS
      rw [bc_PD_readBlocks_L2] at h
      refine lv_iload_n hx hb (dt_bc_PD_readBlocks 2 rfl) rfl (lv_at hl 2 rfl) ?_
      refine lv_bipush (v := 16) hx hb (dt_bc_PD_readBlocks 3 rfl) (by decide) ?_
      refine lv_icmp_ge (tgt := 217) hx hb (dt_bc_PD_readBlocks 4 rfl) (by decide) (fun hc => ?_) (fun hc => ?_)
      · replace h := (if_pos hc).symm.trans h
        exact hL217 _ h ls H locs (lv_sub hl [] rfl) hP hD hS
      · replace h := (if_neg hc).symm.trans h
        refine lv_aload_n hx hb (dt_bc_PD_readBlocks 5 rfl) rfl (lv_at hl 0 rfl) ?_
        refine va_get (D := E.1) (ci := 3) (v := .ref (E.2.1 6)) (C := "BlockPictures$PictureDecoder") (T := bF_PD) (N := 11) hx hb htb bc_in_PD hown hK hP 3 (bc_gPD E m) rfl 0 (by decide) (htb _ tw_259) (fun _ h9 => h9) rfl (dt_bc_PD_readBlocks 6 rfl) ?_
        refine va_get (D := E.1) (ci := 6) (v := .int (m.1 6 3)) (C := "BlockPictures$BitReader") (T := bF_BR) (N := 4) hx hb htb bc_in_BR hown hK hP 6 (bc_gBR E m) rfl 3 (by decide) (htb _ tw_166) (fun _ h9 => h9) rfl (dt_bc_PD_readBlocks 7 rfl) ?_
        refine lv_if_ne (tgt := 217) hx hb (dt_bc_PD_readBlocks 8 rfl) (by decide) (fun hc => ?_) (fun hc => ?_)
        · replace h := (if_pos hc).symm.trans h
          exact hL217 _ h ls H locs (lv_sub hl [] rfl) hP hD hS
        · replace h := (if_neg (fun hn => hn hc)).symm.trans h
          refine lv_aload_n hx hb (dt_bc_PD_readBlocks 9 rfl) rfl (lv_at hl 0 rfl) ?_
          refine va_get (D := E.1) (ci := 3) (v := .ref (E.2.1 (m.2 3 6))) (C := "BlockPictures$PictureDecoder") (T := bF_PD) (N := 11) hx hb htb bc_in_PD hown hK hP 3 (bc_gPD E m) rfl 6 (by decide) (htb _ tw_271) (fun _ h9 => h9) rfl (dt_bc_PD_readBlocks 10 rfl) ?_
          refine bp_topr E.2.1 (fun q1 eq1 => ?_)
          replace h := bp_nN_s h eq1
          obtain ⟨hg2, h⟩ := bp_g_s h
          refine lv_iload_n hx hb (dt_bc_PD_readBlocks 11 rfl) rfl (lv_at hl 2 rfl) ?_
          obtain ⟨m3, hm3, h⟩ := bp_cV_s h
          refine bc_callV E hsub hS (va_runV (As := [.int x2]) (rest := []) ⟨hx, hb, hml, hown, htb⟩ (wbc_RO_clearBlock l E N q1 x2 m H.size m3 hg2 hm3) (cwV 1 htb (bp_goodV tw_482 tw_483 tw_484 tw_75 tw_485) rfl rfl rfl ⟨rfl, hd_bc_RO_clearBlock⟩ ⟨Nat.le_of_ble_eq_true rfl, Nat.le_of_ble_eq_true rfl⟩) (bc_preV E hsub hst hK hP hD hS (bc_gRO E m hg2) rfl rfl _) rfl rfl hl.1 rfl (lv_room (Nat.le_of_ble_eq_true rfl)) (dt_bc_PD_readBlocks 12 rfl) ⟨Nat.zero_le _, Nat.zero_le _⟩) (fun H locs hP hD hS => ?_)
          refine lv_iload_n hx hb (dt_bc_PD_readBlocks 13 rfl) rfl (lv_at hl 1 rfl) ?_
          refine lv_if_ne (tgt := 44) hx hb (dt_bc_PD_readBlocks 14 rfl) (by decide) (fun hc => ?_) (fun hc => ?_)
          · replace h := (if_pos hc).symm.trans h
            exact hL44 _ _ h ls H locs (lv_sub hl [0, 1, 2] rfl) hP hD hS
          · replace h := (if_neg (fun hn => hn hc)).symm.trans h
            refine lv_aload_n hx hb (dt_bc_PD_readBlocks 15 rfl) rfl (lv_at hl 0 rfl) ?_
            refine va_get (D := E.1) (ci := 3) (v := .ref (E.2.1 6)) (C := "BlockPictures$PictureDecoder") (T := bF_PD) (N := 11) hx hb htb bc_in_PD hown hK hP 3 (bc_gPD E m3) rfl 0 (by decide) (htb _ tw_259) (fun _ h9 => h9) rfl (dt_bc_PD_readBlocks 16 rfl) ?_
            obtain ⟨z5, m4, hm4, h⟩ := bp_cI_s h
            refine bc_callI E hsub hS (va_runV (As := []) (rest := []) ⟨hx, hb, hml, hown, htb⟩ (wbc_BR_flag l E N  m3 H.size z5 m4 hm4) (cwV 0 htb (bp_goodV tw_470 tw_471 tw_472 tw_73 tw_473) rfl rfl rfl ⟨rfl, hd_bc_BR_flag⟩ ⟨Nat.le_of_ble_eq_true rfl, Nat.le_of_ble_eq_true rfl⟩) (bc_preV E hsub hst hK hP hD hS (bc_gBR E m3) rfl rfl _) rfl rfl hl.1 rfl (lv_room (Nat.le_of_ble_eq_true rfl)) (dt_bc_PD_readBlocks 17 rfl) ⟨Nat.zero_le _, Nat.zero_le _⟩) (fun H locs hP hD hS => ?_)
            refine lv_if_ne (tgt := 44) hx hb (dt_bc_PD_readBlocks 18 rfl) (by decide) (fun hc => ?_) (fun hc => ?_)
            · replace h := (if_pos hc).symm.trans h
              exact hL44 _ _ h ls H locs (lv_sub hl [0, 1, 2] rfl) hP hD hS
            · replace h := (if_neg (fun hn => hn hc)).symm.trans h
              refine lv_iconst (v := 1) hx hb (dt_bc_PD_readBlocks 19 rfl) (by decide) ?_
              refine lv_goto (tgt := 45) hx hb (dt_bc_PD_readBlocks 20 rfl) (by decide) ?_
              exact hL45 _ _ _ h ls H locs (lv_sub hl [0, 1, 2] rfl) hP hD hS
  suffices hgo : ∀ (H : Heap) (locs : List Loc), va_P E.1 bp_cl (bc_W E m) H → va_D A (bc_W E m) → va_S A s.heap H locs → W p l e ({ frames := 3, cells := 0, slots := 0, locals := 99 }) s mt args below meth c H locs 0 0 Q (F0 mt 0 ls []) from hgo _ _ hP hD hS
  clear hP hD hS
  intro H locs hP hD hS
  unfold bc_PD_readBlocks at h
  refine lv_iconst (v := 0) hx hb (dt_bc_PD_readBlocks 0 rfl) (by decide) ?_
  refine lv_istore_n hx hb (dt_bc_PD_readBlocks 1 rfl) rfl hl (Nat.le_of_ble_eq_true rfl) rfl (fun ls hl => ?_)
  have hl : lv_has ls 5 [(2, .int 0), (0, .ref (E.2.1 3)), (1, .int a1)] := hl
  exact hL2 _ _ _ h ls H locs (lv_sub hl [1, 2, 0] rfl) hP hD hS
