set_option maxHeartbeats 4000000 in
set_option maxRecDepth 100000 in
theorem wbm_M_residual (l : Launch) (E : bm_E) (N : Nat) (a1 : Int32) (m : bp_M) (sz : Nat) (mr : bp_M)  (h : bm_M_residual N a1 m = some mr) : Met l y_bm_M_residual (Cond.code y_bm_M_residual prog_13_method_30_code 9 none :: bp_tb) ({ frames := 3, cells := 0, slots := 0, locals := 71 }) (bm_Pc E m sz [.ref (E.2.1 0), .int a1]) (bm_Qv E m sz mr) 0 0 (va_A (bm_W E m) sz) := by
  refine Met.ofW (cc := prog_13_method_30_code) (maxL := 9) (ret := none) (by decide) rfl ?_
  intro p e s mt args below meth c s₁ B hml hv
  obtain ⟨rfl, hsz, hP, hK, hD0, hst⟩ := hv
  have hx := B.exec
  have hb := B.bytes
  have hr := B.returns
  have htb : ∀ w ∈ bp_tb, w.before _ s = true := fun w hw => atoms_spec (ws := Cond.code y_bm_M_residual prog_13_method_30_code 9 none :: bp_tb) B.pre w (List.mem_cons_of_mem _ hw)
  have hown : s.vm.findClass "BlockPicturesModel" = some mt.cls := findClass_of_methodNamed B.named
  have hlocks := B.notSynchronized
  subst hsz
  have hD := hD0.self (sz := s.heap.size)
  generalize hAe : va_A (bm_W E m) s.heap.size = A at hD hst ⊢
  have hsub : ∀ (u : bp_M) (z q : Nat), s.heap.size ≤ z → va_A (bm_W E u) z q → A q := bm_sub hAe
  have hS : va_S A s.heap s.heap [] := va_S.rf
  have hl := lv_entry ([.ref (E.2.1 0), .int a1]) (n := 9) (Nat.le_of_ble_eq_true rfl)
  rw [lg_entry_eq]
  generalize (lg_sl ([.ref (E.2.1 0), .int a1]) ++ List.replicate (9 - (lg_sl ([.ref (E.2.1 0), .int a1])).length) Slot.unset).toArray = ls at hl ⊢
  have hl : lv_has ls 9 [(0, .ref (E.2.1 0)), (1, .int a1)] := hl
  refine bm_keyV (R := ({ frames := 3, cells := 0, slots := 0, locals := 71 })) E hx hb hr hlocks hK hAe (fun Q hret => ?_)
  clear B hD0 hlocks hr
  generalize ([.ref (E.2.1 0), .int a1] : List Value).toArray = args at htb hret ⊢
  clear hAe
  have hL209 : ∀ (m : bp_M), bm_M_residual_L209 N a1 m = some mr → ∀ (ls : Array Slot) (H : Heap) (locs : List Loc), lv_has ls 9 [] → va_P E.1 bp_cl (bm_W E m) H → va_D A (bm_W E m) → va_S A s.heap H locs → W p l e ({ frames := 3, cells := 0, slots := 0, locals := 71 }) s mt args below meth c H locs 0 0 Q (F0 mt 209 ls []) := by
    intro m h ls H locs hl hP hD hS
    rw [bm_M_residual_L209] at h
    exact hret _ _ _ _ _ h hP hD hS (dt_bm_M_residual 118 rfl)
  have hL31 : ∀ (n31 : Nat) (x2 : Int32) (x3 : Int32) (x4 : Int32) (m : bp_M), bm_M_residual_L31 N a1 n31 x2 x3 x4 m = some mr → ∀ (ls : Array Slot) (H : Heap) (locs : List Loc), lv_has ls 9 [(0, .ref (E.2.1 0)), (2, .int x2), (3, .int x3), (4, .int x4)] → va_P E.1 bp_cl (bm_W E m) H → va_D A (bm_W E m) → va_S A s.heap H locs → W p l e ({ frames := 3, cells := 0, slots := 0, locals := 71 }) s mt args below meth c H locs 0 0 Q (F0 mt 31 ls []) := by
    intro n31
    induction n31 with
    | zero =>
      intro x2 x3 x4 m h ls H locs hl hP hD hS
      rw [bm_M_residual_L31] at h
      cases h
    | succ n31 ih31 =>
      have hL200 : ∀ (x2 : Int32) (x3 : Int32) (x4 : Int32) (m : bp_M), bm_M_residual_L200 (bm_M_residual_L31 N a1 n31) N a1 x2 x3 x4 m = some mr → ∀ (ls : Array Slot) (H : Heap) (locs : List Loc), lv_has ls 9 [(0, .ref (E.2.1 0)), (2, .int x2), (3, .int x3), (4, .int x4)] → va_P E.1 bp_cl (bm_W E m) H → va_D A (bm_W E m) → va_S A s.heap H locs → W p l e ({ frames := 3, cells := 0, slots := 0, locals := 71 }) s mt args below meth c H locs 0 0 Q (F0 mt 200 ls []) := by
        intro x2 x3 x4 m h ls H locs hl hP hD hS
        rw [bm_M_residual_L200] at h
        obtain ⟨y1, ey1⟩ : ∃ z : Int32, z = x3 + 1 := ⟨_, rfl⟩
        replace h := bp_nI_s h ey1
        refine lv_iinc (k := 2) (v := y1) hx hb (dt_bm_M_residual 115 rfl) hl rfl (by rw [ey1]; rfl) (Nat.le_of_ble_eq_true rfl) rfl (fun ls hl => ?_)
        have hl : lv_has ls 9 [(3, .int y1), (0, .ref (E.2.1 0)), (2, .int x2), (4, .int x4)] := hl
        obtain ⟨y2, ey2⟩ : ∃ z : Int32, z = x4 + 1 := ⟨_, rfl⟩
        replace h := bp_nI_s h ey2
        refine lv_iinc (k := 3) (v := y2) hx hb (dt_bm_M_residual 116 rfl) hl rfl (by rw [ey2]; rfl) (Nat.le_of_ble_eq_true rfl) rfl (fun ls hl => ?_)
        have hl : lv_has ls 9 [(4, .int y2), (3, .int y1), (0, .ref (E.2.1 0)), (2, .int x2)] := hl
        refine lv_goto (tgt := 31) hx hb (dt_bm_M_residual 117 rfl) (by decide) ?_
        exact ih31 _ _ _ _ h ls H locs (lv_sub hl [2, 3, 1, 0] rfl) hP hD hS
      have hL163 : ∀ (x2 : Int32) (x3 : Int32) (x4 : Int32) (x5 : Int32) (x6 : Int32) (x7 : Int32) (s0 : Int32) (m : bp_M), bm_M_residual_L163 (bm_M_residual_L31 N a1 n31) N a1 x2 x3 x4 x5 x6 x7 s0 m = some mr → ∀ (ls : Array Slot) (H : Heap) (locs : List Loc), lv_has ls 9 [(0, .ref (E.2.1 0)), (2, .int x2), (3, .int x3), (4, .int x4), (5, .int x5), (6, .int x6), (7, .int x7)] → va_P E.1 bp_cl (bm_W E m) H → va_D A (bm_W E m) → va_S A s.heap H locs → W p l e ({ frames := 3, cells := 0, slots := 0, locals := 71 }) s mt args below meth c H locs 0 0 Q (F0 mt 163 ls [.int s0]) := by
        intro x2 x3 x4 x5 x6 x7 s0 m h ls H locs hl hP hD hS
        rw [bm_M_residual_L163] at h
        refine lv_istore hx hb (dt_bm_M_residual 89 rfl) hl (Nat.le_of_ble_eq_true rfl) rfl (fun ls hl => ?_)
        have hl : lv_has ls 9 [(8, .int s0), (0, .ref (E.2.1 0)), (2, .int x2), (3, .int x3), (4, .int x4), (5, .int x5), (6, .int x6), (7, .int x7)] := hl
        refine lv_aload_n hx hb (dt_bm_M_residual 90 rfl) rfl (lv_at hl 1 rfl) ?_
        refine va_get (D := E.1) (ci := 10) (v := .ref (E.2.1 11)) (C := "BlockPicturesModel") (T := bF_M) (N := 48) hx hb htb bm_in_M hown hK hP 0 (bm_gM E m) rfl 29 (by decide) (htb _ tw_797) (fun _ h9 => h9) rfl (dt_bm_M_residual 91 rfl) ?_
        refine lv_iconst (v := 4) hx hb (dt_bm_M_residual 92 rfl) (by decide) ?_
        refine lv_iload hx hb (dt_bm_M_residual 93 rfl) (lv_at hl 6 rfl) ?_
        refine lv_imul hx hb (dt_bm_M_residual 94 rfl) ?_
        refine lv_iload hx hb (dt_bm_M_residual 95 rfl) (lv_at hl 7 rfl) ?_
        refine lv_iadd hx hb (dt_bm_M_residual 96 rfl) ?_
        refine lv_iload hx hb (dt_bm_M_residual 97 rfl) (lv_at hl 5 rfl) ?_
        refine lv_iload hx hb (dt_bm_M_residual 98 rfl) (lv_at hl 0 rfl) ?_
        refine lv_imul hx hb (dt_bm_M_residual 99 rfl) ?_
        refine lv_iconst (v := 4) hx hb (dt_bm_M_residual 100 rfl) (by decide) ?_
        refine lv_aload_n hx hb (dt_bm_M_residual 101 rfl) rfl (lv_at hl 1 rfl) ?_
        refine va_get (D := E.1) (ci := 10) (v := .int (m.1 0 19)) (C := "BlockPicturesModel") (T := bF_M) (N := 48) hx hb htb bm_in_M hown hK hP 0 (bm_gM E m) rfl 19 (by decide) (htb _ tw_787) (fun _ h9 => h9) rfl (dt_bm_M_residual 102 rfl) ?_
        refine lv_iconst (v := 4) hx hb (dt_bm_M_residual 103 rfl) (by decide) ?_
        refine lv_irem hx hb (dt_bm_M_residual 104 rfl) (by decide) ?_
        refine lv_iadd hx hb (dt_bm_M_residual 105 rfl) ?_
        refine lv_imul hx hb (dt_bm_M_residual 106 rfl) ?_
        refine lv_iconst (v := 1) hx hb (dt_bm_M_residual 107 rfl) (by decide) ?_
        refine lv_aload_n hx hb (dt_bm_M_residual 108 rfl) rfl (lv_at hl 1 rfl) ?_
        refine va_get (D := E.1) (ci := 10) (v := .int (m.1 0 19)) (C := "BlockPicturesModel") (T := bF_M) (N := 48) hx hb htb bm_in_M hown hK hP 0 (bm_gM E m) rfl 19 (by decide) (htb _ tw_787) (fun _ h9 => h9) rfl (dt_bm_M_residual 109 rfl) ?_
        refine lv_iconst (v := 4) hx hb (dt_bm_M_residual 110 rfl) (by decide) ?_
        refine lv_idiv hx hb (dt_bm_M_residual 111 rfl) (by decide) ?_
        refine lv_ishl hx hb (dt_bm_M_residual 112 rfl) ?_
        refine lv_imul hx hb (dt_bm_M_residual 113 rfl) ?_
        obtain ⟨hg1, h⟩ := bp_gi_s h
        refine bm_sI E hx hb hK hP hD hS (bm_ga11 E) hg1 (dt_bm_M_residual 114 rfl) (fun m2 em2 H locs hP hD hS => ?_)
        replace h := bp_nM_s h em2
        exact hL200 _ _ _ _ h ls H locs (lv_sub hl [1, 2, 3, 4] rfl) hP hD hS
      have hL107 : ∀ (x2 : Int32) (x3 : Int32) (x4 : Int32) (x5 : Int32) (s0 : Int32) (m : bp_M), bm_M_residual_L107 (bm_M_residual_L31 N a1 n31) N a1 x2 x3 x4 x5 s0 m = some mr → ∀ (ls : Array Slot) (H : Heap) (locs : List Loc), lv_has ls 9 [(0, .ref (E.2.1 0)), (2, .int x2), (3, .int x3), (4, .int x4), (5, .int x5)] → va_P E.1 bp_cl (bm_W E m) H → va_D A (bm_W E m) → va_S A s.heap H locs → W p l e ({ frames := 3, cells := 0, slots := 0, locals := 71 }) s mt args below meth c H locs 0 0 Q (F0 mt 107 ls [.int s0, .ref (E.2.1 0)]) := by
        intro x2 x3 x4 x5 s0 m h ls H locs hl hP hD hS
        rw [bm_M_residual_L107] at h
        refine bm_pM_12 E hx hb htb hown hK hP hD hS (htb _ tw_780) (dt_bm_M_residual 59 rfl) (fun m1 em1 H locs hP hD hS => ?_)
        replace h := bp_nM_s h em1
        refine lv_aload_n hx hb (dt_bm_M_residual 60 rfl) rfl (lv_at hl 0 rfl) ?_
        refine va_get (D := E.1) (ci := 10) (v := .int (m1.1 0 12)) (C := "BlockPicturesModel") (T := bF_M) (N := 48) hx hb htb bm_in_M hown hK hP 0 (bm_gM E m1) rfl 12 (by decide) (htb _ tw_780) (fun _ h9 => h9) rfl (dt_bm_M_residual 61 rfl) ?_
        refine lv_if_ne (tgt := 200) hx hb (dt_bm_M_residual 62 rfl) (by decide) (fun hc => ?_) (fun hc => ?_)
        · replace h := (if_pos hc).symm.trans h
          exact hL200 _ _ _ _ h ls H locs (lv_sub hl [0, 1, 2, 3] rfl) hP hD hS
        · replace h := (if_neg (fun hn => hn hc)).symm.trans h
          refine lv_aload_n hx hb (dt_bm_M_residual 63 rfl) rfl (lv_at hl 0 rfl) ?_
          refine va_get (D := E.1) (ci := 10) (v := .ref (E.2.1 1)) (C := "BlockPicturesModel") (T := bF_M) (N := 48) hx hb htb bm_in_M hown hK hP 0 (bm_gM E m1) rfl 0 (by decide) (htb _ tw_768) (fun _ h9 => h9) rfl (dt_bm_M_residual 64 rfl) ?_
          refine lv_iload_n hx hb (dt_bm_M_residual 65 rfl) rfl (lv_at hl 2 rfl) ?_
          obtain ⟨hg2, h⟩ := bp_gi_s h
          refine bm_lI E hx hb hK hP (bm_ga1 E) hg2 (dt_bm_M_residual 66 rfl) ?_
          refine lv_topi (fun y3 ey3 => ?_)
          replace h := bp_nI_s h ey3
          refine lv_istore hx hb (dt_bm_M_residual 67 rfl) hl (Nat.le_of_ble_eq_true rfl) rfl (fun ls hl => ?_)
          have hl : lv_has ls 9 [(6, .int y3), (0, .ref (E.2.1 0)), (2, .int x2), (3, .int x3), (4, .int x4), (5, .int x5)] := hl
          refine lv_aload_n hx hb (dt_bm_M_residual 68 rfl) rfl (lv_at hl 1 rfl) ?_
          refine va_get (D := E.1) (ci := 10) (v := .ref (E.2.1 2)) (C := "BlockPicturesModel") (T := bF_M) (N := 48) hx hb htb bm_in_M hown hK hP 0 (bm_gM E m1) rfl 1 (by decide) (htb _ tw_769) (fun _ h9 => h9) rfl (dt_bm_M_residual 69 rfl) ?_
          refine lv_iload_n hx hb (dt_bm_M_residual 70 rfl) rfl (lv_at hl 3 rfl) ?_
          obtain ⟨hg4, h⟩ := bp_gi_s h
          refine bm_lI E hx hb hK hP (bm_ga2 E) hg4 (dt_bm_M_residual 71 rfl) ?_
          refine lv_topi (fun y5 ey5 => ?_)
          replace h := bp_nI_s h ey5
          refine lv_istore hx hb (dt_bm_M_residual 72 rfl) hl (Nat.le_of_ble_eq_true rfl) rfl (fun ls hl => ?_)
          have hl : lv_has ls 9 [(7, .int y5), (6, .int y3), (0, .ref (E.2.1 0)), (2, .int x2), (3, .int x3), (4, .int x4), (5, .int x5)] := hl
          refine lv_iload hx hb (dt_bm_M_residual 73 rfl) (lv_at hl 1 rfl) ?_
          refine lv_iload hx hb (dt_bm_M_residual 74 rfl) (lv_at hl 0 rfl) ?_
          refine lv_iadd hx hb (dt_bm_M_residual 75 rfl) ?_
          refine lv_iconst (v := 2) hx hb (dt_bm_M_residual 76 rfl) (by decide) ?_
          refine lv_irem hx hb (dt_bm_M_residual 77 rfl) (by decide) ?_
          refine lv_iconst (v := 1) hx hb (dt_bm_M_residual 78 rfl) (by decide) ?_
          refine lv_icmp_ne (tgt := 149) hx hb (dt_bm_M_residual 79 rfl) (by decide) (fun hc => ?_) (fun hc => ?_)
          · replace h := (if_pos hc).symm.trans h
            refine lv_iload hx hb (dt_bm_M_residual 82 rfl) (lv_at hl 1 rfl) ?_
            refine lv_iconst (v := 2) hx hb (dt_bm_M_residual 83 rfl) (by decide) ?_
            refine lv_irem hx hb (dt_bm_M_residual 84 rfl) (by decide) ?_
            refine lv_if_ne (tgt := 161) hx hb (dt_bm_M_residual 85 rfl) (by decide) (fun hc => ?_) (fun hc => ?_)
            · replace h := (if_pos hc).symm.trans h
              refine lv_bipush (v := 16) hx hb (dt_bm_M_residual 88 rfl) (by decide) ?_
              exact hL163 _ _ _ _ _ _ _ _ h ls H locs (lv_sub hl [2, 3, 4, 5, 6, 1, 0] rfl) hP hD hS
            · replace h := (if_neg (fun hn => hn hc)).symm.trans h
              refine lv_bipush (v := 10) hx hb (dt_bm_M_residual 86 rfl) (by decide) ?_
              refine lv_goto (tgt := 163) hx hb (dt_bm_M_residual 87 rfl) (by decide) ?_
              exact hL163 _ _ _ _ _ _ _ _ h ls H locs (lv_sub hl [2, 3, 4, 5, 6, 1, 0] rfl) hP hD hS
          · replace h := (if_neg (fun hn => hn hc)).symm.trans h
            refine lv_bipush (v := 13) hx hb (dt_bm_M_residual 80 rfl) (by decide) ?_
            refine lv_goto (tgt := 163) hx hb (dt_bm_M_residual 81 rfl) (by decide) ?_
            exact hL163 _ _ _ _ _ _ _ _ h ls H locs (lv_sub hl [2, 3, 4, 5, 6, 1, 0] rfl) hP hD hS
      have hL103 : ∀ (x2 : Int32) (x3 : Int32) (x4 : Int32) (x5 : Int32) (m : bp_M), bm_M_residual_L103 (bm_M_residual_L31 N a1 n31) N a1 x2 x3 x4 x5 m = some mr → ∀ (ls : Array Slot) (H : Heap) (locs : List Loc), lv_has ls 9 [(0, .ref (E.2.1 0)), (2, .int x2), (3, .int x3), (4, .int x4), (5, .int x5)] → va_P E.1 bp_cl (bm_W E m) H → va_D A (bm_W E m) → va_S A s.heap H locs → W p l e ({ frames := 3, cells := 0, slots := 0, locals := 71 }) s mt args below meth c H locs 0 0 Q (F0 mt 103 ls [.ref (E.2.1 0)]) := by
        intro x2 x3 x4 x5 m h ls H locs hl hP hD hS
        rw [bm_M_residual_L103] at h
        refine lv_aload_n hx hb (dt_bm_M_residual 57 rfl) rfl (lv_at hl 0 rfl) ?_
        refine va_get (D := E.1) (ci := 10) (v := .int (m.1 0 12)) (C := "BlockPicturesModel") (T := bF_M) (N := 48) hx hb htb bm_in_M hown hK hP 0 (bm_gM E m) rfl 12 (by decide) (htb _ tw_780) (fun _ h9 => h9) rfl (dt_bm_M_residual 58 rfl) ?_
        exact hL107 _ _ _ _ _ _ h ls H locs (lv_sub hl [0, 1, 2, 3, 4] rfl) hP hD hS
      have hL77 : ∀ (x2 : Int32) (x3 : Int32) (x4 : Int32) (s0 : Int32) (m : bp_M), bm_M_residual_L77 (bm_M_residual_L31 N a1 n31) N a1 x2 x3 x4 s0 m = some mr → ∀ (ls : Array Slot) (H : Heap) (locs : List Loc), lv_has ls 9 [(0, .ref (E.2.1 0)), (2, .int x2), (3, .int x3), (4, .int x4)] → va_P E.1 bp_cl (bm_W E m) H → va_D A (bm_W E m) → va_S A s.heap H locs → W p l e ({ frames := 3, cells := 0, slots := 0, locals := 71 }) s mt args below meth c H locs 0 0 Q (F0 mt 77 ls [.int s0, .ref (E.2.1 0)]) := by
        intro x2 x3 x4 s0 m h ls H locs hl hP hD hS
        rw [bm_M_residual_L77] at h
        refine bm_pM_12 E hx hb htb hown hK hP hD hS (htb _ tw_780) (dt_bm_M_residual 45 rfl) (fun m1 em1 H locs hP hD hS => ?_)
        replace h := bp_nM_s h em1
        refine lv_aload_n hx hb (dt_bm_M_residual 46 rfl) rfl (lv_at hl 0 rfl) ?_
        obtain ⟨z3, m2, hm2, h⟩ := bp_cI_s h
        refine bm_callI E hsub hS (va_runV (As := []) (rest := []) ⟨hx, hb, hml, hown, htb⟩ (wbm_M_signed l E N  m1 H.size z3 m2 hm2) (cwV 0 htb (bp_goodV tw_960 tw_962 tw_43 tw_79 tw_963) rfl rfl rfl ⟨rfl, hd_bm_M_signed⟩ ⟨Nat.le_of_ble_eq_true rfl, Nat.le_of_ble_eq_true rfl⟩) (bm_preV E hsub hst hK hP hD hS (bm_gM E m1) rfl rfl _) rfl rfl hl.1 rfl (lv_room (Nat.le_of_ble_eq_true rfl)) (dt_bm_M_residual 47 rfl) ⟨Nat.zero_le _, Nat.zero_le _⟩) (fun H locs hP hD hS => ?_)
        refine lv_istore hx hb (dt_bm_M_residual 48 rfl) hl (Nat.le_of_ble_eq_true rfl) rfl (fun ls hl => ?_)
        have hl : lv_has ls 9 [(5, .int z3), (0, .ref (E.2.1 0)), (2, .int x2), (3, .int x3), (4, .int x4)] := hl
        refine lv_aload_n hx hb (dt_bm_M_residual 49 rfl) rfl (lv_at hl 1 rfl) ?_
        refine lv_aload_n hx hb (dt_bm_M_residual 50 rfl) rfl (lv_at hl 1 rfl) ?_
        refine va_get (D := E.1) (ci := 10) (v := .int (m2.1 0 12)) (C := "BlockPicturesModel") (T := bF_M) (N := 48) hx hb htb bm_in_M hown hK hP 0 (bm_gM E m2) rfl 12 (by decide) (htb _ tw_780) (fun _ h9 => h9) rfl (dt_bm_M_residual 51 rfl) ?_
        refine lv_if_ne (tgt := 103) hx hb (dt_bm_M_residual 52 rfl) (by decide) (fun hc => ?_) (fun hc => ?_)
        · replace h := (if_pos hc).symm.trans h
          exact hL103 _ _ _ _ _ h ls H locs (lv_sub hl [1, 2, 3, 4, 0] rfl) hP hD hS
        · replace h := (if_neg (fun hn => hn hc)).symm.trans h
          refine lv_iload hx hb (dt_bm_M_residual 53 rfl) (lv_at hl 0 rfl) ?_
          refine lv_if_ne (tgt := 103) hx hb (dt_bm_M_residual 54 rfl) (by decide) (fun hc => ?_) (fun hc => ?_)
          · replace h := (if_pos hc).symm.trans h
            exact hL103 _ _ _ _ _ h ls H locs (lv_sub hl [1, 2, 3, 4, 0] rfl) hP hD hS
          · replace h := (if_neg (fun hn => hn hc)).symm.trans h
            refine lv_iconst (v := 5) hx hb (dt_bm_M_residual 55 rfl) (by decide) ?_
            refine lv_goto (tgt := 107) hx hb (dt_bm_M_residual 56 rfl) (by decide) ?_
            exact hL107 _ _ _ _ _ _ h ls H locs (lv_sub hl [1, 2, 3, 4, 0] rfl) hP hD hS
      have hL73 : ∀ (x2 : Int32) (x3 : Int32) (x4 : Int32) (m : bp_M), bm_M_residual_L73 (bm_M_residual_L31 N a1 n31) N a1 x2 x3 x4 m = some mr → ∀ (ls : Array Slot) (H : Heap) (locs : List Loc), lv_has ls 9 [(0, .ref (E.2.1 0)), (2, .int x2), (3, .int x3), (4, .int x4)] → va_P E.1 bp_cl (bm_W E m) H → va_D A (bm_W E m) → va_S A s.heap H locs → W p l e ({ frames := 3, cells := 0, slots := 0, locals := 71 }) s mt args below meth c H locs 0 0 Q (F0 mt 73 ls [.ref (E.2.1 0)]) := by
        intro x2 x3 x4 m h ls H locs hl hP hD hS
        rw [bm_M_residual_L73] at h
        refine lv_aload_n hx hb (dt_bm_M_residual 43 rfl) rfl (lv_at hl 0 rfl) ?_
        refine va_get (D := E.1) (ci := 10) (v := .int (m.1 0 12)) (C := "BlockPicturesModel") (T := bF_M) (N := 48) hx hb htb bm_in_M hown hK hP 0 (bm_gM E m) rfl 12 (by decide) (htb _ tw_780) (fun _ h9 => h9) rfl (dt_bm_M_residual 44 rfl) ?_
        exact hL77 _ _ _ _ _ h ls H locs (lv_sub hl [0, 1, 2, 3] rfl) hP hD hS
      intro x2 x3 x4 m h ls H locs hl hP hD hS
      rw [bm_M_residual_L31] at h
      refine lv_iload hx hb (dt_bm_M_residual 21 rfl) (lv_at hl 3 rfl) ?_
      refine lv_iload_n hx hb (dt_bm_M_residual 22 rfl) rfl (lv_at hl 1 rfl) ?_
      refine lv_icmp_ge (tgt := 209) hx hb (dt_bm_M_residual 23 rfl) (by decide) (fun hc => ?_) (fun hc => ?_)
      · replace h := (if_pos hc).symm.trans h
        exact hL209 _ h ls H locs (lv_sub hl [] rfl) hP hD hS
      · replace h := (if_neg hc).symm.trans h
        refine lv_aload_n hx hb (dt_bm_M_residual 24 rfl) rfl (lv_at hl 0 rfl) ?_
        refine va_get (D := E.1) (ci := 10) (v := .int (m.1 0 12)) (C := "BlockPicturesModel") (T := bF_M) (N := 48) hx hb htb bm_in_M hown hK hP 0 (bm_gM E m) rfl 12 (by decide) (htb _ tw_780) (fun _ h9 => h9) rfl (dt_bm_M_residual 25 rfl) ?_
        refine lv_if_ne (tgt := 209) hx hb (dt_bm_M_residual 26 rfl) (by decide) (fun hc => ?_) (fun hc => ?_)
        · replace h := (if_pos hc).symm.trans h
          exact hL209 _ h ls H locs (lv_sub hl [] rfl) hP hD hS
        · replace h := (if_neg (fun hn => hn hc)).symm.trans h
          refine lv_iload_n hx hb (dt_bm_M_residual 27 rfl) rfl (lv_at hl 2 rfl) ?_
          refine lv_aload_n hx hb (dt_bm_M_residual 28 rfl) rfl (lv_at hl 0 rfl) ?_
          refine lv_sipush (v := 5000) hx hb (dt_bm_M_residual 29 rfl) (by decide) ?_
          refine lv_iconst (v := 5) hx hb (dt_bm_M_residual 30 rfl) (by decide) ?_
          obtain ⟨z2, m1, hm1, h⟩ := bp_cI_s h
          refine bm_callI E hsub hS (va_runV (As := [.int 5000, .int 5]) (rest := [.int x3]) ⟨hx, hb, hml, hown, htb⟩ (wbm_M_number l E N 5000 5 m H.size z2 m1 hm1) (cwV 2 htb (bp_goodV tw_940 tw_942 tw_38 tw_79 tw_943) rfl rfl rfl ⟨rfl, hd_bm_M_number⟩ ⟨Nat.le_of_ble_eq_true rfl, Nat.le_of_ble_eq_true rfl⟩) (bm_preV E hsub hst hK hP hD hS (bm_gM E m) rfl rfl _) rfl rfl hl.1 rfl (lv_room (Nat.le_of_ble_eq_true rfl)) (dt_bm_M_residual 31 rfl) ⟨Nat.zero_le _, Nat.zero_le _⟩) (fun H locs hP hD hS => ?_)
          refine lv_iadd hx hb (dt_bm_M_residual 32 rfl) ?_
          refine lv_topi (fun y3 ey3 => ?_)
          replace h := bp_nI_s h ey3
          refine lv_istore_n hx hb (dt_bm_M_residual 33 rfl) rfl hl (Nat.le_of_ble_eq_true rfl) rfl (fun ls hl => ?_)
          have hl : lv_has ls 9 [(3, .int y3), (0, .ref (E.2.1 0)), (2, .int x2), (4, .int x4)] := hl
          refine lv_aload_n hx hb (dt_bm_M_residual 34 rfl) rfl (lv_at hl 1 rfl) ?_
          refine lv_aload_n hx hb (dt_bm_M_residual 35 rfl) rfl (lv_at hl 1 rfl) ?_
          refine va_get (D := E.1) (ci := 10) (v := .int (m1.1 0 12)) (C := "BlockPicturesModel") (T := bF_M) (N := 48) hx hb htb bm_in_M hown hK hP 0 (bm_gM E m1) rfl 12 (by decide) (htb _ tw_780) (fun _ h9 => h9) rfl (dt_bm_M_residual 36 rfl) ?_
          refine lv_if_ne (tgt := 73) hx hb (dt_bm_M_residual 37 rfl) (by decide) (fun hc => ?_) (fun hc => ?_)
          · replace h := (if_pos hc).symm.trans h
            exact hL73 _ _ _ _ h ls H locs (lv_sub hl [1, 2, 0, 3] rfl) hP hD hS
          · replace h := (if_neg (fun hn => hn hc)).symm.trans h
            refine lv_iload_n hx hb (dt_bm_M_residual 38 rfl) rfl (lv_at hl 0 rfl) ?_
            refine lv_bipush (v := 15) hx hb (dt_bm_M_residual 39 rfl) (by decide) ?_
            refine lv_icmp_le (tgt := 73) hx hb (dt_bm_M_residual 40 rfl) (by decide) (fun hc => ?_) (fun hc => ?_)
            · replace h := (if_pos hc).symm.trans h
              exact hL73 _ _ _ _ h ls H locs (lv_sub hl [1, 2, 0, 3] rfl) hP hD hS
            · replace h := (if_neg hc).symm.trans h
              refine lv_iconst (v := 5) hx hb (dt_bm_M_residual 41 rfl) (by decide) ?_
              refine lv_goto (tgt := 77) hx hb (dt_bm_M_residual 42 rfl) (by decide) ?_
              exact hL77 _ _ _ _ _ h ls H locs (lv_sub hl [1, 2, 0, 3] rfl) hP hD hS
  suffices hgo : ∀ (H : Heap) (locs : List Loc), va_P E.1 bp_cl (bm_W E m) H → va_D A (bm_W E m) → va_S A s.heap H locs → W p l e ({ frames := 3, cells := 0, slots := 0, locals := 71 }) s mt args below meth c H locs 0 0 Q (F0 mt 0 ls []) from hgo _ _ hP hD hS
  clear hP hD hS
  intro H locs hP hD hS
  unfold bm_M_residual at h
  refine lv_aload_n hx hb (dt_bm_M_residual 0 rfl) rfl (lv_at hl 0 rfl) ?_
  refine lv_iconst (v := 1) hx hb (dt_bm_M_residual 1 rfl) (by decide) ?_
  obtain ⟨z2, m1, hm1, h⟩ := bp_cI_s h
  refine bm_callI E hsub hS (va_runV (As := [.int 1]) (rest := []) ⟨hx, hb, hml, hown, htb⟩ (wbm_M_bits l E N 1 m H.size z2 m1 hm1) (cwV 1 htb (bp_goodV tw_944 tw_946 tw_39 tw_79 tw_947) rfl rfl rfl ⟨rfl, hd_bm_M_bits⟩ ⟨Nat.le_of_ble_eq_true rfl, Nat.le_of_ble_eq_true rfl⟩) (bm_preV E hsub hst hK hP hD hS (bm_gM E m) rfl rfl _) rfl rfl hl.1 rfl (lv_room (Nat.le_of_ble_eq_true rfl)) (dt_bm_M_residual 2 rfl) ⟨Nat.zero_le _, Nat.zero_le _⟩) (fun H locs hP hD hS => ?_)
  refine lv_if_ne (tgt := 9) hx hb (dt_bm_M_residual 3 rfl) (by decide) (fun hc => ?_) (fun hc => ?_)
  · replace h := (if_pos hc).symm.trans h
    refine lv_aload_n hx hb (dt_bm_M_residual 5 rfl) rfl (lv_at hl 0 rfl) ?_
    refine va_get (D := E.1) (ci := 10) (v := .ref (E.2.1 7)) (C := "BlockPicturesModel") (T := bF_M) (N := 48) hx hb htb bm_in_M hown hK hP 0 (bm_gM E m1) rfl 25 (by decide) (htb _ tw_793) (fun _ h9 => h9) rfl (dt_bm_M_residual 6 rfl) ?_
    refine lv_iload_n hx hb (dt_bm_M_residual 7 rfl) rfl (lv_at hl 1 rfl) ?_
    refine lv_iconst (v := 1) hx hb (dt_bm_M_residual 8 rfl) (by decide) ?_
    obtain ⟨hg3, h⟩ := bp_gi_s h
    obtain ⟨hg4, h⟩ := bp_g_s h
    refine bm_sZ E hx hb hK hP hD hS (bm_ga7 E) hg3 hg4 (dt_bm_M_residual 9 rfl) (fun m5 em5 H locs hP hD hS => ?_)
    replace h := bp_nM_s h em5
    refine lv_aload_n hx hb (dt_bm_M_residual 10 rfl) rfl (lv_at hl 0 rfl) ?_
    refine lv_bipush (v := 15) hx hb (dt_bm_M_residual 11 rfl) (by decide) ?_
    refine lv_iconst (v := 5) hx hb (dt_bm_M_residual 12 rfl) (by decide) ?_
    obtain ⟨z7, m6, hm6, h⟩ := bp_cI_s h
    refine bm_callI E hsub hS (va_runV (As := [.int 15, .int 5]) (rest := []) ⟨hx, hb, hml, hown, htb⟩ (wbm_M_number l E N 15 5 m5 H.size z7 m6 hm6) (cwV 2 htb (bp_goodV tw_940 tw_942 tw_38 tw_79 tw_943) rfl rfl rfl ⟨rfl, hd_bm_M_number⟩ ⟨Nat.le_of_ble_eq_true rfl, Nat.le_of_ble_eq_true rfl⟩) (bm_preV E hsub hst hK hP hD hS (bm_gM E m5) rfl rfl _) rfl rfl hl.1 rfl (lv_room (Nat.le_of_ble_eq_true rfl)) (dt_bm_M_residual 13 rfl) ⟨Nat.zero_le _, Nat.zero_le _⟩) (fun H locs hP hD hS => ?_)
    refine lv_iconst (v := 1) hx hb (dt_bm_M_residual 14 rfl) (by decide) ?_
    refine lv_iadd hx hb (dt_bm_M_residual 15 rfl) ?_
    refine lv_topi (fun y8 ey8 => ?_)
    replace h := bp_nI_s h ey8
    refine lv_istore_n hx hb (dt_bm_M_residual 16 rfl) rfl hl (Nat.le_of_ble_eq_true rfl) rfl (fun ls hl => ?_)
    have hl : lv_has ls 9 [(2, .int y8), (0, .ref (E.2.1 0)), (1, .int a1)] := hl
    refine lv_iconst (v := 0) hx hb (dt_bm_M_residual 17 rfl) (by decide) ?_
    refine lv_istore_n hx hb (dt_bm_M_residual 18 rfl) rfl hl (Nat.le_of_ble_eq_true rfl) rfl (fun ls hl => ?_)
    have hl : lv_has ls 9 [(3, .int 0), (2, .int y8), (0, .ref (E.2.1 0)), (1, .int a1)] := hl
    refine lv_iconst (v := 0) hx hb (dt_bm_M_residual 19 rfl) (by decide) ?_
    refine lv_istore hx hb (dt_bm_M_residual 20 rfl) hl (Nat.le_of_ble_eq_true rfl) rfl (fun ls hl => ?_)
    have hl : lv_has ls 9 [(4, .int 0), (3, .int 0), (2, .int y8), (0, .ref (E.2.1 0)), (1, .int a1)] := hl
    exact hL31 _ _ _ _ _ h ls H locs (lv_sub hl [3, 2, 1, 0] rfl) hP hD hS
  · replace h := (if_neg (fun hn => hn hc)).symm.trans h
    exact hret _ _ _ _ _ h hP hD hS (dt_bm_M_residual 4 rfl)
set_option maxHeartbeats 4000000 in
set_option maxRecDepth 100000 in
theorem wbm_M_reference (l : Launch) (E : bm_E) (N : Nat) (a1 : Int32) (m : bp_M) (sz : Nat) (r : Int32) (mr : bp_M)  (h : bm_M_reference N a1 m = some (r, mr)) : Met l y_bm_M_reference (Cond.code y_bm_M_reference prog_13_method_18_code 4 (some .int) :: bp_tb) ({ frames := 0, cells := 0, slots := 0, locals := 0 }) (bm_Pc E m sz [.ref (E.2.1 0), .int a1]) (bm_Qi E m sz r mr) 0 0 (va_A (bm_W E m) sz) := by
  refine Met.ofW (cc := prog_13_method_18_code) (maxL := 4) (ret := (some .int)) (by decide) rfl ?_
  intro p e s mt args below meth c s₁ B hml hv
  obtain ⟨rfl, hsz, hP, hK, hD0, hst⟩ := hv
  have hx := B.exec
  have hb := B.bytes
  have hr := B.returns
  have htb : ∀ w ∈ bp_tb, w.before _ s = true := fun w hw => atoms_spec (ws := Cond.code y_bm_M_reference prog_13_method_18_code 4 (some .int) :: bp_tb) B.pre w (List.mem_cons_of_mem _ hw)
  have hown : s.vm.findClass "BlockPicturesModel" = some mt.cls := findClass_of_methodNamed B.named
  have hlocks := B.notSynchronized
  subst hsz
  have hD := hD0.self (sz := s.heap.size)
  generalize hAe : va_A (bm_W E m) s.heap.size = A at hD hst ⊢
  have hsub : ∀ (u : bp_M) (z q : Nat), s.heap.size ≤ z → va_A (bm_W E u) z q → A q := bm_sub hAe
  have hS : va_S A s.heap s.heap [] := va_S.rf
  have hl := lv_entry ([.ref (E.2.1 0), .int a1]) (n := 4) (Nat.le_of_ble_eq_true rfl)
  rw [lg_entry_eq]
  generalize (lg_sl ([.ref (E.2.1 0), .int a1]) ++ List.replicate (4 - (lg_sl ([.ref (E.2.1 0), .int a1])).length) Slot.unset).toArray = ls at hl ⊢
  have hl : lv_has ls 4 [(0, .ref (E.2.1 0)), (1, .int a1)] := hl
  refine bm_keyI (R := ({ frames := 0, cells := 0, slots := 0, locals := 0 })) E hx hb hr hlocks hK hAe (fun Q hret => ?_)
  clear B hD0 hlocks hr
  generalize ([.ref (E.2.1 0), .int a1] : List Value).toArray = args at htb hret ⊢
  clear hAe
  have hL37 : ∀ (m : bp_M), bm_M_reference_L37 N a1 m = some (r, mr) → ∀ (ls : Array Slot) (H : Heap) (locs : List Loc), lv_has ls 4 [] → va_P E.1 bp_cl (bm_W E m) H → va_D A (bm_W E m) → va_S A s.heap H locs → W p l e ({ frames := 0, cells := 0, slots := 0, locals := 0 }) s mt args below meth c H locs 0 0 Q (F0 mt 37 ls []) := by
    intro m h ls H locs hl hP hD hS
    rw [bm_M_reference_L37] at h
    refine lv_iconst (v := 0) hx hb (dt_bm_M_reference 21 rfl) (by decide) ?_
    exact hret _ _ _ _ _ _ h hP hD hS (dt_bm_M_reference 22 rfl)
  have hL26 : ∀ (x3 : Int32) (m : bp_M), bm_M_reference_L26 N a1 x3 m = some (r, mr) → ∀ (ls : Array Slot) (H : Heap) (locs : List Loc), lv_has ls 4 [(3, .int x3)] → va_P E.1 bp_cl (bm_W E m) H → va_D A (bm_W E m) → va_S A s.heap H locs → W p l e ({ frames := 0, cells := 0, slots := 0, locals := 0 }) s mt args below meth c H locs 0 0 Q (F0 mt 26 ls []) := by
    intro x3 m h ls H locs hl hP hD hS
    rw [bm_M_reference_L26] at h
    refine lv_iload_n hx hb (dt_bm_M_reference 16 rfl) rfl (lv_at hl 0 rfl) ?_
    exact hret _ _ _ _ _ _ h hP hD hS (dt_bm_M_reference 17 rfl)
  have hL9 : ∀ (n9 : Nat) (x2 : Int32) (x3 : Int32) (m : bp_M), bm_M_reference_L9 N a1 n9 x2 x3 m = some (r, mr) → ∀ (ls : Array Slot) (H : Heap) (locs : List Loc), lv_has ls 4 [(0, .ref (E.2.1 0)), (2, .int x2), (3, .int x3)] → va_P E.1 bp_cl (bm_W E m) H → va_D A (bm_W E m) → va_S A s.heap H locs → W p l e ({ frames := 0, cells := 0, slots := 0, locals := 0 }) s mt args below meth c H locs 0 0 Q (F0 mt 9 ls []) := by
    intro n9
    induction n9 with
    | zero =>
      intro x2 x3 m h ls H locs hl hP hD hS
      rw [bm_M_reference_L9] at h
      cases h
    | succ n9 ih9 =>
      have hL31 : ∀ (x2 : Int32) (x3 : Int32) (m : bp_M), bm_M_reference_L31 (bm_M_reference_L9 N a1 n9) N a1 x2 x3 m = some (r, mr) → ∀ (ls : Array Slot) (H : Heap) (locs : List Loc), lv_has ls 4 [(0, .ref (E.2.1 0)), (2, .int x2), (3, .int x3)] → va_P E.1 bp_cl (bm_W E m) H → va_D A (bm_W E m) → va_S A s.heap H locs → W p l e ({ frames := 0, cells := 0, slots := 0, locals := 0 }) s mt args below meth c H locs 0 0 Q (F0 mt 31 ls []) := by
        intro x2 x3 m h ls H locs hl hP hD hS
        rw [bm_M_reference_L31] at h
        obtain ⟨y1, ey1⟩ : ∃ z : Int32, z = x3 + (-1) := ⟨_, rfl⟩
        replace h := bp_nI_s h ey1
        refine lv_iinc (k := 2) (v := y1) hx hb (dt_bm_M_reference 19 rfl) hl rfl (by rw [ey1]; rfl) (Nat.le_of_ble_eq_true rfl) rfl (fun ls hl => ?_)
        have hl : lv_has ls 4 [(3, .int y1), (0, .ref (E.2.1 0)), (2, .int x2)] := hl
        refine lv_goto (tgt := 9) hx hb (dt_bm_M_reference 20 rfl) (by decide) ?_
        exact ih9 _ _ _ h ls H locs (lv_sub hl [1, 2, 0] rfl) hP hD hS
      intro x2 x3 m h ls H locs hl hP hD hS
      rw [bm_M_reference_L9] at h
      refine lv_iload_n hx hb (dt_bm_M_reference 7 rfl) rfl (lv_at hl 2 rfl) ?_
      refine lv_if_lt (tgt := 37) hx hb (dt_bm_M_reference 8 rfl) (by decide) (fun hc => ?_) (fun hc => ?_)
      · replace h := (if_pos hc).symm.trans h
        exact hL37 _ h ls H locs (lv_sub hl [] rfl) hP hD hS
      · replace h := (if_neg hc).symm.trans h
        refine lv_aload_n hx hb (dt_bm_M_reference 9 rfl) rfl (lv_at hl 0 rfl) ?_
        refine va_get (D := E.1) (ci := 10) (v := .ref (E.2.1 15)) (C := "BlockPicturesModel") (T := bF_M) (N := 48) hx hb htb bm_in_M hown hK hP 0 (bm_gM E m) rfl 37 (by decide) (htb _ tw_805) (fun _ h9 => h9) rfl (dt_bm_M_reference 10 rfl) ?_
        refine lv_iload_n hx hb (dt_bm_M_reference 11 rfl) rfl (lv_at hl 2 rfl) ?_
        obtain ⟨hg1, h⟩ := bp_gi_s h
        refine bm_lZ E hx hb hK hP (bm_ga15 E) hg1 (dt_bm_M_reference 12 rfl) ?_
        refine lv_if_eq (tgt := 31) hx hb (dt_bm_M_reference 13 rfl) (by decide) (fun hc => ?_) (fun hc => ?_)
        · replace h := (if_pos hc).symm.trans h
          exact hL31 _ _ _ h ls H locs (lv_sub hl [0, 1, 2] rfl) hP hD hS
        · replace h := (if_neg hc).symm.trans h
          refine lv_iload_n hx hb (dt_bm_M_reference 14 rfl) rfl (lv_at hl 1 rfl) ?_
          refine lv_if_ne (tgt := 28) hx hb (dt_bm_M_reference 15 rfl) (by decide) (fun hc => ?_) (fun hc => ?_)
          · replace h := (if_pos hc).symm.trans h
            obtain ⟨y2, ey2⟩ : ∃ z : Int32, z = x2 + (-1) := ⟨_, rfl⟩
            replace h := bp_nI_s h ey2
            refine lv_iinc (k := 1) (v := y2) hx hb (dt_bm_M_reference 18 rfl) hl rfl (by rw [ey2]; rfl) (Nat.le_of_ble_eq_true rfl) rfl (fun ls hl => ?_)
            have hl : lv_has ls 4 [(2, .int y2), (0, .ref (E.2.1 0)), (3, .int x3)] := hl
            exact hL31 _ _ _ h ls H locs (lv_sub hl [1, 0, 2] rfl) hP hD hS
          · replace h := (if_neg (fun hn => hn hc)).symm.trans h
            exact hL26 _ _ h ls H locs (lv_sub hl [2] rfl) hP hD hS
  suffices hgo : ∀ (H : Heap) (locs : List Loc), va_P E.1 bp_cl (bm_W E m) H → va_D A (bm_W E m) → va_S A s.heap H locs → W p l e ({ frames := 0, cells := 0, slots := 0, locals := 0 }) s mt args below meth c H locs 0 0 Q (F0 mt 0 ls []) from hgo _ _ hP hD hS
  clear hP hD hS
  intro H locs hP hD hS
  unfold bm_M_reference at h
  refine lv_iload_n hx hb (dt_bm_M_reference 0 rfl) rfl (lv_at hl 1 rfl) ?_
  refine lv_istore_n hx hb (dt_bm_M_reference 1 rfl) rfl hl (Nat.le_of_ble_eq_true rfl) rfl (fun ls hl => ?_)
  have hl : lv_has ls 4 [(2, .int a1), (0, .ref (E.2.1 0)), (1, .int a1)] := hl
  refine lv_aload_n hx hb (dt_bm_M_reference 2 rfl) rfl (lv_at hl 1 rfl) ?_
  refine va_get (D := E.1) (ci := 10) (v := .int (m.1 0 34)) (C := "BlockPicturesModel") (T := bF_M) (N := 48) hx hb htb bm_in_M hown hK hP 0 (bm_gM E m) rfl 34 (by decide) (htb _ tw_802) (fun _ h9 => h9) rfl (dt_bm_M_reference 3 rfl) ?_
  refine lv_iconst (v := 1) hx hb (dt_bm_M_reference 4 rfl) (by decide) ?_
  refine lv_isub hx hb (dt_bm_M_reference 5 rfl) ?_
  refine lv_topi (fun y1 ey1 => ?_)
  replace h := bp_nI_s h ey1
  refine lv_istore_n hx hb (dt_bm_M_reference 6 rfl) rfl hl (Nat.le_of_ble_eq_true rfl) rfl (fun ls hl => ?_)
  have hl : lv_has ls 4 [(3, .int y1), (2, .int a1), (0, .ref (E.2.1 0)), (1, .int a1)] := hl
  exact hL9 _ _ _ _ h ls H locs (lv_sub hl [2, 1, 0] rfl) hP hD hS
set_option maxHeartbeats 4000000 in
set_option maxRecDepth 100000 in
theorem wbm_M_listed (l : Launch) (E : bm_E) (N : Nat) (a1 : Int32) (m : bp_M) (sz : Nat) (r : Int32) (mr : bp_M)  (h : bm_M_listed N a1 m = some (r, mr)) : Met l y_bm_M_listed (Cond.code y_bm_M_listed prog_13_method_19_code 2 (some .int) :: bp_tb) ({ frames := 1, cells := 0, slots := 0, locals := 23 }) (bm_Pc E m sz [.ref (E.2.1 0), .int a1]) (bm_Qi E m sz r mr) 0 0 (va_A (bm_W E m) sz) := by
  refine Met.ofW (cc := prog_13_method_19_code) (maxL := 2) (ret := (some .int)) (by decide) rfl ?_
  intro p e s mt args below meth c s₁ B hml hv
  obtain ⟨rfl, hsz, hP, hK, hD0, hst⟩ := hv
  have hx := B.exec
  have hb := B.bytes
  have hr := B.returns
  have htb : ∀ w ∈ bp_tb, w.before _ s = true := fun w hw => atoms_spec (ws := Cond.code y_bm_M_listed prog_13_method_19_code 2 (some .int) :: bp_tb) B.pre w (List.mem_cons_of_mem _ hw)
  have hown : s.vm.findClass "BlockPicturesModel" = some mt.cls := findClass_of_methodNamed B.named
  have hlocks := B.notSynchronized
  subst hsz
  have hD := hD0.self (sz := s.heap.size)
  generalize hAe : va_A (bm_W E m) s.heap.size = A at hD hst ⊢
  have hsub : ∀ (u : bp_M) (z q : Nat), s.heap.size ≤ z → va_A (bm_W E u) z q → A q := bm_sub hAe
  have hS : va_S A s.heap s.heap [] := va_S.rf
  have hl := lv_entry ([.ref (E.2.1 0), .int a1]) (n := 2) (Nat.le_of_ble_eq_true rfl)
  rw [lg_entry_eq]
  generalize (lg_sl ([.ref (E.2.1 0), .int a1]) ++ List.replicate (2 - (lg_sl ([.ref (E.2.1 0), .int a1])).length) Slot.unset).toArray = ls at hl ⊢
  have hl : lv_has ls 2 [(0, .ref (E.2.1 0)), (1, .int a1)] := hl
  refine bm_keyI (R := ({ frames := 1, cells := 0, slots := 0, locals := 23 })) E hx hb hr hlocks hK hAe (fun Q hret => ?_)
  clear B hD0 hlocks hr
  generalize ([.ref (E.2.1 0), .int a1] : List Value).toArray = args at htb hret ⊢
  clear hAe
  have hL42 : ∀ (s0 : Int32) (m : bp_M), bm_M_listed_L42 N a1 s0 m = some (r, mr) → ∀ (ls : Array Slot) (H : Heap) (locs : List Loc), lv_has ls 2 [] → va_P E.1 bp_cl (bm_W E m) H → va_D A (bm_W E m) → va_S A s.heap H locs → W p l e ({ frames := 1, cells := 0, slots := 0, locals := 23 }) s mt args below meth c H locs 0 0 Q (F0 mt 42 ls [.int s0, .ref (E.2.1 0)]) := by
    intro s0 m h ls H locs hl hP hD hS
    rw [bm_M_listed_L42] at h
    obtain ⟨z2, m1, hm1, h⟩ := bp_cI_s h
    refine bm_callI E hsub hS (va_runV (As := [.int s0]) (rest := []) ⟨hx, hb, hml, hown, htb⟩ (wbm_M_reference l E N s0 m H.size z2 m1 hm1) (cwV 1 htb (bp_goodV tw_987 tw_989 tw_49 tw_79 tw_990) rfl rfl rfl ⟨rfl, hd_bm_M_reference⟩ ⟨Nat.le_of_ble_eq_true rfl, Nat.le_of_ble_eq_true rfl⟩) (bm_preV E hsub hst hK hP hD hS (bm_gM E m) rfl rfl _) rfl rfl hl.1 rfl (lv_room (Nat.le_of_ble_eq_true rfl)) (dt_bm_M_listed 24 rfl) ⟨Nat.zero_le _, Nat.zero_le _⟩) (fun H locs hP hD hS => ?_)
    exact hret _ _ _ _ _ _ h hP hD hS (dt_bm_M_listed 25 rfl)
  suffices hgo : ∀ (H : Heap) (locs : List Loc), va_P E.1 bp_cl (bm_W E m) H → va_D A (bm_W E m) → va_S A s.heap H locs → W p l e ({ frames := 1, cells := 0, slots := 0, locals := 23 }) s mt args below meth c H locs 0 0 Q (F0 mt 0 ls []) from hgo _ _ hP hD hS
  clear hP hD hS
  intro H locs hP hD hS
  unfold bm_M_listed at h
  refine lv_aload_n hx hb (dt_bm_M_listed 0 rfl) rfl (lv_at hl 0 rfl) ?_
  refine va_get (D := E.1) (ci := 10) (v := .int (m.1 0 21)) (C := "BlockPicturesModel") (T := bF_M) (N := 48) hx hb htb bm_in_M hown hK hP 0 (bm_gM E m) rfl 21 (by decide) (htb _ tw_789) (fun _ h9 => h9) rfl (dt_bm_M_listed 1 rfl) ?_
  refine lv_if_ge (tgt := 13) hx hb (dt_bm_M_listed 2 rfl) (by decide) (fun hc => ?_) (fun hc => ?_)
  · replace h := (if_pos hc).symm.trans h
    refine lv_aload_n hx hb (dt_bm_M_listed 7 rfl) rfl (lv_at hl 0 rfl) ?_
    refine lv_iload_n hx hb (dt_bm_M_listed 8 rfl) rfl (lv_at hl 1 rfl) ?_
    refine lv_if_ne (tgt := 25) hx hb (dt_bm_M_listed 9 rfl) (by decide) (fun hc => ?_) (fun hc => ?_)
    · replace h := (if_pos hc).symm.trans h
      refine lv_iload_n hx hb (dt_bm_M_listed 13 rfl) rfl (lv_at hl 1 rfl) ?_
      refine lv_iconst (v := 1) hx hb (dt_bm_M_listed 14 rfl) (by decide) ?_
      refine lv_isub hx hb (dt_bm_M_listed 15 rfl) ?_
      refine lv_aload_n hx hb (dt_bm_M_listed 16 rfl) rfl (lv_at hl 0 rfl) ?_
      refine va_get (D := E.1) (ci := 10) (v := .int (m.1 0 21)) (C := "BlockPicturesModel") (T := bF_M) (N := 48) hx hb htb bm_in_M hown hK hP 0 (bm_gM E m) rfl 21 (by decide) (htb _ tw_789) (fun _ h9 => h9) rfl (dt_bm_M_listed 17 rfl) ?_
      refine lv_icmp_ge (tgt := 41) hx hb (dt_bm_M_listed 18 rfl) (by decide) (fun hc => ?_) (fun hc => ?_)
      · replace h := (if_pos hc).symm.trans h
        refine lv_iload_n hx hb (dt_bm_M_listed 23 rfl) rfl (lv_at hl 1 rfl) ?_
        exact hL42 _ _ h ls H locs (lv_sub hl [] rfl) hP hD hS
      · replace h := (if_neg hc).symm.trans h
        refine lv_iload_n hx hb (dt_bm_M_listed 19 rfl) rfl (lv_at hl 1 rfl) ?_
        refine lv_iconst (v := 1) hx hb (dt_bm_M_listed 20 rfl) (by decide) ?_
        refine lv_isub hx hb (dt_bm_M_listed 21 rfl) ?_
        refine lv_goto (tgt := 42) hx hb (dt_bm_M_listed 22 rfl) (by decide) ?_
        exact hL42 _ _ h ls H locs (lv_sub hl [] rfl) hP hD hS
    · replace h := (if_neg (fun hn => hn hc)).symm.trans h
      refine lv_aload_n hx hb (dt_bm_M_listed 10 rfl) rfl (lv_at hl 0 rfl) ?_
      refine va_get (D := E.1) (ci := 10) (v := .int (m.1 0 21)) (C := "BlockPicturesModel") (T := bF_M) (N := 48) hx hb htb bm_in_M hown hK hP 0 (bm_gM E m) rfl 21 (by decide) (htb _ tw_789) (fun _ h9 => h9) rfl (dt_bm_M_listed 11 rfl) ?_
      refine lv_goto (tgt := 42) hx hb (dt_bm_M_listed 12 rfl) (by decide) ?_
      exact hL42 _ _ h ls H locs (lv_sub hl [] rfl) hP hD hS
  · replace h := (if_neg hc).symm.trans h
    refine lv_aload_n hx hb (dt_bm_M_listed 3 rfl) rfl (lv_at hl 0 rfl) ?_
    refine lv_iload_n hx hb (dt_bm_M_listed 4 rfl) rfl (lv_at hl 1 rfl) ?_
    obtain ⟨z2, m1, hm1, h⟩ := bp_cI_s h
    refine bm_callI E hsub hS (va_runV (As := [.int a1]) (rest := []) ⟨hx, hb, hml, hown, htb⟩ (wbm_M_reference l E N a1 m H.size z2 m1 hm1) (cwV 1 htb (bp_goodV tw_987 tw_989 tw_49 tw_79 tw_990) rfl rfl rfl ⟨rfl, hd_bm_M_reference⟩ ⟨Nat.le_of_ble_eq_true rfl, Nat.le_of_ble_eq_true rfl⟩) (bm_preV E hsub hst hK hP hD hS (bm_gM E m) rfl rfl _) rfl rfl hl.1 rfl (lv_room (Nat.le_of_ble_eq_true rfl)) (dt_bm_M_listed 5 rfl) ⟨Nat.zero_le _, Nat.zero_le _⟩) (fun H locs hP hD hS => ?_)
    exact hret _ _ _ _ _ _ h hP hD hS (dt_bm_M_listed 6 rfl)
set_option maxHeartbeats 4000000 in
set_option maxRecDepth 100000 in
theorem wbm_M_sampleOf (l : Launch) (E : bm_E) (N : Nat) (a1 : Int32) (a2 : Int32) (a3 : Int32) (m : bp_M) (sz : Nat) (r : Int32) (mr : bp_M)  (h : bm_M_sampleOf N a1 a2 a3 m = some (r, mr)) : Met l y_bm_M_sampleOf (Cond.code y_bm_M_sampleOf prog_13_method_27_code 6 (some .int) :: bp_tb) ({ frames := 0, cells := 0, slots := 0, locals := 0 }) (bm_Pc E m sz [.ref (E.2.1 0), .int a1, .int a2, .int a3]) (bm_Qi E m sz r mr) 0 0 (va_A (bm_W E m) sz) := by
  refine Met.ofW (cc := prog_13_method_27_code) (maxL := 6) (ret := (some .int)) (by decide) rfl ?_
  intro p e s mt args below meth c s₁ B hml hv
  obtain ⟨rfl, hsz, hP, hK, hD0, hst⟩ := hv
  have hx := B.exec
  have hb := B.bytes
  have hr := B.returns
  have htb : ∀ w ∈ bp_tb, w.before _ s = true := fun w hw => atoms_spec (ws := Cond.code y_bm_M_sampleOf prog_13_method_27_code 6 (some .int) :: bp_tb) B.pre w (List.mem_cons_of_mem _ hw)
  have hown : s.vm.findClass "BlockPicturesModel" = some mt.cls := findClass_of_methodNamed B.named
  have hlocks := B.notSynchronized
  subst hsz
  have hD := hD0.self (sz := s.heap.size)
  generalize hAe : va_A (bm_W E m) s.heap.size = A at hD hst ⊢
  have hsub : ∀ (u : bp_M) (z q : Nat), s.heap.size ≤ z → va_A (bm_W E u) z q → A q := bm_sub hAe
  have hS : va_S A s.heap s.heap [] := va_S.rf
  have hl := lv_entry ([.ref (E.2.1 0), .int a1, .int a2, .int a3]) (n := 6) (Nat.le_of_ble_eq_true rfl)
  rw [lg_entry_eq]
  generalize (lg_sl ([.ref (E.2.1 0), .int a1, .int a2, .int a3]) ++ List.replicate (6 - (lg_sl ([.ref (E.2.1 0), .int a1, .int a2, .int a3])).length) Slot.unset).toArray = ls at hl ⊢
  have hl : lv_has ls 6 [(0, .ref (E.2.1 0)), (1, .int a1), (2, .int a2), (3, .int a3)] := hl
  refine bm_keyI (R := ({ frames := 0, cells := 0, slots := 0, locals := 0 })) E hx hb hr hlocks hK hAe (fun Q hret => ?_)
  clear B hD0 hlocks hr
  generalize ([.ref (E.2.1 0), .int a1, .int a2, .int a3] : List Value).toArray = args at htb hret ⊢
  clear hAe
  have hL42 : ∀ (x4 : Int32) (s0 : Int32) (m : bp_M), bm_M_sampleOf_L42 N a1 a2 a3 x4 s0 m = some (r, mr) → ∀ (ls : Array Slot) (H : Heap) (locs : List Loc), lv_has ls 6 [(0, .ref (E.2.1 0)), (1, .int a1), (4, .int x4)] → va_P E.1 bp_cl (bm_W E m) H → va_D A (bm_W E m) → va_S A s.heap H locs → W p l e ({ frames := 0, cells := 0, slots := 0, locals := 0 }) s mt args below meth c H locs 0 0 Q (F0 mt 42 ls [.int s0]) := by
    intro x4 s0 m h ls H locs hl hP hD hS
    rw [bm_M_sampleOf_L42] at h
    refine lv_istore hx hb (dt_bm_M_sampleOf 21 rfl) hl (Nat.le_of_ble_eq_true rfl) rfl (fun ls hl => ?_)
    have hl : lv_has ls 6 [(5, .int s0), (0, .ref (E.2.1 0)), (1, .int a1), (4, .int x4)] := hl
    refine lv_aload_n hx hb (dt_bm_M_sampleOf 22 rfl) rfl (lv_at hl 1 rfl) ?_
    refine va_get (D := E.1) (ci := 10) (v := .ref (E.2.1 13)) (C := "BlockPicturesModel") (T := bF_M) (N := 48) hx hb htb bm_in_M hown hK hP 0 (bm_gM E m) rfl 35 (by decide) (htb _ tw_803) (fun _ h9 => h9) rfl (dt_bm_M_sampleOf 23 rfl) ?_
    refine lv_sipush (v := 256) hx hb (dt_bm_M_sampleOf 24 rfl) (by decide) ?_
    refine lv_iload_n hx hb (dt_bm_M_sampleOf 25 rfl) rfl (lv_at hl 2 rfl) ?_
    refine lv_imul hx hb (dt_bm_M_sampleOf 26 rfl) ?_
    refine lv_bipush (v := 16) hx hb (dt_bm_M_sampleOf 27 rfl) (by decide) ?_
    refine lv_iload hx hb (dt_bm_M_sampleOf 28 rfl) (lv_at hl 0 rfl) ?_
    refine lv_imul hx hb (dt_bm_M_sampleOf 29 rfl) ?_
    refine lv_iadd hx hb (dt_bm_M_sampleOf 30 rfl) ?_
    refine lv_iload hx hb (dt_bm_M_sampleOf 31 rfl) (lv_at hl 3 rfl) ?_
    refine lv_iadd hx hb (dt_bm_M_sampleOf 32 rfl) ?_
    obtain ⟨hg1, h⟩ := bp_gi_s h
    refine bm_lI E hx hb hK hP (bm_ga13 E) hg1 (dt_bm_M_sampleOf 33 rfl) ?_
    exact hret _ _ _ _ _ _ h hP hD hS (dt_bm_M_sampleOf 34 rfl)
  have hL20 : ∀ (s0 : Int32) (m : bp_M), bm_M_sampleOf_L20 N a1 a2 a3 s0 m = some (r, mr) → ∀ (ls : Array Slot) (H : Heap) (locs : List Loc), lv_has ls 6 [(0, .ref (E.2.1 0)), (1, .int a1), (3, .int a3)] → va_P E.1 bp_cl (bm_W E m) H → va_D A (bm_W E m) → va_S A s.heap H locs → W p l e ({ frames := 0, cells := 0, slots := 0, locals := 0 }) s mt args below meth c H locs 0 0 Q (F0 mt 20 ls [.int s0]) := by
    intro s0 m h ls H locs hl hP hD hS
    rw [bm_M_sampleOf_L20] at h
    refine lv_istore hx hb (dt_bm_M_sampleOf 10 rfl) hl (Nat.le_of_ble_eq_true rfl) rfl (fun ls hl => ?_)
    have hl : lv_has ls 6 [(4, .int s0), (0, .ref (E.2.1 0)), (1, .int a1), (3, .int a3)] := hl
    refine lv_iload_n hx hb (dt_bm_M_sampleOf 11 rfl) rfl (lv_at hl 3 rfl) ?_
    refine lv_if_ge (tgt := 30) hx hb (dt_bm_M_sampleOf 12 rfl) (by decide) (fun hc => ?_) (fun hc => ?_)
    · replace h := (if_pos hc).symm.trans h
      refine lv_iload_n hx hb (dt_bm_M_sampleOf 15 rfl) rfl (lv_at hl 3 rfl) ?_
      refine lv_bipush (v := 15) hx hb (dt_bm_M_sampleOf 16 rfl) (by decide) ?_
      refine lv_icmp_le (tgt := 41) hx hb (dt_bm_M_sampleOf 17 rfl) (by decide) (fun hc => ?_) (fun hc => ?_)
      · replace h := (if_pos hc).symm.trans h
        refine lv_iload_n hx hb (dt_bm_M_sampleOf 20 rfl) rfl (lv_at hl 3 rfl) ?_
        exact hL42 _ _ _ h ls H locs (lv_sub hl [1, 2, 0] rfl) hP hD hS
      · replace h := (if_neg hc).symm.trans h
        refine lv_bipush (v := 15) hx hb (dt_bm_M_sampleOf 18 rfl) (by decide) ?_
        refine lv_goto (tgt := 42) hx hb (dt_bm_M_sampleOf 19 rfl) (by decide) ?_
        exact hL42 _ _ _ h ls H locs (lv_sub hl [1, 2, 0] rfl) hP hD hS
    · replace h := (if_neg hc).symm.trans h
      refine lv_iconst (v := 0) hx hb (dt_bm_M_sampleOf 13 rfl) (by decide) ?_
      refine lv_goto (tgt := 42) hx hb (dt_bm_M_sampleOf 14 rfl) (by decide) ?_
      exact hL42 _ _ _ h ls H locs (lv_sub hl [1, 2, 0] rfl) hP hD hS
  suffices hgo : ∀ (H : Heap) (locs : List Loc), va_P E.1 bp_cl (bm_W E m) H → va_D A (bm_W E m) → va_S A s.heap H locs → W p l e ({ frames := 0, cells := 0, slots := 0, locals := 0 }) s mt args below meth c H locs 0 0 Q (F0 mt 0 ls []) from hgo _ _ hP hD hS
  clear hP hD hS
  intro H locs hP hD hS
  unfold bm_M_sampleOf at h
  refine lv_iload_n hx hb (dt_bm_M_sampleOf 0 rfl) rfl (lv_at hl 2 rfl) ?_
  refine lv_if_ge (tgt := 8) hx hb (dt_bm_M_sampleOf 1 rfl) (by decide) (fun hc => ?_) (fun hc => ?_)
  · replace h := (if_pos hc).symm.trans h
    refine lv_iload_n hx hb (dt_bm_M_sampleOf 4 rfl) rfl (lv_at hl 2 rfl) ?_
    refine lv_bipush (v := 15) hx hb (dt_bm_M_sampleOf 5 rfl) (by decide) ?_
    refine lv_icmp_le (tgt := 19) hx hb (dt_bm_M_sampleOf 6 rfl) (by decide) (fun hc => ?_) (fun hc => ?_)
    · replace h := (if_pos hc).symm.trans h
      refine lv_iload_n hx hb (dt_bm_M_sampleOf 9 rfl) rfl (lv_at hl 2 rfl) ?_
      exact hL20 _ _ h ls H locs (lv_sub hl [0, 1, 3] rfl) hP hD hS
    · replace h := (if_neg hc).symm.trans h
      refine lv_bipush (v := 15) hx hb (dt_bm_M_sampleOf 7 rfl) (by decide) ?_
      refine lv_goto (tgt := 20) hx hb (dt_bm_M_sampleOf 8 rfl) (by decide) ?_
      exact hL20 _ _ h ls H locs (lv_sub hl [0, 1, 3] rfl) hP hD hS
  · replace h := (if_neg hc).symm.trans h
    refine lv_iconst (v := 0) hx hb (dt_bm_M_sampleOf 2 rfl) (by decide) ?_
    refine lv_goto (tgt := 20) hx hb (dt_bm_M_sampleOf 3 rfl) (by decide) ?_
    exact hL20 _ _ h ls H locs (lv_sub hl [0, 1, 3] rfl) hP hD hS
set_option maxHeartbeats 4000000 in
set_option maxRecDepth 100000 in
theorem wbm_M_weight (l : Launch) (E : bm_E) (N : Nat) (a0 : Int32) (m : bp_M) (sz : Nat) (r : Int32) (mr : bp_M)  (h : bm_M_weight N a0 m = some (r, mr)) : Met l y_bm_M_weight (Cond.code y_bm_M_weight prog_13_method_28_code 1 (some .int) :: bp_tb) ({ frames := 0, cells := 0, slots := 0, locals := 0 }) (bm_Pc E m sz [.int a0]) (bm_Qi E m sz r mr) 0 0 (va_A (bm_W E m) sz) := by
  refine Met.ofW (cc := prog_13_method_28_code) (maxL := 1) (ret := (some .int)) (by decide) rfl ?_
  intro p e s mt args below meth c s₁ B hml hv
  obtain ⟨rfl, hsz, hP, hK, hD0, hst⟩ := hv
  have hx := B.exec
  have hb := B.bytes
  have hr := B.returns
  have htb : ∀ w ∈ bp_tb, w.before _ s = true := fun w hw => atoms_spec (ws := Cond.code y_bm_M_weight prog_13_method_28_code 1 (some .int) :: bp_tb) B.pre w (List.mem_cons_of_mem _ hw)
  have hown : s.vm.findClass "BlockPicturesModel" = some mt.cls := findClass_of_methodNamed B.named
  have hlocks := B.notSynchronized
  subst hsz
  have hD := hD0.self (sz := s.heap.size)
  generalize hAe : va_A (bm_W E m) s.heap.size = A at hD hst ⊢
  have hsub : ∀ (u : bp_M) (z q : Nat), s.heap.size ≤ z → va_A (bm_W E u) z q → A q := bm_sub hAe
  have hS : va_S A s.heap s.heap [] := va_S.rf
  have hl := lv_entry ([.int a0]) (n := 1) (Nat.le_of_ble_eq_true rfl)
  rw [lg_entry_eq]
  generalize (lg_sl ([.int a0]) ++ List.replicate (1 - (lg_sl ([.int a0])).length) Slot.unset).toArray = ls at hl ⊢
  have hl : lv_has ls 1 [(0, .int a0)] := hl
  refine bm_keyI (R := ({ frames := 0, cells := 0, slots := 0, locals := 0 })) E hx hb hr hlocks hK hAe (fun Q hret => ?_)
  clear B hD0 hlocks hr
  generalize ([.int a0] : List Value).toArray = args at htb hret ⊢
  clear hAe
  have hL32 : ∀ (s0 : Int32) (m : bp_M), bm_M_weight_L32 N a0 s0 m = some (r, mr) → ∀ (ls : Array Slot) (H : Heap) (locs : List Loc), lv_has ls 1 [] → va_P E.1 bp_cl (bm_W E m) H → va_D A (bm_W E m) → va_S A s.heap H locs → W p l e ({ frames := 0, cells := 0, slots := 0, locals := 0 }) s mt args below meth c H locs 0 0 Q (F0 mt 32 ls [.int s0]) := by
    intro s0 m h ls H locs hl hP hD hS
    rw [bm_M_weight_L32] at h
    exact hret _ _ _ _ _ _ h hP hD hS (dt_bm_M_weight 17 rfl)
  have hL25 : ∀ (m : bp_M), bm_M_weight_L25 N a0 m = some (r, mr) → ∀ (ls : Array Slot) (H : Heap) (locs : List Loc), lv_has ls 1 [] → va_P E.1 bp_cl (bm_W E m) H → va_D A (bm_W E m) → va_S A s.heap H locs → W p l e ({ frames := 0, cells := 0, slots := 0, locals := 0 }) s mt args below meth c H locs 0 0 Q (F0 mt 25 ls []) := by
    intro m h ls H locs hl hP hD hS
    rw [bm_M_weight_L25] at h
    refine lv_bipush (v := (-5)) hx hb (dt_bm_M_weight 14 rfl) (by decide) ?_
    refine lv_goto (tgt := 32) hx hb (dt_bm_M_weight 15 rfl) (by decide) ?_
    exact hL32 _ _ h ls H locs (lv_sub hl [] rfl) hP hD hS
  have hL11 : ∀ (m : bp_M), bm_M_weight_L11 N a0 m = some (r, mr) → ∀ (ls : Array Slot) (H : Heap) (locs : List Loc), lv_has ls 1 [] → va_P E.1 bp_cl (bm_W E m) H → va_D A (bm_W E m) → va_S A s.heap H locs → W p l e ({ frames := 0, cells := 0, slots := 0, locals := 0 }) s mt args below meth c H locs 0 0 Q (F0 mt 11 ls []) := by
    intro m h ls H locs hl hP hD hS
    rw [bm_M_weight_L11] at h
    refine lv_iconst (v := 1) hx hb (dt_bm_M_weight 6 rfl) (by decide) ?_
    refine lv_goto (tgt := 32) hx hb (dt_bm_M_weight 7 rfl) (by decide) ?_
    exact hL32 _ _ h ls H locs (lv_sub hl [] rfl) hP hD hS
  suffices hgo : ∀ (H : Heap) (locs : List Loc), va_P E.1 bp_cl (bm_W E m) H → va_D A (bm_W E m) → va_S A s.heap H locs → W p l e ({ frames := 0, cells := 0, slots := 0, locals := 0 }) s mt args below meth c H locs 0 0 Q (F0 mt 0 ls []) from hgo _ _ hP hD hS
  clear hP hD hS
  intro H locs hP hD hS
  unfold bm_M_weight at h
  refine lv_iload_n hx hb (dt_bm_M_weight 0 rfl) rfl (lv_at hl 0 rfl) ?_
  refine lv_bipush (v := (-2)) hx hb (dt_bm_M_weight 1 rfl) (by decide) ?_
  refine lv_icmp_eq (tgt := 11) hx hb (dt_bm_M_weight 2 rfl) (by decide) (fun hc => ?_) (fun hc => ?_)
  · replace h := (if_pos hc).symm.trans h
    exact hL11 _ h ls H locs (lv_sub hl [] rfl) hP hD hS
  · replace h := (if_neg hc).symm.trans h
    refine lv_iload_n hx hb (dt_bm_M_weight 3 rfl) rfl (lv_at hl 0 rfl) ?_
    refine lv_iconst (v := 3) hx hb (dt_bm_M_weight 4 rfl) (by decide) ?_
    refine lv_icmp_ne (tgt := 15) hx hb (dt_bm_M_weight 5 rfl) (by decide) (fun hc => ?_) (fun hc => ?_)
    · replace h := (if_pos hc).symm.trans h
      refine lv_iload_n hx hb (dt_bm_M_weight 8 rfl) rfl (lv_at hl 0 rfl) ?_
      refine lv_iconst (v := (-1)) hx hb (dt_bm_M_weight 9 rfl) (by decide) ?_
      refine lv_icmp_eq (tgt := 25) hx hb (dt_bm_M_weight 10 rfl) (by decide) (fun hc => ?_) (fun hc => ?_)
      · replace h := (if_pos hc).symm.trans h
        exact hL25 _ h ls H locs (lv_sub hl [] rfl) hP hD hS
      · replace h := (if_neg hc).symm.trans h
        refine lv_iload_n hx hb (dt_bm_M_weight 11 rfl) rfl (lv_at hl 0 rfl) ?_
        refine lv_iconst (v := 2) hx hb (dt_bm_M_weight 12 rfl) (by decide) ?_
        refine lv_icmp_ne (tgt := 30) hx hb (dt_bm_M_weight 13 rfl) (by decide) (fun hc => ?_) (fun hc => ?_)
        · replace h := (if_pos hc).symm.trans h
          refine lv_bipush (v := 20) hx hb (dt_bm_M_weight 16 rfl) (by decide) ?_
          exact hL32 _ _ h ls H locs (lv_sub hl [] rfl) hP hD hS
        · replace h := (if_neg (fun hn => hn hc)).symm.trans h
          exact hL25 _ h ls H locs (lv_sub hl [] rfl) hP hD hS
    · replace h := (if_neg (fun hn => hn hc)).symm.trans h
      exact hL11 _ h ls H locs (lv_sub hl [] rfl) hP hD hS
set_option maxHeartbeats 4000000 in
set_option maxRecDepth 100000 in
theorem wbm_M_half (l : Launch) (E : bm_E) (N : Nat) (a1 : Int32) (a2 : Int32) (a3 : Int32) (m : bp_M) (sz : Nat) (r : Int32) (mr : bp_M)  (h : bm_M_half N a1 a2 a3 m = some (r, mr)) : Met l y_bm_M_half (Cond.code y_bm_M_half prog_13_method_29_code 13 (some .int) :: bp_tb) ({ frames := 1, cells := 0, slots := 0, locals := 25 }) (bm_Pc E m sz [.ref (E.2.1 0), .int a1, .int a2, .int a3]) (bm_Qi E m sz r mr) 0 0 (va_A (bm_W E m) sz) := by
  refine Met.ofW (cc := prog_13_method_29_code) (maxL := 13) (ret := (some .int)) (by decide) rfl ?_
  intro p e s mt args below meth c s₁ B hml hv
  obtain ⟨rfl, hsz, hP, hK, hD0, hst⟩ := hv
  have hx := B.exec
  have hb := B.bytes
  have hr := B.returns
  have htb : ∀ w ∈ bp_tb, w.before _ s = true := fun w hw => atoms_spec (ws := Cond.code y_bm_M_half prog_13_method_29_code 13 (some .int) :: bp_tb) B.pre w (List.mem_cons_of_mem _ hw)
  have hown : s.vm.findClass "BlockPicturesModel" = some mt.cls := findClass_of_methodNamed B.named
  have hlocks := B.notSynchronized
  subst hsz
  have hD := hD0.self (sz := s.heap.size)
  generalize hAe : va_A (bm_W E m) s.heap.size = A at hD hst ⊢
  have hsub : ∀ (u : bp_M) (z q : Nat), s.heap.size ≤ z → va_A (bm_W E u) z q → A q := bm_sub hAe
  have hS : va_S A s.heap s.heap [] := va_S.rf
  have hl := lv_entry ([.ref (E.2.1 0), .int a1, .int a2, .int a3]) (n := 13) (Nat.le_of_ble_eq_true rfl)
  rw [lg_entry_eq]
  generalize (lg_sl ([.ref (E.2.1 0), .int a1, .int a2, .int a3]) ++ List.replicate (13 - (lg_sl ([.ref (E.2.1 0), .int a1, .int a2, .int a3])).length) Slot.unset).toArray = ls at hl ⊢
  have hl : lv_has ls 13 [(0, .ref (E.2.1 0)), (1, .int a1), (2, .int a2), (3, .int a3)] := hl
  refine bm_keyI (R := ({ frames := 1, cells := 0, slots := 0, locals := 25 })) E hx hb hr hlocks hK hAe (fun Q hret => ?_)
  clear B hD0 hlocks hr
  generalize ([.ref (E.2.1 0), .int a1, .int a2, .int a3] : List Value).toArray = args at htb hret ⊢
  clear hAe
  have hL204 : ∀ (s0 : Int32) (m : bp_M), bm_M_half_L204 N a1 a2 a3 s0 m = some (r, mr) → ∀ (ls : Array Slot) (H : Heap) (locs : List Loc), lv_has ls 13 [] → va_P E.1 bp_cl (bm_W E m) H → va_D A (bm_W E m) → va_S A s.heap H locs → W p l e ({ frames := 1, cells := 0, slots := 0, locals := 25 }) s mt args below meth c H locs 0 0 Q (F0 mt 204 ls [.int s0]) := by
    intro s0 m h ls H locs hl hP hD hS
    rw [bm_M_half_L204] at h
    exact hret _ _ _ _ _ _ h hP hD hS (dt_bm_M_half 107 rfl)
  have hL194 : ∀ (x8 : Int32) (m : bp_M), bm_M_half_L194 N a1 a2 a3 x8 m = some (r, mr) → ∀ (ls : Array Slot) (H : Heap) (locs : List Loc), lv_has ls 13 [(8, .int x8)] → va_P E.1 bp_cl (bm_W E m) H → va_D A (bm_W E m) → va_S A s.heap H locs → W p l e ({ frames := 1, cells := 0, slots := 0, locals := 25 }) s mt args below meth c H locs 0 0 Q (F0 mt 194 ls []) := by
    intro x8 m h ls H locs hl hP hD hS
    rw [bm_M_half_L194] at h
    refine lv_iload hx hb (dt_bm_M_half 101 rfl) (lv_at hl 0 rfl) ?_
    refine lv_bipush (v := 16) hx hb (dt_bm_M_half 102 rfl) (by decide) ?_
    refine lv_iadd hx hb (dt_bm_M_half 103 rfl) ?_
    refine lv_iconst (v := 5) hx hb (dt_bm_M_half 104 rfl) (by decide) ?_
    refine lv_ishr hx hb (dt_bm_M_half 105 rfl) ?_
    obtain ⟨z2, m1, hm1, h⟩ := bp_cI_s h
    refine bm_callI E hsub hS (va_runS (As := [.int ((x8 + 16 : Int32) >>> (5 &&& 31 : Int32) : Int32)]) (rest := []) ⟨hx, hb, hml, hown, htb⟩ (wbm_M_limit l E N ((x8 + 16 : Int32) >>> (5 &&& 31 : Int32) : Int32) m H.size z2 m1 hm1) (va_cwS 1 htb (bp_goodW tw_1002 tw_1003 tw_79 tw_1004) rfl rfl rfl hd_bm_M_limit ⟨Nat.le_of_ble_eq_true rfl, Nat.le_of_ble_eq_true rfl⟩) (bm_preS E hsub hst hK hP hD hS _) rfl rfl hl.1 rfl (lv_room (Nat.le_of_ble_eq_true rfl)) (dt_bm_M_half 106 rfl) ⟨Nat.zero_le _, Nat.zero_le _⟩) (fun H locs hP hD hS => ?_)
    exact hL204 _ _ h ls H locs (lv_sub hl [] rfl) hP hD hS
  have hL169 : ∀ (x6 : Int32) (x7 : Int32) (x8 : Int32) (m : bp_M), bm_M_half_L169 N a1 a2 a3 x6 x7 x8 m = some (r, mr) → ∀ (ls : Array Slot) (H : Heap) (locs : List Loc), lv_has ls 13 [(6, .int x6), (7, .int x7), (8, .int x8)] → va_P E.1 bp_cl (bm_W E m) H → va_D A (bm_W E m) → va_S A s.heap H locs → W p l e ({ frames := 1, cells := 0, slots := 0, locals := 25 }) s mt args below meth c H locs 0 0 Q (F0 mt 169 ls []) := by
    intro x6 x7 x8 m h ls H locs hl hP hD hS
    rw [bm_M_half_L169] at h
    refine lv_iload hx hb (dt_bm_M_half 90 rfl) (lv_at hl 0 rfl) ?_
    refine lv_if_eq (tgt := 194) hx hb (dt_bm_M_half 91 rfl) (by decide) (fun hc => ?_) (fun hc => ?_)
    · replace h := (if_pos hc).symm.trans h
      exact hL194 _ _ h ls H locs (lv_sub hl [2] rfl) hP hD hS
    · replace h := (if_neg hc).symm.trans h
      refine lv_iload hx hb (dt_bm_M_half 92 rfl) (lv_at hl 1 rfl) ?_
      refine lv_if_eq (tgt := 194) hx hb (dt_bm_M_half 93 rfl) (by decide) (fun hc => ?_) (fun hc => ?_)
      · replace h := (if_pos hc).symm.trans h
        exact hL194 _ _ h ls H locs (lv_sub hl [2] rfl) hP hD hS
      · replace h := (if_neg hc).symm.trans h
        refine lv_iload hx hb (dt_bm_M_half 94 rfl) (lv_at hl 2 rfl) ?_
        refine lv_sipush (v := 512) hx hb (dt_bm_M_half 95 rfl) (by decide) ?_
        refine lv_iadd hx hb (dt_bm_M_half 96 rfl) ?_
        refine lv_bipush (v := 10) hx hb (dt_bm_M_half 97 rfl) (by decide) ?_
        refine lv_ishr hx hb (dt_bm_M_half 98 rfl) ?_
        obtain ⟨z2, m1, hm1, h⟩ := bp_cI_s h
        refine bm_callI E hsub hS (va_runS (As := [.int ((x8 + 512 : Int32) >>> (10 &&& 31 : Int32) : Int32)]) (rest := []) ⟨hx, hb, hml, hown, htb⟩ (wbm_M_limit l E N ((x8 + 512 : Int32) >>> (10 &&& 31 : Int32) : Int32) m H.size z2 m1 hm1) (va_cwS 1 htb (bp_goodW tw_1002 tw_1003 tw_79 tw_1004) rfl rfl rfl hd_bm_M_limit ⟨Nat.le_of_ble_eq_true rfl, Nat.le_of_ble_eq_true rfl⟩) (bm_preS E hsub hst hK hP hD hS _) rfl rfl hl.1 rfl (lv_room (Nat.le_of_ble_eq_true rfl)) (dt_bm_M_half 99 rfl) ⟨Nat.zero_le _, Nat.zero_le _⟩) (fun H locs hP hD hS => ?_)
        refine lv_goto (tgt := 204) hx hb (dt_bm_M_half 100 rfl) (by decide) ?_
        exact hL204 _ _ h ls H locs (lv_sub hl [] rfl) hP hD hS
  have hL65 : ∀ (n65 : Nat) (x4 : Int32) (x5 : Int32) (x6 : Int32) (x7 : Int32) (x8 : Int32) (x9 : Int32) (m : bp_M), bm_M_half_L65 N a1 a2 a3 n65 x4 x5 x6 x7 x8 x9 m = some (r, mr) → ∀ (ls : Array Slot) (H : Heap) (locs : List Loc), lv_has ls 13 [(0, .ref (E.2.1 0)), (1, .int a1), (4, .int x4), (5, .int x5), (6, .int x6), (7, .int x7), (8, .int x8), (9, .int x9)] → va_P E.1 bp_cl (bm_W E m) H → va_D A (bm_W E m) → va_S A s.heap H locs → W p l e ({ frames := 1, cells := 0, slots := 0, locals := 25 }) s mt args below meth c H locs 0 0 Q (F0 mt 65 ls []) := by
    intro n65
    induction n65 with
    | zero =>
      intro x4 x5 x6 x7 x8 x9 m h ls H locs hl hP hD hS
      rw [bm_M_half_L65] at h
      cases h
    | succ n65 ih65 =>
      have hL163 : ∀ (x4 : Int32) (x5 : Int32) (x6 : Int32) (x7 : Int32) (x8 : Int32) (x9 : Int32) (m : bp_M), bm_M_half_L163 (bm_M_half_L65 N a1 a2 a3 n65) N a1 a2 a3 x4 x5 x6 x7 x8 x9 m = some (r, mr) → ∀ (ls : Array Slot) (H : Heap) (locs : List Loc), lv_has ls 13 [(0, .ref (E.2.1 0)), (1, .int a1), (4, .int x4), (5, .int x5), (6, .int x6), (7, .int x7), (8, .int x8), (9, .int x9)] → va_P E.1 bp_cl (bm_W E m) H → va_D A (bm_W E m) → va_S A s.heap H locs → W p l e ({ frames := 1, cells := 0, slots := 0, locals := 25 }) s mt args below meth c H locs 0 0 Q (F0 mt 163 ls []) := by
        intro x4 x5 x6 x7 x8 x9 m h ls H locs hl hP hD hS
        rw [bm_M_half_L163] at h
        obtain ⟨y1, ey1⟩ : ∃ z : Int32, z = x9 + 1 := ⟨_, rfl⟩
        replace h := bp_nI_s h ey1
        refine lv_iinc (k := 7) (v := y1) hx hb (dt_bm_M_half 88 rfl) hl rfl (by rw [ey1]; rfl) (Nat.le_of_ble_eq_true rfl) rfl (fun ls hl => ?_)
        have hl : lv_has ls 13 [(9, .int y1), (0, .ref (E.2.1 0)), (1, .int a1), (4, .int x4), (5, .int x5), (6, .int x6), (7, .int x7), (8, .int x8)] := hl
        refine lv_goto (tgt := 65) hx hb (dt_bm_M_half 89 rfl) (by decide) ?_
        exact ih65 _ _ _ _ _ _ _ h ls H locs (lv_sub hl [1, 2, 3, 4, 5, 6, 7, 0] rfl) hP hD hS
      have hL75 : ∀ (n75 : Nat) (x4 : Int32) (x5 : Int32) (x6 : Int32) (x7 : Int32) (x8 : Int32) (x9 : Int32) (x10 : Int32) (m : bp_M), bm_M_half_L75 (bm_M_half_L65 N a1 a2 a3 n65) N a1 a2 a3 n75 x4 x5 x6 x7 x8 x9 x10 m = some (r, mr) → ∀ (ls : Array Slot) (H : Heap) (locs : List Loc), lv_has ls 13 [(0, .ref (E.2.1 0)), (1, .int a1), (4, .int x4), (5, .int x5), (6, .int x6), (7, .int x7), (8, .int x8), (9, .int x9), (10, .int x10)] → va_P E.1 bp_cl (bm_W E m) H → va_D A (bm_W E m) → va_S A s.heap H locs → W p l e ({ frames := 1, cells := 0, slots := 0, locals := 25 }) s mt args below meth c H locs 0 0 Q (F0 mt 75 ls []) := by
        intro n75
        induction n75 with
        | zero =>
          intro x4 x5 x6 x7 x8 x9 x10 m h ls H locs hl hP hD hS
          rw [bm_M_half_L75] at h
          cases h
        | succ n75 ih75 =>
          have hL129 : ∀ (x4 : Int32) (x5 : Int32) (x6 : Int32) (x7 : Int32) (x8 : Int32) (x9 : Int32) (x10 : Int32) (x11 : Int32) (s0 : Int32) (m : bp_M), bm_M_half_L129 (bm_M_half_L65 N a1 a2 a3 n65) (bm_M_half_L75 (bm_M_half_L65 N a1 a2 a3 n65) N a1 a2 a3 n75) N a1 a2 a3 x4 x5 x6 x7 x8 x9 x10 x11 s0 m = some (r, mr) → ∀ (ls : Array Slot) (H : Heap) (locs : List Loc), lv_has ls 13 [(0, .ref (E.2.1 0)), (1, .int a1), (4, .int x4), (5, .int x5), (6, .int x6), (7, .int x7), (8, .int x8), (9, .int x9), (10, .int x10), (11, .int x11)] → va_P E.1 bp_cl (bm_W E m) H → va_D A (bm_W E m) → va_S A s.heap H locs → W p l e ({ frames := 1, cells := 0, slots := 0, locals := 25 }) s mt args below meth c H locs 0 0 Q (F0 mt 129 ls [.int s0]) := by
            intro x4 x5 x6 x7 x8 x9 x10 x11 s0 m h ls H locs hl hP hD hS
            rw [bm_M_half_L129] at h
            refine lv_istore hx hb (dt_bm_M_half 69 rfl) hl (Nat.le_of_ble_eq_true rfl) rfl (fun ls hl => ?_)
            have hl : lv_has ls 13 [(12, .int s0), (0, .ref (E.2.1 0)), (1, .int a1), (4, .int x4), (5, .int x5), (6, .int x6), (7, .int x7), (8, .int x8), (9, .int x9), (10, .int x10), (11, .int x11)] := hl
            refine lv_iload hx hb (dt_bm_M_half 70 rfl) (lv_at hl 7 rfl) ?_
            refine lv_iload hx hb (dt_bm_M_half 71 rfl) (lv_at hl 10 rfl) ?_
            refine lv_iload hx hb (dt_bm_M_half 72 rfl) (lv_at hl 0 rfl) ?_
            refine lv_imul hx hb (dt_bm_M_half 73 rfl) ?_
            refine lv_aload_n hx hb (dt_bm_M_half 74 rfl) rfl (lv_at hl 1 rfl) ?_
            refine lv_iload_n hx hb (dt_bm_M_half 75 rfl) rfl (lv_at hl 2 rfl) ?_
            refine lv_iload hx hb (dt_bm_M_half 76 rfl) (lv_at hl 3 rfl) ?_
            refine lv_iload hx hb (dt_bm_M_half 77 rfl) (lv_at hl 9 rfl) ?_
            refine lv_iadd hx hb (dt_bm_M_half 78 rfl) ?_
            refine lv_iload hx hb (dt_bm_M_half 79 rfl) (lv_at hl 4 rfl) ?_
            refine lv_iload hx hb (dt_bm_M_half 80 rfl) (lv_at hl 8 rfl) ?_
            refine lv_iadd hx hb (dt_bm_M_half 81 rfl) ?_
            obtain ⟨z2, m1, hm1, h⟩ := bp_cI_s h
            refine bm_callI E hsub hS (va_runV (As := [.int a1, .int (x4 + x10 : Int32), .int (x5 + x9 : Int32)]) (rest := [.int (x11 * s0 : Int32), .int x8]) ⟨hx, hb, hml, hown, htb⟩ (wbm_M_sampleOf l E N a1 (x4 + x10 : Int32) (x5 + x9 : Int32) m H.size z2 m1 hm1) (cwV 3 htb (bp_goodV tw_995 tw_997 tw_51 tw_79 tw_998) rfl rfl rfl ⟨rfl, hd_bm_M_sampleOf⟩ ⟨Nat.le_of_ble_eq_true rfl, Nat.le_of_ble_eq_true rfl⟩) (bm_preV E hsub hst hK hP hD hS (bm_gM E m) rfl rfl _) rfl rfl hl.1 rfl (lv_room (Nat.le_of_ble_eq_true rfl)) (dt_bm_M_half 82 rfl) ⟨Nat.zero_le _, Nat.zero_le _⟩) (fun H locs hP hD hS => ?_)
            refine lv_imul hx hb (dt_bm_M_half 83 rfl) ?_
            refine lv_iadd hx hb (dt_bm_M_half 84 rfl) ?_
            refine lv_topi (fun y3 ey3 => ?_)
            replace h := bp_nI_s h ey3
            refine lv_istore hx hb (dt_bm_M_half 85 rfl) hl (Nat.le_of_ble_eq_true rfl) rfl (fun ls hl => ?_)
            have hl : lv_has ls 13 [(8, .int y3), (12, .int s0), (0, .ref (E.2.1 0)), (1, .int a1), (4, .int x4), (5, .int x5), (6, .int x6), (7, .int x7), (9, .int x9), (10, .int x10), (11, .int x11)] := hl
            obtain ⟨y4, ey4⟩ : ∃ z : Int32, z = x10 + 1 := ⟨_, rfl⟩
            replace h := bp_nI_s h ey4
            refine lv_iinc (k := 9) (v := y4) hx hb (dt_bm_M_half 86 rfl) hl rfl (by rw [ey4]; rfl) (Nat.le_of_ble_eq_true rfl) rfl (fun ls hl => ?_)
            have hl : lv_has ls 13 [(10, .int y4), (8, .int y3), (12, .int s0), (0, .ref (E.2.1 0)), (1, .int a1), (4, .int x4), (5, .int x5), (6, .int x6), (7, .int x7), (9, .int x9), (11, .int x11)] := hl
            refine lv_goto (tgt := 75) hx hb (dt_bm_M_half 87 rfl) (by decide) ?_
            exact ih75 _ _ _ _ _ _ _ _ h ls H locs (lv_sub hl [3, 4, 5, 6, 7, 8, 1, 9, 0] rfl) hP hD hS
          have hL104 : ∀ (x4 : Int32) (x5 : Int32) (x6 : Int32) (x7 : Int32) (x8 : Int32) (x9 : Int32) (x10 : Int32) (s0 : Int32) (m : bp_M), bm_M_half_L104 (bm_M_half_L65 N a1 a2 a3 n65) (bm_M_half_L75 (bm_M_half_L65 N a1 a2 a3 n65) N a1 a2 a3 n75) N a1 a2 a3 x4 x5 x6 x7 x8 x9 x10 s0 m = some (r, mr) → ∀ (ls : Array Slot) (H : Heap) (locs : List Loc), lv_has ls 13 [(0, .ref (E.2.1 0)), (1, .int a1), (4, .int x4), (5, .int x5), (6, .int x6), (7, .int x7), (8, .int x8), (9, .int x9), (10, .int x10)] → va_P E.1 bp_cl (bm_W E m) H → va_D A (bm_W E m) → va_S A s.heap H locs → W p l e ({ frames := 1, cells := 0, slots := 0, locals := 25 }) s mt args below meth c H locs 0 0 Q (F0 mt 104 ls [.int s0]) := by
            intro x4 x5 x6 x7 x8 x9 x10 s0 m h ls H locs hl hP hD hS
            rw [bm_M_half_L104] at h
            refine lv_istore hx hb (dt_bm_M_half 58 rfl) hl (Nat.le_of_ble_eq_true rfl) rfl (fun ls hl => ?_)
            have hl : lv_has ls 13 [(11, .int s0), (0, .ref (E.2.1 0)), (1, .int a1), (4, .int x4), (5, .int x5), (6, .int x6), (7, .int x7), (8, .int x8), (9, .int x9), (10, .int x10)] := hl
            refine lv_iload hx hb (dt_bm_M_half 59 rfl) (lv_at hl 5 rfl) ?_
            refine lv_if_eq (tgt := 119) hx hb (dt_bm_M_half 60 rfl) (by decide) (fun hc => ?_) (fun hc => ?_)
            · replace h := (if_pos hc).symm.trans h
              refine lv_iload hx hb (dt_bm_M_half 64 rfl) (lv_at hl 9 rfl) ?_
              refine lv_if_ne (tgt := 128) hx hb (dt_bm_M_half 65 rfl) (by decide) (fun hc => ?_) (fun hc => ?_)
              · replace h := (if_pos hc).symm.trans h
                refine lv_iconst (v := 0) hx hb (dt_bm_M_half 68 rfl) (by decide) ?_
                exact hL129 _ _ _ _ _ _ _ _ _ _ h ls H locs (lv_sub hl [1, 2, 3, 4, 5, 6, 7, 8, 9, 0] rfl) hP hD hS
              · replace h := (if_neg (fun hn => hn hc)).symm.trans h
                refine lv_iconst (v := 1) hx hb (dt_bm_M_half 66 rfl) (by decide) ?_
                refine lv_goto (tgt := 129) hx hb (dt_bm_M_half 67 rfl) (by decide) ?_
                exact hL129 _ _ _ _ _ _ _ _ _ _ h ls H locs (lv_sub hl [1, 2, 3, 4, 5, 6, 7, 8, 9, 0] rfl) hP hD hS
            · replace h := (if_neg hc).symm.trans h
              refine lv_iload hx hb (dt_bm_M_half 61 rfl) (lv_at hl 9 rfl) ?_
              obtain ⟨z2, m1, hm1, h⟩ := bp_cI_s h
              refine bm_callI E hsub hS (va_runS (As := [.int x10]) (rest := []) ⟨hx, hb, hml, hown, htb⟩ (wbm_M_weight l E N x10 m H.size z2 m1 hm1) (va_cwS 1 htb (bp_goodW tw_999 tw_1000 tw_79 tw_1001) rfl rfl rfl hd_bm_M_weight ⟨Nat.le_of_ble_eq_true rfl, Nat.le_of_ble_eq_true rfl⟩) (bm_preS E hsub hst hK hP hD hS _) rfl rfl hl.1 rfl (lv_room (Nat.le_of_ble_eq_true rfl)) (dt_bm_M_half 62 rfl) ⟨Nat.zero_le _, Nat.zero_le _⟩) (fun H locs hP hD hS => ?_)
              refine lv_goto (tgt := 129) hx hb (dt_bm_M_half 63 rfl) (by decide) ?_
              exact hL129 _ _ _ _ _ _ _ _ _ _ h ls H locs (lv_sub hl [1, 2, 3, 4, 5, 6, 7, 8, 9, 0] rfl) hP hD hS
          intro x4 x5 x6 x7 x8 x9 x10 m h ls H locs hl hP hD hS
          rw [bm_M_half_L75] at h
          refine lv_iload hx hb (dt_bm_M_half 45 rfl) (lv_at hl 8 rfl) ?_
          refine lv_iconst (v := 3) hx hb (dt_bm_M_half 46 rfl) (by decide) ?_
          refine lv_icmp_gt (tgt := 163) hx hb (dt_bm_M_half 47 rfl) (by decide) (fun hc => ?_) (fun hc => ?_)
          · replace h := (if_pos hc).symm.trans h
            exact hL163 _ _ _ _ _ _ _ h ls H locs (lv_sub hl [0, 1, 2, 3, 4, 5, 6, 7] rfl) hP hD hS
          · replace h := (if_neg hc).symm.trans h
            refine lv_iload hx hb (dt_bm_M_half 48 rfl) (lv_at hl 5 rfl) ?_
            refine lv_if_eq (tgt := 94) hx hb (dt_bm_M_half 49 rfl) (by decide) (fun hc => ?_) (fun hc => ?_)
            · replace h := (if_pos hc).symm.trans h
              refine lv_iload hx hb (dt_bm_M_half 53 rfl) (lv_at hl 7 rfl) ?_
              refine lv_if_ne (tgt := 103) hx hb (dt_bm_M_half 54 rfl) (by decide) (fun hc => ?_) (fun hc => ?_)
              · replace h := (if_pos hc).symm.trans h
                refine lv_iconst (v := 0) hx hb (dt_bm_M_half 57 rfl) (by decide) ?_
                exact hL104 _ _ _ _ _ _ _ _ _ h ls H locs (lv_sub hl [0, 1, 2, 3, 4, 5, 6, 7, 8] rfl) hP hD hS
              · replace h := (if_neg (fun hn => hn hc)).symm.trans h
                refine lv_iconst (v := 1) hx hb (dt_bm_M_half 55 rfl) (by decide) ?_
                refine lv_goto (tgt := 104) hx hb (dt_bm_M_half 56 rfl) (by decide) ?_
                exact hL104 _ _ _ _ _ _ _ _ _ h ls H locs (lv_sub hl [0, 1, 2, 3, 4, 5, 6, 7, 8] rfl) hP hD hS
            · replace h := (if_neg hc).symm.trans h
              refine lv_iload hx hb (dt_bm_M_half 50 rfl) (lv_at hl 7 rfl) ?_
              obtain ⟨z2, m1, hm1, h⟩ := bp_cI_s h
              refine bm_callI E hsub hS (va_runS (As := [.int x9]) (rest := []) ⟨hx, hb, hml, hown, htb⟩ (wbm_M_weight l E N x9 m H.size z2 m1 hm1) (va_cwS 1 htb (bp_goodW tw_999 tw_1000 tw_79 tw_1001) rfl rfl rfl hd_bm_M_weight ⟨Nat.le_of_ble_eq_true rfl, Nat.le_of_ble_eq_true rfl⟩) (bm_preS E hsub hst hK hP hD hS _) rfl rfl hl.1 rfl (lv_room (Nat.le_of_ble_eq_true rfl)) (dt_bm_M_half 51 rfl) ⟨Nat.zero_le _, Nat.zero_le _⟩) (fun H locs hP hD hS => ?_)
              refine lv_goto (tgt := 104) hx hb (dt_bm_M_half 52 rfl) (by decide) ?_
              exact hL104 _ _ _ _ _ _ _ _ _ h ls H locs (lv_sub hl [0, 1, 2, 3, 4, 5, 6, 7, 8] rfl) hP hD hS
      intro x4 x5 x6 x7 x8 x9 m h ls H locs hl hP hD hS
      rw [bm_M_half_L65] at h
      refine lv_iload hx hb (dt_bm_M_half 40 rfl) (lv_at hl 7 rfl) ?_
      refine lv_iconst (v := 3) hx hb (dt_bm_M_half 41 rfl) (by decide) ?_
      refine lv_icmp_gt (tgt := 169) hx hb (dt_bm_M_half 42 rfl) (by decide) (fun hc => ?_) (fun hc => ?_)
      · replace h := (if_pos hc).symm.trans h
        exact hL169 _ _ _ _ h ls H locs (lv_sub hl [4, 5, 6] rfl) hP hD hS
      · replace h := (if_neg hc).symm.trans h
        refine lv_bipush (v := (-2)) hx hb (dt_bm_M_half 43 rfl) (by decide) ?_
        refine lv_istore hx hb (dt_bm_M_half 44 rfl) hl (Nat.le_of_ble_eq_true rfl) rfl (fun ls hl => ?_)
        have hl : lv_has ls 13 [(10, .int (-2)), (0, .ref (E.2.1 0)), (1, .int a1), (4, .int x4), (5, .int x5), (6, .int x6), (7, .int x7), (8, .int x8), (9, .int x9)] := hl
        exact hL75 _ _ _ _ _ _ _ _ _ h ls H locs (lv_sub hl [1, 2, 3, 4, 5, 6, 7, 8, 0] rfl) hP hD hS
  have hL58 : ∀ (x4 : Int32) (x5 : Int32) (x6 : Int32) (x7 : Int32) (m : bp_M), bm_M_half_L58 N a1 a2 a3 x4 x5 x6 x7 m = some (r, mr) → ∀ (ls : Array Slot) (H : Heap) (locs : List Loc), lv_has ls 13 [(0, .ref (E.2.1 0)), (1, .int a1), (4, .int x4), (5, .int x5), (6, .int x6), (7, .int x7)] → va_P E.1 bp_cl (bm_W E m) H → va_D A (bm_W E m) → va_S A s.heap H locs → W p l e ({ frames := 1, cells := 0, slots := 0, locals := 25 }) s mt args below meth c H locs 0 0 Q (F0 mt 58 ls []) := by
    intro x4 x5 x6 x7 m h ls H locs hl hP hD hS
    rw [bm_M_half_L58] at h
    refine lv_iconst (v := 0) hx hb (dt_bm_M_half 36 rfl) (by decide) ?_
    refine lv_istore hx hb (dt_bm_M_half 37 rfl) hl (Nat.le_of_ble_eq_true rfl) rfl (fun ls hl => ?_)
    have hl : lv_has ls 13 [(8, .int 0), (0, .ref (E.2.1 0)), (1, .int a1), (4, .int x4), (5, .int x5), (6, .int x6), (7, .int x7)] := hl
    refine lv_bipush (v := (-2)) hx hb (dt_bm_M_half 38 rfl) (by decide) ?_
    refine lv_istore hx hb (dt_bm_M_half 39 rfl) hl (Nat.le_of_ble_eq_true rfl) rfl (fun ls hl => ?_)
    have hl : lv_has ls 13 [(9, .int (-2)), (8, .int 0), (0, .ref (E.2.1 0)), (1, .int a1), (4, .int x4), (5, .int x5), (6, .int x6), (7, .int x7)] := hl
    exact hL65 _ _ _ _ _ _ _ _ h ls H locs (lv_sub hl [2, 3, 4, 5, 6, 7, 1, 0] rfl) hP hD hS
  have hL36 : ∀ (x4 : Int32) (x5 : Int32) (x6 : Int32) (s0 : Int32) (m : bp_M), bm_M_half_L36 N a1 a2 a3 x4 x5 x6 s0 m = some (r, mr) → ∀ (ls : Array Slot) (H : Heap) (locs : List Loc), lv_has ls 13 [(0, .ref (E.2.1 0)), (1, .int a1), (4, .int x4), (5, .int x5), (6, .int x6)] → va_P E.1 bp_cl (bm_W E m) H → va_D A (bm_W E m) → va_S A s.heap H locs → W p l e ({ frames := 1, cells := 0, slots := 0, locals := 25 }) s mt args below meth c H locs 0 0 Q (F0 mt 36 ls [.int s0]) := by
    intro x4 x5 x6 s0 m h ls H locs hl hP hD hS
    rw [bm_M_half_L36] at h
    refine lv_istore hx hb (dt_bm_M_half 25 rfl) hl (Nat.le_of_ble_eq_true rfl) rfl (fun ls hl => ?_)
    have hl : lv_has ls 13 [(7, .int s0), (0, .ref (E.2.1 0)), (1, .int a1), (4, .int x4), (5, .int x5), (6, .int x6)] := hl
    refine lv_iload hx hb (dt_bm_M_half 26 rfl) (lv_at hl 5 rfl) ?_
    refine lv_if_ne (tgt := 58) hx hb (dt_bm_M_half 27 rfl) (by decide) (fun hc => ?_) (fun hc => ?_)
    · replace h := (if_pos hc).symm.trans h
      exact hL58 _ _ _ _ _ h ls H locs (lv_sub hl [1, 2, 3, 4, 5, 0] rfl) hP hD hS
    · replace h := (if_neg (fun hn => hn hc)).symm.trans h
      refine lv_iload hx hb (dt_bm_M_half 28 rfl) (lv_at hl 0 rfl) ?_
      refine lv_if_ne (tgt := 58) hx hb (dt_bm_M_half 29 rfl) (by decide) (fun hc => ?_) (fun hc => ?_)
      · replace h := (if_pos hc).symm.trans h
        exact hL58 _ _ _ _ _ h ls H locs (lv_sub hl [1, 2, 3, 4, 5, 0] rfl) hP hD hS
      · replace h := (if_neg (fun hn => hn hc)).symm.trans h
        refine lv_aload_n hx hb (dt_bm_M_half 30 rfl) rfl (lv_at hl 1 rfl) ?_
        refine lv_iload_n hx hb (dt_bm_M_half 31 rfl) rfl (lv_at hl 2 rfl) ?_
        refine lv_iload hx hb (dt_bm_M_half 32 rfl) (lv_at hl 3 rfl) ?_
        refine lv_iload hx hb (dt_bm_M_half 33 rfl) (lv_at hl 4 rfl) ?_
        obtain ⟨z2, m1, hm1, h⟩ := bp_cI_s h
        refine bm_callI E hsub hS (va_runV (As := [.int a1, .int x4, .int x5]) (rest := []) ⟨hx, hb, hml, hown, htb⟩ (wbm_M_sampleOf l E N a1 x4 x5 m H.size z2 m1 hm1) (cwV 3 htb (bp_goodV tw_995 tw_997 tw_51 tw_79 tw_998) rfl rfl rfl ⟨rfl, hd_bm_M_sampleOf⟩ ⟨Nat.le_of_ble_eq_true rfl, Nat.le_of_ble_eq_true rfl⟩) (bm_preV E hsub hst hK hP hD hS (bm_gM E m) rfl rfl _) rfl rfl hl.1 rfl (lv_room (Nat.le_of_ble_eq_true rfl)) (dt_bm_M_half 34 rfl) ⟨Nat.zero_le _, Nat.zero_le _⟩) (fun H locs hP hD hS => ?_)
        exact hret _ _ _ _ _ _ h hP hD hS (dt_bm_M_half 35 rfl)
  have hL22 : ∀ (x4 : Int32) (x5 : Int32) (s0 : Int32) (m : bp_M), bm_M_half_L22 N a1 a2 a3 x4 x5 s0 m = some (r, mr) → ∀ (ls : Array Slot) (H : Heap) (locs : List Loc), lv_has ls 13 [(0, .ref (E.2.1 0)), (1, .int a1), (3, .int a3), (4, .int x4), (5, .int x5)] → va_P E.1 bp_cl (bm_W E m) H → va_D A (bm_W E m) → va_S A s.heap H locs → W p l e ({ frames := 1, cells := 0, slots := 0, locals := 25 }) s mt args below meth c H locs 0 0 Q (F0 mt 22 ls [.int s0]) := by
    intro x4 x5 s0 m h ls H locs hl hP hD hS
    rw [bm_M_half_L22] at h
    refine lv_istore hx hb (dt_bm_M_half 16 rfl) hl (Nat.le_of_ble_eq_true rfl) rfl (fun ls hl => ?_)
    have hl : lv_has ls 13 [(6, .int s0), (0, .ref (E.2.1 0)), (1, .int a1), (3, .int a3), (4, .int x4), (5, .int x5)] := hl
    refine lv_iload_n hx hb (dt_bm_M_half 17 rfl) rfl (lv_at hl 3 rfl) ?_
    refine lv_iconst (v := 1) hx hb (dt_bm_M_half 18 rfl) (by decide) ?_
    refine lv_iand hx hb (dt_bm_M_half 19 rfl) ?_
    refine lv_iconst (v := 1) hx hb (dt_bm_M_half 20 rfl) (by decide) ?_
    refine lv_icmp_ne (tgt := 35) hx hb (dt_bm_M_half 21 rfl) (by decide) (fun hc => ?_) (fun hc => ?_)
    · replace h := (if_pos hc).symm.trans h
      refine lv_iconst (v := 0) hx hb (dt_bm_M_half 24 rfl) (by decide) ?_
      exact hL36 _ _ _ _ _ h ls H locs (lv_sub hl [1, 2, 4, 5, 0] rfl) hP hD hS
    · replace h := (if_neg (fun hn => hn hc)).symm.trans h
      refine lv_iconst (v := 1) hx hb (dt_bm_M_half 22 rfl) (by decide) ?_
      refine lv_goto (tgt := 36) hx hb (dt_bm_M_half 23 rfl) (by decide) ?_
      exact hL36 _ _ _ _ _ h ls H locs (lv_sub hl [1, 2, 4, 5, 0] rfl) hP hD hS
  suffices hgo : ∀ (H : Heap) (locs : List Loc), va_P E.1 bp_cl (bm_W E m) H → va_D A (bm_W E m) → va_S A s.heap H locs → W p l e ({ frames := 1, cells := 0, slots := 0, locals := 25 }) s mt args below meth c H locs 0 0 Q (F0 mt 0 ls []) from hgo _ _ hP hD hS
  clear hP hD hS
  intro H locs hP hD hS
  unfold bm_M_half at h
  refine lv_iload_n hx hb (dt_bm_M_half 0 rfl) rfl (lv_at hl 2 rfl) ?_
  refine lv_iconst (v := 1) hx hb (dt_bm_M_half 1 rfl) (by decide) ?_
  refine lv_ishr hx hb (dt_bm_M_half 2 rfl) ?_
  refine lv_topi (fun y1 ey1 => ?_)
  replace h := bp_nI_s h ey1
  refine lv_istore hx hb (dt_bm_M_half 3 rfl) hl (Nat.le_of_ble_eq_true rfl) rfl (fun ls hl => ?_)
  have hl : lv_has ls 13 [(4, .int y1), (0, .ref (E.2.1 0)), (1, .int a1), (2, .int a2), (3, .int a3)] := hl
  refine lv_iload_n hx hb (dt_bm_M_half 4 rfl) rfl (lv_at hl 4 rfl) ?_
  refine lv_iconst (v := 1) hx hb (dt_bm_M_half 5 rfl) (by decide) ?_
  refine lv_ishr hx hb (dt_bm_M_half 6 rfl) ?_
  refine lv_topi (fun y2 ey2 => ?_)
  replace h := bp_nI_s h ey2
  refine lv_istore hx hb (dt_bm_M_half 7 rfl) hl (Nat.le_of_ble_eq_true rfl) rfl (fun ls hl => ?_)
  have hl : lv_has ls 13 [(5, .int y2), (4, .int y1), (0, .ref (E.2.1 0)), (1, .int a1), (2, .int a2), (3, .int a3)] := hl
  refine lv_iload_n hx hb (dt_bm_M_half 8 rfl) rfl (lv_at hl 4 rfl) ?_
  refine lv_iconst (v := 1) hx hb (dt_bm_M_half 9 rfl) (by decide) ?_
  refine lv_iand hx hb (dt_bm_M_half 10 rfl) ?_
  refine lv_iconst (v := 1) hx hb (dt_bm_M_half 11 rfl) (by decide) ?_
  refine lv_icmp_ne (tgt := 21) hx hb (dt_bm_M_half 12 rfl) (by decide) (fun hc => ?_) (fun hc => ?_)
  · replace h := (if_pos hc).symm.trans h
    refine lv_iconst (v := 0) hx hb (dt_bm_M_half 15 rfl) (by decide) ?_
    exact hL22 _ _ _ _ h ls H locs (lv_sub hl [2, 3, 5, 1, 0] rfl) hP hD hS
  · replace h := (if_neg (fun hn => hn hc)).symm.trans h
    refine lv_iconst (v := 1) hx hb (dt_bm_M_half 13 rfl) (by decide) ?_
    refine lv_goto (tgt := 22) hx hb (dt_bm_M_half 14 rfl) (by decide) ?_
    exact hL22 _ _ _ _ h ls H locs (lv_sub hl [2, 3, 5, 1, 0] rfl) hP hD hS
set_option maxHeartbeats 4000000 in
set_option maxRecDepth 100000 in
theorem wbm_M_added (l : Launch) (E : bm_E) (N : Nat) (a1 : Int32) (a2 : Int32) (m : bp_M) (sz : Nat) (r : Int32) (mr : bp_M)  (h : bm_M_added N a1 a2 m = some (r, mr)) : Met l y_bm_M_added (Cond.code y_bm_M_added prog_13_method_31_code 6 (some .int) :: bp_tb) ({ frames := 0, cells := 0, slots := 0, locals := 0 }) (bm_Pc E m sz [.ref (E.2.1 0), .int a1, .int a2]) (bm_Qi E m sz r mr) 0 0 (va_A (bm_W E m) sz) := by
  refine Met.ofW (cc := prog_13_method_31_code) (maxL := 6) (ret := (some .int)) (by decide) rfl ?_
  intro p e s mt args below meth c s₁ B hml hv
  obtain ⟨rfl, hsz, hP, hK, hD0, hst⟩ := hv
  have hx := B.exec
  have hb := B.bytes
  have hr := B.returns
  have htb : ∀ w ∈ bp_tb, w.before _ s = true := fun w hw => atoms_spec (ws := Cond.code y_bm_M_added prog_13_method_31_code 6 (some .int) :: bp_tb) B.pre w (List.mem_cons_of_mem _ hw)
  have hown : s.vm.findClass "BlockPicturesModel" = some mt.cls := findClass_of_methodNamed B.named
  have hlocks := B.notSynchronized
  subst hsz
  have hD := hD0.self (sz := s.heap.size)
  generalize hAe : va_A (bm_W E m) s.heap.size = A at hD hst ⊢
  have hsub : ∀ (u : bp_M) (z q : Nat), s.heap.size ≤ z → va_A (bm_W E u) z q → A q := bm_sub hAe
  have hS : va_S A s.heap s.heap [] := va_S.rf
  have hl := lv_entry ([.ref (E.2.1 0), .int a1, .int a2]) (n := 6) (Nat.le_of_ble_eq_true rfl)
  rw [lg_entry_eq]
  generalize (lg_sl ([.ref (E.2.1 0), .int a1, .int a2]) ++ List.replicate (6 - (lg_sl ([.ref (E.2.1 0), .int a1, .int a2])).length) Slot.unset).toArray = ls at hl ⊢
  have hl : lv_has ls 6 [(0, .ref (E.2.1 0)), (1, .int a1), (2, .int a2)] := hl
  refine bm_keyI (R := ({ frames := 0, cells := 0, slots := 0, locals := 0 })) E hx hb hr hlocks hK hAe (fun Q hret => ?_)
  clear B hD0 hlocks hr
  generalize ([.ref (E.2.1 0), .int a1, .int a2] : List Value).toArray = args at htb hret ⊢
  clear hAe
  have hL71 : ∀ (x3 : Int32) (m : bp_M), bm_M_added_L71 N a1 a2 x3 m = some (r, mr) → ∀ (ls : Array Slot) (H : Heap) (locs : List Loc), lv_has ls 6 [(3, .int x3)] → va_P E.1 bp_cl (bm_W E m) H → va_D A (bm_W E m) → va_S A s.heap H locs → W p l e ({ frames := 0, cells := 0, slots := 0, locals := 0 }) s mt args below meth c H locs 0 0 Q (F0 mt 71 ls []) := by
    intro x3 m h ls H locs hl hP hD hS
    rw [bm_M_added_L71] at h
    refine lv_iload_n hx hb (dt_bm_M_added 45 rfl) rfl (lv_at hl 0 rfl) ?_
    refine lv_sipush (v := 128) hx hb (dt_bm_M_added 46 rfl) (by decide) ?_
    refine lv_iadd hx hb (dt_bm_M_added 47 rfl) ?_
    refine lv_bipush (v := 8) hx hb (dt_bm_M_added 48 rfl) (by decide) ?_
    refine lv_ishr hx hb (dt_bm_M_added 49 rfl) ?_
    exact hret _ _ _ _ _ _ h hP hD hS (dt_bm_M_added 50 rfl)
  have hL5 : ∀ (n5 : Nat) (x3 : Int32) (x4 : Int32) (m : bp_M), bm_M_added_L5 N a1 a2 n5 x3 x4 m = some (r, mr) → ∀ (ls : Array Slot) (H : Heap) (locs : List Loc), lv_has ls 6 [(0, .ref (E.2.1 0)), (1, .int a1), (2, .int a2), (3, .int x3), (4, .int x4)] → va_P E.1 bp_cl (bm_W E m) H → va_D A (bm_W E m) → va_S A s.heap H locs → W p l e ({ frames := 0, cells := 0, slots := 0, locals := 0 }) s mt args below meth c H locs 0 0 Q (F0 mt 5 ls []) := by
    intro n5
    induction n5 with
    | zero =>
      intro x3 x4 m h ls H locs hl hP hD hS
      rw [bm_M_added_L5] at h
      cases h
    | succ n5 ih5 =>
      have hL65 : ∀ (x3 : Int32) (x4 : Int32) (m : bp_M), bm_M_added_L65 (bm_M_added_L5 N a1 a2 n5) N a1 a2 x3 x4 m = some (r, mr) → ∀ (ls : Array Slot) (H : Heap) (locs : List Loc), lv_has ls 6 [(0, .ref (E.2.1 0)), (1, .int a1), (2, .int a2), (3, .int x3), (4, .int x4)] → va_P E.1 bp_cl (bm_W E m) H → va_D A (bm_W E m) → va_S A s.heap H locs → W p l e ({ frames := 0, cells := 0, slots := 0, locals := 0 }) s mt args below meth c H locs 0 0 Q (F0 mt 65 ls []) := by
        intro x3 x4 m h ls H locs hl hP hD hS
        rw [bm_M_added_L65] at h
        obtain ⟨y1, ey1⟩ : ∃ z : Int32, z = x4 + 1 := ⟨_, rfl⟩
        replace h := bp_nI_s h ey1
        refine lv_iinc (k := 4) (v := y1) hx hb (dt_bm_M_added 43 rfl) hl rfl (by rw [ey1]; rfl) (Nat.le_of_ble_eq_true rfl) rfl (fun ls hl => ?_)
        have hl : lv_has ls 6 [(4, .int y1), (0, .ref (E.2.1 0)), (1, .int a1), (2, .int a2), (3, .int x3)] := hl
        refine lv_goto (tgt := 5) hx hb (dt_bm_M_added 44 rfl) (by decide) ?_
        exact ih5 _ _ _ h ls H locs (lv_sub hl [1, 2, 3, 4, 0] rfl) hP hD hS
      have hL14 : ∀ (n14 : Nat) (x3 : Int32) (x4 : Int32) (x5 : Int32) (m : bp_M), bm_M_added_L14 (bm_M_added_L5 N a1 a2 n5) N a1 a2 n14 x3 x4 x5 m = some (r, mr) → ∀ (ls : Array Slot) (H : Heap) (locs : List Loc), lv_has ls 6 [(0, .ref (E.2.1 0)), (1, .int a1), (2, .int a2), (3, .int x3), (4, .int x4), (5, .int x5)] → va_P E.1 bp_cl (bm_W E m) H → va_D A (bm_W E m) → va_S A s.heap H locs → W p l e ({ frames := 0, cells := 0, slots := 0, locals := 0 }) s mt args below meth c H locs 0 0 Q (F0 mt 14 ls []) := by
        intro n14
        induction n14 with
        | zero =>
          intro x3 x4 x5 m h ls H locs hl hP hD hS
          rw [bm_M_added_L14] at h
          cases h
        | succ n14 ih14 =>
          intro x3 x4 x5 m h ls H locs hl hP hD hS
          rw [bm_M_added_L14] at h
          refine lv_iload hx hb (dt_bm_M_added 9 rfl) (lv_at hl 5 rfl) ?_
          refine lv_iconst (v := 4) hx hb (dt_bm_M_added 10 rfl) (by decide) ?_
          refine lv_icmp_ge (tgt := 65) hx hb (dt_bm_M_added 11 rfl) (by decide) (fun hc => ?_) (fun hc => ?_)
          · replace h := (if_pos hc).symm.trans h
            exact hL65 _ _ _ h ls H locs (lv_sub hl [0, 1, 2, 3, 4] rfl) hP hD hS
          · replace h := (if_neg hc).symm.trans h
            refine lv_iload_n hx hb (dt_bm_M_added 12 rfl) rfl (lv_at hl 3 rfl) ?_
            refine lv_aload_n hx hb (dt_bm_M_added 13 rfl) rfl (lv_at hl 0 rfl) ?_
            refine va_get (D := E.1) (ci := 10) (v := .ref (E.2.1 3)) (C := "BlockPicturesModel") (T := bF_M) (N := 48) hx hb htb bm_in_M hown hK hP 0 (bm_gM E m) rfl 2 (by decide) (htb _ tw_770) (fun _ h9 => h9) rfl (dt_bm_M_added 14 rfl) ?_
            refine lv_iconst (v := 4) hx hb (dt_bm_M_added 15 rfl) (by decide) ?_
            refine lv_iload_n hx hb (dt_bm_M_added 16 rfl) rfl (lv_at hl 1 rfl) ?_
            refine lv_imul hx hb (dt_bm_M_added 17 rfl) ?_
            refine lv_iload hx hb (dt_bm_M_added 18 rfl) (lv_at hl 4 rfl) ?_
            refine lv_iadd hx hb (dt_bm_M_added 19 rfl) ?_
            obtain ⟨hg1, h⟩ := bp_gi_s h
            refine bm_lI E hx hb hK hP (bm_ga3 E) hg1 (dt_bm_M_added 20 rfl) ?_
            refine lv_aload_n hx hb (dt_bm_M_added 21 rfl) rfl (lv_at hl 0 rfl) ?_
            refine va_get (D := E.1) (ci := 10) (v := .ref (E.2.1 3)) (C := "BlockPicturesModel") (T := bF_M) (N := 48) hx hb htb bm_in_M hown hK hP 0 (bm_gM E m) rfl 2 (by decide) (htb _ tw_770) (fun _ h9 => h9) rfl (dt_bm_M_added 22 rfl) ?_
            refine lv_iconst (v := 4) hx hb (dt_bm_M_added 23 rfl) (by decide) ?_
            refine lv_iload_n hx hb (dt_bm_M_added 24 rfl) rfl (lv_at hl 2 rfl) ?_
            refine lv_imul hx hb (dt_bm_M_added 25 rfl) ?_
            refine lv_iload hx hb (dt_bm_M_added 26 rfl) (lv_at hl 5 rfl) ?_
            refine lv_iadd hx hb (dt_bm_M_added 27 rfl) ?_
            obtain ⟨hg2, h⟩ := bp_gi_s h
            refine bm_lI E hx hb hK hP (bm_ga3 E) hg2 (dt_bm_M_added 28 rfl) ?_
            refine lv_imul hx hb (dt_bm_M_added 29 rfl) ?_
            refine lv_aload_n hx hb (dt_bm_M_added 30 rfl) rfl (lv_at hl 0 rfl) ?_
            refine va_get (D := E.1) (ci := 10) (v := .ref (E.2.1 11)) (C := "BlockPicturesModel") (T := bF_M) (N := 48) hx hb htb bm_in_M hown hK hP 0 (bm_gM E m) rfl 29 (by decide) (htb _ tw_797) (fun _ h9 => h9) rfl (dt_bm_M_added 31 rfl) ?_
            refine lv_iconst (v := 4) hx hb (dt_bm_M_added 32 rfl) (by decide) ?_
            refine lv_iload hx hb (dt_bm_M_added 33 rfl) (lv_at hl 4 rfl) ?_
            refine lv_imul hx hb (dt_bm_M_added 34 rfl) ?_
            refine lv_iload hx hb (dt_bm_M_added 35 rfl) (lv_at hl 5 rfl) ?_
            refine lv_iadd hx hb (dt_bm_M_added 36 rfl) ?_
            obtain ⟨hg3, h⟩ := bp_gi_s h
            refine bm_lI E hx hb hK hP (bm_ga11 E) hg3 (dt_bm_M_added 37 rfl) ?_
            refine lv_imul hx hb (dt_bm_M_added 38 rfl) ?_
            refine lv_iadd hx hb (dt_bm_M_added 39 rfl) ?_
            refine lv_topi (fun y4 ey4 => ?_)
            replace h := bp_nI_s h ey4
            refine lv_istore_n hx hb (dt_bm_M_added 40 rfl) rfl hl (Nat.le_of_ble_eq_true rfl) rfl (fun ls hl => ?_)
            have hl : lv_has ls 6 [(3, .int y4), (0, .ref (E.2.1 0)), (1, .int a1), (2, .int a2), (4, .int x4), (5, .int x5)] := hl
            obtain ⟨y5, ey5⟩ : ∃ z : Int32, z = x5 + 1 := ⟨_, rfl⟩
            replace h := bp_nI_s h ey5
            refine lv_iinc (k := 5) (v := y5) hx hb (dt_bm_M_added 41 rfl) hl rfl (by rw [ey5]; rfl) (Nat.le_of_ble_eq_true rfl) rfl (fun ls hl => ?_)
            have hl : lv_has ls 6 [(5, .int y5), (3, .int y4), (0, .ref (E.2.1 0)), (1, .int a1), (2, .int a2), (4, .int x4)] := hl
            refine lv_goto (tgt := 14) hx hb (dt_bm_M_added 42 rfl) (by decide) ?_
            exact ih14 _ _ _ _ h ls H locs (lv_sub hl [2, 3, 4, 1, 5, 0] rfl) hP hD hS
      intro x3 x4 m h ls H locs hl hP hD hS
      rw [bm_M_added_L5] at h
      refine lv_iload hx hb (dt_bm_M_added 4 rfl) (lv_at hl 4 rfl) ?_
      refine lv_iconst (v := 4) hx hb (dt_bm_M_added 5 rfl) (by decide) ?_
      refine lv_icmp_ge (tgt := 71) hx hb (dt_bm_M_added 6 rfl) (by decide) (fun hc => ?_) (fun hc => ?_)
      · replace h := (if_pos hc).symm.trans h
        exact hL71 _ _ h ls H locs (lv_sub hl [3] rfl) hP hD hS
      · replace h := (if_neg hc).symm.trans h
        refine lv_iconst (v := 0) hx hb (dt_bm_M_added 7 rfl) (by decide) ?_
        refine lv_istore hx hb (dt_bm_M_added 8 rfl) hl (Nat.le_of_ble_eq_true rfl) rfl (fun ls hl => ?_)
        have hl : lv_has ls 6 [(5, .int 0), (0, .ref (E.2.1 0)), (1, .int a1), (2, .int a2), (3, .int x3), (4, .int x4)] := hl
        exact hL14 _ _ _ _ _ h ls H locs (lv_sub hl [1, 2, 3, 4, 5, 0] rfl) hP hD hS
  suffices hgo : ∀ (H : Heap) (locs : List Loc), va_P E.1 bp_cl (bm_W E m) H → va_D A (bm_W E m) → va_S A s.heap H locs → W p l e ({ frames := 0, cells := 0, slots := 0, locals := 0 }) s mt args below meth c H locs 0 0 Q (F0 mt 0 ls []) from hgo _ _ hP hD hS
  clear hP hD hS
  intro H locs hP hD hS
  unfold bm_M_added at h
  refine lv_iconst (v := 0) hx hb (dt_bm_M_added 0 rfl) (by decide) ?_
  refine lv_istore_n hx hb (dt_bm_M_added 1 rfl) rfl hl (Nat.le_of_ble_eq_true rfl) rfl (fun ls hl => ?_)
  have hl : lv_has ls 6 [(3, .int 0), (0, .ref (E.2.1 0)), (1, .int a1), (2, .int a2)] := hl
  refine lv_iconst (v := 0) hx hb (dt_bm_M_added 2 rfl) (by decide) ?_
  refine lv_istore hx hb (dt_bm_M_added 3 rfl) hl (Nat.le_of_ble_eq_true rfl) rfl (fun ls hl => ?_)
  have hl : lv_has ls 6 [(4, .int 0), (3, .int 0), (0, .ref (E.2.1 0)), (1, .int a1), (2, .int a2)] := hl
  exact hL5 _ _ _ _ h ls H locs (lv_sub hl [2, 3, 4, 1, 0] rfl) hP hD hS
