set_option maxHeartbeats 4000000 in
set_option maxRecDepth 100000 in
theorem c_Mo_readsItem (l : Launch) (D : va_G) (cC cI cZ : ClassId) (a_this : Nat) (a_now : Nat) (a_undos : Nat) (a_seen : Nat) (a_seenAs : Nat) (a_isKept : Nat) (a_kept : Nat) (a_text : Nat) (a_read : Nat) (a_fewest : Nat) (a_doors : Nat) (a_isSo : Nat) (v_undoMany : Int32) (v_undoAt : Int32) (v_seenMany : Int32) (v_letterMany : Int32) (v_readAt : Int32) (v_tokenAt : Int32) (v_token : Int32) (v_value : Int32) (v_faultAt : Int32) (v_readOnce : Int32) (v_greatUpper : Int64) (v_greatLower : Int64) (A_now : Nat → Int32) (A_undos : Nat → Int32) (A_seen : Nat → Int32) (A_seenAs : Nat → Int32) (A_isKept : Nat → Int32) (A_kept : Nat → Int32) (A_text : Nat → Int32) (A_read : Nat → Int32) (A_fewest : Nat → Int32) (A_doors : Nat → Int32) (A_isSo : Nat → Int32)  (sz : Nat) (z : Int32 × Int32 × Int32 × Int32 × Int32 × Int32 × Int32 × (Nat → Int32)) (h : f_Mo_readsItem v_letterMany v_readAt v_tokenAt v_token v_value v_faultAt v_readOnce A_text A_read = some z) : Met l yX11_readsItem (.code yX11_readsItem cX11_readsItem 1 (some .boolean) :: TBL) (RM 5 108) (PcM [.ref a_this] sz D (TY cC cI cZ) (k_Mo cC cI cZ a_this a_now a_undos a_seen a_seenAs a_isKept a_kept a_text a_read a_fewest a_doors a_isSo v_undoMany v_undoAt v_seenMany v_letterMany v_readAt v_tokenAt v_token v_value v_faultAt v_readOnce v_greatUpper v_greatLower A_now A_undos A_seen A_seenAs A_isKept A_kept A_text A_read A_fewest A_doors A_isSo)) (fun a st o t => QM (some (.int z.1)) D (k_Mo cC cI cZ a_this a_now a_undos a_seen a_seenAs a_isKept a_kept a_text a_read a_fewest a_doors a_isSo v_undoMany v_undoAt v_seenMany v_letterMany z.2.1 z.2.2.1 z.2.2.2.1 z.2.2.2.2.1 z.2.2.2.2.2.1 z.2.2.2.2.2.2.1 v_greatUpper v_greatLower A_now A_undos A_seen A_seenAs A_isKept A_kept A_text z.2.2.2.2.2.2.2 A_fewest A_doors A_isSo) (va_A (k_Mo cC cI cZ a_this a_now a_undos a_seen a_seenAs a_isKept a_kept a_text a_read a_fewest a_doors a_isSo v_undoMany v_undoAt v_seenMany v_letterMany v_readAt v_tokenAt v_token v_value v_faultAt v_readOnce v_greatUpper v_greatLower A_now A_undos A_seen A_seenAs A_isKept A_kept A_text A_read A_fewest A_doors A_isSo) sz) a st o t ∧ narrow .boolean (.int z.1) = .int z.1) 0 0 (va_A (k_Mo cC cI cZ a_this a_now a_undos a_seen a_seenAs a_isKept a_kept a_text a_read a_fewest a_doors a_isSo v_undoMany v_undoAt v_seenMany v_letterMany v_readAt v_tokenAt v_token v_value v_faultAt v_readOnce v_greatUpper v_greatLower A_now A_undos A_seen A_seenAs A_isKept A_kept A_text A_read A_fewest A_doors A_isSo) sz) := by
  refine muOf (by decide) (Nat.le_of_ble_eq_true rfl) rfl ?_
  intro p e s m args below meth c Q ls A X hP hD hS hA hl hret
  have X : Ctx p s m args c cX11_readsItem 1 RX11 D (TY cC cI cZ) := X
  obtain ⟨hx, hb, hml, hown, htT, hK, hN⟩ := id X
  unfold f_Mo_readsItem at h
  refine lv_aload_n hx hb dX11_readsItem_0 rfl (lv_at hl 0 rfl) ?_
  obtain ⟨z1, e1, h⟩ := bd h
  refine muVV (ws' := (k_Mo cC cI cZ a_this a_now a_undos a_seen a_seenAs a_isKept a_kept a_text a_read a_fewest a_doors a_isSo v_undoMany v_undoAt v_seenMany v_letterMany z1.1 z1.2.1 z1.2.2.1 z1.2.2.2 v_faultAt v_readOnce v_greatUpper v_greatLower A_now A_undos A_seen A_seenAs A_isKept A_kept A_text A_read A_fewest A_doors A_isSo)) X [] [] (c_Mo_next l D cC cI cZ a_this a_now a_undos a_seen a_seenAs a_isKept a_kept a_text a_read a_fewest a_doors a_isSo v_undoMany v_undoAt v_seenMany v_letterMany v_readAt v_tokenAt v_token v_value v_faultAt v_readOnce v_greatUpper v_greatLower A_now A_undos A_seen A_seenAs A_isKept A_kept A_text A_read A_fewest A_doors A_isSo _ z1 e1) gg_X11_78 hd_Mo_next ⟨rfl, rfl, Nat.le_of_ble_eq_true rfl, Nat.le_of_ble_eq_true rfl⟩ ⟨Nat.zero_le _, Nat.zero_le _⟩ hP hD hS hA [0, 1, 2, 3, 4, 5, 6, 7, 8, 9, 10, 11] [] [0, 1, 2, 3, 4, 5, 6, 7, 8, 9, 10, 11] rfl rfl (by decide) (by decide) rfl rfl rfl rfl rfl hl.1 rfl (Nat.le_of_ble_eq_true rfl) dX11_readsItem_1 (fun H locs hP hD hS => ?_)
  refine lv_aload_n hx hb dX11_readsItem_4 rfl (lv_at hl 0 rfl) ?_
  refine va_get (ci := 11) (v := .int z1.2.2.1) (C := RX11) (T := TX11) (N := 23) hx hb htT inlX11 hown hK hP 0 rfl rfl 13 (by decide) (htT _ q_14_10) (fun _ h9 => h9) rfl dX11_readsItem_5 ?_
  by_cases c2 : z1.2.2.1 = (100 : Int32)
  · have h := ip c2 h
    refine lv_lookup (off := 53) (tgt := 61) hx hb dX11_readsItem_8 (by decide) (by rw [c2]; rfl) (by decide) ?_
    refine lv_aload_n hx hb dX11_readsItem_61 rfl (lv_at hl 0 rfl) ?_
    refine lv_iconst (v := (2 : Int32)) hx hb dX11_readsItem_62 rfl ?_
    refine lv_iconst (v := (1 : Int32)) hx hb dX11_readsItem_63 rfl ?_
    refine lv_bipush (v := (14 : Int32)) hx hb dX11_readsItem_64 rfl ?_
    obtain ⟨z3, e3, h⟩ := bd h
    refine muV (ws' := (k_Mo cC cI cZ a_this a_now a_undos a_seen a_seenAs a_isKept a_kept a_text a_read a_fewest a_doors a_isSo v_undoMany v_undoAt v_seenMany v_letterMany z3.2.1 z3.2.2.1 z3.2.2.2.1 z3.2.2.2.2.1 z3.2.2.2.2.2.1 z3.2.2.2.2.2.2.1 v_greatUpper v_greatLower A_now A_undos A_seen A_seenAs A_isKept A_kept A_text z3.2.2.2.2.2.2.2 A_fewest A_doors A_isSo)) X [.int (2 : Int32), .int (1 : Int32), .int (14 : Int32)] [] (c_Mo_readsOnce l D cC cI cZ a_this a_now a_undos a_seen a_seenAs a_isKept a_kept a_text a_read a_fewest a_doors a_isSo v_undoMany v_undoAt v_seenMany v_letterMany z1.1 z1.2.1 z1.2.2.1 z1.2.2.2 v_faultAt v_readOnce v_greatUpper v_greatLower A_now A_undos A_seen A_seenAs A_isKept A_kept A_text A_read A_fewest A_doors A_isSo (2 : Int32) (1 : Int32) (14 : Int32) _ z3 e3) gg_X11_97 hd_Mo_readsOnce ⟨rfl, rfl, Nat.le_of_ble_eq_true rfl, Nat.le_of_ble_eq_true rfl⟩ ⟨Nat.zero_le _, Nat.zero_le _⟩ hP hD hS hA [0, 1, 2, 3, 4, 5, 6, 7, 8, 9, 10, 11] [] [0, 1, 2, 3, 4, 5, 6, 7, 8, 9, 10, 11] rfl rfl (by decide) (by decide) rfl rfl rfl rfl rfl hl.1 rfl (Nat.le_of_ble_eq_true rfl) dX11_readsItem_66 (fun H locs hP hD hS n3 => ?_)
    obtain rfl := Option.some.inj h
    exact hret _ _ _ _ _ hP hS dX11_readsItem_69 rfl n3
  · have h := im c2 h
    by_cases c4 : z1.2.2.1 = (112 : Int32)
    · have h := ip c4 h
      refine lv_lookup (off := 44) (tgt := 52) hx hb dX11_readsItem_8 (by decide) (by rw [c4]; rfl) (by decide) ?_
      refine lv_aload_n hx hb dX11_readsItem_52 rfl (lv_at hl 0 rfl) ?_
      refine lv_iconst (v := (1 : Int32)) hx hb dX11_readsItem_53 rfl ?_
      refine lv_iconst (v := (0 : Int32)) hx hb dX11_readsItem_54 rfl ?_
      refine lv_bipush (v := (99 : Int32)) hx hb dX11_readsItem_55 rfl ?_
      obtain ⟨z5, e5, h⟩ := bd h
      refine muV (ws' := (k_Mo cC cI cZ a_this a_now a_undos a_seen a_seenAs a_isKept a_kept a_text a_read a_fewest a_doors a_isSo v_undoMany v_undoAt v_seenMany v_letterMany z5.2.1 z5.2.2.1 z5.2.2.2.1 z5.2.2.2.2.1 z5.2.2.2.2.2.1 z5.2.2.2.2.2.2.1 v_greatUpper v_greatLower A_now A_undos A_seen A_seenAs A_isKept A_kept A_text z5.2.2.2.2.2.2.2 A_fewest A_doors A_isSo)) X [.int (1 : Int32), .int (0 : Int32), .int (99 : Int32)] [] (c_Mo_readsOnce l D cC cI cZ a_this a_now a_undos a_seen a_seenAs a_isKept a_kept a_text a_read a_fewest a_doors a_isSo v_undoMany v_undoAt v_seenMany v_letterMany z1.1 z1.2.1 z1.2.2.1 z1.2.2.2 v_faultAt v_readOnce v_greatUpper v_greatLower A_now A_undos A_seen A_seenAs A_isKept A_kept A_text A_read A_fewest A_doors A_isSo (1 : Int32) (0 : Int32) (99 : Int32) _ z5 e5) gg_X11_97 hd_Mo_readsOnce ⟨rfl, rfl, Nat.le_of_ble_eq_true rfl, Nat.le_of_ble_eq_true rfl⟩ ⟨Nat.zero_le _, Nat.zero_le _⟩ hP hD hS hA [0, 1, 2, 3, 4, 5, 6, 7, 8, 9, 10, 11] [] [0, 1, 2, 3, 4, 5, 6, 7, 8, 9, 10, 11] rfl rfl (by decide) (by decide) rfl rfl rfl rfl rfl hl.1 rfl (Nat.le_of_ble_eq_true rfl) dX11_readsItem_57 (fun H locs hP hD hS n5 => ?_)
      obtain rfl := Option.some.inj h
      exact hret _ _ _ _ _ hP hS dX11_readsItem_60 rfl n5
    · have h := im c4 h
      by_cases c6 : z1.2.2.1 = (114 : Int32)
      · have h := ip c6 h
        refine lv_lookup (off := 62) (tgt := 70) hx hb dX11_readsItem_8 (by decide) (by rw [c6]; rfl) (by decide) ?_
        refine lv_aload_n hx hb dX11_readsItem_70 rfl (lv_at hl 0 rfl) ?_
        refine lv_iconst (v := (1 : Int32)) hx hb dX11_readsItem_71 rfl ?_
        obtain ⟨z7, e7, h⟩ := bd h
        refine muV (ws' := (k_Mo cC cI cZ a_this a_now a_undos a_seen a_seenAs a_isKept a_kept a_text a_read a_fewest a_doors a_isSo v_undoMany v_undoAt v_seenMany v_letterMany z7.2.1 z7.2.2.1 z7.2.2.2.1 z7.2.2.2.2.1 z7.2.2.2.2.2.1 v_readOnce v_greatUpper v_greatLower A_now A_undos A_seen A_seenAs A_isKept A_kept A_text z7.2.2.2.2.2.2 A_fewest A_doors A_isSo)) X [.int (1 : Int32)] [] (c_Mo_readsOne l D cC cI cZ a_this a_now a_undos a_seen a_seenAs a_isKept a_kept a_text a_read a_fewest a_doors a_isSo v_undoMany v_undoAt v_seenMany v_letterMany z1.1 z1.2.1 z1.2.2.1 z1.2.2.2 v_faultAt v_readOnce v_greatUpper v_greatLower A_now A_undos A_seen A_seenAs A_isKept A_kept A_text A_read A_fewest A_doors A_isSo (1 : Int32) _ z7 e7) gg_X11_100 hd_Mo_readsOne ⟨rfl, rfl, Nat.le_of_ble_eq_true rfl, Nat.le_of_ble_eq_true rfl⟩ ⟨Nat.zero_le _, Nat.zero_le _⟩ hP hD hS hA [0, 1, 2, 3, 4, 5, 6, 7, 8, 9, 10, 11] [] [0, 1, 2, 3, 4, 5, 6, 7, 8, 9, 10, 11] rfl rfl (by decide) (by decide) rfl rfl rfl rfl rfl hl.1 rfl (Nat.le_of_ble_eq_true rfl) dX11_readsItem_72 (fun H locs hP hD hS n7 => ?_)
        obtain rfl := Option.some.inj h
        exact hret _ _ _ _ _ hP hS dX11_readsItem_75 rfl n7
      · have h := im c6 h
        by_cases c8 : z1.2.2.1 = (117 : Int32)
        · have h := ip c8 h
          refine lv_lookup (off := 68) (tgt := 76) hx hb dX11_readsItem_8 (by decide) (by rw [c8]; rfl) (by decide) ?_
          refine lv_aload_n hx hb dX11_readsItem_76 rfl (lv_at hl 0 rfl) ?_
          refine lv_iconst (v := (0 : Int32)) hx hb dX11_readsItem_77 rfl ?_
          obtain ⟨z9, e9, h⟩ := bd h
          refine muV (ws' := (k_Mo cC cI cZ a_this a_now a_undos a_seen a_seenAs a_isKept a_kept a_text a_read a_fewest a_doors a_isSo v_undoMany v_undoAt v_seenMany v_letterMany z9.2.1 z9.2.2.1 z9.2.2.2.1 z9.2.2.2.2.1 z9.2.2.2.2.2.1 v_readOnce v_greatUpper v_greatLower A_now A_undos A_seen A_seenAs A_isKept A_kept A_text z9.2.2.2.2.2.2 A_fewest A_doors A_isSo)) X [.int (0 : Int32)] [] (c_Mo_readsOne l D cC cI cZ a_this a_now a_undos a_seen a_seenAs a_isKept a_kept a_text a_read a_fewest a_doors a_isSo v_undoMany v_undoAt v_seenMany v_letterMany z1.1 z1.2.1 z1.2.2.1 z1.2.2.2 v_faultAt v_readOnce v_greatUpper v_greatLower A_now A_undos A_seen A_seenAs A_isKept A_kept A_text A_read A_fewest A_doors A_isSo (0 : Int32) _ z9 e9) gg_X11_100 hd_Mo_readsOne ⟨rfl, rfl, Nat.le_of_ble_eq_true rfl, Nat.le_of_ble_eq_true rfl⟩ ⟨Nat.zero_le _, Nat.zero_le _⟩ hP hD hS hA [0, 1, 2, 3, 4, 5, 6, 7, 8, 9, 10, 11] [] [0, 1, 2, 3, 4, 5, 6, 7, 8, 9, 10, 11] rfl rfl (by decide) (by decide) rfl rfl rfl rfl rfl hl.1 rfl (Nat.le_of_ble_eq_true rfl) dX11_readsItem_78 (fun H locs hP hD hS n9 => ?_)
          obtain rfl := Option.some.inj h
          exact hret _ _ _ _ _ hP hS dX11_readsItem_81 rfl n9
        · have h := im c8 h
          refine lv_lookup (off := 74) (tgt := 82) hx hb dX11_readsItem_8 (by decide) ((lv_osw c2 rfl).trans ((lv_osw c4 rfl).trans ((lv_osw c6 rfl).trans ((lv_osw c8 rfl).trans rfl)))) (by decide) ?_
          refine lv_aload_n hx hb dX11_readsItem_82 rfl (lv_at hl 0 rfl) ?_
          obtain ⟨z10, e10, h⟩ := bd h
          refine muV (ws' := (k_Mo cC cI cZ a_this a_now a_undos a_seen a_seenAs a_isKept a_kept a_text a_read a_fewest a_doors a_isSo v_undoMany v_undoAt v_seenMany v_letterMany z1.1 z1.2.1 z1.2.2.1 z1.2.2.2 z10.2 v_readOnce v_greatUpper v_greatLower A_now A_undos A_seen A_seenAs A_isKept A_kept A_text A_read A_fewest A_doors A_isSo)) X [] [] (c_Mo_fails l D cC cI cZ a_this a_now a_undos a_seen a_seenAs a_isKept a_kept a_text a_read a_fewest a_doors a_isSo v_undoMany v_undoAt v_seenMany v_letterMany z1.1 z1.2.1 z1.2.2.1 z1.2.2.2 v_faultAt v_readOnce v_greatUpper v_greatLower A_now A_undos A_seen A_seenAs A_isKept A_kept A_text A_read A_fewest A_doors A_isSo _ z10 e10) gg_X11_81 hd_Mo_fails ⟨rfl, rfl, Nat.le_of_ble_eq_true rfl, Nat.le_of_ble_eq_true rfl⟩ ⟨Nat.zero_le _, Nat.zero_le _⟩ hP hD hS hA [0, 1, 2, 3, 4, 5, 6, 7, 8, 9, 10, 11] [] [0, 1, 2, 3, 4, 5, 6, 7, 8, 9, 10, 11] rfl rfl (by decide) (by decide) rfl rfl rfl rfl rfl hl.1 rfl (Nat.le_of_ble_eq_true rfl) dX11_readsItem_83 (fun H locs hP hD hS n10 => ?_)
          obtain rfl := Option.some.inj h
          exact hret _ _ _ _ _ hP hS dX11_readsItem_86 rfl n10
set_option maxHeartbeats 4000000 in
set_option maxRecDepth 100000 in
theorem c_Mo_readings (l : Launch) (D : va_G) (cC cI cZ : ClassId) (a_this : Nat) (a_now : Nat) (a_undos : Nat) (a_seen : Nat) (a_seenAs : Nat) (a_isKept : Nat) (a_kept : Nat) (a_text : Nat) (a_read : Nat) (a_fewest : Nat) (a_doors : Nat) (a_isSo : Nat) (v_undoMany : Int32) (v_undoAt : Int32) (v_seenMany : Int32) (v_letterMany : Int32) (v_readAt : Int32) (v_tokenAt : Int32) (v_token : Int32) (v_value : Int32) (v_faultAt : Int32) (v_readOnce : Int32) (v_greatUpper : Int64) (v_greatLower : Int64) (A_now : Nat → Int32) (A_undos : Nat → Int32) (A_seen : Nat → Int32) (A_seenAs : Nat → Int32) (A_isKept : Nat → Int32) (A_kept : Nat → Int32) (A_text : Nat → Int32) (A_read : Nat → Int32) (A_fewest : Nat → Int32) (A_doors : Nat → Int32) (A_isSo : Nat → Int32)  (sz : Nat) (z : Int32 × Int32 × Int32 × Int32 × Int32 × Int32 × Int32 × Int32 × Int32 × Int32 × (Nat → Int32) × (Nat → Int32) × (Nat → Int32)) (h : f_Mo_readings v_undoMany v_seenMany v_letterMany v_readAt v_tokenAt v_token v_value v_faultAt v_readOnce A_now A_isKept A_text A_read = some z) : Met l yX11_readings (.code yX11_readings cX11_readings 3 (some .int) :: TBL) (RM 6 128) (PcM [.ref a_this] sz D (TY cC cI cZ) (k_Mo cC cI cZ a_this a_now a_undos a_seen a_seenAs a_isKept a_kept a_text a_read a_fewest a_doors a_isSo v_undoMany v_undoAt v_seenMany v_letterMany v_readAt v_tokenAt v_token v_value v_faultAt v_readOnce v_greatUpper v_greatLower A_now A_undos A_seen A_seenAs A_isKept A_kept A_text A_read A_fewest A_doors A_isSo)) (fun a st o t => QM (some (.int z.1)) D (k_Mo cC cI cZ a_this a_now a_undos a_seen a_seenAs a_isKept a_kept a_text a_read a_fewest a_doors a_isSo z.2.1 v_undoAt z.2.2.1 z.2.2.2.1 z.2.2.2.2.1 z.2.2.2.2.2.1 z.2.2.2.2.2.2.1 z.2.2.2.2.2.2.2.1 z.2.2.2.2.2.2.2.2.1 z.2.2.2.2.2.2.2.2.2.1 v_greatUpper v_greatLower z.2.2.2.2.2.2.2.2.2.2.1 A_undos A_seen A_seenAs z.2.2.2.2.2.2.2.2.2.2.2.1 A_kept A_text z.2.2.2.2.2.2.2.2.2.2.2.2 A_fewest A_doors A_isSo) (va_A (k_Mo cC cI cZ a_this a_now a_undos a_seen a_seenAs a_isKept a_kept a_text a_read a_fewest a_doors a_isSo v_undoMany v_undoAt v_seenMany v_letterMany v_readAt v_tokenAt v_token v_value v_faultAt v_readOnce v_greatUpper v_greatLower A_now A_undos A_seen A_seenAs A_isKept A_kept A_text A_read A_fewest A_doors A_isSo) sz) a st o t ∧ narrow .int (.int z.1) = .int z.1) 0 0 (va_A (k_Mo cC cI cZ a_this a_now a_undos a_seen a_seenAs a_isKept a_kept a_text a_read a_fewest a_doors a_isSo v_undoMany v_undoAt v_seenMany v_letterMany v_readAt v_tokenAt v_token v_value v_faultAt v_readOnce v_greatUpper v_greatLower A_now A_undos A_seen A_seenAs A_isKept A_kept A_text A_read A_fewest A_doors A_isSo) sz) := by
  refine muOf (by decide) (Nat.le_of_ble_eq_true rfl) rfl ?_
  intro p e s m args below meth c Q ls A X hP hD hS hA hl hret
  have X : Ctx p s m args c cX11_readings 3 RX11 D (TY cC cI cZ) := X
  obtain ⟨hx, hb, hml, hown, htT, hK, hN⟩ := id X
  unfold f_Mo_readings at h
  refine lv_aload_n hx hb dX11_readings_0 rfl (lv_at hl 0 rfl) ?_
  refine va_get (ci := 11) (v := .ref a_read) (C := RX11) (T := TX11) (N := 23) hx hb htT inlX11 hown hK hP 0 rfl rfl 17 (by decide) (htT _ q_7_8) (fun _ h9 => h9) rfl dX11_readings_1 ?_
  obtain ⟨z1, e1, h⟩ := bd h
  refine muSV (ws' := (k_Mo cC cI cZ a_this a_now a_undos a_seen a_seenAs a_isKept a_kept a_text a_read a_fewest a_doors a_isSo v_undoMany v_undoAt v_seenMany v_letterMany v_readAt v_tokenAt v_token v_value v_faultAt v_readOnce v_greatUpper v_greatLower A_now A_undos A_seen A_seenAs A_isKept A_kept A_text z1 A_fewest A_doors A_isSo)) X [.ref a_read] [] (c_Mo_begins l D cC cI cZ a_read A_read _ z1 e1) gg_X11_44 hd_Mo_begins ⟨rfl, rfl, Nat.le_of_ble_eq_true rfl, Nat.le_of_ble_eq_true rfl⟩ ⟨Nat.zero_le _, Nat.zero_le _⟩ hP hD hS hA [8] [0, 1, 2, 3, 4, 5, 6, 7, 9, 10, 11] [0, 1, 2, 3, 4, 5, 6, 7, 11, 8, 9, 10] rfl rfl (by decide) (by decide) rfl rfl hl.1 rfl (Nat.le_of_ble_eq_true rfl) dX11_readings_4 (fun H locs hP hD hS => ?_)
  refine lv_aload_n hx hb dX11_readings_7 rfl (lv_at hl 0 rfl) ?_
  refine lv_iconst (v := (0 : Int32)) hx hb dX11_readings_8 rfl ?_
  refine va_put (ci := 11) (v := .int (0 : Int32)) (ty := .int) (C := RX11) (T := TX11) (N := 23) hx hb htT inlX11 tyX11 tyX11_ok nmX11 hown hK hP hD hS 0 rfl rfl 16 (by decide) (htT _ q_13_21) (fun _ h9 => h9) rfl (tyX11_ok 16 (by decide)) rfl rfl (Nat.le_of_ble_eq_true rfl) dX11_readings_9 (fun H locs hP hD hS => ?_)
  have hP : va_P D vwCl (k_Mo cC cI cZ a_this a_now a_undos a_seen a_seenAs a_isKept a_kept a_text a_read a_fewest a_doors a_isSo v_undoMany v_undoAt v_seenMany v_letterMany v_readAt v_tokenAt v_token v_value v_faultAt (0 : Int32) v_greatUpper v_greatLower A_now A_undos A_seen A_seenAs A_isKept A_kept A_text z1 A_fewest A_doors A_isSo) H := hP
  have hD : va_D A (k_Mo cC cI cZ a_this a_now a_undos a_seen a_seenAs a_isKept a_kept a_text a_read a_fewest a_doors a_isSo v_undoMany v_undoAt v_seenMany v_letterMany v_readAt v_tokenAt v_token v_value v_faultAt (0 : Int32) v_greatUpper v_greatLower A_now A_undos A_seen A_seenAs A_isKept A_kept A_text z1 A_fewest A_doors A_isSo) := hD
  refine lv_aload_n hx hb dX11_readings_12 rfl (lv_at hl 0 rfl) ?_
  refine lv_iconst (v := (0 : Int32)) hx hb dX11_readings_13 rfl ?_
  refine va_put (ci := 11) (v := .int (0 : Int32)) (ty := .int) (C := RX11) (T := TX11) (N := 23) hx hb htT inlX11 tyX11 tyX11_ok nmX11 hown hK hP hD hS 0 rfl rfl 11 (by decide) (htT _ q_13_22) (fun _ h9 => h9) rfl (tyX11_ok 11 (by decide)) rfl rfl (Nat.le_of_ble_eq_true rfl) dX11_readings_14 (fun H locs hP hD hS => ?_)
  have hP : va_P D vwCl (k_Mo cC cI cZ a_this a_now a_undos a_seen a_seenAs a_isKept a_kept a_text a_read a_fewest a_doors a_isSo v_undoMany v_undoAt v_seenMany v_letterMany (0 : Int32) v_tokenAt v_token v_value v_faultAt (0 : Int32) v_greatUpper v_greatLower A_now A_undos A_seen A_seenAs A_isKept A_kept A_text z1 A_fewest A_doors A_isSo) H := hP
  have hD : va_D A (k_Mo cC cI cZ a_this a_now a_undos a_seen a_seenAs a_isKept a_kept a_text a_read a_fewest a_doors a_isSo v_undoMany v_undoAt v_seenMany v_letterMany (0 : Int32) v_tokenAt v_token v_value v_faultAt (0 : Int32) v_greatUpper v_greatLower A_now A_undos A_seen A_seenAs A_isKept A_kept A_text z1 A_fewest A_doors A_isSo) := hD
  refine lv_iconst (v := (0 : Int32)) hx hb dX11_readings_17 rfl ?_
  refine lv_istore_n (lv' := [(1, .int (0 : Int32)), (0, .ref a_this)]) hx hb dX11_readings_18 rfl hl (by decide) rfl (fun ls hl => ?_)
  refine lv_aload_n hx hb dX11_readings_19 rfl (lv_at hl 1 rfl) ?_
  obtain ⟨z2, e2, h⟩ := bd h
  refine muVV (ws' := (k_Mo cC cI cZ a_this a_now a_undos a_seen a_seenAs a_isKept a_kept a_text a_read a_fewest a_doors a_isSo v_undoMany v_undoAt v_seenMany v_letterMany z2 v_tokenAt v_token v_value v_faultAt (0 : Int32) v_greatUpper v_greatLower A_now A_undos A_seen A_seenAs A_isKept A_kept A_text z1 A_fewest A_doors A_isSo)) X [] [] (c_Mo_blanks l D cC cI cZ a_this a_now a_undos a_seen a_seenAs a_isKept a_kept a_text a_read a_fewest a_doors a_isSo v_undoMany v_undoAt v_seenMany v_letterMany (0 : Int32) v_tokenAt v_token v_value v_faultAt (0 : Int32) v_greatUpper v_greatLower A_now A_undos A_seen A_seenAs A_isKept A_kept A_text z1 A_fewest A_doors A_isSo _ z2 e2) gg_X11_59 hd_Mo_blanks ⟨rfl, rfl, Nat.le_of_ble_eq_true rfl, Nat.le_of_ble_eq_true rfl⟩ ⟨Nat.zero_le _, Nat.zero_le _⟩ hP hD hS hA [0, 1, 2, 3, 4, 5, 6, 7, 8, 9, 10, 11] [] [0, 1, 2, 3, 4, 5, 6, 7, 8, 9, 10, 11] rfl rfl (by decide) (by decide) rfl rfl rfl rfl rfl hl.1 rfl (Nat.le_of_ble_eq_true rfl) dX11_readings_20 (fun H locs hP hD hS => ?_)
  have LP23 : ∀ (n : Nat) (y23_1 : Int32) (v_readAt_23 : Int32) (v_tokenAt_23 : Int32) (v_token_23 : Int32) (v_value_23 : Int32) (v_faultAt_23 : Int32) (v_readOnce_23 : Int32) (A_read_23 : Nat → Int32) (zq23 : Nat × Int32 × Int32 × Int32 × Int32 × Int32 × Int32 × Int32 × (Nat → Int32)), f_Mo_readings_L23 v_letterMany A_text n y23_1 v_readAt_23 v_tokenAt_23 v_token_23 v_value_23 v_faultAt_23 v_readOnce_23 A_read_23 = some zq23 → ∀ (H : Heap) (locs : List Loc) (ls : Array Slot), va_P D vwCl (k_Mo cC cI cZ a_this a_now a_undos a_seen a_seenAs a_isKept a_kept a_text a_read a_fewest a_doors a_isSo v_undoMany v_undoAt v_seenMany v_letterMany v_readAt_23 v_tokenAt_23 v_token_23 v_value_23 v_faultAt_23 v_readOnce_23 v_greatUpper v_greatLower A_now A_undos A_seen A_seenAs A_isKept A_kept A_text A_read_23 A_fewest A_doors A_isSo) H → va_D A (k_Mo cC cI cZ a_this a_now a_undos a_seen a_seenAs a_isKept a_kept a_text a_read a_fewest a_doors a_isSo v_undoMany v_undoAt v_seenMany v_letterMany v_readAt_23 v_tokenAt_23 v_token_23 v_value_23 v_faultAt_23 v_readOnce_23 v_greatUpper v_greatLower A_now A_undos A_seen A_seenAs A_isKept A_kept A_text A_read_23 A_fewest A_doors A_isSo) → va_S A s.heap H locs → lv_has ls 3 [(0, .ref a_this), (1, .int y23_1)] → (zq23.1 = 0 → ∀ (H : Heap) (locs : List Loc) (ls : Array Slot), va_P D vwCl (k_Mo cC cI cZ a_this a_now a_undos a_seen a_seenAs a_isKept a_kept a_text a_read a_fewest a_doors a_isSo v_undoMany v_undoAt v_seenMany v_letterMany zq23.2.2.1 zq23.2.2.2.1 zq23.2.2.2.2.1 zq23.2.2.2.2.2.1 zq23.2.2.2.2.2.2.1 zq23.2.2.2.2.2.2.2.1 v_greatUpper v_greatLower A_now A_undos A_seen A_seenAs A_isKept A_kept A_text zq23.2.2.2.2.2.2.2.2 A_fewest A_doors A_isSo) H → va_D A (k_Mo cC cI cZ a_this a_now a_undos a_seen a_seenAs a_isKept a_kept a_text a_read a_fewest a_doors a_isSo v_undoMany v_undoAt v_seenMany v_letterMany zq23.2.2.1 zq23.2.2.2.1 zq23.2.2.2.2.1 zq23.2.2.2.2.2.1 zq23.2.2.2.2.2.2.1 zq23.2.2.2.2.2.2.2.1 v_greatUpper v_greatLower A_now A_undos A_seen A_seenAs A_isKept A_kept A_text zq23.2.2.2.2.2.2.2.2 A_fewest A_doors A_isSo) → va_S A s.heap H locs → lv_has ls 3 [(0, .ref a_this)] → W p l e (RM 6 128) s m args below meth c H locs 0 0 Q (F0 m 41 ls [])) → (zq23.1 = 1 → ∀ (H : Heap) (locs : List Loc) (ls : Array Slot), va_P D vwCl (k_Mo cC cI cZ a_this a_now a_undos a_seen a_seenAs a_isKept a_kept a_text a_read a_fewest a_doors a_isSo v_undoMany v_undoAt v_seenMany v_letterMany zq23.2.2.1 zq23.2.2.2.1 zq23.2.2.2.2.1 zq23.2.2.2.2.2.1 zq23.2.2.2.2.2.2.1 zq23.2.2.2.2.2.2.2.1 v_greatUpper v_greatLower A_now A_undos A_seen A_seenAs A_isKept A_kept A_text zq23.2.2.2.2.2.2.2.2 A_fewest A_doors A_isSo) H → va_D A (k_Mo cC cI cZ a_this a_now a_undos a_seen a_seenAs a_isKept a_kept a_text a_read a_fewest a_doors a_isSo v_undoMany v_undoAt v_seenMany v_letterMany zq23.2.2.1 zq23.2.2.2.1 zq23.2.2.2.2.1 zq23.2.2.2.2.2.1 zq23.2.2.2.2.2.2.1 zq23.2.2.2.2.2.2.2.1 v_greatUpper v_greatLower A_now A_undos A_seen A_seenAs A_isKept A_kept A_text zq23.2.2.2.2.2.2.2.2 A_fewest A_doors A_isSo) → va_S A s.heap H locs → lv_has ls 3 [(0, .ref a_this), (1, .int zq23.2.1)] → W p l e (RM 6 128) s m args below meth c H locs 0 0 Q (F0 m 59 ls [])) → W p l e (RM 6 128) s m args below meth c H locs 0 0 Q (F0 m 23 ls []) := by
    clear h
    intro n
    induction n with
    | zero =>
      intro y23_1 v_readAt_23 v_tokenAt_23 v_token_23 v_value_23 v_faultAt_23 v_readOnce_23 A_read_23 zq23 h
      rw [f_Mo_readings_L23_0] at h
      cases h
    | succ n ih23 =>
      intro y23_1 v_readAt_23 v_tokenAt_23 v_token_23 v_value_23 v_faultAt_23 v_readOnce_23 A_read_23 zq23 h H locs ls hP hD hS hl k23_0 k23_1
      rw [f_Mo_readings_L23_s] at h
      refine lv_aload_n hx hb dX11_readings_23 rfl (lv_at hl 0 rfl) ?_
      refine va_get (ci := 11) (v := .int v_readAt_23) (C := RX11) (T := TX11) (N := 23) hx hb htT inlX11 hown hK hP 0 rfl rfl 11 (by decide) (htT _ q_13_22) (fun _ h9 => h9) rfl dX11_readings_24 ?_
      refine lv_aload_n hx hb dX11_readings_27 rfl (lv_at hl 0 rfl) ?_
      refine va_get (ci := 11) (v := .int v_letterMany) (C := RX11) (T := TX11) (N := 23) hx hb htT inlX11 hown hK hP 0 rfl rfl 9 (by decide) (htT _ q_8_11) (fun _ h9 => h9) rfl dX11_readings_28 ?_
      refine lv_icmp_ge (tgt := 59) hx hb dX11_readings_31 (by decide) (fun c4 => ?_) (fun c4 => ?_)
      · have h := ip c4 h
        obtain rfl := Option.some.inj h
        exact k23_1 rfl _ _ _ hP hD hS (lv_sub hl [0, 1] rfl)
      · have h := im c4 h
        refine lv_aload_n hx hb dX11_readings_34 rfl (lv_at hl 0 rfl) ?_
        obtain ⟨z5, e5, h⟩ := bd h
        refine muV (ws' := (k_Mo cC cI cZ a_this a_now a_undos a_seen a_seenAs a_isKept a_kept a_text a_read a_fewest a_doors a_isSo v_undoMany v_undoAt v_seenMany v_letterMany z5.2.1 z5.2.2.1 z5.2.2.2.1 z5.2.2.2.2.1 z5.2.2.2.2.2.1 z5.2.2.2.2.2.2.1 v_greatUpper v_greatLower A_now A_undos A_seen A_seenAs A_isKept A_kept A_text z5.2.2.2.2.2.2.2 A_fewest A_doors A_isSo)) X [] [] (c_Mo_readsItem l D cC cI cZ a_this a_now a_undos a_seen a_seenAs a_isKept a_kept a_text a_read a_fewest a_doors a_isSo v_undoMany v_undoAt v_seenMany v_letterMany v_readAt_23 v_tokenAt_23 v_token_23 v_value_23 v_faultAt_23 v_readOnce_23 v_greatUpper v_greatLower A_now A_undos A_seen A_seenAs A_isKept A_kept A_text A_read_23 A_fewest A_doors A_isSo _ z5 e5) gg_X11_104 hd_Mo_readsItem ⟨rfl, rfl, Nat.le_of_ble_eq_true rfl, Nat.le_of_ble_eq_true rfl⟩ ⟨Nat.zero_le _, Nat.zero_le _⟩ hP hD hS hA [0, 1, 2, 3, 4, 5, 6, 7, 8, 9, 10, 11] [] [0, 1, 2, 3, 4, 5, 6, 7, 8, 9, 10, 11] rfl rfl (by decide) (by decide) rfl rfl rfl rfl rfl hl.1 rfl (Nat.le_of_ble_eq_true rfl) dX11_readings_35 (fun H locs hP hD hS n5 => ?_)
        refine lv_if_ne (tgt := 49) hx hb dX11_readings_38 (by decide) (fun c6 => ?_) (fun c6 => ?_)
        · have h := im c6 h
          refine lv_iinc (v := (y23_1 + (1 : Int32))) (lv' := [(1, .int (y23_1 + (1 : Int32))), (0, .ref a_this)]) hx hb dX11_readings_49 hl (k := 1) rfl rfl (by decide) rfl (fun ls hl => ?_)
          refine lv_aload_n hx hb dX11_readings_52 rfl (lv_at hl 1 rfl) ?_
          obtain ⟨z7, e7, h⟩ := bd h
          refine muVV (ws' := (k_Mo cC cI cZ a_this a_now a_undos a_seen a_seenAs a_isKept a_kept a_text a_read a_fewest a_doors a_isSo v_undoMany v_undoAt v_seenMany v_letterMany z7 z5.2.2.1 z5.2.2.2.1 z5.2.2.2.2.1 z5.2.2.2.2.2.1 z5.2.2.2.2.2.2.1 v_greatUpper v_greatLower A_now A_undos A_seen A_seenAs A_isKept A_kept A_text z5.2.2.2.2.2.2.2 A_fewest A_doors A_isSo)) X [] [] (c_Mo_blanks l D cC cI cZ a_this a_now a_undos a_seen a_seenAs a_isKept a_kept a_text a_read a_fewest a_doors a_isSo v_undoMany v_undoAt v_seenMany v_letterMany z5.2.1 z5.2.2.1 z5.2.2.2.1 z5.2.2.2.2.1 z5.2.2.2.2.2.1 z5.2.2.2.2.2.2.1 v_greatUpper v_greatLower A_now A_undos A_seen A_seenAs A_isKept A_kept A_text z5.2.2.2.2.2.2.2 A_fewest A_doors A_isSo _ z7 e7) gg_X11_59 hd_Mo_blanks ⟨rfl, rfl, Nat.le_of_ble_eq_true rfl, Nat.le_of_ble_eq_true rfl⟩ ⟨Nat.zero_le _, Nat.zero_le _⟩ hP hD hS hA [0, 1, 2, 3, 4, 5, 6, 7, 8, 9, 10, 11] [] [0, 1, 2, 3, 4, 5, 6, 7, 8, 9, 10, 11] rfl rfl (by decide) (by decide) rfl rfl rfl rfl rfl hl.1 rfl (Nat.le_of_ble_eq_true rfl) dX11_readings_53 (fun H locs hP hD hS => ?_)
          refine lv_goto (tgt := 23) hx hb dX11_readings_56 (by decide) ?_
          exact ih23 (y23_1 + (1 : Int32)) z7 z5.2.2.1 z5.2.2.2.1 z5.2.2.2.2.1 z5.2.2.2.2.2.1 z5.2.2.2.2.2.2.1 z5.2.2.2.2.2.2.2 _ h _ _ _ hP hD hS (lv_sub hl [1, 0] rfl) k23_0 k23_1
        · have h := ip c6 h
          obtain rfl := Option.some.inj h
          exact k23_0 rfl _ _ _ hP hD hS (lv_sub hl [0] rfl)
  obtain ⟨z3, e3, h⟩ := bd h
  refine LP23 fu (0 : Int32) z2 v_tokenAt v_token v_value v_faultAt (0 : Int32) z1 z3 e3 _ _ _ hP hD hS (lv_sub hl [1, 0] rfl) ?_ ?_
  · intro t3 H locs ls hP hD hS hl
    have h := ip t3 h
    refine lv_bipush (v := (-10 : Int32)) hx hb dX11_readings_41 rfl ?_
    refine lv_aload_n hx hb dX11_readings_43 rfl (lv_at hl 0 rfl) ?_
    refine va_get (ci := 11) (v := .int z3.2.2.2.2.2.2.1) (C := RX11) (T := TX11) (N := 23) hx hb htT inlX11 hown hK hP 0 rfl rfl 15 (by decide) (htT _ q_13_23) (fun _ h9 => h9) rfl dX11_readings_44 ?_
    refine lv_isub hx hb dX11_readings_47 ?_
    obtain rfl := Option.some.inj h
    exact hret _ _ _ _ _ hP hS dX11_readings_48 rfl rfl
  · intro t3 H locs ls hP hD hS hl
    have h := im (by rw [t3]; decide) h
    refine lv_aload_n hx hb dX11_readings_59 rfl (lv_at hl 0 rfl) ?_
    refine lv_iconst (v := (0 : Int32)) hx hb dX11_readings_60 rfl ?_
    refine va_put (ci := 11) (v := .int (0 : Int32)) (ty := .int) (C := RX11) (T := TX11) (N := 23) hx hb htT inlX11 tyX11 tyX11_ok nmX11 hown hK hP hD hS 0 rfl rfl 9 (by decide) (htT _ q_8_11) (fun _ h9 => h9) rfl (tyX11_ok 9 (by decide)) rfl rfl (Nat.le_of_ble_eq_true rfl) dX11_readings_61 (fun H locs hP hD hS => ?_)
    have hP : va_P D vwCl (k_Mo cC cI cZ a_this a_now a_undos a_seen a_seenAs a_isKept a_kept a_text a_read a_fewest a_doors a_isSo v_undoMany v_undoAt v_seenMany (0 : Int32) z3.2.2.1 z3.2.2.2.1 z3.2.2.2.2.1 z3.2.2.2.2.2.1 z3.2.2.2.2.2.2.1 z3.2.2.2.2.2.2.2.1 v_greatUpper v_greatLower A_now A_undos A_seen A_seenAs A_isKept A_kept A_text z3.2.2.2.2.2.2.2.2 A_fewest A_doors A_isSo) H := hP
    have hD : va_D A (k_Mo cC cI cZ a_this a_now a_undos a_seen a_seenAs a_isKept a_kept a_text a_read a_fewest a_doors a_isSo v_undoMany v_undoAt v_seenMany (0 : Int32) z3.2.2.1 z3.2.2.2.1 z3.2.2.2.2.1 z3.2.2.2.2.2.1 z3.2.2.2.2.2.2.1 z3.2.2.2.2.2.2.2.1 v_greatUpper v_greatLower A_now A_undos A_seen A_seenAs A_isKept A_kept A_text z3.2.2.2.2.2.2.2.2 A_fewest A_doors A_isSo) := hD
    refine lv_iconst (v := (0 : Int32)) hx hb dX11_readings_64 rfl ?_
    refine lv_istore_n (lv' := [(2, .int (0 : Int32)), (0, .ref a_this), (1, .int z3.2.1)]) hx hb dX11_readings_65 rfl hl (by decide) rfl (fun ls hl => ?_)
    have LP66 : ∀ (n : Nat) (y66_2 : Int32) (A_now_66 : Nat → Int32) (zq66 : (Nat → Int32)), f_Mo_readings_L66 z3.2.1 z3.2.2.2.2.2.2.2.2 n y66_2 A_now_66 = some zq66 → ∀ (H : Heap) (locs : List Loc) (ls : Array Slot), va_P D vwCl (k_Mo cC cI cZ a_this a_now a_undos a_seen a_seenAs a_isKept a_kept a_text a_read a_fewest a_doors a_isSo v_undoMany v_undoAt v_seenMany (0 : Int32) z3.2.2.1 z3.2.2.2.1 z3.2.2.2.2.1 z3.2.2.2.2.2.1 z3.2.2.2.2.2.2.1 z3.2.2.2.2.2.2.2.1 v_greatUpper v_greatLower A_now_66 A_undos A_seen A_seenAs A_isKept A_kept A_text z3.2.2.2.2.2.2.2.2 A_fewest A_doors A_isSo) H → va_D A (k_Mo cC cI cZ a_this a_now a_undos a_seen a_seenAs a_isKept a_kept a_text a_read a_fewest a_doors a_isSo v_undoMany v_undoAt v_seenMany (0 : Int32) z3.2.2.1 z3.2.2.2.1 z3.2.2.2.2.1 z3.2.2.2.2.2.1 z3.2.2.2.2.2.2.1 z3.2.2.2.2.2.2.2.1 v_greatUpper v_greatLower A_now_66 A_undos A_seen A_seenAs A_isKept A_kept A_text z3.2.2.2.2.2.2.2.2 A_fewest A_doors A_isSo) → va_S A s.heap H locs → lv_has ls 3 [(0, .ref a_this), (1, .int z3.2.1), (2, .int y66_2)] → (∀ (H : Heap) (locs : List Loc) (ls : Array Slot), va_P D vwCl (k_Mo cC cI cZ a_this a_now a_undos a_seen a_seenAs a_isKept a_kept a_text a_read a_fewest a_doors a_isSo v_undoMany v_undoAt v_seenMany (0 : Int32) z3.2.2.1 z3.2.2.2.1 z3.2.2.2.2.1 z3.2.2.2.2.2.1 z3.2.2.2.2.2.2.1 z3.2.2.2.2.2.2.2.1 v_greatUpper v_greatLower zq66 A_undos A_seen A_seenAs A_isKept A_kept A_text z3.2.2.2.2.2.2.2.2 A_fewest A_doors A_isSo) H → va_D A (k_Mo cC cI cZ a_this a_now a_undos a_seen a_seenAs a_isKept a_kept a_text a_read a_fewest a_doors a_isSo v_undoMany v_undoAt v_seenMany (0 : Int32) z3.2.2.1 z3.2.2.2.1 z3.2.2.2.2.1 z3.2.2.2.2.2.1 z3.2.2.2.2.2.2.1 z3.2.2.2.2.2.2.2.1 v_greatUpper v_greatLower zq66 A_undos A_seen A_seenAs A_isKept A_kept A_text z3.2.2.2.2.2.2.2.2 A_fewest A_doors A_isSo) → va_S A s.heap H locs → lv_has ls 3 [(0, .ref a_this), (1, .int z3.2.1)] → W p l e (RM 6 128) s m args below meth c H locs 0 0 Q (F0 m 90 ls [])) → W p l e (RM 6 128) s m args below meth c H locs 0 0 Q (F0 m 66 ls []) := by
      clear h
      intro n
      induction n with
      | zero =>
        intro y66_2 A_now_66 zq66 h
        rw [f_Mo_readings_L66_0] at h
        cases h
      | succ n ih66 =>
        intro y66_2 A_now_66 zq66 h H locs ls hP hD hS hl k66_0
        rw [f_Mo_readings_L66_s] at h
        refine lv_iload_n hx hb dX11_readings_66 rfl (lv_at hl 2 rfl) ?_
        refine lv_bipush (v := (31 : Int32)) hx hb dX11_readings_67 rfl ?_
        refine lv_icmp_ge (tgt := 90) hx hb dX11_readings_69 (by decide) (fun c9 => ?_) (fun c9 => ?_)
        · have h := ip c9 h
          obtain rfl := Option.some.inj h
          exact k66_0 _ _ _ hP hD hS (lv_sub hl [0, 1] rfl)
        · have h := im c9 h
          refine lv_aload_n hx hb dX11_readings_72 rfl (lv_at hl 0 rfl) ?_
          refine va_get (ci := 11) (v := .ref a_now) (C := RX11) (T := TX11) (N := 23) hx hb htT inlX11 hown hK hP 0 rfl rfl 0 (by decide) (htT _ q_7_0) (fun _ h9 => h9) rfl dX11_readings_73 ?_
          refine lv_iload_n hx hb dX11_readings_76 rfl (lv_at hl 2 rfl) ?_
          refine lv_aload_n hx hb dX11_readings_77 rfl (lv_at hl 0 rfl) ?_
          refine va_get (ci := 11) (v := .ref a_read) (C := RX11) (T := TX11) (N := 23) hx hb htT inlX11 hown hK hP 0 rfl rfl 17 (by decide) (htT _ q_7_8) (fun _ h9 => h9) rfl dX11_readings_78 ?_
          refine lv_iload_n hx hb dX11_readings_81 rfl (lv_at hl 2 rfl) ?_
          obtain ⟨g10, h⟩ := gd h
          refine va_iald hx hb hK hP 8 1 rfl rfl (inB_in g10) dX11_readings_82 ?_
          obtain ⟨g11, h⟩ := gd h
          refine va_iast hx hb hK hP hD hS 1 1 rfl rfl (inB_in g11) dX11_readings_83 (fun H locs hP hD hS => ?_)
          have hP : va_P D vwCl (k_Mo cC cI cZ a_this a_now a_undos a_seen a_seenAs a_isKept a_kept a_text a_read a_fewest a_doors a_isSo v_undoMany v_undoAt v_seenMany (0 : Int32) z3.2.2.1 z3.2.2.2.1 z3.2.2.2.2.1 z3.2.2.2.2.2.1 z3.2.2.2.2.2.2.1 z3.2.2.2.2.2.2.2.1 v_greatUpper v_greatLower (upd A_now_66 (y66_2).toNatClampNeg (z3.2.2.2.2.2.2.2.2 (y66_2).toNatClampNeg)) A_undos A_seen A_seenAs A_isKept A_kept A_text z3.2.2.2.2.2.2.2.2 A_fewest A_doors A_isSo) H := hP
          have hD : va_D A (k_Mo cC cI cZ a_this a_now a_undos a_seen a_seenAs a_isKept a_kept a_text a_read a_fewest a_doors a_isSo v_undoMany v_undoAt v_seenMany (0 : Int32) z3.2.2.1 z3.2.2.2.1 z3.2.2.2.2.1 z3.2.2.2.2.2.1 z3.2.2.2.2.2.2.1 z3.2.2.2.2.2.2.2.1 v_greatUpper v_greatLower (upd A_now_66 (y66_2).toNatClampNeg (z3.2.2.2.2.2.2.2.2 (y66_2).toNatClampNeg)) A_undos A_seen A_seenAs A_isKept A_kept A_text z3.2.2.2.2.2.2.2.2 A_fewest A_doors A_isSo) := hD
          refine lv_iinc (v := (y66_2 + (1 : Int32))) (lv' := [(2, .int (y66_2 + (1 : Int32))), (0, .ref a_this), (1, .int z3.2.1)]) hx hb dX11_readings_84 hl (k := 2) rfl rfl (by decide) rfl (fun ls hl => ?_)
          refine lv_goto (tgt := 66) hx hb dX11_readings_87 (by decide) ?_
          exact ih66 (y66_2 + (1 : Int32)) (upd A_now_66 (y66_2).toNatClampNeg (z3.2.2.2.2.2.2.2.2 (y66_2).toNatClampNeg)) _ h _ _ _ hP hD hS (lv_sub hl [1, 2, 0] rfl) k66_0
    obtain ⟨z8, e8, h⟩ := bd h
    refine LP66 fu (0 : Int32) A_now z8 e8 _ _ _ hP hD hS (lv_sub hl [1, 2, 0] rfl) ?_
    intro H locs ls hP hD hS hl
    refine lv_aload_n hx hb dX11_readings_90 rfl (lv_at hl 0 rfl) ?_
    refine lv_iconst (v := (0 : Int32)) hx hb dX11_readings_91 rfl ?_
    refine va_put (ci := 11) (v := .int (0 : Int32)) (ty := .int) (C := RX11) (T := TX11) (N := 23) hx hb htT inlX11 tyX11 tyX11_ok nmX11 hown hK hP hD hS 0 rfl rfl 1 (by decide) (htT _ q_14_0) (fun _ h9 => h9) rfl (tyX11_ok 1 (by decide)) rfl rfl (Nat.le_of_ble_eq_true rfl) dX11_readings_92 (fun H locs hP hD hS => ?_)
    have hP : va_P D vwCl (k_Mo cC cI cZ a_this a_now a_undos a_seen a_seenAs a_isKept a_kept a_text a_read a_fewest a_doors a_isSo (0 : Int32) v_undoAt v_seenMany (0 : Int32) z3.2.2.1 z3.2.2.2.1 z3.2.2.2.2.1 z3.2.2.2.2.2.1 z3.2.2.2.2.2.2.1 z3.2.2.2.2.2.2.2.1 v_greatUpper v_greatLower z8 A_undos A_seen A_seenAs A_isKept A_kept A_text z3.2.2.2.2.2.2.2.2 A_fewest A_doors A_isSo) H := hP
    have hD : va_D A (k_Mo cC cI cZ a_this a_now a_undos a_seen a_seenAs a_isKept a_kept a_text a_read a_fewest a_doors a_isSo (0 : Int32) v_undoAt v_seenMany (0 : Int32) z3.2.2.1 z3.2.2.2.1 z3.2.2.2.2.1 z3.2.2.2.2.2.1 z3.2.2.2.2.2.2.1 z3.2.2.2.2.2.2.2.1 v_greatUpper v_greatLower z8 A_undos A_seen A_seenAs A_isKept A_kept A_text z3.2.2.2.2.2.2.2.2 A_fewest A_doors A_isSo) := hD
    refine lv_aload_n hx hb dX11_readings_95 rfl (lv_at hl 0 rfl) ?_
    refine lv_iconst (v := (0 : Int32)) hx hb dX11_readings_96 rfl ?_
    refine va_put (ci := 11) (v := .int (0 : Int32)) (ty := .int) (C := RX11) (T := TX11) (N := 23) hx hb htT inlX11 tyX11 tyX11_ok nmX11 hown hK hP hD hS 0 rfl rfl 4 (by decide) (htT _ q_14_1) (fun _ h9 => h9) rfl (tyX11_ok 4 (by decide)) rfl rfl (Nat.le_of_ble_eq_true rfl) dX11_readings_97 (fun H locs hP hD hS => ?_)
    have hP : va_P D vwCl (k_Mo cC cI cZ a_this a_now a_undos a_seen a_seenAs a_isKept a_kept a_text a_read a_fewest a_doors a_isSo (0 : Int32) v_undoAt (0 : Int32) (0 : Int32) z3.2.2.1 z3.2.2.2.1 z3.2.2.2.2.1 z3.2.2.2.2.2.1 z3.2.2.2.2.2.2.1 z3.2.2.2.2.2.2.2.1 v_greatUpper v_greatLower z8 A_undos A_seen A_seenAs A_isKept A_kept A_text z3.2.2.2.2.2.2.2.2 A_fewest A_doors A_isSo) H := hP
    have hD : va_D A (k_Mo cC cI cZ a_this a_now a_undos a_seen a_seenAs a_isKept a_kept a_text a_read a_fewest a_doors a_isSo (0 : Int32) v_undoAt (0 : Int32) (0 : Int32) z3.2.2.1 z3.2.2.2.1 z3.2.2.2.2.1 z3.2.2.2.2.2.1 z3.2.2.2.2.2.2.1 z3.2.2.2.2.2.2.2.1 v_greatUpper v_greatLower z8 A_undos A_seen A_seenAs A_isKept A_kept A_text z3.2.2.2.2.2.2.2.2 A_fewest A_doors A_isSo) := hD
    refine lv_aload_n hx hb dX11_readings_100 rfl (lv_at hl 0 rfl) ?_
    refine va_get (ci := 11) (v := .ref a_isKept) (C := RX11) (T := TX11) (N := 23) hx hb htT inlX11 hown hK hP 0 rfl rfl 7 (by decide) (htT _ q_7_5) (fun _ h9 => h9) rfl dX11_readings_101 ?_
    refine lv_iconst (v := (0 : Int32)) hx hb dX11_readings_104 rfl ?_
    refine lv_iconst (v := (0 : Int32)) hx hb dX11_readings_105 rfl ?_
    obtain ⟨g12, h⟩ := gd h
    refine va_zast hx hb hK hP hD hS 5 2 rfl rfl (inB_in g12) dX11_readings_106 (fun H locs hP hD hS => ?_)
    have hP : va_P D vwCl (k_Mo cC cI cZ a_this a_now a_undos a_seen a_seenAs a_isKept a_kept a_text a_read a_fewest a_doors a_isSo (0 : Int32) v_undoAt (0 : Int32) (0 : Int32) z3.2.2.1 z3.2.2.2.1 z3.2.2.2.2.1 z3.2.2.2.2.2.1 z3.2.2.2.2.2.2.1 z3.2.2.2.2.2.2.2.1 v_greatUpper v_greatLower z8 A_undos A_seen A_seenAs (upd A_isKept ((0 : Int32)).toNatClampNeg (vp_nar .boolean (0 : Int32))) A_kept A_text z3.2.2.2.2.2.2.2.2 A_fewest A_doors A_isSo) H := hP
    have hD : va_D A (k_Mo cC cI cZ a_this a_now a_undos a_seen a_seenAs a_isKept a_kept a_text a_read a_fewest a_doors a_isSo (0 : Int32) v_undoAt (0 : Int32) (0 : Int32) z3.2.2.1 z3.2.2.2.1 z3.2.2.2.2.1 z3.2.2.2.2.2.1 z3.2.2.2.2.2.2.1 z3.2.2.2.2.2.2.2.1 v_greatUpper v_greatLower z8 A_undos A_seen A_seenAs (upd A_isKept ((0 : Int32)).toNatClampNeg (vp_nar .boolean (0 : Int32))) A_kept A_text z3.2.2.2.2.2.2.2.2 A_fewest A_doors A_isSo) := hD
    refine lv_aload_n hx hb dX11_readings_107 rfl (lv_at hl 0 rfl) ?_
    refine va_get (ci := 11) (v := .ref a_isKept) (C := RX11) (T := TX11) (N := 23) hx hb htT inlX11 hown hK hP 0 rfl rfl 7 (by decide) (htT _ q_7_5) (fun _ h9 => h9) rfl dX11_readings_108 ?_
    refine lv_iconst (v := (1 : Int32)) hx hb dX11_readings_111 rfl ?_
    refine lv_iconst (v := (0 : Int32)) hx hb dX11_readings_112 rfl ?_
    obtain ⟨g13, h⟩ := gd h
    refine va_zast hx hb hK hP hD hS 5 2 rfl rfl (inB_in g13) dX11_readings_113 (fun H locs hP hD hS => ?_)
    have hP : va_P D vwCl (k_Mo cC cI cZ a_this a_now a_undos a_seen a_seenAs a_isKept a_kept a_text a_read a_fewest a_doors a_isSo (0 : Int32) v_undoAt (0 : Int32) (0 : Int32) z3.2.2.1 z3.2.2.2.1 z3.2.2.2.2.1 z3.2.2.2.2.2.1 z3.2.2.2.2.2.2.1 z3.2.2.2.2.2.2.2.1 v_greatUpper v_greatLower z8 A_undos A_seen A_seenAs (upd (upd A_isKept ((0 : Int32)).toNatClampNeg (vp_nar .boolean (0 : Int32))) ((1 : Int32)).toNatClampNeg (vp_nar .boolean (0 : Int32))) A_kept A_text z3.2.2.2.2.2.2.2.2 A_fewest A_doors A_isSo) H := hP
    have hD : va_D A (k_Mo cC cI cZ a_this a_now a_undos a_seen a_seenAs a_isKept a_kept a_text a_read a_fewest a_doors a_isSo (0 : Int32) v_undoAt (0 : Int32) (0 : Int32) z3.2.2.1 z3.2.2.2.1 z3.2.2.2.2.1 z3.2.2.2.2.2.1 z3.2.2.2.2.2.2.1 z3.2.2.2.2.2.2.2.1 v_greatUpper v_greatLower z8 A_undos A_seen A_seenAs (upd (upd A_isKept ((0 : Int32)).toNatClampNeg (vp_nar .boolean (0 : Int32))) ((1 : Int32)).toNatClampNeg (vp_nar .boolean (0 : Int32))) A_kept A_text z3.2.2.2.2.2.2.2.2 A_fewest A_doors A_isSo) := hD
    refine lv_iload_n hx hb dX11_readings_114 rfl (lv_at hl 1 rfl) ?_
    obtain rfl := Option.some.inj h
    exact hret _ _ _ _ _ hP hS dX11_readings_115 rfl rfl
set_option maxHeartbeats 4000000 in
set_option maxRecDepth 100000 in
theorem c_Mo_sees (l : Launch) (D : va_G) (cC cI cZ : ClassId) (a_this : Nat) (a_now : Nat) (a_undos : Nat) (a_seen : Nat) (a_seenAs : Nat) (a_isKept : Nat) (a_kept : Nat) (a_text : Nat) (a_read : Nat) (a_fewest : Nat) (a_doors : Nat) (a_isSo : Nat) (v_undoMany : Int32) (v_undoAt : Int32) (v_seenMany : Int32) (v_letterMany : Int32) (v_readAt : Int32) (v_tokenAt : Int32) (v_token : Int32) (v_value : Int32) (v_faultAt : Int32) (v_readOnce : Int32) (v_greatUpper : Int64) (v_greatLower : Int64) (A_now : Nat → Int32) (A_undos : Nat → Int32) (A_seen : Nat → Int32) (A_seenAs : Nat → Int32) (A_isKept : Nat → Int32) (A_kept : Nat → Int32) (A_text : Nat → Int32) (A_read : Nat → Int32) (A_fewest : Nat → Int32) (A_doors : Nat → Int32) (A_isSo : Nat → Int32) (p1 : Int32) (p2 : Int32) (sz : Nat) (z : Int32 × Int32 × (Nat → Int32) × (Nat → Int32)) (h : f_Mo_sees v_seenMany A_now A_seen A_seenAs p1 p2 = some z) : Met l yX11_sees (.code yX11_sees cX11_sees 3 (some .int) :: TBL) (RM 3 64) (PcM [.ref a_this, .int p1, .int p2] sz D (TY cC cI cZ) (k_Mo cC cI cZ a_this a_now a_undos a_seen a_seenAs a_isKept a_kept a_text a_read a_fewest a_doors a_isSo v_undoMany v_undoAt v_seenMany v_letterMany v_readAt v_tokenAt v_token v_value v_faultAt v_readOnce v_greatUpper v_greatLower A_now A_undos A_seen A_seenAs A_isKept A_kept A_text A_read A_fewest A_doors A_isSo)) (fun a st o t => QM (some (.int z.1)) D (k_Mo cC cI cZ a_this a_now a_undos a_seen a_seenAs a_isKept a_kept a_text a_read a_fewest a_doors a_isSo v_undoMany v_undoAt z.2.1 v_letterMany v_readAt v_tokenAt v_token v_value v_faultAt v_readOnce v_greatUpper v_greatLower A_now A_undos z.2.2.1 z.2.2.2 A_isKept A_kept A_text A_read A_fewest A_doors A_isSo) (va_A (k_Mo cC cI cZ a_this a_now a_undos a_seen a_seenAs a_isKept a_kept a_text a_read a_fewest a_doors a_isSo v_undoMany v_undoAt v_seenMany v_letterMany v_readAt v_tokenAt v_token v_value v_faultAt v_readOnce v_greatUpper v_greatLower A_now A_undos A_seen A_seenAs A_isKept A_kept A_text A_read A_fewest A_doors A_isSo) sz) a st o t ∧ narrow .int (.int z.1) = .int z.1) 0 0 (va_A (k_Mo cC cI cZ a_this a_now a_undos a_seen a_seenAs a_isKept a_kept a_text a_read a_fewest a_doors a_isSo v_undoMany v_undoAt v_seenMany v_letterMany v_readAt v_tokenAt v_token v_value v_faultAt v_readOnce v_greatUpper v_greatLower A_now A_undos A_seen A_seenAs A_isKept A_kept A_text A_read A_fewest A_doors A_isSo) sz) := by
  refine muOf (by decide) (Nat.le_of_ble_eq_true rfl) rfl ?_
  intro p e s m args below meth c Q ls A X hP hD hS hA hl hret
  have X : Ctx p s m args c cX11_sees 3 RX11 D (TY cC cI cZ) := X
  obtain ⟨hx, hb, hml, hown, htT, hK, hN⟩ := id X
  unfold f_Mo_sees at h
  refine lv_aload_n hx hb dX11_sees_0 rfl (lv_at hl 0 rfl) ?_
  refine lv_iload_n hx hb dX11_sees_1 rfl (lv_at hl 1 rfl) ?_
  obtain ⟨r1, e1, h⟩ := bd h
  refine roV X [.int p1] [] (c_Mo_isKnown l D cC cI cZ a_this a_now a_undos a_seen a_seenAs a_isKept a_kept a_text a_read a_fewest a_doors a_isSo v_undoMany v_undoAt v_seenMany v_letterMany v_readAt v_tokenAt v_token v_value v_faultAt v_readOnce v_greatUpper v_greatLower A_now A_undos A_seen A_seenAs A_isKept A_kept A_text A_read A_fewest A_doors A_isSo p1 r1 e1) gg_X11_130 hd_Mo_isKnown ⟨rfl, rfl, Nat.le_of_ble_eq_true rfl, Nat.le_of_ble_eq_true rfl⟩ ⟨Nat.zero_le _, Nat.zero_le _⟩ hP [0, 1, 2, 3, 4, 5, 6, 7, 8, 9, 10, 11] rfl rfl rfl rfl hl.1 rfl (Nat.le_of_ble_eq_true rfl) dX11_sees_2 (fun n1 => ?_)
  refine lv_if_eq (tgt := 17) hx hb dX11_sees_5 (by decide) (fun c2 => ?_) (fun c2 => ?_)
  · have h := ip c2 h
    refine lv_iconst (v := (-1 : Int32)) hx hb dX11_sees_17 rfl ?_
    obtain rfl := Option.some.inj h
    exact hret _ _ _ _ _ hP hS dX11_sees_18 rfl rfl
  · have h := im c2 h
    refine lv_iload_n hx hb dX11_sees_8 rfl (lv_at hl 2 rfl) ?_
    refine lv_iconst (v := (0 : Int32)) hx hb dX11_sees_9 rfl ?_
    refine lv_iconst (v := (1 : Int32)) hx hb dX11_sees_10 rfl ?_
    refine roS X [.int p2, .int (0 : Int32), .int (1 : Int32)] [] (c_Mo_in l D cC cI cZ p2 (0 : Int32) (1 : Int32) _ rfl) gg_X11_48 hd_Mo_in ⟨rfl, rfl, Nat.le_of_ble_eq_true rfl, Nat.le_of_ble_eq_true rfl⟩ ⟨Nat.zero_le _, Nat.zero_le _⟩ hP [] rfl hl.1 rfl (Nat.le_of_ble_eq_true rfl) dX11_sees_11 (fun n3 => ?_)
    refine lv_if_ne (tgt := 19) hx hb dX11_sees_14 (by decide) (fun c4 => ?_) (fun c4 => ?_)
    · have h := im c4 h
      refine lv_aload_n hx hb dX11_sees_19 rfl (lv_at hl 0 rfl) ?_
      refine va_get (ci := 11) (v := .int v_seenMany) (C := RX11) (T := TX11) (N := 23) hx hb htT inlX11 hown hK hP 0 rfl rfl 4 (by decide) (htT _ q_14_1) (fun _ h9 => h9) rfl dX11_sees_20 ?_
      refine lv_bipush (v := (6 : Int32)) hx hb dX11_sees_23 rfl ?_
      refine lv_icmp_ne (tgt := 31) hx hb dX11_sees_25 (by decide) (fun c5 => ?_) (fun c5 => ?_)
      · have h := im c5 h
        refine lv_aload_n hx hb dX11_sees_31 rfl (lv_at hl 0 rfl) ?_
        refine va_get (ci := 11) (v := .ref a_seen) (C := RX11) (T := TX11) (N := 23) hx hb htT inlX11 hown hK hP 0 rfl rfl 5 (by decide) (htT _ q_7_2) (fun _ h9 => h9) rfl dX11_sees_32 ?_
        refine lv_aload_n hx hb dX11_sees_35 rfl (lv_at hl 0 rfl) ?_
        refine va_get (ci := 11) (v := .int v_seenMany) (C := RX11) (T := TX11) (N := 23) hx hb htT inlX11 hown hK hP 0 rfl rfl 4 (by decide) (htT _ q_14_1) (fun _ h9 => h9) rfl dX11_sees_36 ?_
        refine lv_iload_n hx hb dX11_sees_39 rfl (lv_at hl 1 rfl) ?_
        obtain ⟨g6, h⟩ := gd h
        refine va_iast hx hb hK hP hD hS 3 1 rfl rfl (inB_in g6) dX11_sees_40 (fun H locs hP hD hS => ?_)
        have hP : va_P D vwCl (k_Mo cC cI cZ a_this a_now a_undos a_seen a_seenAs a_isKept a_kept a_text a_read a_fewest a_doors a_isSo v_undoMany v_undoAt v_seenMany v_letterMany v_readAt v_tokenAt v_token v_value v_faultAt v_readOnce v_greatUpper v_greatLower A_now A_undos (upd A_seen (v_seenMany).toNatClampNeg p1) A_seenAs A_isKept A_kept A_text A_read A_fewest A_doors A_isSo) H := hP
        have hD : va_D A (k_Mo cC cI cZ a_this a_now a_undos a_seen a_seenAs a_isKept a_kept a_text a_read a_fewest a_doors a_isSo v_undoMany v_undoAt v_seenMany v_letterMany v_readAt v_tokenAt v_token v_value v_faultAt v_readOnce v_greatUpper v_greatLower A_now A_undos (upd A_seen (v_seenMany).toNatClampNeg p1) A_seenAs A_isKept A_kept A_text A_read A_fewest A_doors A_isSo) := hD
        refine lv_aload_n hx hb dX11_sees_41 rfl (lv_at hl 0 rfl) ?_
        refine va_get (ci := 11) (v := .ref a_seenAs) (C := RX11) (T := TX11) (N := 23) hx hb htT inlX11 hown hK hP 0 rfl rfl 6 (by decide) (htT _ q_7_3) (fun _ h9 => h9) rfl dX11_sees_42 ?_
        refine lv_aload_n hx hb dX11_sees_45 rfl (lv_at hl 0 rfl) ?_
        refine va_get (ci := 11) (v := .int v_seenMany) (C := RX11) (T := TX11) (N := 23) hx hb htT inlX11 hown hK hP 0 rfl rfl 4 (by decide) (htT _ q_14_1) (fun _ h9 => h9) rfl dX11_sees_46 ?_
        refine lv_iload_n hx hb dX11_sees_49 rfl (lv_at hl 2 rfl) ?_
        obtain ⟨g7, h⟩ := gd h
        refine va_iast hx hb hK hP hD hS 4 1 rfl rfl (inB_in g7) dX11_sees_50 (fun H locs hP hD hS => ?_)
        have hP : va_P D vwCl (k_Mo cC cI cZ a_this a_now a_undos a_seen a_seenAs a_isKept a_kept a_text a_read a_fewest a_doors a_isSo v_undoMany v_undoAt v_seenMany v_letterMany v_readAt v_tokenAt v_token v_value v_faultAt v_readOnce v_greatUpper v_greatLower A_now A_undos (upd A_seen (v_seenMany).toNatClampNeg p1) (upd A_seenAs (v_seenMany).toNatClampNeg p2) A_isKept A_kept A_text A_read A_fewest A_doors A_isSo) H := hP
        have hD : va_D A (k_Mo cC cI cZ a_this a_now a_undos a_seen a_seenAs a_isKept a_kept a_text a_read a_fewest a_doors a_isSo v_undoMany v_undoAt v_seenMany v_letterMany v_readAt v_tokenAt v_token v_value v_faultAt v_readOnce v_greatUpper v_greatLower A_now A_undos (upd A_seen (v_seenMany).toNatClampNeg p1) (upd A_seenAs (v_seenMany).toNatClampNeg p2) A_isKept A_kept A_text A_read A_fewest A_doors A_isSo) := hD
        refine lv_aload_n hx hb dX11_sees_51 rfl (lv_at hl 0 rfl) ?_
        refine lv_dup hx hb dX11_sees_52 rfl ?_
        refine va_get (ci := 11) (v := .int v_seenMany) (C := RX11) (T := TX11) (N := 23) hx hb htT inlX11 hown hK hP 0 rfl rfl 4 (by decide) (htT _ q_14_1) (fun _ h9 => h9) rfl dX11_sees_53 ?_
        refine lv_iconst (v := (1 : Int32)) hx hb dX11_sees_56 rfl ?_
        refine lv_iadd hx hb dX11_sees_57 ?_
        refine va_put (ci := 11) (v := .int (v_seenMany + (1 : Int32))) (ty := .int) (C := RX11) (T := TX11) (N := 23) hx hb htT inlX11 tyX11 tyX11_ok nmX11 hown hK hP hD hS 0 rfl rfl 4 (by decide) (htT _ q_14_1) (fun _ h9 => h9) rfl (tyX11_ok 4 (by decide)) rfl rfl (Nat.le_of_ble_eq_true rfl) dX11_sees_58 (fun H locs hP hD hS => ?_)
        have hP : va_P D vwCl (k_Mo cC cI cZ a_this a_now a_undos a_seen a_seenAs a_isKept a_kept a_text a_read a_fewest a_doors a_isSo v_undoMany v_undoAt (v_seenMany + (1 : Int32)) v_letterMany v_readAt v_tokenAt v_token v_value v_faultAt v_readOnce v_greatUpper v_greatLower A_now A_undos (upd A_seen (v_seenMany).toNatClampNeg p1) (upd A_seenAs (v_seenMany).toNatClampNeg p2) A_isKept A_kept A_text A_read A_fewest A_doors A_isSo) H := hP
        have hD : va_D A (k_Mo cC cI cZ a_this a_now a_undos a_seen a_seenAs a_isKept a_kept a_text a_read a_fewest a_doors a_isSo v_undoMany v_undoAt (v_seenMany + (1 : Int32)) v_letterMany v_readAt v_tokenAt v_token v_value v_faultAt v_readOnce v_greatUpper v_greatLower A_now A_undos (upd A_seen (v_seenMany).toNatClampNeg p1) (upd A_seenAs (v_seenMany).toNatClampNeg p2) A_isKept A_kept A_text A_read A_fewest A_doors A_isSo) := hD
        refine lv_aload_n hx hb dX11_sees_61 rfl (lv_at hl 0 rfl) ?_
        refine va_get (ci := 11) (v := .int (v_seenMany + (1 : Int32))) (C := RX11) (T := TX11) (N := 23) hx hb htT inlX11 hown hK hP 0 rfl rfl 4 (by decide) (htT _ q_14_1) (fun _ h9 => h9) rfl dX11_sees_62 ?_
        obtain rfl := Option.some.inj h
        exact hret _ _ _ _ _ hP hS dX11_sees_65 rfl rfl
      · have h := ip c5 h
        refine lv_bipush (v := (-3 : Int32)) hx hb dX11_sees_28 rfl ?_
        obtain rfl := Option.some.inj h
        exact hret _ _ _ _ _ hP hS dX11_sees_30 rfl rfl
    · have h := ip c4 h
      refine lv_iconst (v := (-1 : Int32)) hx hb dX11_sees_17 rfl ?_
      obtain rfl := Option.some.inj h
      exact hret _ _ _ _ _ hP hS dX11_sees_18 rfl rfl
set_option maxHeartbeats 4000000 in
set_option maxRecDepth 100000 in
theorem c_Mo_strikes (l : Launch) (D : va_G) (cC cI cZ : ClassId) (a_this : Nat) (a_now : Nat) (a_undos : Nat) (a_seen : Nat) (a_seenAs : Nat) (a_isKept : Nat) (a_kept : Nat) (a_text : Nat) (a_read : Nat) (a_fewest : Nat) (a_doors : Nat) (a_isSo : Nat) (v_undoMany : Int32) (v_undoAt : Int32) (v_seenMany : Int32) (v_letterMany : Int32) (v_readAt : Int32) (v_tokenAt : Int32) (v_token : Int32) (v_value : Int32) (v_faultAt : Int32) (v_readOnce : Int32) (v_greatUpper : Int64) (v_greatLower : Int64) (A_now : Nat → Int32) (A_undos : Nat → Int32) (A_seen : Nat → Int32) (A_seenAs : Nat → Int32) (A_isKept : Nat → Int32) (A_kept : Nat → Int32) (A_text : Nat → Int32) (A_read : Nat → Int32) (A_fewest : Nat → Int32) (A_doors : Nat → Int32) (A_isSo : Nat → Int32) (p1 : Int32) (sz : Nat) (z : Int32 × Int32 × Int32 × (Nat → Int32) × (Nat → Int32)) (h : f_Mo_strikes v_undoMany v_undoAt A_now A_undos p1 = some z) : Met l yX11_strikes (.code yX11_strikes cX11_strikes 3 (some .int) :: TBL) (RM 2 43) (PcM [.ref a_this, .int p1] sz D (TY cC cI cZ) (k_Mo cC cI cZ a_this a_now a_undos a_seen a_seenAs a_isKept a_kept a_text a_read a_fewest a_doors a_isSo v_undoMany v_undoAt v_seenMany v_letterMany v_readAt v_tokenAt v_token v_value v_faultAt v_readOnce v_greatUpper v_greatLower A_now A_undos A_seen A_seenAs A_isKept A_kept A_text A_read A_fewest A_doors A_isSo)) (fun a st o t => QM (some (.int z.1)) D (k_Mo cC cI cZ a_this a_now a_undos a_seen a_seenAs a_isKept a_kept a_text a_read a_fewest a_doors a_isSo z.2.1 z.2.2.1 v_seenMany v_letterMany v_readAt v_tokenAt v_token v_value v_faultAt v_readOnce v_greatUpper v_greatLower z.2.2.2.1 z.2.2.2.2 A_seen A_seenAs A_isKept A_kept A_text A_read A_fewest A_doors A_isSo) (va_A (k_Mo cC cI cZ a_this a_now a_undos a_seen a_seenAs a_isKept a_kept a_text a_read a_fewest a_doors a_isSo v_undoMany v_undoAt v_seenMany v_letterMany v_readAt v_tokenAt v_token v_value v_faultAt v_readOnce v_greatUpper v_greatLower A_now A_undos A_seen A_seenAs A_isKept A_kept A_text A_read A_fewest A_doors A_isSo) sz) a st o t ∧ narrow .int (.int z.1) = .int z.1) 0 0 (va_A (k_Mo cC cI cZ a_this a_now a_undos a_seen a_seenAs a_isKept a_kept a_text a_read a_fewest a_doors a_isSo v_undoMany v_undoAt v_seenMany v_letterMany v_readAt v_tokenAt v_token v_value v_faultAt v_readOnce v_greatUpper v_greatLower A_now A_undos A_seen A_seenAs A_isKept A_kept A_text A_read A_fewest A_doors A_isSo) sz) := by
  refine muOf (by decide) (Nat.le_of_ble_eq_true rfl) rfl ?_
  intro p e s m args below meth c Q ls A X hP hD hS hA hl hret
  have X : Ctx p s m args c cX11_strikes 3 RX11 D (TY cC cI cZ) := X
  obtain ⟨hx, hb, hml, hown, htT, hK, hN⟩ := id X
  unfold f_Mo_strikes at h
  refine lv_aload_n hx hb dX11_strikes_0 rfl (lv_at hl 0 rfl) ?_
  refine lv_iload_n hx hb dX11_strikes_1 rfl (lv_at hl 1 rfl) ?_
  obtain ⟨r1, e1, h⟩ := bd h
  refine roV X [.int p1] [] (c_Mo_isReading l D cC cI cZ a_this a_now a_undos a_seen a_seenAs a_isKept a_kept a_text a_read a_fewest a_doors a_isSo v_undoMany v_undoAt v_seenMany v_letterMany v_readAt v_tokenAt v_token v_value v_faultAt v_readOnce v_greatUpper v_greatLower A_now A_undos A_seen A_seenAs A_isKept A_kept A_text A_read A_fewest A_doors A_isSo p1 r1 e1) gg_X11_113 hd_Mo_isReading ⟨rfl, rfl, Nat.le_of_ble_eq_true rfl, Nat.le_of_ble_eq_true rfl⟩ ⟨Nat.zero_le _, Nat.zero_le _⟩ hP [0, 1, 2, 3, 4, 5, 6, 7, 8, 9, 10, 11] rfl rfl rfl rfl hl.1 rfl (Nat.le_of_ble_eq_true rfl) dX11_strikes_2 (fun n1 => ?_)
  refine lv_if_ne (tgt := 10) hx hb dX11_strikes_5 (by decide) (fun c2 => ?_) (fun c2 => ?_)
  · have h := im c2 h
    refine lv_aload_n hx hb dX11_strikes_10 rfl (lv_at hl 0 rfl) ?_
    obtain ⟨z3, e3, h⟩ := bd h
    refine muVV (ws' := (k_Mo cC cI cZ a_this a_now a_undos a_seen a_seenAs a_isKept a_kept a_text a_read a_fewest a_doors a_isSo z3.1 z3.2.1 v_seenMany v_letterMany v_readAt v_tokenAt v_token v_value v_faultAt v_readOnce v_greatUpper v_greatLower A_now z3.2.2 A_seen A_seenAs A_isKept A_kept A_text A_read A_fewest A_doors A_isSo)) X [] [] (c_Mo_remember l D cC cI cZ a_this a_now a_undos a_seen a_seenAs a_isKept a_kept a_text a_read a_fewest a_doors a_isSo v_undoMany v_undoAt v_seenMany v_letterMany v_readAt v_tokenAt v_token v_value v_faultAt v_readOnce v_greatUpper v_greatLower A_now A_undos A_seen A_seenAs A_isKept A_kept A_text A_read A_fewest A_doors A_isSo _ z3 e3) gg_X11_120 hd_Mo_remember ⟨rfl, rfl, Nat.le_of_ble_eq_true rfl, Nat.le_of_ble_eq_true rfl⟩ ⟨Nat.zero_le _, Nat.zero_le _⟩ hP hD hS hA [0, 1, 2, 3, 4, 5, 6, 7, 8, 9, 10, 11] [] [0, 1, 2, 3, 4, 5, 6, 7, 8, 9, 10, 11] rfl rfl (by decide) (by decide) rfl rfl rfl rfl rfl hl.1 rfl (Nat.le_of_ble_eq_true rfl) dX11_strikes_11 (fun H locs hP hD hS => ?_)
    refine lv_aload_n hx hb dX11_strikes_14 rfl (lv_at hl 0 rfl) ?_
    refine va_get (ci := 11) (v := .ref a_now) (C := RX11) (T := TX11) (N := 23) hx hb htT inlX11 hown hK hP 0 rfl rfl 0 (by decide) (htT _ q_7_0) (fun _ h9 => h9) rfl dX11_strikes_15 ?_
    refine lv_iconst (v := (0 : Int32)) hx hb dX11_strikes_18 rfl ?_
    refine lv_dup2_11 hx hb dX11_strikes_19 rfl rfl ?_
    obtain ⟨g4, h⟩ := gd h
    refine va_iald hx hb hK hP 1 1 rfl rfl (inB_in g4) dX11_strikes_20 ?_
    refine lv_iconst (v := (1 : Int32)) hx hb dX11_strikes_21 rfl ?_
    refine lv_isub hx hb dX11_strikes_22 ?_
    obtain ⟨g5, h⟩ := gd h
    refine va_iast hx hb hK hP hD hS 1 1 rfl rfl (inB_in g5) dX11_strikes_23 (fun H locs hP hD hS => ?_)
    have hP : va_P D vwCl (k_Mo cC cI cZ a_this a_now a_undos a_seen a_seenAs a_isKept a_kept a_text a_read a_fewest a_doors a_isSo z3.1 z3.2.1 v_seenMany v_letterMany v_readAt v_tokenAt v_token v_value v_faultAt v_readOnce v_greatUpper v_greatLower (upd A_now ((0 : Int32)).toNatClampNeg ((A_now ((0 : Int32)).toNatClampNeg) - (1 : Int32))) z3.2.2 A_seen A_seenAs A_isKept A_kept A_text A_read A_fewest A_doors A_isSo) H := hP
    have hD : va_D A (k_Mo cC cI cZ a_this a_now a_undos a_seen a_seenAs a_isKept a_kept a_text a_read a_fewest a_doors a_isSo z3.1 z3.2.1 v_seenMany v_letterMany v_readAt v_tokenAt v_token v_value v_faultAt v_readOnce v_greatUpper v_greatLower (upd A_now ((0 : Int32)).toNatClampNeg ((A_now ((0 : Int32)).toNatClampNeg) - (1 : Int32))) z3.2.2 A_seen A_seenAs A_isKept A_kept A_text A_read A_fewest A_doors A_isSo) := hD
    refine lv_iload_n hx hb dX11_strikes_24 rfl (lv_at hl 1 rfl) ?_
    refine lv_istore_n (lv' := [(2, .int p1), (0, .ref a_this), (1, .int p1)]) hx hb dX11_strikes_25 rfl hl (by decide) rfl (fun ls hl => ?_)
    have LP26 : ∀ (n : Nat) (y26_2 : Int32) (A_now_26 : Nat → Int32) (zq26 : (Nat → Int32)), f_Mo_strikes_L26  n y26_2 A_now_26 = some zq26 → ∀ (H : Heap) (locs : List Loc) (ls : Array Slot), va_P D vwCl (k_Mo cC cI cZ a_this a_now a_undos a_seen a_seenAs a_isKept a_kept a_text a_read a_fewest a_doors a_isSo z3.1 z3.2.1 v_seenMany v_letterMany v_readAt v_tokenAt v_token v_value v_faultAt v_readOnce v_greatUpper v_greatLower A_now_26 z3.2.2 A_seen A_seenAs A_isKept A_kept A_text A_read A_fewest A_doors A_isSo) H → va_D A (k_Mo cC cI cZ a_this a_now a_undos a_seen a_seenAs a_isKept a_kept a_text a_read a_fewest a_doors a_isSo z3.1 z3.2.1 v_seenMany v_letterMany v_readAt v_tokenAt v_token v_value v_faultAt v_readOnce v_greatUpper v_greatLower A_now_26 z3.2.2 A_seen A_seenAs A_isKept A_kept A_text A_read A_fewest A_doors A_isSo) → va_S A s.heap H locs → lv_has ls 3 [(0, .ref a_this), (2, .int y26_2)] → (∀ (H : Heap) (locs : List Loc) (ls : Array Slot), va_P D vwCl (k_Mo cC cI cZ a_this a_now a_undos a_seen a_seenAs a_isKept a_kept a_text a_read a_fewest a_doors a_isSo z3.1 z3.2.1 v_seenMany v_letterMany v_readAt v_tokenAt v_token v_value v_faultAt v_readOnce v_greatUpper v_greatLower zq26 z3.2.2 A_seen A_seenAs A_isKept A_kept A_text A_read A_fewest A_doors A_isSo) H → va_D A (k_Mo cC cI cZ a_this a_now a_undos a_seen a_seenAs a_isKept a_kept a_text a_read a_fewest a_doors a_isSo z3.1 z3.2.1 v_seenMany v_letterMany v_readAt v_tokenAt v_token v_value v_faultAt v_readOnce v_greatUpper v_greatLower zq26 z3.2.2 A_seen A_seenAs A_isKept A_kept A_text A_read A_fewest A_doors A_isSo) → va_S A s.heap H locs → lv_has ls 3 [(0, .ref a_this)] → W p l e (RM 2 43) s m args below meth c H locs 0 0 Q (F0 m 80 ls [])) → W p l e (RM 2 43) s m args below meth c H locs 0 0 Q (F0 m 26 ls []) := by
      clear h
      intro n
      induction n with
      | zero =>
        intro y26_2 A_now_26 zq26 h
        rw [f_Mo_strikes_L26_0] at h
        cases h
      | succ n ih26 =>
        intro y26_2 A_now_26 zq26 h H locs ls hP hD hS hl k26_0
        rw [f_Mo_strikes_L26_s] at h
        refine lv_iload_n hx hb dX11_strikes_26 rfl (lv_at hl 1 rfl) ?_
        refine lv_aload_n hx hb dX11_strikes_27 rfl (lv_at hl 0 rfl) ?_
        refine va_get (ci := 11) (v := .ref a_now) (C := RX11) (T := TX11) (N := 23) hx hb htT inlX11 hown hK hP 0 rfl rfl 0 (by decide) (htT _ q_7_0) (fun _ h9 => h9) rfl dX11_strikes_28 ?_
        refine lv_iconst (v := (0 : Int32)) hx hb dX11_strikes_31 rfl ?_
        obtain ⟨g7, h⟩ := gd h
        refine va_iald hx hb hK hP 1 1 rfl rfl (inB_in g7) dX11_strikes_32 ?_
        refine lv_icmp_ge (tgt := 80) hx hb dX11_strikes_33 (by decide) (fun c8 => ?_) (fun c8 => ?_)
        · have h := ip c8 h
          obtain rfl := Option.some.inj h
          exact k26_0 _ _ _ hP hD hS (lv_sub hl [0] rfl)
        · have h := im c8 h
          refine lv_aload_n hx hb dX11_strikes_36 rfl (lv_at hl 0 rfl) ?_
          refine va_get (ci := 11) (v := .ref a_now) (C := RX11) (T := TX11) (N := 23) hx hb htT inlX11 hown hK hP 0 rfl rfl 0 (by decide) (htT _ q_7_0) (fun _ h9 => h9) rfl dX11_strikes_37 ?_
          refine lv_iconst (v := (3 : Int32)) hx hb dX11_strikes_40 rfl ?_
          refine lv_iload_n hx hb dX11_strikes_41 rfl (lv_at hl 1 rfl) ?_
          refine lv_iadd hx hb dX11_strikes_42 ?_
          refine lv_aload_n hx hb dX11_strikes_43 rfl (lv_at hl 0 rfl) ?_
          refine va_get (ci := 11) (v := .ref a_now) (C := RX11) (T := TX11) (N := 23) hx hb htT inlX11 hown hK hP 0 rfl rfl 0 (by decide) (htT _ q_7_0) (fun _ h9 => h9) rfl dX11_strikes_44 ?_
          refine lv_iconst (v := (3 : Int32)) hx hb dX11_strikes_47 rfl ?_
          refine lv_iload_n hx hb dX11_strikes_48 rfl (lv_at hl 1 rfl) ?_
          refine lv_iadd hx hb dX11_strikes_49 ?_
          refine lv_iconst (v := (1 : Int32)) hx hb dX11_strikes_50 rfl ?_
          refine lv_iadd hx hb dX11_strikes_51 ?_
          obtain ⟨g9, h⟩ := gd h
          refine va_iald hx hb hK hP 1 1 rfl rfl (inB_in g9) dX11_strikes_52 ?_
          obtain ⟨g10, h⟩ := gd h
          refine va_iast hx hb hK hP hD hS 1 1 rfl rfl (inB_in g10) dX11_strikes_53 (fun H locs hP hD hS => ?_)
          have hP : va_P D vwCl (k_Mo cC cI cZ a_this a_now a_undos a_seen a_seenAs a_isKept a_kept a_text a_read a_fewest a_doors a_isSo z3.1 z3.2.1 v_seenMany v_letterMany v_readAt v_tokenAt v_token v_value v_faultAt v_readOnce v_greatUpper v_greatLower (upd A_now_26 (((3 : Int32) + y26_2)).toNatClampNeg (A_now_26 ((((3 : Int32) + y26_2) + (1 : Int32))).toNatClampNeg)) z3.2.2 A_seen A_seenAs A_isKept A_kept A_text A_read A_fewest A_doors A_isSo) H := hP
          have hD : va_D A (k_Mo cC cI cZ a_this a_now a_undos a_seen a_seenAs a_isKept a_kept a_text a_read a_fewest a_doors a_isSo z3.1 z3.2.1 v_seenMany v_letterMany v_readAt v_tokenAt v_token v_value v_faultAt v_readOnce v_greatUpper v_greatLower (upd A_now_26 (((3 : Int32) + y26_2)).toNatClampNeg (A_now_26 ((((3 : Int32) + y26_2) + (1 : Int32))).toNatClampNeg)) z3.2.2 A_seen A_seenAs A_isKept A_kept A_text A_read A_fewest A_doors A_isSo) := hD
          refine lv_aload_n hx hb dX11_strikes_54 rfl (lv_at hl 0 rfl) ?_
          refine va_get (ci := 11) (v := .ref a_now) (C := RX11) (T := TX11) (N := 23) hx hb htT inlX11 hown hK hP 0 rfl rfl 0 (by decide) (htT _ q_7_0) (fun _ h9 => h9) rfl dX11_strikes_55 ?_
          refine lv_bipush (v := (17 : Int32)) hx hb dX11_strikes_58 rfl ?_
          refine lv_iload_n hx hb dX11_strikes_60 rfl (lv_at hl 1 rfl) ?_
          refine lv_iadd hx hb dX11_strikes_61 ?_
          refine lv_aload_n hx hb dX11_strikes_62 rfl (lv_at hl 0 rfl) ?_
          refine va_get (ci := 11) (v := .ref a_now) (C := RX11) (T := TX11) (N := 23) hx hb htT inlX11 hown hK hP 0 rfl rfl 0 (by decide) (htT _ q_7_0) (fun _ h9 => h9) rfl dX11_strikes_63 ?_
          refine lv_bipush (v := (17 : Int32)) hx hb dX11_strikes_66 rfl ?_
          refine lv_iload_n hx hb dX11_strikes_68 rfl (lv_at hl 1 rfl) ?_
          refine lv_iadd hx hb dX11_strikes_69 ?_
          refine lv_iconst (v := (1 : Int32)) hx hb dX11_strikes_70 rfl ?_
          refine lv_iadd hx hb dX11_strikes_71 ?_
          obtain ⟨g11, h⟩ := gd h
          refine va_iald hx hb hK hP 1 1 rfl rfl (inB_in g11) dX11_strikes_72 ?_
          obtain ⟨g12, h⟩ := gd h
          refine va_iast hx hb hK hP hD hS 1 1 rfl rfl (inB_in g12) dX11_strikes_73 (fun H locs hP hD hS => ?_)
          have hP : va_P D vwCl (k_Mo cC cI cZ a_this a_now a_undos a_seen a_seenAs a_isKept a_kept a_text a_read a_fewest a_doors a_isSo z3.1 z3.2.1 v_seenMany v_letterMany v_readAt v_tokenAt v_token v_value v_faultAt v_readOnce v_greatUpper v_greatLower (upd (upd A_now_26 (((3 : Int32) + y26_2)).toNatClampNeg (A_now_26 ((((3 : Int32) + y26_2) + (1 : Int32))).toNatClampNeg)) (((17 : Int32) + y26_2)).toNatClampNeg ((upd A_now_26 (((3 : Int32) + y26_2)).toNatClampNeg (A_now_26 ((((3 : Int32) + y26_2) + (1 : Int32))).toNatClampNeg)) ((((17 : Int32) + y26_2) + (1 : Int32))).toNatClampNeg)) z3.2.2 A_seen A_seenAs A_isKept A_kept A_text A_read A_fewest A_doors A_isSo) H := hP
          have hD : va_D A (k_Mo cC cI cZ a_this a_now a_undos a_seen a_seenAs a_isKept a_kept a_text a_read a_fewest a_doors a_isSo z3.1 z3.2.1 v_seenMany v_letterMany v_readAt v_tokenAt v_token v_value v_faultAt v_readOnce v_greatUpper v_greatLower (upd (upd A_now_26 (((3 : Int32) + y26_2)).toNatClampNeg (A_now_26 ((((3 : Int32) + y26_2) + (1 : Int32))).toNatClampNeg)) (((17 : Int32) + y26_2)).toNatClampNeg ((upd A_now_26 (((3 : Int32) + y26_2)).toNatClampNeg (A_now_26 ((((3 : Int32) + y26_2) + (1 : Int32))).toNatClampNeg)) ((((17 : Int32) + y26_2) + (1 : Int32))).toNatClampNeg)) z3.2.2 A_seen A_seenAs A_isKept A_kept A_text A_read A_fewest A_doors A_isSo) := hD
          refine lv_iinc (v := (y26_2 + (1 : Int32))) (lv' := [(2, .int (y26_2 + (1 : Int32))), (0, .ref a_this)]) hx hb dX11_strikes_74 hl (k := 1) rfl rfl (by decide) rfl (fun ls hl => ?_)
          refine lv_goto (tgt := 26) hx hb dX11_strikes_77 (by decide) ?_
          exact ih26 (y26_2 + (1 : Int32)) (upd (upd A_now_26 (((3 : Int32) + y26_2)).toNatClampNeg (A_now_26 ((((3 : Int32) + y26_2) + (1 : Int32))).toNatClampNeg)) (((17 : Int32) + y26_2)).toNatClampNeg ((upd A_now_26 (((3 : Int32) + y26_2)).toNatClampNeg (A_now_26 ((((3 : Int32) + y26_2) + (1 : Int32))).toNatClampNeg)) ((((17 : Int32) + y26_2) + (1 : Int32))).toNatClampNeg)) _ h _ _ _ hP hD hS (lv_sub hl [1, 0] rfl) k26_0
    obtain ⟨z6, e6, h⟩ := bd h
    refine LP26 fu p1 (upd A_now ((0 : Int32)).toNatClampNeg ((A_now ((0 : Int32)).toNatClampNeg) - (1 : Int32))) z6 e6 _ _ _ hP hD hS (lv_sub hl [1, 0] rfl) ?_
    intro H locs ls hP hD hS hl
    refine lv_aload_n hx hb dX11_strikes_80 rfl (lv_at hl 0 rfl) ?_
    refine va_get (ci := 11) (v := .ref a_now) (C := RX11) (T := TX11) (N := 23) hx hb htT inlX11 hown hK hP 0 rfl rfl 0 (by decide) (htT _ q_7_0) (fun _ h9 => h9) rfl dX11_strikes_81 ?_
    refine lv_iconst (v := (0 : Int32)) hx hb dX11_strikes_84 rfl ?_
    obtain ⟨g13, h⟩ := gd h
    refine va_iald hx hb hK hP 1 1 rfl rfl (inB_in g13) dX11_strikes_85 ?_
    obtain rfl := Option.some.inj h
    exact hret _ _ _ _ _ hP hS dX11_strikes_86 rfl rfl
  · have h := ip c2 h
    refine lv_iconst (v := (-1 : Int32)) hx hb dX11_strikes_8 rfl ?_
    obtain rfl := Option.some.inj h
    exact hret _ _ _ _ _ hP hS dX11_strikes_9 rfl rfl
set_option maxHeartbeats 4000000 in
set_option maxRecDepth 100000 in
theorem c_Mo_strip (l : Launch) (D : va_G) (cC cI cZ : ClassId) (a_this : Nat) (a_now : Nat) (a_undos : Nat) (a_seen : Nat) (a_seenAs : Nat) (a_isKept : Nat) (a_kept : Nat) (a_text : Nat) (a_read : Nat) (a_fewest : Nat) (a_doors : Nat) (a_isSo : Nat) (v_undoMany : Int32) (v_undoAt : Int32) (v_seenMany : Int32) (v_letterMany : Int32) (v_readAt : Int32) (v_tokenAt : Int32) (v_token : Int32) (v_value : Int32) (v_faultAt : Int32) (v_readOnce : Int32) (v_greatUpper : Int64) (v_greatLower : Int64) (A_now : Nat → Int32) (A_undos : Nat → Int32) (A_seen : Nat → Int32) (A_seenAs : Nat → Int32) (A_isKept : Nat → Int32) (A_kept : Nat → Int32) (A_text : Nat → Int32) (A_read : Nat → Int32) (A_fewest : Nat → Int32) (A_doors : Nat → Int32) (A_isSo : Nat → Int32) (p1 : Int32) (p2 : Int32) (p3 : Int32) (sz : Nat) (z : Int32 × Int64 × Int64) (h : f_Mo_strip v_greatUpper v_greatLower A_now p1 p2 p3 = some z) : Met l yX11_strip (.code yX11_strip cX11_strip 4 (some .int) :: TBL) (RM 6 130) (PcM [.ref a_this, .int p1, .int p2, .int p3] sz D (TY cC cI cZ) (k_Mo cC cI cZ a_this a_now a_undos a_seen a_seenAs a_isKept a_kept a_text a_read a_fewest a_doors a_isSo v_undoMany v_undoAt v_seenMany v_letterMany v_readAt v_tokenAt v_token v_value v_faultAt v_readOnce v_greatUpper v_greatLower A_now A_undos A_seen A_seenAs A_isKept A_kept A_text A_read A_fewest A_doors A_isSo)) (fun a st o t => QM (some (.int z.1)) D (k_Mo cC cI cZ a_this a_now a_undos a_seen a_seenAs a_isKept a_kept a_text a_read a_fewest a_doors a_isSo v_undoMany v_undoAt v_seenMany v_letterMany v_readAt v_tokenAt v_token v_value v_faultAt v_readOnce z.2.1 z.2.2 A_now A_undos A_seen A_seenAs A_isKept A_kept A_text A_read A_fewest A_doors A_isSo) (va_A (k_Mo cC cI cZ a_this a_now a_undos a_seen a_seenAs a_isKept a_kept a_text a_read a_fewest a_doors a_isSo v_undoMany v_undoAt v_seenMany v_letterMany v_readAt v_tokenAt v_token v_value v_faultAt v_readOnce v_greatUpper v_greatLower A_now A_undos A_seen A_seenAs A_isKept A_kept A_text A_read A_fewest A_doors A_isSo) sz) a st o t ∧ narrow .int (.int z.1) = .int z.1) 0 0 (va_A (k_Mo cC cI cZ a_this a_now a_undos a_seen a_seenAs a_isKept a_kept a_text a_read a_fewest a_doors a_isSo v_undoMany v_undoAt v_seenMany v_letterMany v_readAt v_tokenAt v_token v_value v_faultAt v_readOnce v_greatUpper v_greatLower A_now A_undos A_seen A_seenAs A_isKept A_kept A_text A_read A_fewest A_doors A_isSo) sz) := by
  refine muOf (by decide) (Nat.le_of_ble_eq_true rfl) rfl ?_
  intro p e s m args below meth c Q ls A X hP hD hS hA hl hret
  have X : Ctx p s m args c cX11_strip 4 RX11 D (TY cC cI cZ) := X
  obtain ⟨hx, hb, hml, hown, htT, hK, hN⟩ := id X
  unfold f_Mo_strip at h
  refine lv_aload_n hx hb dX11_strip_0 rfl (lv_at hl 0 rfl) ?_
  refine lv_iload_n hx hb dX11_strip_1 rfl (lv_at hl 1 rfl) ?_
  refine lv_iload_n hx hb dX11_strip_2 rfl (lv_at hl 2 rfl) ?_
  obtain ⟨r1, e1, h⟩ := bd h
  refine roV X [.int p1, .int p2] [] (c_Mo_isSide l D cC cI cZ a_this a_now a_undos a_seen a_seenAs a_isKept a_kept a_text a_read a_fewest a_doors a_isSo v_undoMany v_undoAt v_seenMany v_letterMany v_readAt v_tokenAt v_token v_value v_faultAt v_readOnce v_greatUpper v_greatLower A_now A_undos A_seen A_seenAs A_isKept A_kept A_text A_read A_fewest A_doors A_isSo p1 p2 r1 e1) gg_X11_192 hd_Mo_isSide ⟨rfl, rfl, Nat.le_of_ble_eq_true rfl, Nat.le_of_ble_eq_true rfl⟩ ⟨Nat.zero_le _, Nat.zero_le _⟩ hP [0, 1, 2, 3, 4, 5, 6, 7, 8, 9, 10, 11] rfl rfl rfl rfl hl.1 rfl (Nat.le_of_ble_eq_true rfl) dX11_strip_3 (fun n1 => ?_)
  refine lv_if_eq (tgt := 23) hx hb dX11_strip_6 (by decide) (fun c2 => ?_) (fun c2 => ?_)
  · have h := ip c2 h
    refine lv_iconst (v := (-1 : Int32)) hx hb dX11_strip_23 rfl ?_
    obtain rfl := Option.some.inj h
    exact hret _ _ _ _ _ hP hS dX11_strip_24 rfl rfl
  · have h := im c2 h
    refine lv_iload_n hx hb dX11_strip_9 rfl (lv_at hl 1 rfl) ?_
    refine lv_iload_n hx hb dX11_strip_10 rfl (lv_at hl 2 rfl) ?_
    refine lv_icmp_gt (tgt := 23) hx hb dX11_strip_11 (by decide) (fun c3 => ?_) (fun c3 => ?_)
    · have h := ip c3 h
      refine lv_iconst (v := (-1 : Int32)) hx hb dX11_strip_23 rfl ?_
      obtain rfl := Option.some.inj h
      exact hret _ _ _ _ _ hP hS dX11_strip_24 rfl rfl
    · have h := im c3 h
      refine lv_iload_n hx hb dX11_strip_14 rfl (lv_at hl 3 rfl) ?_
      refine lv_iconst (v := (0 : Int32)) hx hb dX11_strip_15 rfl ?_
      refine lv_iconst (v := (1 : Int32)) hx hb dX11_strip_16 rfl ?_
      refine roS X [.int p3, .int (0 : Int32), .int (1 : Int32)] [] (c_Mo_in l D cC cI cZ p3 (0 : Int32) (1 : Int32) _ rfl) gg_X11_48 hd_Mo_in ⟨rfl, rfl, Nat.le_of_ble_eq_true rfl, Nat.le_of_ble_eq_true rfl⟩ ⟨Nat.zero_le _, Nat.zero_le _⟩ hP [] rfl hl.1 rfl (Nat.le_of_ble_eq_true rfl) dX11_strip_17 (fun n4 => ?_)
      refine lv_if_ne (tgt := 25) hx hb dX11_strip_20 (by decide) (fun c5 => ?_) (fun c5 => ?_)
      · have h := im c5 h
        refine lv_aload_n hx hb dX11_strip_25 rfl (lv_at hl 0 rfl) ?_
        refine lv_iload_n hx hb dX11_strip_26 rfl (lv_at hl 1 rfl) ?_
        refine lv_iload_n hx hb dX11_strip_27 rfl (lv_at hl 2 rfl) ?_
        obtain ⟨z6, e6, h⟩ := bd h
        refine muVV (ws' := (k_Mo cC cI cZ a_this a_now a_undos a_seen a_seenAs a_isKept a_kept a_text a_read a_fewest a_doors a_isSo v_undoMany v_undoAt v_seenMany v_letterMany v_readAt v_tokenAt v_token v_value v_faultAt v_readOnce z6.1 z6.2 A_now A_undos A_seen A_seenAs A_isKept A_kept A_text A_read A_fewest A_doors A_isSo)) X [.int p1, .int p2] [] (c_Mo_layStrip l D cC cI cZ a_this a_now a_undos a_seen a_seenAs a_isKept a_kept a_text a_read a_fewest a_doors a_isSo v_undoMany v_undoAt v_seenMany v_letterMany v_readAt v_tokenAt v_token v_value v_faultAt v_readOnce v_greatUpper v_greatLower A_now A_undos A_seen A_seenAs A_isKept A_kept A_text A_read A_fewest A_doors A_isSo p1 p2 _ z6 e6) gg_X11_165 hd_Mo_layStrip ⟨rfl, rfl, Nat.le_of_ble_eq_true rfl, Nat.le_of_ble_eq_true rfl⟩ ⟨Nat.zero_le _, Nat.zero_le _⟩ hP hD hS hA [0, 1, 2, 3, 4, 5, 6, 7, 8, 9, 10, 11] [] [0, 1, 2, 3, 4, 5, 6, 7, 8, 9, 10, 11] rfl rfl (by decide) (by decide) rfl rfl rfl rfl rfl hl.1 rfl (Nat.le_of_ble_eq_true rfl) dX11_strip_28 (fun H locs hP hD hS => ?_)
        refine lv_aload_n hx hb dX11_strip_31 rfl (lv_at hl 0 rfl) ?_
        refine va_get (ci := 11) (v := .long z6.1) (C := RX11) (T := TX11) (N := 23) hx hb htT inlX11 hown hK hP 0 rfl rfl 18 (by decide) (htT _ q_26_4) (fun _ h9 => h9) rfl dX11_strip_32 ?_
        refine lv_aload_n hx hb dX11_strip_35 rfl (lv_at hl 0 rfl) ?_
        refine va_get (ci := 11) (v := .long z6.2) (C := RX11) (T := TX11) (N := 23) hx hb htT inlX11 hown hK hP 0 rfl rfl 19 (by decide) (htT _ q_26_5) (fun _ h9 => h9) rfl dX11_strip_36 ?_
        refine lv_iload_n hx hb dX11_strip_39 rfl (lv_at hl 3 rfl) ?_
        refine lv_if_ne (tgt := 47) hx hb dX11_strip_40 (by decide) (fun c7 => ?_) (fun c7 => ?_)
        · have h := im c7 h
          refine lv_iconst (v := (0 : Int32)) hx hb dX11_strip_47 rfl ?_
          obtain ⟨r9, e9, h⟩ := bd h
          refine roS X [.long z6.1, .long z6.2, .int (0 : Int32)] [] (c_Mo_lowest l D cC cI cZ z6.1 z6.2 (0 : Int32) r9 e9) gg_X11_195 hd_Mo_lowest ⟨rfl, rfl, Nat.le_of_ble_eq_true rfl, Nat.le_of_ble_eq_true rfl⟩ ⟨Nat.zero_le _, Nat.zero_le _⟩ hP [] rfl hl.1 rfl (Nat.le_of_ble_eq_true rfl) dX11_strip_48 (fun n9 => ?_)
          obtain rfl := Option.some.inj h
          exact hret _ _ _ _ _ hP hS dX11_strip_51 rfl rfl
        · have h := ip c7 h
          refine lv_iconst (v := (1 : Int32)) hx hb dX11_strip_43 rfl ?_
          refine lv_goto (tgt := 48) hx hb dX11_strip_44 (by decide) ?_
          obtain ⟨r8, e8, h⟩ := bd h
          refine roS X [.long z6.1, .long z6.2, .int (1 : Int32)] [] (c_Mo_lowest l D cC cI cZ z6.1 z6.2 (1 : Int32) r8 e8) gg_X11_195 hd_Mo_lowest ⟨rfl, rfl, Nat.le_of_ble_eq_true rfl, Nat.le_of_ble_eq_true rfl⟩ ⟨Nat.zero_le _, Nat.zero_le _⟩ hP [] rfl hl.1 rfl (Nat.le_of_ble_eq_true rfl) dX11_strip_48 (fun n8 => ?_)
          obtain rfl := Option.some.inj h
          exact hret _ _ _ _ _ hP hS dX11_strip_51 rfl rfl
      · have h := ip c5 h
        refine lv_iconst (v := (-1 : Int32)) hx hb dX11_strip_23 rfl ?_
        obtain rfl := Option.some.inj h
        exact hret _ _ _ _ _ hP hS dX11_strip_24 rfl rfl
set_option maxHeartbeats 4000000 in
set_option maxRecDepth 100000 in
theorem c_Mo_told (l : Launch) (D : va_G) (cC cI cZ : ClassId) (a_this : Nat) (a_now : Nat) (a_undos : Nat) (a_seen : Nat) (a_seenAs : Nat) (a_isKept : Nat) (a_kept : Nat) (a_text : Nat) (a_read : Nat) (a_fewest : Nat) (a_doors : Nat) (a_isSo : Nat) (v_undoMany : Int32) (v_undoAt : Int32) (v_seenMany : Int32) (v_letterMany : Int32) (v_readAt : Int32) (v_tokenAt : Int32) (v_token : Int32) (v_value : Int32) (v_faultAt : Int32) (v_readOnce : Int32) (v_greatUpper : Int64) (v_greatLower : Int64) (A_now : Nat → Int32) (A_undos : Nat → Int32) (A_seen : Nat → Int32) (A_seenAs : Nat → Int32) (A_isKept : Nat → Int32) (A_kept : Nat → Int32) (A_text : Nat → Int32) (A_read : Nat → Int32) (A_fewest : Nat → Int32) (A_doors : Nat → Int32) (A_isSo : Nat → Int32) (p1 : Int32) (p2 : Int32) (p3 : Int32) (sz : Nat) (z : Int32 × (Nat → Int32)) (h : f_Mo_told A_now A_fewest p1 p2 p3 = some z) : Met l yX11_told (.code yX11_told cX11_told 9 (some .int) :: TBL) (RM 6 132) (PcM [.ref a_this, .int p1, .int p2, .int p3] sz D (TY cC cI cZ) (k_Mo cC cI cZ a_this a_now a_undos a_seen a_seenAs a_isKept a_kept a_text a_read a_fewest a_doors a_isSo v_undoMany v_undoAt v_seenMany v_letterMany v_readAt v_tokenAt v_token v_value v_faultAt v_readOnce v_greatUpper v_greatLower A_now A_undos A_seen A_seenAs A_isKept A_kept A_text A_read A_fewest A_doors A_isSo)) (fun a st o t => QM (some (.int z.1)) D (k_Mo cC cI cZ a_this a_now a_undos a_seen a_seenAs a_isKept a_kept a_text a_read a_fewest a_doors a_isSo v_undoMany v_undoAt v_seenMany v_letterMany v_readAt v_tokenAt v_token v_value v_faultAt v_readOnce v_greatUpper v_greatLower A_now A_undos A_seen A_seenAs A_isKept A_kept A_text A_read z.2 A_doors A_isSo) (va_A (k_Mo cC cI cZ a_this a_now a_undos a_seen a_seenAs a_isKept a_kept a_text a_read a_fewest a_doors a_isSo v_undoMany v_undoAt v_seenMany v_letterMany v_readAt v_tokenAt v_token v_value v_faultAt v_readOnce v_greatUpper v_greatLower A_now A_undos A_seen A_seenAs A_isKept A_kept A_text A_read A_fewest A_doors A_isSo) sz) a st o t ∧ narrow .int (.int z.1) = .int z.1) 0 0 (va_A (k_Mo cC cI cZ a_this a_now a_undos a_seen a_seenAs a_isKept a_kept a_text a_read a_fewest a_doors a_isSo v_undoMany v_undoAt v_seenMany v_letterMany v_readAt v_tokenAt v_token v_value v_faultAt v_readOnce v_greatUpper v_greatLower A_now A_undos A_seen A_seenAs A_isKept A_kept A_text A_read A_fewest A_doors A_isSo) sz) := by
  refine muOf (by decide) (Nat.le_of_ble_eq_true rfl) rfl ?_
  intro p e s m args below meth c Q ls A X hP hD hS hA hl hret
  have X : Ctx p s m args c cX11_told 9 RX11 D (TY cC cI cZ) := X
  obtain ⟨hx, hb, hml, hown, htT, hK, hN⟩ := id X
  unfold f_Mo_told at h
  refine lv_iload_n hx hb dX11_told_0 rfl (lv_at hl 1 rfl) ?_
  refine lv_iconst (v := (0 : Int32)) hx hb dX11_told_1 rfl ?_
  refine lv_sipush (v := (999 : Int32)) hx hb dX11_told_2 rfl ?_
  refine roS X [.int p1, .int (0 : Int32), .int (999 : Int32)] [] (c_Mo_in l D cC cI cZ p1 (0 : Int32) (999 : Int32) _ rfl) gg_X11_48 hd_Mo_in ⟨rfl, rfl, Nat.le_of_ble_eq_true rfl, Nat.le_of_ble_eq_true rfl⟩ ⟨Nat.zero_le _, Nat.zero_le _⟩ hP [] rfl hl.1 rfl (Nat.le_of_ble_eq_true rfl) dX11_told_5 (fun n1 => ?_)
  refine lv_if_eq (tgt := 29) hx hb dX11_told_8 (by decide) (fun c2 => ?_) (fun c2 => ?_)
  · have h := ip c2 h
    refine lv_iconst (v := (-1 : Int32)) hx hb dX11_told_29 rfl ?_
    obtain rfl := Option.some.inj h
    exact hret _ _ _ _ _ hP hS dX11_told_30 rfl rfl
  · have h := im c2 h
    refine lv_iload_n hx hb dX11_told_11 rfl (lv_at hl 2 rfl) ?_
    refine lv_iconst (v := (0 : Int32)) hx hb dX11_told_12 rfl ?_
    refine lv_iconst (v := (1 : Int32)) hx hb dX11_told_13 rfl ?_
    refine roS X [.int p2, .int (0 : Int32), .int (1 : Int32)] [] (c_Mo_in l D cC cI cZ p2 (0 : Int32) (1 : Int32) _ rfl) gg_X11_48 hd_Mo_in ⟨rfl, rfl, Nat.le_of_ble_eq_true rfl, Nat.le_of_ble_eq_true rfl⟩ ⟨Nat.zero_le _, Nat.zero_le _⟩ hP [] rfl hl.1 rfl (Nat.le_of_ble_eq_true rfl) dX11_told_14 (fun n3 => ?_)
    refine lv_if_eq (tgt := 29) hx hb dX11_told_17 (by decide) (fun c4 => ?_) (fun c4 => ?_)
    · have h := ip c4 h
      refine lv_iconst (v := (-1 : Int32)) hx hb dX11_told_29 rfl ?_
      obtain rfl := Option.some.inj h
      exact hret _ _ _ _ _ hP hS dX11_told_30 rfl rfl
    · have h := im c4 h
      refine lv_iload_n hx hb dX11_told_20 rfl (lv_at hl 3 rfl) ?_
      refine lv_iconst (v := (0 : Int32)) hx hb dX11_told_21 rfl ?_
      refine lv_iconst (v := (1 : Int32)) hx hb dX11_told_22 rfl ?_
      refine roS X [.int p3, .int (0 : Int32), .int (1 : Int32)] [] (c_Mo_in l D cC cI cZ p3 (0 : Int32) (1 : Int32) _ rfl) gg_X11_48 hd_Mo_in ⟨rfl, rfl, Nat.le_of_ble_eq_true rfl, Nat.le_of_ble_eq_true rfl⟩ ⟨Nat.zero_le _, Nat.zero_le _⟩ hP [] rfl hl.1 rfl (Nat.le_of_ble_eq_true rfl) dX11_told_23 (fun n5 => ?_)
      refine lv_if_ne (tgt := 31) hx hb dX11_told_26 (by decide) (fun c6 => ?_) (fun c6 => ?_)
      · have h := im c6 h
        refine lv_iload_n hx hb dX11_told_31 rfl (lv_at hl 2 rfl) ?_
        refine lv_if_ne (tgt := 48) hx hb dX11_told_32 (by decide) (fun c7 => ?_) (fun c7 => ?_)
        · have h := im c7 h
          refine lv_aload_n hx hb dX11_told_48 rfl (lv_at hl 0 rfl) ?_
          obtain ⟨z33, e33, h⟩ := bd h
          refine muV (ws' := (k_Mo cC cI cZ a_this a_now a_undos a_seen a_seenAs a_isKept a_kept a_text a_read a_fewest a_doors a_isSo v_undoMany v_undoAt v_seenMany v_letterMany v_readAt v_tokenAt v_token v_value v_faultAt v_readOnce v_greatUpper v_greatLower A_now A_undos A_seen A_seenAs A_isKept A_kept A_text A_read z33.2 A_doors A_isSo)) X [] [] (c_Mo_least l D cC cI cZ a_this a_now a_undos a_seen a_seenAs a_isKept a_kept a_text a_read a_fewest a_doors a_isSo v_undoMany v_undoAt v_seenMany v_letterMany v_readAt v_tokenAt v_token v_value v_faultAt v_readOnce v_greatUpper v_greatLower A_now A_undos A_seen A_seenAs A_isKept A_kept A_text A_read A_fewest A_doors A_isSo _ z33 e33) gg_X11_176 hd_Mo_least ⟨rfl, rfl, Nat.le_of_ble_eq_true rfl, Nat.le_of_ble_eq_true rfl⟩ ⟨Nat.zero_le _, Nat.zero_le _⟩ hP hD hS hA [0, 1, 2, 3, 4, 5, 6, 7, 8, 9, 10, 11] [] [0, 1, 2, 3, 4, 5, 6, 7, 8, 9, 10, 11] rfl rfl (by decide) (by decide) rfl rfl rfl rfl rfl hl.1 rfl (Nat.le_of_ble_eq_true rfl) dX11_told_49 (fun H locs hP hD hS n33 => ?_)
          refine lv_istore (lv' := [(4, .int z33.1), (0, .ref a_this), (1, .int p1), (2, .int p2), (3, .int p3)]) hx hb dX11_told_52 hl (by decide) rfl (fun ls hl => ?_)
          refine lv_bipush (v := (-9 : Int32)) hx hb dX11_told_54 rfl ?_
          refine lv_istore (lv' := [(5, .int (-9 : Int32)), (4, .int z33.1), (0, .ref a_this), (1, .int p1), (2, .int p2), (3, .int p3)]) hx hb dX11_told_56 hl (by decide) rfl (fun ls hl => ?_)
          refine lv_iconst (v := (0 : Int32)) hx hb dX11_told_58 rfl ?_
          refine lv_istore (lv' := [(6, .int (0 : Int32)), (5, .int (-9 : Int32)), (4, .int z33.1), (0, .ref a_this), (1, .int p1), (2, .int p2), (3, .int p3)]) hx hb dX11_told_59 hl (by decide) rfl (fun ls hl => ?_)
          have LP61 : ∀ (n : Nat) (y61_5 : Int32) (y61_6 : Int32) (zq61 : Nat × Int32 × Int32), f_Mo_told_L61 p1 p3 z33.1 A_now n y61_5 y61_6 = some zq61 → ∀ (H : Heap) (locs : List Loc) (ls : Array Slot), va_P D vwCl (k_Mo cC cI cZ a_this a_now a_undos a_seen a_seenAs a_isKept a_kept a_text a_read a_fewest a_doors a_isSo v_undoMany v_undoAt v_seenMany v_letterMany v_readAt v_tokenAt v_token v_value v_faultAt v_readOnce v_greatUpper v_greatLower A_now A_undos A_seen A_seenAs A_isKept A_kept A_text A_read z33.2 A_doors A_isSo) H → va_D A (k_Mo cC cI cZ a_this a_now a_undos a_seen a_seenAs a_isKept a_kept a_text a_read a_fewest a_doors a_isSo v_undoMany v_undoAt v_seenMany v_letterMany v_readAt v_tokenAt v_token v_value v_faultAt v_readOnce v_greatUpper v_greatLower A_now A_undos A_seen A_seenAs A_isKept A_kept A_text A_read z33.2 A_doors A_isSo) → va_S A s.heap H locs → lv_has ls 9 [(0, .ref a_this), (1, .int p1), (3, .int p3), (4, .int z33.1), (5, .int y61_5), (6, .int y61_6)] → (zq61.1 = 0 → ∀ (H : Heap) (locs : List Loc) (ls : Array Slot), va_P D vwCl (k_Mo cC cI cZ a_this a_now a_undos a_seen a_seenAs a_isKept a_kept a_text a_read a_fewest a_doors a_isSo v_undoMany v_undoAt v_seenMany v_letterMany v_readAt v_tokenAt v_token v_value v_faultAt v_readOnce v_greatUpper v_greatLower A_now A_undos A_seen A_seenAs A_isKept A_kept A_text A_read z33.2 A_doors A_isSo) H → va_D A (k_Mo cC cI cZ a_this a_now a_undos a_seen a_seenAs a_isKept a_kept a_text a_read a_fewest a_doors a_isSo v_undoMany v_undoAt v_seenMany v_letterMany v_readAt v_tokenAt v_token v_value v_faultAt v_readOnce v_greatUpper v_greatLower A_now A_undos A_seen A_seenAs A_isKept A_kept A_text A_read z33.2 A_doors A_isSo) → va_S A s.heap H locs → lv_has ls 9 [(0, .ref a_this), (3, .int p3), (6, .int zq61.2.2)] → W p l e (RM 6 132) s m args below meth c H locs 0 0 Q (F0 m 95 ls [])) → (zq61.1 = 1 → ∀ (H : Heap) (locs : List Loc) (ls : Array Slot), va_P D vwCl (k_Mo cC cI cZ a_this a_now a_undos a_seen a_seenAs a_isKept a_kept a_text a_read a_fewest a_doors a_isSo v_undoMany v_undoAt v_seenMany v_letterMany v_readAt v_tokenAt v_token v_value v_faultAt v_readOnce v_greatUpper v_greatLower A_now A_undos A_seen A_seenAs A_isKept A_kept A_text A_read z33.2 A_doors A_isSo) H → va_D A (k_Mo cC cI cZ a_this a_now a_undos a_seen a_seenAs a_isKept a_kept a_text a_read a_fewest a_doors a_isSo v_undoMany v_undoAt v_seenMany v_letterMany v_readAt v_tokenAt v_token v_value v_faultAt v_readOnce v_greatUpper v_greatLower A_now A_undos A_seen A_seenAs A_isKept A_kept A_text A_read z33.2 A_doors A_isSo) → va_S A s.heap H locs → lv_has ls 9 [(0, .ref a_this), (1, .int p1), (3, .int p3), (5, .int zq61.2.1), (6, .int zq61.2.2)] → W p l e (RM 6 132) s m args below meth c H locs 0 0 Q (F0 m 127 ls [])) → (zq61.1 = 2 → ∀ (H : Heap) (locs : List Loc) (ls : Array Slot), va_P D vwCl (k_Mo cC cI cZ a_this a_now a_undos a_seen a_seenAs a_isKept a_kept a_text a_read a_fewest a_doors a_isSo v_undoMany v_undoAt v_seenMany v_letterMany v_readAt v_tokenAt v_token v_value v_faultAt v_readOnce v_greatUpper v_greatLower A_now A_undos A_seen A_seenAs A_isKept A_kept A_text A_read z33.2 A_doors A_isSo) H → va_D A (k_Mo cC cI cZ a_this a_now a_undos a_seen a_seenAs a_isKept a_kept a_text a_read a_fewest a_doors a_isSo v_undoMany v_undoAt v_seenMany v_letterMany v_readAt v_tokenAt v_token v_value v_faultAt v_readOnce v_greatUpper v_greatLower A_now A_undos A_seen A_seenAs A_isKept A_kept A_text A_read z33.2 A_doors A_isSo) → va_S A s.heap H locs → lv_has ls 9 [] → W p l e (RM 6 132) s m args below meth c H locs 0 0 Q (F0 m 245 ls [])) → W p l e (RM 6 132) s m args below meth c H locs 0 0 Q (F0 m 61 ls []) := by
            clear h
            intro n
            induction n with
            | zero =>
              intro y61_5 y61_6 zq61 h
              rw [f_Mo_told_L61_0] at h
              cases h
            | succ n ih61 =>
              intro y61_5 y61_6 zq61 h H locs ls hP hD hS hl k61_0 k61_1 k61_2
              rw [f_Mo_told_L61_s] at h
              refine lv_iload hx hb dX11_told_61 (lv_at hl 5 rfl) ?_
              refine lv_aload_n hx hb dX11_told_63 rfl (lv_at hl 0 rfl) ?_
              refine va_get (ci := 11) (v := .ref a_now) (C := RX11) (T := TX11) (N := 23) hx hb htT inlX11 hown hK hP 0 rfl rfl 0 (by decide) (htT _ q_7_0) (fun _ h9 => h9) rfl dX11_told_64 ?_
              refine lv_iconst (v := (0 : Int32)) hx hb dX11_told_67 rfl ?_
              obtain ⟨g35, h⟩ := gd h
              refine va_iald hx hb hK hP 1 1 rfl rfl (inB_in g35) dX11_told_68 ?_
              refine lv_icmp_ge (tgt := 245) hx hb dX11_told_69 (by decide) (fun c36 => ?_) (fun c36 => ?_)
              · have h := ip c36 h
                obtain rfl := Option.some.inj h
                exact k61_2 rfl _ _ _ hP hD hS (lv_sub hl [] rfl)
              · have h := im c36 h
                refine lv_iload hx hb dX11_told_72 (lv_at hl 3 rfl) ?_
                refine lv_iload hx hb dX11_told_74 (lv_at hl 5 rfl) ?_
                refine roS X [.int z33.1, .int y61_6] [] (c_Mo_has l D cC cI cZ z33.1 y61_6 _ rfl) gg_X11_87 hd_Mo_has ⟨rfl, rfl, Nat.le_of_ble_eq_true rfl, Nat.le_of_ble_eq_true rfl⟩ ⟨Nat.zero_le _, Nat.zero_le _⟩ hP [] rfl hl.1 rfl (Nat.le_of_ble_eq_true rfl) dX11_told_76 (fun n37 => ?_)
                refine lv_if_eq (tgt := 239) hx hb dX11_told_79 (by decide) (fun c38 => ?_) (fun c38 => ?_)
                · have h := ip c38 h
                  refine lv_iinc (v := (y61_6 + (1 : Int32))) (lv' := [(6, .int (y61_6 + (1 : Int32))), (0, .ref a_this), (1, .int p1), (3, .int p3), (4, .int z33.1), (5, .int y61_5)]) hx hb dX11_told_239 hl (k := 5) rfl rfl (by decide) rfl (fun ls hl => ?_)
                  refine lv_goto (tgt := 61) hx hb dX11_told_242 (by decide) ?_
                  exact ih61 y61_5 (y61_6 + (1 : Int32)) _ h _ _ _ hP hD hS (lv_sub hl [1, 2, 3, 4, 5, 0] rfl) k61_0 k61_1 k61_2
                · have h := im c38 h
                  refine lv_aload_n hx hb dX11_told_82 rfl (lv_at hl 0 rfl) ?_
                  refine va_get (ci := 11) (v := .ref a_now) (C := RX11) (T := TX11) (N := 23) hx hb htT inlX11 hown hK hP 0 rfl rfl 0 (by decide) (htT _ q_7_0) (fun _ h9 => h9) rfl dX11_told_83 ?_
                  refine lv_iconst (v := (3 : Int32)) hx hb dX11_told_86 rfl ?_
                  refine lv_iload hx hb dX11_told_87 (lv_at hl 5 rfl) ?_
                  refine lv_iadd hx hb dX11_told_89 ?_
                  obtain ⟨g39, h⟩ := gd h
                  refine va_iald hx hb hK hP 1 1 rfl rfl (inB_in g39) dX11_told_90 ?_
                  refine lv_iload_n hx hb dX11_told_91 rfl (lv_at hl 1 rfl) ?_
                  refine lv_icmp_ne (tgt := 114) hx hb dX11_told_92 (by decide) (fun c40 => ?_) (fun c40 => ?_)
                  · have h := im c40 h
                    refine lv_aload_n hx hb dX11_told_114 rfl (lv_at hl 0 rfl) ?_
                    refine va_get (ci := 11) (v := .ref a_now) (C := RX11) (T := TX11) (N := 23) hx hb htT inlX11 hown hK hP 0 rfl rfl 0 (by decide) (htT _ q_7_0) (fun _ h9 => h9) rfl dX11_told_115 ?_
                    refine lv_iconst (v := (3 : Int32)) hx hb dX11_told_118 rfl ?_
                    refine lv_iload hx hb dX11_told_119 (lv_at hl 5 rfl) ?_
                    refine lv_iadd hx hb dX11_told_121 ?_
                    obtain ⟨g41, h⟩ := gd h
                    refine va_iald hx hb hK hP 1 1 rfl rfl (inB_in g41) dX11_told_122 ?_
                    refine lv_iload_n hx hb dX11_told_123 rfl (lv_at hl 1 rfl) ?_
                    refine lv_icmp_le (tgt := 235) hx hb dX11_told_124 (by decide) (fun c42 => ?_) (fun c42 => ?_)
                    · have h := ip c42 h
                      refine lv_iload hx hb dX11_told_235 (lv_at hl 5 rfl) ?_
                      refine lv_istore (lv' := [(5, .int y61_6), (0, .ref a_this), (1, .int p1), (3, .int p3), (4, .int z33.1), (6, .int y61_6)]) hx hb dX11_told_237 hl (by decide) rfl (fun ls hl => ?_)
                      refine lv_iinc (v := (y61_6 + (1 : Int32))) (lv' := [(6, .int (y61_6 + (1 : Int32))), (5, .int y61_6), (0, .ref a_this), (1, .int p1), (3, .int p3), (4, .int z33.1)]) hx hb dX11_told_239 hl (k := 5) rfl rfl (by decide) rfl (fun ls hl => ?_)
                      refine lv_goto (tgt := 61) hx hb dX11_told_242 (by decide) ?_
                      exact ih61 y61_6 (y61_6 + (1 : Int32)) _ h _ _ _ hP hD hS (lv_sub hl [2, 3, 4, 5, 1, 0] rfl) k61_0 k61_1 k61_2
                    · have h := im c42 h
                      obtain rfl := Option.some.inj h
                      exact k61_1 rfl _ _ _ hP hD hS (lv_sub hl [0, 1, 2, 4, 5] rfl)
                  · have h := ip c40 h
                    obtain rfl := Option.some.inj h
                    exact k61_0 rfl _ _ _ hP hD hS (lv_sub hl [0, 2, 5] rfl)
          obtain ⟨z34, e34, h⟩ := bd h
          refine LP61 fu (-9 : Int32) (0 : Int32) z34 e34 _ _ _ hP hD hS (lv_sub hl [3, 4, 6, 2, 1, 0] rfl) ?_ ?_ ?_
          · intro t34 H locs ls hP hD hS hl
            have h := ip t34 h
            refine lv_iload_n hx hb dX11_told_95 rfl (lv_at hl 1 rfl) ?_
            refine lv_if_ne (tgt := 112) hx hb dX11_told_96 (by decide) (fun c43 => ?_) (fun c43 => ?_)
            · have h := im c43 h
              refine lv_iconst (v := (1 : Int32)) hx hb dX11_told_112 rfl ?_
              obtain rfl := Option.some.inj h
              exact hret _ _ _ _ _ hP hS dX11_told_113 rfl rfl
            · have h := ip c43 h
              refine lv_aload_n hx hb dX11_told_99 rfl (lv_at hl 0 rfl) ?_
              refine va_get (ci := 11) (v := .ref a_now) (C := RX11) (T := TX11) (N := 23) hx hb htT inlX11 hown hK hP 0 rfl rfl 0 (by decide) (htT _ q_7_0) (fun _ h9 => h9) rfl dX11_told_100 ?_
              refine lv_bipush (v := (17 : Int32)) hx hb dX11_told_103 rfl ?_
              refine lv_iload hx hb dX11_told_105 (lv_at hl 2 rfl) ?_
              refine lv_iadd hx hb dX11_told_107 ?_
              obtain ⟨g44, h⟩ := gd h
              refine va_iald hx hb hK hP 1 1 rfl rfl (inB_in g44) dX11_told_108 ?_
              refine lv_goto (tgt := 113) hx hb dX11_told_109 (by decide) ?_
              obtain rfl := Option.some.inj h
              exact hret _ _ _ _ _ hP hS dX11_told_113 rfl rfl
          · intro t34 H locs ls hP hD hS hl
            have h := im (by rw [t34]; decide) h
            have h := ip t34 h
            refine lv_iload hx hb dX11_told_127 (lv_at hl 3 rfl) ?_
            refine lv_bipush (v := (-9 : Int32)) hx hb dX11_told_129 rfl ?_
            refine lv_icmp_eq (tgt := 145) hx hb dX11_told_131 (by decide) (fun c45 => ?_) (fun c45 => ?_)
            · have h := ip c45 h
              refine lv_bipush (v := (-9 : Int32)) hx hb dX11_told_145 rfl ?_
              obtain rfl := Option.some.inj h
              exact hret _ _ _ _ _ hP hS dX11_told_147 rfl rfl
            · have h := im c45 h
              refine lv_aload_n hx hb dX11_told_134 rfl (lv_at hl 0 rfl) ?_
              refine lv_iload hx hb dX11_told_135 (lv_at hl 3 rfl) ?_
              refine lv_iload hx hb dX11_told_137 (lv_at hl 4 rfl) ?_
              obtain ⟨r46, e46, h⟩ := bd h
              refine roV X [.int z34.2.1, .int z34.2.2] [] (c_Mo_isSide l D cC cI cZ a_this a_now a_undos a_seen a_seenAs a_isKept a_kept a_text a_read a_fewest a_doors a_isSo v_undoMany v_undoAt v_seenMany v_letterMany v_readAt v_tokenAt v_token v_value v_faultAt v_readOnce v_greatUpper v_greatLower A_now A_undos A_seen A_seenAs A_isKept A_kept A_text A_read z33.2 A_doors A_isSo z34.2.1 z34.2.2 r46 e46) gg_X11_192 hd_Mo_isSide ⟨rfl, rfl, Nat.le_of_ble_eq_true rfl, Nat.le_of_ble_eq_true rfl⟩ ⟨Nat.zero_le _, Nat.zero_le _⟩ hP [0, 1, 2, 3, 4, 5, 6, 7, 8, 9, 10, 11] rfl rfl rfl rfl hl.1 rfl (Nat.le_of_ble_eq_true rfl) dX11_told_139 (fun n46 => ?_)
              refine lv_if_ne (tgt := 148) hx hb dX11_told_142 (by decide) (fun c47 => ?_) (fun c47 => ?_)
              · have h := im c47 h
                refine lv_aload_n hx hb dX11_told_148 rfl (lv_at hl 0 rfl) ?_
                refine va_get (ci := 11) (v := .ref a_now) (C := RX11) (T := TX11) (N := 23) hx hb htT inlX11 hown hK hP 0 rfl rfl 0 (by decide) (htT _ q_7_0) (fun _ h9 => h9) rfl dX11_told_149 ?_
                refine lv_iconst (v := (3 : Int32)) hx hb dX11_told_152 rfl ?_
                refine lv_iload hx hb dX11_told_153 (lv_at hl 4 rfl) ?_
                refine lv_iadd hx hb dX11_told_155 ?_
                obtain ⟨g48, h⟩ := gd h
                refine va_iald hx hb hK hP 1 1 rfl rfl (inB_in g48) dX11_told_156 ?_
                refine lv_aload_n hx hb dX11_told_157 rfl (lv_at hl 0 rfl) ?_
                refine va_get (ci := 11) (v := .ref a_now) (C := RX11) (T := TX11) (N := 23) hx hb htT inlX11 hown hK hP 0 rfl rfl 0 (by decide) (htT _ q_7_0) (fun _ h9 => h9) rfl dX11_told_158 ?_
                refine lv_iconst (v := (3 : Int32)) hx hb dX11_told_161 rfl ?_
                refine lv_iload hx hb dX11_told_162 (lv_at hl 3 rfl) ?_
                refine lv_iadd hx hb dX11_told_164 ?_
                obtain ⟨g49, h⟩ := gd h
                refine va_iald hx hb hK hP 1 1 rfl rfl (inB_in g49) dX11_told_165 ?_
                refine lv_isub hx hb dX11_told_166 ?_
                refine lv_istore (lv' := [(7, .int ((A_now (((3 : Int32) + z34.2.2)).toNatClampNeg) - (A_now (((3 : Int32) + z34.2.1)).toNatClampNeg))), (0, .ref a_this), (1, .int p1), (3, .int p3), (5, .int z34.2.1), (6, .int z34.2.2)]) hx hb dX11_told_167 hl (by decide) rfl (fun ls hl => ?_)
                refine lv_aload_n hx hb dX11_told_169 rfl (lv_at hl 1 rfl) ?_
                refine va_get (ci := 11) (v := .ref a_now) (C := RX11) (T := TX11) (N := 23) hx hb htT inlX11 hown hK hP 0 rfl rfl 0 (by decide) (htT _ q_7_0) (fun _ h9 => h9) rfl dX11_told_170 ?_
                refine lv_bipush (v := (17 : Int32)) hx hb dX11_told_173 rfl ?_
                refine lv_iload hx hb dX11_told_175 (lv_at hl 4 rfl) ?_
                refine lv_iadd hx hb dX11_told_177 ?_
                obtain ⟨g50, h⟩ := gd h
                refine va_iald hx hb hK hP 1 1 rfl rfl (inB_in g50) dX11_told_178 ?_
                refine lv_aload_n hx hb dX11_told_179 rfl (lv_at hl 1 rfl) ?_
                refine va_get (ci := 11) (v := .ref a_now) (C := RX11) (T := TX11) (N := 23) hx hb htT inlX11 hown hK hP 0 rfl rfl 0 (by decide) (htT _ q_7_0) (fun _ h9 => h9) rfl dX11_told_180 ?_
                refine lv_iconst (v := (3 : Int32)) hx hb dX11_told_183 rfl ?_
                refine lv_iload hx hb dX11_told_184 (lv_at hl 5 rfl) ?_
                refine lv_iadd hx hb dX11_told_186 ?_
                obtain ⟨g51, h⟩ := gd h
                refine va_iald hx hb hK hP 1 1 rfl rfl (inB_in g51) dX11_told_187 ?_
                refine lv_iload_n hx hb dX11_told_188 rfl (lv_at hl 2 rfl) ?_
                refine lv_isub hx hb dX11_told_189 ?_
                refine lv_imul hx hb dX11_told_190 ?_
                refine lv_aload_n hx hb dX11_told_191 rfl (lv_at hl 1 rfl) ?_
                refine va_get (ci := 11) (v := .ref a_now) (C := RX11) (T := TX11) (N := 23) hx hb htT inlX11 hown hK hP 0 rfl rfl 0 (by decide) (htT _ q_7_0) (fun _ h9 => h9) rfl dX11_told_192 ?_
                refine lv_bipush (v := (17 : Int32)) hx hb dX11_told_195 rfl ?_
                refine lv_iload hx hb dX11_told_197 (lv_at hl 5 rfl) ?_
                refine lv_iadd hx hb dX11_told_199 ?_
                obtain ⟨g52, h⟩ := gd h
                refine va_iald hx hb hK hP 1 1 rfl rfl (inB_in g52) dX11_told_200 ?_
                refine lv_iload_n hx hb dX11_told_201 rfl (lv_at hl 2 rfl) ?_
                refine lv_aload_n hx hb dX11_told_202 rfl (lv_at hl 1 rfl) ?_
                refine va_get (ci := 11) (v := .ref a_now) (C := RX11) (T := TX11) (N := 23) hx hb htT inlX11 hown hK hP 0 rfl rfl 0 (by decide) (htT _ q_7_0) (fun _ h9 => h9) rfl dX11_told_203 ?_
                refine lv_iconst (v := (3 : Int32)) hx hb dX11_told_206 rfl ?_
                refine lv_iload hx hb dX11_told_207 (lv_at hl 4 rfl) ?_
                refine lv_iadd hx hb dX11_told_209 ?_
                obtain ⟨g53, h⟩ := gd h
                refine va_iald hx hb hK hP 1 1 rfl rfl (inB_in g53) dX11_told_210 ?_
                refine lv_isub hx hb dX11_told_211 ?_
                refine lv_imul hx hb dX11_told_212 ?_
                refine lv_iadd hx hb dX11_told_213 ?_
                refine lv_istore (lv' := [(8, .int (((A_now (((17 : Int32) + z34.2.1)).toNatClampNeg) * ((A_now (((3 : Int32) + z34.2.2)).toNatClampNeg) - p1)) + ((A_now (((17 : Int32) + z34.2.2)).toNatClampNeg) * (p1 - (A_now (((3 : Int32) + z34.2.1)).toNatClampNeg))))), (7, .int ((A_now (((3 : Int32) + z34.2.2)).toNatClampNeg) - (A_now (((3 : Int32) + z34.2.1)).toNatClampNeg))), (0, .ref a_this), (1, .int p1), (3, .int p3), (5, .int z34.2.1), (6, .int z34.2.2)]) hx hb dX11_told_214 hl (by decide) rfl (fun ls hl => ?_)
                refine lv_iload hx hb dX11_told_216 (lv_at hl 0 rfl) ?_
                refine lv_i2l hx hb dX11_told_218 rfl ?_
                refine lv_iload hx hb dX11_told_219 (lv_at hl 1 rfl) ?_
                refine lv_i2l hx hb dX11_told_221 rfl ?_
                refine lv_iload_n hx hb dX11_told_222 rfl (lv_at hl 4 rfl) ?_
                refine lv_if_ne (tgt := 230) hx hb dX11_told_223 (by decide) (fun c54 => ?_) (fun c54 => ?_)
                · have h := im c54 h
                  refine lv_iconst (v := (0 : Int32)) hx hb dX11_told_230 rfl ?_
                  obtain ⟨r56, e56, h⟩ := bd h
                  refine roS X [.long (((((A_now (((17 : Int32) + z34.2.1)).toNatClampNeg) * ((A_now (((3 : Int32) + z34.2.2)).toNatClampNeg) - p1)) + ((A_now (((17 : Int32) + z34.2.2)).toNatClampNeg) * (p1 - (A_now (((3 : Int32) + z34.2.1)).toNatClampNeg))))).toInt64), .long ((((A_now (((3 : Int32) + z34.2.2)).toNatClampNeg) - (A_now (((3 : Int32) + z34.2.1)).toNatClampNeg))).toInt64), .int (0 : Int32)] [] (c_Mo_lowest l D cC cI cZ (((((A_now (((17 : Int32) + z34.2.1)).toNatClampNeg) * ((A_now (((3 : Int32) + z34.2.2)).toNatClampNeg) - p1)) + ((A_now (((17 : Int32) + z34.2.2)).toNatClampNeg) * (p1 - (A_now (((3 : Int32) + z34.2.1)).toNatClampNeg))))).toInt64) ((((A_now (((3 : Int32) + z34.2.2)).toNatClampNeg) - (A_now (((3 : Int32) + z34.2.1)).toNatClampNeg))).toInt64) (0 : Int32) r56 e56) gg_X11_195 hd_Mo_lowest ⟨rfl, rfl, Nat.le_of_ble_eq_true rfl, Nat.le_of_ble_eq_true rfl⟩ ⟨Nat.zero_le _, Nat.zero_le _⟩ hP [] rfl hl.1 rfl (Nat.le_of_ble_eq_true rfl) dX11_told_231 (fun n56 => ?_)
                  obtain rfl := Option.some.inj h
                  exact hret _ _ _ _ _ hP hS dX11_told_234 rfl rfl
                · have h := ip c54 h
                  refine lv_iconst (v := (1 : Int32)) hx hb dX11_told_226 rfl ?_
                  refine lv_goto (tgt := 231) hx hb dX11_told_227 (by decide) ?_
                  obtain ⟨r55, e55, h⟩ := bd h
                  refine roS X [.long (((((A_now (((17 : Int32) + z34.2.1)).toNatClampNeg) * ((A_now (((3 : Int32) + z34.2.2)).toNatClampNeg) - p1)) + ((A_now (((17 : Int32) + z34.2.2)).toNatClampNeg) * (p1 - (A_now (((3 : Int32) + z34.2.1)).toNatClampNeg))))).toInt64), .long ((((A_now (((3 : Int32) + z34.2.2)).toNatClampNeg) - (A_now (((3 : Int32) + z34.2.1)).toNatClampNeg))).toInt64), .int (1 : Int32)] [] (c_Mo_lowest l D cC cI cZ (((((A_now (((17 : Int32) + z34.2.1)).toNatClampNeg) * ((A_now (((3 : Int32) + z34.2.2)).toNatClampNeg) - p1)) + ((A_now (((17 : Int32) + z34.2.2)).toNatClampNeg) * (p1 - (A_now (((3 : Int32) + z34.2.1)).toNatClampNeg))))).toInt64) ((((A_now (((3 : Int32) + z34.2.2)).toNatClampNeg) - (A_now (((3 : Int32) + z34.2.1)).toNatClampNeg))).toInt64) (1 : Int32) r55 e55) gg_X11_195 hd_Mo_lowest ⟨rfl, rfl, Nat.le_of_ble_eq_true rfl, Nat.le_of_ble_eq_true rfl⟩ ⟨Nat.zero_le _, Nat.zero_le _⟩ hP [] rfl hl.1 rfl (Nat.le_of_ble_eq_true rfl) dX11_told_231 (fun n55 => ?_)
                  obtain rfl := Option.some.inj h
                  exact hret _ _ _ _ _ hP hS dX11_told_234 rfl rfl
              · have h := ip c47 h
                refine lv_bipush (v := (-9 : Int32)) hx hb dX11_told_145 rfl ?_
                obtain rfl := Option.some.inj h
                exact hret _ _ _ _ _ hP hS dX11_told_147 rfl rfl
          · intro t34 H locs ls hP hD hS hl
            have h := im (by rw [t34]; decide) h
            have h := im (by rw [t34]; decide) h
            refine lv_bipush (v := (-9 : Int32)) hx hb dX11_told_245 rfl ?_
            obtain rfl := Option.some.inj h
            exact hret _ _ _ _ _ hP hS dX11_told_247 rfl rfl
        · have h := ip c7 h
          refine lv_aload_n hx hb dX11_told_35 rfl (lv_at hl 0 rfl) ?_
          refine lv_aload_n hx hb dX11_told_36 rfl (lv_at hl 0 rfl) ?_
          refine va_get (ci := 11) (v := .ref a_now) (C := RX11) (T := TX11) (N := 23) hx hb htT inlX11 hown hK hP 0 rfl rfl 0 (by decide) (htT _ q_7_0) (fun _ h9 => h9) rfl dX11_told_37 ?_
          refine lv_iconst (v := (1 : Int32)) hx hb dX11_told_40 rfl ?_
          obtain ⟨g8, h⟩ := gd h
          refine va_iald hx hb hK hP 1 1 rfl rfl (inB_in g8) dX11_told_41 ?_
          obtain ⟨r9, e9, h⟩ := bd h
          refine roV X [.int (A_now ((1 : Int32)).toNatClampNeg)] [] (c_Mo_door l D cC cI cZ a_this a_now a_undos a_seen a_seenAs a_isKept a_kept a_text a_read a_fewest a_doors a_isSo v_undoMany v_undoAt v_seenMany v_letterMany v_readAt v_tokenAt v_token v_value v_faultAt v_readOnce v_greatUpper v_greatLower A_now A_undos A_seen A_seenAs A_isKept A_kept A_text A_read A_fewest A_doors A_isSo (A_now ((1 : Int32)).toNatClampNeg) r9 e9) gg_X11_172 hd_Mo_door ⟨rfl, rfl, Nat.le_of_ble_eq_true rfl, Nat.le_of_ble_eq_true rfl⟩ ⟨Nat.zero_le _, Nat.zero_le _⟩ hP [0, 1, 2, 3, 4, 5, 6, 7, 8, 9, 10, 11] rfl rfl rfl rfl hl.1 rfl (Nat.le_of_ble_eq_true rfl) dX11_told_42 (fun n9 => ?_)
          refine lv_goto (tgt := 52) hx hb dX11_told_45 (by decide) ?_
          refine lv_istore (lv' := [(4, .int r9), (0, .ref a_this), (1, .int p1), (2, .int p2), (3, .int p3)]) hx hb dX11_told_52 hl (by decide) rfl (fun ls hl => ?_)
          refine lv_bipush (v := (-9 : Int32)) hx hb dX11_told_54 rfl ?_
          refine lv_istore (lv' := [(5, .int (-9 : Int32)), (4, .int r9), (0, .ref a_this), (1, .int p1), (2, .int p2), (3, .int p3)]) hx hb dX11_told_56 hl (by decide) rfl (fun ls hl => ?_)
          refine lv_iconst (v := (0 : Int32)) hx hb dX11_told_58 rfl ?_
          refine lv_istore (lv' := [(6, .int (0 : Int32)), (5, .int (-9 : Int32)), (4, .int r9), (0, .ref a_this), (1, .int p1), (2, .int p2), (3, .int p3)]) hx hb dX11_told_59 hl (by decide) rfl (fun ls hl => ?_)
          have LP61 : ∀ (n : Nat) (y61_5 : Int32) (y61_6 : Int32) (zq61 : Nat × Int32 × Int32), f_Mo_told_L61 p1 p3 r9 A_now n y61_5 y61_6 = some zq61 → ∀ (H : Heap) (locs : List Loc) (ls : Array Slot), va_P D vwCl (k_Mo cC cI cZ a_this a_now a_undos a_seen a_seenAs a_isKept a_kept a_text a_read a_fewest a_doors a_isSo v_undoMany v_undoAt v_seenMany v_letterMany v_readAt v_tokenAt v_token v_value v_faultAt v_readOnce v_greatUpper v_greatLower A_now A_undos A_seen A_seenAs A_isKept A_kept A_text A_read A_fewest A_doors A_isSo) H → va_D A (k_Mo cC cI cZ a_this a_now a_undos a_seen a_seenAs a_isKept a_kept a_text a_read a_fewest a_doors a_isSo v_undoMany v_undoAt v_seenMany v_letterMany v_readAt v_tokenAt v_token v_value v_faultAt v_readOnce v_greatUpper v_greatLower A_now A_undos A_seen A_seenAs A_isKept A_kept A_text A_read A_fewest A_doors A_isSo) → va_S A s.heap H locs → lv_has ls 9 [(0, .ref a_this), (1, .int p1), (3, .int p3), (4, .int r9), (5, .int y61_5), (6, .int y61_6)] → (zq61.1 = 0 → ∀ (H : Heap) (locs : List Loc) (ls : Array Slot), va_P D vwCl (k_Mo cC cI cZ a_this a_now a_undos a_seen a_seenAs a_isKept a_kept a_text a_read a_fewest a_doors a_isSo v_undoMany v_undoAt v_seenMany v_letterMany v_readAt v_tokenAt v_token v_value v_faultAt v_readOnce v_greatUpper v_greatLower A_now A_undos A_seen A_seenAs A_isKept A_kept A_text A_read A_fewest A_doors A_isSo) H → va_D A (k_Mo cC cI cZ a_this a_now a_undos a_seen a_seenAs a_isKept a_kept a_text a_read a_fewest a_doors a_isSo v_undoMany v_undoAt v_seenMany v_letterMany v_readAt v_tokenAt v_token v_value v_faultAt v_readOnce v_greatUpper v_greatLower A_now A_undos A_seen A_seenAs A_isKept A_kept A_text A_read A_fewest A_doors A_isSo) → va_S A s.heap H locs → lv_has ls 9 [(0, .ref a_this), (3, .int p3), (6, .int zq61.2.2)] → W p l e (RM 6 132) s m args below meth c H locs 0 0 Q (F0 m 95 ls [])) → (zq61.1 = 1 → ∀ (H : Heap) (locs : List Loc) (ls : Array Slot), va_P D vwCl (k_Mo cC cI cZ a_this a_now a_undos a_seen a_seenAs a_isKept a_kept a_text a_read a_fewest a_doors a_isSo v_undoMany v_undoAt v_seenMany v_letterMany v_readAt v_tokenAt v_token v_value v_faultAt v_readOnce v_greatUpper v_greatLower A_now A_undos A_seen A_seenAs A_isKept A_kept A_text A_read A_fewest A_doors A_isSo) H → va_D A (k_Mo cC cI cZ a_this a_now a_undos a_seen a_seenAs a_isKept a_kept a_text a_read a_fewest a_doors a_isSo v_undoMany v_undoAt v_seenMany v_letterMany v_readAt v_tokenAt v_token v_value v_faultAt v_readOnce v_greatUpper v_greatLower A_now A_undos A_seen A_seenAs A_isKept A_kept A_text A_read A_fewest A_doors A_isSo) → va_S A s.heap H locs → lv_has ls 9 [(0, .ref a_this), (1, .int p1), (3, .int p3), (5, .int zq61.2.1), (6, .int zq61.2.2)] → W p l e (RM 6 132) s m args below meth c H locs 0 0 Q (F0 m 127 ls [])) → (zq61.1 = 2 → ∀ (H : Heap) (locs : List Loc) (ls : Array Slot), va_P D vwCl (k_Mo cC cI cZ a_this a_now a_undos a_seen a_seenAs a_isKept a_kept a_text a_read a_fewest a_doors a_isSo v_undoMany v_undoAt v_seenMany v_letterMany v_readAt v_tokenAt v_token v_value v_faultAt v_readOnce v_greatUpper v_greatLower A_now A_undos A_seen A_seenAs A_isKept A_kept A_text A_read A_fewest A_doors A_isSo) H → va_D A (k_Mo cC cI cZ a_this a_now a_undos a_seen a_seenAs a_isKept a_kept a_text a_read a_fewest a_doors a_isSo v_undoMany v_undoAt v_seenMany v_letterMany v_readAt v_tokenAt v_token v_value v_faultAt v_readOnce v_greatUpper v_greatLower A_now A_undos A_seen A_seenAs A_isKept A_kept A_text A_read A_fewest A_doors A_isSo) → va_S A s.heap H locs → lv_has ls 9 [] → W p l e (RM 6 132) s m args below meth c H locs 0 0 Q (F0 m 245 ls [])) → W p l e (RM 6 132) s m args below meth c H locs 0 0 Q (F0 m 61 ls []) := by
            clear h
            intro n
            induction n with
            | zero =>
              intro y61_5 y61_6 zq61 h
              rw [f_Mo_told_L61_0] at h
              cases h
            | succ n ih61 =>
              intro y61_5 y61_6 zq61 h H locs ls hP hD hS hl k61_0 k61_1 k61_2
              rw [f_Mo_told_L61_s] at h
              refine lv_iload hx hb dX11_told_61 (lv_at hl 5 rfl) ?_
              refine lv_aload_n hx hb dX11_told_63 rfl (lv_at hl 0 rfl) ?_
              refine va_get (ci := 11) (v := .ref a_now) (C := RX11) (T := TX11) (N := 23) hx hb htT inlX11 hown hK hP 0 rfl rfl 0 (by decide) (htT _ q_7_0) (fun _ h9 => h9) rfl dX11_told_64 ?_
              refine lv_iconst (v := (0 : Int32)) hx hb dX11_told_67 rfl ?_
              obtain ⟨g11, h⟩ := gd h
              refine va_iald hx hb hK hP 1 1 rfl rfl (inB_in g11) dX11_told_68 ?_
              refine lv_icmp_ge (tgt := 245) hx hb dX11_told_69 (by decide) (fun c12 => ?_) (fun c12 => ?_)
              · have h := ip c12 h
                obtain rfl := Option.some.inj h
                exact k61_2 rfl _ _ _ hP hD hS (lv_sub hl [] rfl)
              · have h := im c12 h
                refine lv_iload hx hb dX11_told_72 (lv_at hl 3 rfl) ?_
                refine lv_iload hx hb dX11_told_74 (lv_at hl 5 rfl) ?_
                refine roS X [.int r9, .int y61_6] [] (c_Mo_has l D cC cI cZ r9 y61_6 _ rfl) gg_X11_87 hd_Mo_has ⟨rfl, rfl, Nat.le_of_ble_eq_true rfl, Nat.le_of_ble_eq_true rfl⟩ ⟨Nat.zero_le _, Nat.zero_le _⟩ hP [] rfl hl.1 rfl (Nat.le_of_ble_eq_true rfl) dX11_told_76 (fun n13 => ?_)
                refine lv_if_eq (tgt := 239) hx hb dX11_told_79 (by decide) (fun c14 => ?_) (fun c14 => ?_)
                · have h := ip c14 h
                  refine lv_iinc (v := (y61_6 + (1 : Int32))) (lv' := [(6, .int (y61_6 + (1 : Int32))), (0, .ref a_this), (1, .int p1), (3, .int p3), (4, .int r9), (5, .int y61_5)]) hx hb dX11_told_239 hl (k := 5) rfl rfl (by decide) rfl (fun ls hl => ?_)
                  refine lv_goto (tgt := 61) hx hb dX11_told_242 (by decide) ?_
                  exact ih61 y61_5 (y61_6 + (1 : Int32)) _ h _ _ _ hP hD hS (lv_sub hl [1, 2, 3, 4, 5, 0] rfl) k61_0 k61_1 k61_2
                · have h := im c14 h
                  refine lv_aload_n hx hb dX11_told_82 rfl (lv_at hl 0 rfl) ?_
                  refine va_get (ci := 11) (v := .ref a_now) (C := RX11) (T := TX11) (N := 23) hx hb htT inlX11 hown hK hP 0 rfl rfl 0 (by decide) (htT _ q_7_0) (fun _ h9 => h9) rfl dX11_told_83 ?_
                  refine lv_iconst (v := (3 : Int32)) hx hb dX11_told_86 rfl ?_
                  refine lv_iload hx hb dX11_told_87 (lv_at hl 5 rfl) ?_
                  refine lv_iadd hx hb dX11_told_89 ?_
                  obtain ⟨g15, h⟩ := gd h
                  refine va_iald hx hb hK hP 1 1 rfl rfl (inB_in g15) dX11_told_90 ?_
                  refine lv_iload_n hx hb dX11_told_91 rfl (lv_at hl 1 rfl) ?_
                  refine lv_icmp_ne (tgt := 114) hx hb dX11_told_92 (by decide) (fun c16 => ?_) (fun c16 => ?_)
                  · have h := im c16 h
                    refine lv_aload_n hx hb dX11_told_114 rfl (lv_at hl 0 rfl) ?_
                    refine va_get (ci := 11) (v := .ref a_now) (C := RX11) (T := TX11) (N := 23) hx hb htT inlX11 hown hK hP 0 rfl rfl 0 (by decide) (htT _ q_7_0) (fun _ h9 => h9) rfl dX11_told_115 ?_
                    refine lv_iconst (v := (3 : Int32)) hx hb dX11_told_118 rfl ?_
                    refine lv_iload hx hb dX11_told_119 (lv_at hl 5 rfl) ?_
                    refine lv_iadd hx hb dX11_told_121 ?_
                    obtain ⟨g17, h⟩ := gd h
                    refine va_iald hx hb hK hP 1 1 rfl rfl (inB_in g17) dX11_told_122 ?_
                    refine lv_iload_n hx hb dX11_told_123 rfl (lv_at hl 1 rfl) ?_
                    refine lv_icmp_le (tgt := 235) hx hb dX11_told_124 (by decide) (fun c18 => ?_) (fun c18 => ?_)
                    · have h := ip c18 h
                      refine lv_iload hx hb dX11_told_235 (lv_at hl 5 rfl) ?_
                      refine lv_istore (lv' := [(5, .int y61_6), (0, .ref a_this), (1, .int p1), (3, .int p3), (4, .int r9), (6, .int y61_6)]) hx hb dX11_told_237 hl (by decide) rfl (fun ls hl => ?_)
                      refine lv_iinc (v := (y61_6 + (1 : Int32))) (lv' := [(6, .int (y61_6 + (1 : Int32))), (5, .int y61_6), (0, .ref a_this), (1, .int p1), (3, .int p3), (4, .int r9)]) hx hb dX11_told_239 hl (k := 5) rfl rfl (by decide) rfl (fun ls hl => ?_)
                      refine lv_goto (tgt := 61) hx hb dX11_told_242 (by decide) ?_
                      exact ih61 y61_6 (y61_6 + (1 : Int32)) _ h _ _ _ hP hD hS (lv_sub hl [2, 3, 4, 5, 1, 0] rfl) k61_0 k61_1 k61_2
                    · have h := im c18 h
                      obtain rfl := Option.some.inj h
                      exact k61_1 rfl _ _ _ hP hD hS (lv_sub hl [0, 1, 2, 4, 5] rfl)
                  · have h := ip c16 h
                    obtain rfl := Option.some.inj h
                    exact k61_0 rfl _ _ _ hP hD hS (lv_sub hl [0, 2, 5] rfl)
          obtain ⟨z10, e10, h⟩ := bd h
          refine LP61 fu (-9 : Int32) (0 : Int32) z10 e10 _ _ _ hP hD hS (lv_sub hl [3, 4, 6, 2, 1, 0] rfl) ?_ ?_ ?_
          · intro t10 H locs ls hP hD hS hl
            have h := ip t10 h
            refine lv_iload_n hx hb dX11_told_95 rfl (lv_at hl 1 rfl) ?_
            refine lv_if_ne (tgt := 112) hx hb dX11_told_96 (by decide) (fun c19 => ?_) (fun c19 => ?_)
            · have h := im c19 h
              refine lv_iconst (v := (1 : Int32)) hx hb dX11_told_112 rfl ?_
              obtain rfl := Option.some.inj h
              exact hret _ _ _ _ _ hP hS dX11_told_113 rfl rfl
            · have h := ip c19 h
              refine lv_aload_n hx hb dX11_told_99 rfl (lv_at hl 0 rfl) ?_
              refine va_get (ci := 11) (v := .ref a_now) (C := RX11) (T := TX11) (N := 23) hx hb htT inlX11 hown hK hP 0 rfl rfl 0 (by decide) (htT _ q_7_0) (fun _ h9 => h9) rfl dX11_told_100 ?_
              refine lv_bipush (v := (17 : Int32)) hx hb dX11_told_103 rfl ?_
              refine lv_iload hx hb dX11_told_105 (lv_at hl 2 rfl) ?_
              refine lv_iadd hx hb dX11_told_107 ?_
              obtain ⟨g20, h⟩ := gd h
              refine va_iald hx hb hK hP 1 1 rfl rfl (inB_in g20) dX11_told_108 ?_
              refine lv_goto (tgt := 113) hx hb dX11_told_109 (by decide) ?_
              obtain rfl := Option.some.inj h
              exact hret _ _ _ _ _ hP hS dX11_told_113 rfl rfl
          · intro t10 H locs ls hP hD hS hl
            have h := im (by rw [t10]; decide) h
            have h := ip t10 h
            refine lv_iload hx hb dX11_told_127 (lv_at hl 3 rfl) ?_
            refine lv_bipush (v := (-9 : Int32)) hx hb dX11_told_129 rfl ?_
            refine lv_icmp_eq (tgt := 145) hx hb dX11_told_131 (by decide) (fun c21 => ?_) (fun c21 => ?_)
            · have h := ip c21 h
              refine lv_bipush (v := (-9 : Int32)) hx hb dX11_told_145 rfl ?_
              obtain rfl := Option.some.inj h
              exact hret _ _ _ _ _ hP hS dX11_told_147 rfl rfl
            · have h := im c21 h
              refine lv_aload_n hx hb dX11_told_134 rfl (lv_at hl 0 rfl) ?_
              refine lv_iload hx hb dX11_told_135 (lv_at hl 3 rfl) ?_
              refine lv_iload hx hb dX11_told_137 (lv_at hl 4 rfl) ?_
              obtain ⟨r22, e22, h⟩ := bd h
              refine roV X [.int z10.2.1, .int z10.2.2] [] (c_Mo_isSide l D cC cI cZ a_this a_now a_undos a_seen a_seenAs a_isKept a_kept a_text a_read a_fewest a_doors a_isSo v_undoMany v_undoAt v_seenMany v_letterMany v_readAt v_tokenAt v_token v_value v_faultAt v_readOnce v_greatUpper v_greatLower A_now A_undos A_seen A_seenAs A_isKept A_kept A_text A_read A_fewest A_doors A_isSo z10.2.1 z10.2.2 r22 e22) gg_X11_192 hd_Mo_isSide ⟨rfl, rfl, Nat.le_of_ble_eq_true rfl, Nat.le_of_ble_eq_true rfl⟩ ⟨Nat.zero_le _, Nat.zero_le _⟩ hP [0, 1, 2, 3, 4, 5, 6, 7, 8, 9, 10, 11] rfl rfl rfl rfl hl.1 rfl (Nat.le_of_ble_eq_true rfl) dX11_told_139 (fun n22 => ?_)
              refine lv_if_ne (tgt := 148) hx hb dX11_told_142 (by decide) (fun c23 => ?_) (fun c23 => ?_)
              · have h := im c23 h
                refine lv_aload_n hx hb dX11_told_148 rfl (lv_at hl 0 rfl) ?_
                refine va_get (ci := 11) (v := .ref a_now) (C := RX11) (T := TX11) (N := 23) hx hb htT inlX11 hown hK hP 0 rfl rfl 0 (by decide) (htT _ q_7_0) (fun _ h9 => h9) rfl dX11_told_149 ?_
                refine lv_iconst (v := (3 : Int32)) hx hb dX11_told_152 rfl ?_
                refine lv_iload hx hb dX11_told_153 (lv_at hl 4 rfl) ?_
                refine lv_iadd hx hb dX11_told_155 ?_
                obtain ⟨g24, h⟩ := gd h
                refine va_iald hx hb hK hP 1 1 rfl rfl (inB_in g24) dX11_told_156 ?_
                refine lv_aload_n hx hb dX11_told_157 rfl (lv_at hl 0 rfl) ?_
                refine va_get (ci := 11) (v := .ref a_now) (C := RX11) (T := TX11) (N := 23) hx hb htT inlX11 hown hK hP 0 rfl rfl 0 (by decide) (htT _ q_7_0) (fun _ h9 => h9) rfl dX11_told_158 ?_
                refine lv_iconst (v := (3 : Int32)) hx hb dX11_told_161 rfl ?_
                refine lv_iload hx hb dX11_told_162 (lv_at hl 3 rfl) ?_
                refine lv_iadd hx hb dX11_told_164 ?_
                obtain ⟨g25, h⟩ := gd h
                refine va_iald hx hb hK hP 1 1 rfl rfl (inB_in g25) dX11_told_165 ?_
                refine lv_isub hx hb dX11_told_166 ?_
                refine lv_istore (lv' := [(7, .int ((A_now (((3 : Int32) + z10.2.2)).toNatClampNeg) - (A_now (((3 : Int32) + z10.2.1)).toNatClampNeg))), (0, .ref a_this), (1, .int p1), (3, .int p3), (5, .int z10.2.1), (6, .int z10.2.2)]) hx hb dX11_told_167 hl (by decide) rfl (fun ls hl => ?_)
                refine lv_aload_n hx hb dX11_told_169 rfl (lv_at hl 1 rfl) ?_
                refine va_get (ci := 11) (v := .ref a_now) (C := RX11) (T := TX11) (N := 23) hx hb htT inlX11 hown hK hP 0 rfl rfl 0 (by decide) (htT _ q_7_0) (fun _ h9 => h9) rfl dX11_told_170 ?_
                refine lv_bipush (v := (17 : Int32)) hx hb dX11_told_173 rfl ?_
                refine lv_iload hx hb dX11_told_175 (lv_at hl 4 rfl) ?_
                refine lv_iadd hx hb dX11_told_177 ?_
                obtain ⟨g26, h⟩ := gd h
                refine va_iald hx hb hK hP 1 1 rfl rfl (inB_in g26) dX11_told_178 ?_
                refine lv_aload_n hx hb dX11_told_179 rfl (lv_at hl 1 rfl) ?_
                refine va_get (ci := 11) (v := .ref a_now) (C := RX11) (T := TX11) (N := 23) hx hb htT inlX11 hown hK hP 0 rfl rfl 0 (by decide) (htT _ q_7_0) (fun _ h9 => h9) rfl dX11_told_180 ?_
                refine lv_iconst (v := (3 : Int32)) hx hb dX11_told_183 rfl ?_
                refine lv_iload hx hb dX11_told_184 (lv_at hl 5 rfl) ?_
                refine lv_iadd hx hb dX11_told_186 ?_
                obtain ⟨g27, h⟩ := gd h
                refine va_iald hx hb hK hP 1 1 rfl rfl (inB_in g27) dX11_told_187 ?_
                refine lv_iload_n hx hb dX11_told_188 rfl (lv_at hl 2 rfl) ?_
                refine lv_isub hx hb dX11_told_189 ?_
                refine lv_imul hx hb dX11_told_190 ?_
                refine lv_aload_n hx hb dX11_told_191 rfl (lv_at hl 1 rfl) ?_
                refine va_get (ci := 11) (v := .ref a_now) (C := RX11) (T := TX11) (N := 23) hx hb htT inlX11 hown hK hP 0 rfl rfl 0 (by decide) (htT _ q_7_0) (fun _ h9 => h9) rfl dX11_told_192 ?_
                refine lv_bipush (v := (17 : Int32)) hx hb dX11_told_195 rfl ?_
                refine lv_iload hx hb dX11_told_197 (lv_at hl 5 rfl) ?_
                refine lv_iadd hx hb dX11_told_199 ?_
                obtain ⟨g28, h⟩ := gd h
                refine va_iald hx hb hK hP 1 1 rfl rfl (inB_in g28) dX11_told_200 ?_
                refine lv_iload_n hx hb dX11_told_201 rfl (lv_at hl 2 rfl) ?_
                refine lv_aload_n hx hb dX11_told_202 rfl (lv_at hl 1 rfl) ?_
                refine va_get (ci := 11) (v := .ref a_now) (C := RX11) (T := TX11) (N := 23) hx hb htT inlX11 hown hK hP 0 rfl rfl 0 (by decide) (htT _ q_7_0) (fun _ h9 => h9) rfl dX11_told_203 ?_
                refine lv_iconst (v := (3 : Int32)) hx hb dX11_told_206 rfl ?_
                refine lv_iload hx hb dX11_told_207 (lv_at hl 4 rfl) ?_
                refine lv_iadd hx hb dX11_told_209 ?_
                obtain ⟨g29, h⟩ := gd h
                refine va_iald hx hb hK hP 1 1 rfl rfl (inB_in g29) dX11_told_210 ?_
                refine lv_isub hx hb dX11_told_211 ?_
                refine lv_imul hx hb dX11_told_212 ?_
                refine lv_iadd hx hb dX11_told_213 ?_
                refine lv_istore (lv' := [(8, .int (((A_now (((17 : Int32) + z10.2.1)).toNatClampNeg) * ((A_now (((3 : Int32) + z10.2.2)).toNatClampNeg) - p1)) + ((A_now (((17 : Int32) + z10.2.2)).toNatClampNeg) * (p1 - (A_now (((3 : Int32) + z10.2.1)).toNatClampNeg))))), (7, .int ((A_now (((3 : Int32) + z10.2.2)).toNatClampNeg) - (A_now (((3 : Int32) + z10.2.1)).toNatClampNeg))), (0, .ref a_this), (1, .int p1), (3, .int p3), (5, .int z10.2.1), (6, .int z10.2.2)]) hx hb dX11_told_214 hl (by decide) rfl (fun ls hl => ?_)
                refine lv_iload hx hb dX11_told_216 (lv_at hl 0 rfl) ?_
                refine lv_i2l hx hb dX11_told_218 rfl ?_
                refine lv_iload hx hb dX11_told_219 (lv_at hl 1 rfl) ?_
                refine lv_i2l hx hb dX11_told_221 rfl ?_
                refine lv_iload_n hx hb dX11_told_222 rfl (lv_at hl 4 rfl) ?_
                refine lv_if_ne (tgt := 230) hx hb dX11_told_223 (by decide) (fun c30 => ?_) (fun c30 => ?_)
                · have h := im c30 h
                  refine lv_iconst (v := (0 : Int32)) hx hb dX11_told_230 rfl ?_
                  obtain ⟨r32, e32, h⟩ := bd h
                  refine roS X [.long (((((A_now (((17 : Int32) + z10.2.1)).toNatClampNeg) * ((A_now (((3 : Int32) + z10.2.2)).toNatClampNeg) - p1)) + ((A_now (((17 : Int32) + z10.2.2)).toNatClampNeg) * (p1 - (A_now (((3 : Int32) + z10.2.1)).toNatClampNeg))))).toInt64), .long ((((A_now (((3 : Int32) + z10.2.2)).toNatClampNeg) - (A_now (((3 : Int32) + z10.2.1)).toNatClampNeg))).toInt64), .int (0 : Int32)] [] (c_Mo_lowest l D cC cI cZ (((((A_now (((17 : Int32) + z10.2.1)).toNatClampNeg) * ((A_now (((3 : Int32) + z10.2.2)).toNatClampNeg) - p1)) + ((A_now (((17 : Int32) + z10.2.2)).toNatClampNeg) * (p1 - (A_now (((3 : Int32) + z10.2.1)).toNatClampNeg))))).toInt64) ((((A_now (((3 : Int32) + z10.2.2)).toNatClampNeg) - (A_now (((3 : Int32) + z10.2.1)).toNatClampNeg))).toInt64) (0 : Int32) r32 e32) gg_X11_195 hd_Mo_lowest ⟨rfl, rfl, Nat.le_of_ble_eq_true rfl, Nat.le_of_ble_eq_true rfl⟩ ⟨Nat.zero_le _, Nat.zero_le _⟩ hP [] rfl hl.1 rfl (Nat.le_of_ble_eq_true rfl) dX11_told_231 (fun n32 => ?_)
                  obtain rfl := Option.some.inj h
                  exact hret _ _ _ _ _ hP hS dX11_told_234 rfl rfl
                · have h := ip c30 h
                  refine lv_iconst (v := (1 : Int32)) hx hb dX11_told_226 rfl ?_
                  refine lv_goto (tgt := 231) hx hb dX11_told_227 (by decide) ?_
                  obtain ⟨r31, e31, h⟩ := bd h
                  refine roS X [.long (((((A_now (((17 : Int32) + z10.2.1)).toNatClampNeg) * ((A_now (((3 : Int32) + z10.2.2)).toNatClampNeg) - p1)) + ((A_now (((17 : Int32) + z10.2.2)).toNatClampNeg) * (p1 - (A_now (((3 : Int32) + z10.2.1)).toNatClampNeg))))).toInt64), .long ((((A_now (((3 : Int32) + z10.2.2)).toNatClampNeg) - (A_now (((3 : Int32) + z10.2.1)).toNatClampNeg))).toInt64), .int (1 : Int32)] [] (c_Mo_lowest l D cC cI cZ (((((A_now (((17 : Int32) + z10.2.1)).toNatClampNeg) * ((A_now (((3 : Int32) + z10.2.2)).toNatClampNeg) - p1)) + ((A_now (((17 : Int32) + z10.2.2)).toNatClampNeg) * (p1 - (A_now (((3 : Int32) + z10.2.1)).toNatClampNeg))))).toInt64) ((((A_now (((3 : Int32) + z10.2.2)).toNatClampNeg) - (A_now (((3 : Int32) + z10.2.1)).toNatClampNeg))).toInt64) (1 : Int32) r31 e31) gg_X11_195 hd_Mo_lowest ⟨rfl, rfl, Nat.le_of_ble_eq_true rfl, Nat.le_of_ble_eq_true rfl⟩ ⟨Nat.zero_le _, Nat.zero_le _⟩ hP [] rfl hl.1 rfl (Nat.le_of_ble_eq_true rfl) dX11_told_231 (fun n31 => ?_)
                  obtain rfl := Option.some.inj h
                  exact hret _ _ _ _ _ hP hS dX11_told_234 rfl rfl
              · have h := ip c23 h
                refine lv_bipush (v := (-9 : Int32)) hx hb dX11_told_145 rfl ?_
                obtain rfl := Option.some.inj h
                exact hret _ _ _ _ _ hP hS dX11_told_147 rfl rfl
          · intro t10 H locs ls hP hD hS hl
            have h := im (by rw [t10]; decide) h
            have h := im (by rw [t10]; decide) h
            refine lv_bipush (v := (-9 : Int32)) hx hb dX11_told_245 rfl ?_
            obtain rfl := Option.some.inj h
            exact hret _ _ _ _ _ hP hS dX11_told_247 rfl rfl
      · have h := ip c6 h
        refine lv_iconst (v := (-1 : Int32)) hx hb dX11_told_29 rfl ?_
        obtain rfl := Option.some.inj h
        exact hret _ _ _ _ _ hP hS dX11_told_30 rfl rfl
set_option maxHeartbeats 4000000 in
set_option maxRecDepth 100000 in
theorem c_Mo_type (l : Launch) (D : va_G) (cC cI cZ : ClassId) (a_this : Nat) (a_now : Nat) (a_undos : Nat) (a_seen : Nat) (a_seenAs : Nat) (a_isKept : Nat) (a_kept : Nat) (a_text : Nat) (a_read : Nat) (a_fewest : Nat) (a_doors : Nat) (a_isSo : Nat) (v_undoMany : Int32) (v_undoAt : Int32) (v_seenMany : Int32) (v_letterMany : Int32) (v_readAt : Int32) (v_tokenAt : Int32) (v_token : Int32) (v_value : Int32) (v_faultAt : Int32) (v_readOnce : Int32) (v_greatUpper : Int64) (v_greatLower : Int64) (A_now : Nat → Int32) (A_undos : Nat → Int32) (A_seen : Nat → Int32) (A_seenAs : Nat → Int32) (A_isKept : Nat → Int32) (A_kept : Nat → Int32) (A_text : Nat → Int32) (A_read : Nat → Int32) (A_fewest : Nat → Int32) (A_doors : Nat → Int32) (A_isSo : Nat → Int32) (p1 : Int32) (sz : Nat) (z : Int32 × Int32 × (Nat → Int32)) (h : f_Mo_type v_letterMany A_text p1 = some z) : Met l yX11_type (.code yX11_type cX11_type 2 (some .int) :: TBL) (RM 1 22) (PcM [.ref a_this, .int p1] sz D (TY cC cI cZ) (k_Mo cC cI cZ a_this a_now a_undos a_seen a_seenAs a_isKept a_kept a_text a_read a_fewest a_doors a_isSo v_undoMany v_undoAt v_seenMany v_letterMany v_readAt v_tokenAt v_token v_value v_faultAt v_readOnce v_greatUpper v_greatLower A_now A_undos A_seen A_seenAs A_isKept A_kept A_text A_read A_fewest A_doors A_isSo)) (fun a st o t => QM (some (.int z.1)) D (k_Mo cC cI cZ a_this a_now a_undos a_seen a_seenAs a_isKept a_kept a_text a_read a_fewest a_doors a_isSo v_undoMany v_undoAt v_seenMany z.2.1 v_readAt v_tokenAt v_token v_value v_faultAt v_readOnce v_greatUpper v_greatLower A_now A_undos A_seen A_seenAs A_isKept A_kept z.2.2 A_read A_fewest A_doors A_isSo) (va_A (k_Mo cC cI cZ a_this a_now a_undos a_seen a_seenAs a_isKept a_kept a_text a_read a_fewest a_doors a_isSo v_undoMany v_undoAt v_seenMany v_letterMany v_readAt v_tokenAt v_token v_value v_faultAt v_readOnce v_greatUpper v_greatLower A_now A_undos A_seen A_seenAs A_isKept A_kept A_text A_read A_fewest A_doors A_isSo) sz) a st o t ∧ narrow .int (.int z.1) = .int z.1) 0 0 (va_A (k_Mo cC cI cZ a_this a_now a_undos a_seen a_seenAs a_isKept a_kept a_text a_read a_fewest a_doors a_isSo v_undoMany v_undoAt v_seenMany v_letterMany v_readAt v_tokenAt v_token v_value v_faultAt v_readOnce v_greatUpper v_greatLower A_now A_undos A_seen A_seenAs A_isKept A_kept A_text A_read A_fewest A_doors A_isSo) sz) := by
  refine muOf (by decide) (Nat.le_of_ble_eq_true rfl) rfl ?_
  intro p e s m args below meth c Q ls A X hP hD hS hA hl hret
  have X : Ctx p s m args c cX11_type 2 RX11 D (TY cC cI cZ) := X
  obtain ⟨hx, hb, hml, hown, htT, hK, hN⟩ := id X
  unfold f_Mo_type at h
  refine lv_iload_n hx hb dX11_type_0 rfl (lv_at hl 1 rfl) ?_
  refine lv_iconst (v := (0 : Int32)) hx hb dX11_type_1 rfl ?_
  refine lv_sipush (v := (255 : Int32)) hx hb dX11_type_2 rfl ?_
  refine roS X [.int p1, .int (0 : Int32), .int (255 : Int32)] [] (c_Mo_in l D cC cI cZ p1 (0 : Int32) (255 : Int32) _ rfl) gg_X11_48 hd_Mo_in ⟨rfl, rfl, Nat.le_of_ble_eq_true rfl, Nat.le_of_ble_eq_true rfl⟩ ⟨Nat.zero_le _, Nat.zero_le _⟩ hP [] rfl hl.1 rfl (Nat.le_of_ble_eq_true rfl) dX11_type_5 (fun n1 => ?_)
  refine lv_if_ne (tgt := 13) hx hb dX11_type_8 (by decide) (fun c2 => ?_) (fun c2 => ?_)
  · have h := im c2 h
    refine lv_aload_n hx hb dX11_type_13 rfl (lv_at hl 0 rfl) ?_
    refine va_get (ci := 11) (v := .int v_letterMany) (C := RX11) (T := TX11) (N := 23) hx hb htT inlX11 hown hK hP 0 rfl rfl 9 (by decide) (htT _ q_8_11) (fun _ h9 => h9) rfl dX11_type_14 ?_
    refine lv_bipush (v := (120 : Int32)) hx hb dX11_type_17 rfl ?_
    refine lv_icmp_ne (tgt := 25) hx hb dX11_type_19 (by decide) (fun c3 => ?_) (fun c3 => ?_)
    · have h := im c3 h
      refine lv_aload_n hx hb dX11_type_25 rfl (lv_at hl 0 rfl) ?_
      refine va_get (ci := 11) (v := .ref a_text) (C := RX11) (T := TX11) (N := 23) hx hb htT inlX11 hown hK hP 0 rfl rfl 10 (by decide) (htT _ q_7_7) (fun _ h9 => h9) rfl dX11_type_26 ?_
      refine lv_aload_n hx hb dX11_type_29 rfl (lv_at hl 0 rfl) ?_
      refine va_get (ci := 11) (v := .int v_letterMany) (C := RX11) (T := TX11) (N := 23) hx hb htT inlX11 hown hK hP 0 rfl rfl 9 (by decide) (htT _ q_8_11) (fun _ h9 => h9) rfl dX11_type_30 ?_
      refine lv_iload_n hx hb dX11_type_33 rfl (lv_at hl 1 rfl) ?_
      obtain ⟨g4, h⟩ := gd h
      refine va_iast hx hb hK hP hD hS 7 1 rfl rfl (inB_in g4) dX11_type_34 (fun H locs hP hD hS => ?_)
      have hP : va_P D vwCl (k_Mo cC cI cZ a_this a_now a_undos a_seen a_seenAs a_isKept a_kept a_text a_read a_fewest a_doors a_isSo v_undoMany v_undoAt v_seenMany v_letterMany v_readAt v_tokenAt v_token v_value v_faultAt v_readOnce v_greatUpper v_greatLower A_now A_undos A_seen A_seenAs A_isKept A_kept (upd A_text (v_letterMany).toNatClampNeg p1) A_read A_fewest A_doors A_isSo) H := hP
      have hD : va_D A (k_Mo cC cI cZ a_this a_now a_undos a_seen a_seenAs a_isKept a_kept a_text a_read a_fewest a_doors a_isSo v_undoMany v_undoAt v_seenMany v_letterMany v_readAt v_tokenAt v_token v_value v_faultAt v_readOnce v_greatUpper v_greatLower A_now A_undos A_seen A_seenAs A_isKept A_kept (upd A_text (v_letterMany).toNatClampNeg p1) A_read A_fewest A_doors A_isSo) := hD
      refine lv_aload_n hx hb dX11_type_35 rfl (lv_at hl 0 rfl) ?_
      refine lv_dup hx hb dX11_type_36 rfl ?_
      refine va_get (ci := 11) (v := .int v_letterMany) (C := RX11) (T := TX11) (N := 23) hx hb htT inlX11 hown hK hP 0 rfl rfl 9 (by decide) (htT _ q_8_11) (fun _ h9 => h9) rfl dX11_type_37 ?_
      refine lv_iconst (v := (1 : Int32)) hx hb dX11_type_40 rfl ?_
      refine lv_iadd hx hb dX11_type_41 ?_
      refine va_put (ci := 11) (v := .int (v_letterMany + (1 : Int32))) (ty := .int) (C := RX11) (T := TX11) (N := 23) hx hb htT inlX11 tyX11 tyX11_ok nmX11 hown hK hP hD hS 0 rfl rfl 9 (by decide) (htT _ q_8_11) (fun _ h9 => h9) rfl (tyX11_ok 9 (by decide)) rfl rfl (Nat.le_of_ble_eq_true rfl) dX11_type_42 (fun H locs hP hD hS => ?_)
      have hP : va_P D vwCl (k_Mo cC cI cZ a_this a_now a_undos a_seen a_seenAs a_isKept a_kept a_text a_read a_fewest a_doors a_isSo v_undoMany v_undoAt v_seenMany (v_letterMany + (1 : Int32)) v_readAt v_tokenAt v_token v_value v_faultAt v_readOnce v_greatUpper v_greatLower A_now A_undos A_seen A_seenAs A_isKept A_kept (upd A_text (v_letterMany).toNatClampNeg p1) A_read A_fewest A_doors A_isSo) H := hP
      have hD : va_D A (k_Mo cC cI cZ a_this a_now a_undos a_seen a_seenAs a_isKept a_kept a_text a_read a_fewest a_doors a_isSo v_undoMany v_undoAt v_seenMany (v_letterMany + (1 : Int32)) v_readAt v_tokenAt v_token v_value v_faultAt v_readOnce v_greatUpper v_greatLower A_now A_undos A_seen A_seenAs A_isKept A_kept (upd A_text (v_letterMany).toNatClampNeg p1) A_read A_fewest A_doors A_isSo) := hD
      refine lv_aload_n hx hb dX11_type_45 rfl (lv_at hl 0 rfl) ?_
      refine va_get (ci := 11) (v := .int (v_letterMany + (1 : Int32))) (C := RX11) (T := TX11) (N := 23) hx hb htT inlX11 hown hK hP 0 rfl rfl 9 (by decide) (htT _ q_8_11) (fun _ h9 => h9) rfl dX11_type_46 ?_
      obtain rfl := Option.some.inj h
      exact hret _ _ _ _ _ hP hS dX11_type_49 rfl rfl
    · have h := ip c3 h
      refine lv_bipush (v := (-3 : Int32)) hx hb dX11_type_22 rfl ?_
      obtain rfl := Option.some.inj h
      exact hret _ _ _ _ _ hP hS dX11_type_24 rfl rfl
  · have h := ip c2 h
    refine lv_iconst (v := (-1 : Int32)) hx hb dX11_type_11 rfl ?_
    obtain rfl := Option.some.inj h
    exact hret _ _ _ _ _ hP hS dX11_type_12 rfl rfl
set_option maxHeartbeats 4000000 in
set_option maxRecDepth 100000 in
theorem c_Mo_undo (l : Launch) (D : va_G) (cC cI cZ : ClassId) (a_this : Nat) (a_now : Nat) (a_undos : Nat) (a_seen : Nat) (a_seenAs : Nat) (a_isKept : Nat) (a_kept : Nat) (a_text : Nat) (a_read : Nat) (a_fewest : Nat) (a_doors : Nat) (a_isSo : Nat) (v_undoMany : Int32) (v_undoAt : Int32) (v_seenMany : Int32) (v_letterMany : Int32) (v_readAt : Int32) (v_tokenAt : Int32) (v_token : Int32) (v_value : Int32) (v_faultAt : Int32) (v_readOnce : Int32) (v_greatUpper : Int64) (v_greatLower : Int64) (A_now : Nat → Int32) (A_undos : Nat → Int32) (A_seen : Nat → Int32) (A_seenAs : Nat → Int32) (A_isKept : Nat → Int32) (A_kept : Nat → Int32) (A_text : Nat → Int32) (A_read : Nat → Int32) (A_fewest : Nat → Int32) (A_doors : Nat → Int32) (A_isSo : Nat → Int32)  (sz : Nat) (z : Int32 × Int32 × Int32 × (Nat → Int32)) (h : f_Mo_undo v_undoMany v_undoAt A_now A_undos = some z) : Met l yX11_undo (.code yX11_undo cX11_undo 2 (some .int) :: TBL) (RM 0 0) (PcM [.ref a_this] sz D (TY cC cI cZ) (k_Mo cC cI cZ a_this a_now a_undos a_seen a_seenAs a_isKept a_kept a_text a_read a_fewest a_doors a_isSo v_undoMany v_undoAt v_seenMany v_letterMany v_readAt v_tokenAt v_token v_value v_faultAt v_readOnce v_greatUpper v_greatLower A_now A_undos A_seen A_seenAs A_isKept A_kept A_text A_read A_fewest A_doors A_isSo)) (fun a st o t => QM (some (.int z.1)) D (k_Mo cC cI cZ a_this a_now a_undos a_seen a_seenAs a_isKept a_kept a_text a_read a_fewest a_doors a_isSo z.2.1 z.2.2.1 v_seenMany v_letterMany v_readAt v_tokenAt v_token v_value v_faultAt v_readOnce v_greatUpper v_greatLower z.2.2.2 A_undos A_seen A_seenAs A_isKept A_kept A_text A_read A_fewest A_doors A_isSo) (va_A (k_Mo cC cI cZ a_this a_now a_undos a_seen a_seenAs a_isKept a_kept a_text a_read a_fewest a_doors a_isSo v_undoMany v_undoAt v_seenMany v_letterMany v_readAt v_tokenAt v_token v_value v_faultAt v_readOnce v_greatUpper v_greatLower A_now A_undos A_seen A_seenAs A_isKept A_kept A_text A_read A_fewest A_doors A_isSo) sz) a st o t ∧ narrow .int (.int z.1) = .int z.1) 0 0 (va_A (k_Mo cC cI cZ a_this a_now a_undos a_seen a_seenAs a_isKept a_kept a_text a_read a_fewest a_doors a_isSo v_undoMany v_undoAt v_seenMany v_letterMany v_readAt v_tokenAt v_token v_value v_faultAt v_readOnce v_greatUpper v_greatLower A_now A_undos A_seen A_seenAs A_isKept A_kept A_text A_read A_fewest A_doors A_isSo) sz) := by
  refine muOf (by decide) (Nat.le_of_ble_eq_true rfl) rfl ?_
  intro p e s m args below meth c Q ls A X hP hD hS hA hl hret
  have X : Ctx p s m args c cX11_undo 2 RX11 D (TY cC cI cZ) := X
  obtain ⟨hx, hb, hml, hown, htT, hK, hN⟩ := id X
  unfold f_Mo_undo at h
  refine lv_aload_n hx hb dX11_undo_0 rfl (lv_at hl 0 rfl) ?_
  refine va_get (ci := 11) (v := .int v_undoMany) (C := RX11) (T := TX11) (N := 23) hx hb htT inlX11 hown hK hP 0 rfl rfl 1 (by decide) (htT _ q_14_0) (fun _ h9 => h9) rfl dX11_undo_1 ?_
  refine lv_if_ne (tgt := 10) hx hb dX11_undo_4 (by decide) (fun c1 => ?_) (fun c1 => ?_)
  · have h := im c1 h
    refine lv_aload_n hx hb dX11_undo_10 rfl (lv_at hl 0 rfl) ?_
    refine lv_aload_n hx hb dX11_undo_11 rfl (lv_at hl 0 rfl) ?_
    refine va_get (ci := 11) (v := .int v_undoAt) (C := RX11) (T := TX11) (N := 23) hx hb htT inlX11 hown hK hP 0 rfl rfl 2 (by decide) (htT _ q_17_11) (fun _ h9 => h9) rfl dX11_undo_12 ?_
    refine lv_bipush (v := (10 : Int32)) hx hb dX11_undo_15 rfl ?_
    refine lv_iadd hx hb dX11_undo_17 ?_
    refine lv_iconst (v := (1 : Int32)) hx hb dX11_undo_18 rfl ?_
    refine lv_isub hx hb dX11_undo_19 ?_
    refine lv_bipush (v := (10 : Int32)) hx hb dX11_undo_20 rfl ?_
    refine lv_irem hx hb dX11_undo_22 (by decide) ?_
    refine va_put (ci := 11) (v := .int (((v_undoAt + (10 : Int32)) - (1 : Int32)) - ((v_undoAt + (10 : Int32)) - (1 : Int32)) / (10 : Int32) * (10 : Int32))) (ty := .int) (C := RX11) (T := TX11) (N := 23) hx hb htT inlX11 tyX11 tyX11_ok nmX11 hown hK hP hD hS 0 rfl rfl 2 (by decide) (htT _ q_17_11) (fun _ h9 => h9) rfl (tyX11_ok 2 (by decide)) rfl rfl (Nat.le_of_ble_eq_true rfl) dX11_undo_23 (fun H locs hP hD hS => ?_)
    have hP : va_P D vwCl (k_Mo cC cI cZ a_this a_now a_undos a_seen a_seenAs a_isKept a_kept a_text a_read a_fewest a_doors a_isSo v_undoMany (((v_undoAt + (10 : Int32)) - (1 : Int32)) - ((v_undoAt + (10 : Int32)) - (1 : Int32)) / (10 : Int32) * (10 : Int32)) v_seenMany v_letterMany v_readAt v_tokenAt v_token v_value v_faultAt v_readOnce v_greatUpper v_greatLower A_now A_undos A_seen A_seenAs A_isKept A_kept A_text A_read A_fewest A_doors A_isSo) H := hP
    have hD : va_D A (k_Mo cC cI cZ a_this a_now a_undos a_seen a_seenAs a_isKept a_kept a_text a_read a_fewest a_doors a_isSo v_undoMany (((v_undoAt + (10 : Int32)) - (1 : Int32)) - ((v_undoAt + (10 : Int32)) - (1 : Int32)) / (10 : Int32) * (10 : Int32)) v_seenMany v_letterMany v_readAt v_tokenAt v_token v_value v_faultAt v_readOnce v_greatUpper v_greatLower A_now A_undos A_seen A_seenAs A_isKept A_kept A_text A_read A_fewest A_doors A_isSo) := hD
    refine lv_aload_n hx hb dX11_undo_26 rfl (lv_at hl 0 rfl) ?_
    refine lv_dup hx hb dX11_undo_27 rfl ?_
    refine va_get (ci := 11) (v := .int v_undoMany) (C := RX11) (T := TX11) (N := 23) hx hb htT inlX11 hown hK hP 0 rfl rfl 1 (by decide) (htT _ q_14_0) (fun _ h9 => h9) rfl dX11_undo_28 ?_
    refine lv_iconst (v := (1 : Int32)) hx hb dX11_undo_31 rfl ?_
    refine lv_isub hx hb dX11_undo_32 ?_
    refine va_put (ci := 11) (v := .int (v_undoMany - (1 : Int32))) (ty := .int) (C := RX11) (T := TX11) (N := 23) hx hb htT inlX11 tyX11 tyX11_ok nmX11 hown hK hP hD hS 0 rfl rfl 1 (by decide) (htT _ q_14_0) (fun _ h9 => h9) rfl (tyX11_ok 1 (by decide)) rfl rfl (Nat.le_of_ble_eq_true rfl) dX11_undo_33 (fun H locs hP hD hS => ?_)
    have hP : va_P D vwCl (k_Mo cC cI cZ a_this a_now a_undos a_seen a_seenAs a_isKept a_kept a_text a_read a_fewest a_doors a_isSo (v_undoMany - (1 : Int32)) (((v_undoAt + (10 : Int32)) - (1 : Int32)) - ((v_undoAt + (10 : Int32)) - (1 : Int32)) / (10 : Int32) * (10 : Int32)) v_seenMany v_letterMany v_readAt v_tokenAt v_token v_value v_faultAt v_readOnce v_greatUpper v_greatLower A_now A_undos A_seen A_seenAs A_isKept A_kept A_text A_read A_fewest A_doors A_isSo) H := hP
    have hD : va_D A (k_Mo cC cI cZ a_this a_now a_undos a_seen a_seenAs a_isKept a_kept a_text a_read a_fewest a_doors a_isSo (v_undoMany - (1 : Int32)) (((v_undoAt + (10 : Int32)) - (1 : Int32)) - ((v_undoAt + (10 : Int32)) - (1 : Int32)) / (10 : Int32) * (10 : Int32)) v_seenMany v_letterMany v_readAt v_tokenAt v_token v_value v_faultAt v_readOnce v_greatUpper v_greatLower A_now A_undos A_seen A_seenAs A_isKept A_kept A_text A_read A_fewest A_doors A_isSo) := hD
    refine lv_iconst (v := (0 : Int32)) hx hb dX11_undo_36 rfl ?_
    refine lv_istore_n (lv' := [(1, .int (0 : Int32)), (0, .ref a_this)]) hx hb dX11_undo_37 rfl hl (by decide) rfl (fun ls hl => ?_)
    have LP38 : ∀ (n : Nat) (y38_1 : Int32) (A_now_38 : Nat → Int32) (zq38 : (Nat → Int32)), f_Mo_undo_L38 (((v_undoAt + (10 : Int32)) - (1 : Int32)) - ((v_undoAt + (10 : Int32)) - (1 : Int32)) / (10 : Int32) * (10 : Int32)) A_undos n y38_1 A_now_38 = some zq38 → ∀ (H : Heap) (locs : List Loc) (ls : Array Slot), va_P D vwCl (k_Mo cC cI cZ a_this a_now a_undos a_seen a_seenAs a_isKept a_kept a_text a_read a_fewest a_doors a_isSo (v_undoMany - (1 : Int32)) (((v_undoAt + (10 : Int32)) - (1 : Int32)) - ((v_undoAt + (10 : Int32)) - (1 : Int32)) / (10 : Int32) * (10 : Int32)) v_seenMany v_letterMany v_readAt v_tokenAt v_token v_value v_faultAt v_readOnce v_greatUpper v_greatLower A_now_38 A_undos A_seen A_seenAs A_isKept A_kept A_text A_read A_fewest A_doors A_isSo) H → va_D A (k_Mo cC cI cZ a_this a_now a_undos a_seen a_seenAs a_isKept a_kept a_text a_read a_fewest a_doors a_isSo (v_undoMany - (1 : Int32)) (((v_undoAt + (10 : Int32)) - (1 : Int32)) - ((v_undoAt + (10 : Int32)) - (1 : Int32)) / (10 : Int32) * (10 : Int32)) v_seenMany v_letterMany v_readAt v_tokenAt v_token v_value v_faultAt v_readOnce v_greatUpper v_greatLower A_now_38 A_undos A_seen A_seenAs A_isKept A_kept A_text A_read A_fewest A_doors A_isSo) → va_S A s.heap H locs → lv_has ls 2 [(0, .ref a_this), (1, .int y38_1)] → (∀ (H : Heap) (locs : List Loc) (ls : Array Slot), va_P D vwCl (k_Mo cC cI cZ a_this a_now a_undos a_seen a_seenAs a_isKept a_kept a_text a_read a_fewest a_doors a_isSo (v_undoMany - (1 : Int32)) (((v_undoAt + (10 : Int32)) - (1 : Int32)) - ((v_undoAt + (10 : Int32)) - (1 : Int32)) / (10 : Int32) * (10 : Int32)) v_seenMany v_letterMany v_readAt v_tokenAt v_token v_value v_faultAt v_readOnce v_greatUpper v_greatLower zq38 A_undos A_seen A_seenAs A_isKept A_kept A_text A_read A_fewest A_doors A_isSo) H → va_D A (k_Mo cC cI cZ a_this a_now a_undos a_seen a_seenAs a_isKept a_kept a_text a_read a_fewest a_doors a_isSo (v_undoMany - (1 : Int32)) (((v_undoAt + (10 : Int32)) - (1 : Int32)) - ((v_undoAt + (10 : Int32)) - (1 : Int32)) / (10 : Int32) * (10 : Int32)) v_seenMany v_letterMany v_readAt v_tokenAt v_token v_value v_faultAt v_readOnce v_greatUpper v_greatLower zq38 A_undos A_seen A_seenAs A_isKept A_kept A_text A_read A_fewest A_doors A_isSo) → va_S A s.heap H locs → lv_has ls 2 [(0, .ref a_this)] → W p l e (RM 0 0) s m args below meth c H locs 0 0 Q (F0 m 70 ls [])) → W p l e (RM 0 0) s m args below meth c H locs 0 0 Q (F0 m 38 ls []) := by
      clear h
      intro n
      induction n with
      | zero =>
        intro y38_1 A_now_38 zq38 h
        rw [f_Mo_undo_L38_0] at h
        cases h
      | succ n ih38 =>
        intro y38_1 A_now_38 zq38 h H locs ls hP hD hS hl k38_0
        rw [f_Mo_undo_L38_s] at h
        refine lv_iload_n hx hb dX11_undo_38 rfl (lv_at hl 1 rfl) ?_
        refine lv_bipush (v := (31 : Int32)) hx hb dX11_undo_39 rfl ?_
        refine lv_icmp_ge (tgt := 70) hx hb dX11_undo_41 (by decide) (fun c4 => ?_) (fun c4 => ?_)
        · have h := ip c4 h
          obtain rfl := Option.some.inj h
          exact k38_0 _ _ _ hP hD hS (lv_sub hl [0] rfl)
        · have h := im c4 h
          refine lv_aload_n hx hb dX11_undo_44 rfl (lv_at hl 0 rfl) ?_
          refine va_get (ci := 11) (v := .ref a_now) (C := RX11) (T := TX11) (N := 23) hx hb htT inlX11 hown hK hP 0 rfl rfl 0 (by decide) (htT _ q_7_0) (fun _ h9 => h9) rfl dX11_undo_45 ?_
          refine lv_iload_n hx hb dX11_undo_48 rfl (lv_at hl 1 rfl) ?_
          refine lv_aload_n hx hb dX11_undo_49 rfl (lv_at hl 0 rfl) ?_
          refine va_get (ci := 11) (v := .ref a_undos) (C := RX11) (T := TX11) (N := 23) hx hb htT inlX11 hown hK hP 0 rfl rfl 3 (by decide) (htT _ q_7_1) (fun _ h9 => h9) rfl dX11_undo_50 ?_
          refine lv_bipush (v := (31 : Int32)) hx hb dX11_undo_53 rfl ?_
          refine lv_aload_n hx hb dX11_undo_55 rfl (lv_at hl 0 rfl) ?_
          refine va_get (ci := 11) (v := .int (((v_undoAt + (10 : Int32)) - (1 : Int32)) - ((v_undoAt + (10 : Int32)) - (1 : Int32)) / (10 : Int32) * (10 : Int32))) (C := RX11) (T := TX11) (N := 23) hx hb htT inlX11 hown hK hP 0 rfl rfl 2 (by decide) (htT _ q_17_11) (fun _ h9 => h9) rfl dX11_undo_56 ?_
          refine lv_imul hx hb dX11_undo_59 ?_
          refine lv_iload_n hx hb dX11_undo_60 rfl (lv_at hl 1 rfl) ?_
          refine lv_iadd hx hb dX11_undo_61 ?_
          obtain ⟨g5, h⟩ := gd h
          refine va_iald hx hb hK hP 2 1 rfl rfl (inB_in g5) dX11_undo_62 ?_
          obtain ⟨g6, h⟩ := gd h
          refine va_iast hx hb hK hP hD hS 1 1 rfl rfl (inB_in g6) dX11_undo_63 (fun H locs hP hD hS => ?_)
          have hP : va_P D vwCl (k_Mo cC cI cZ a_this a_now a_undos a_seen a_seenAs a_isKept a_kept a_text a_read a_fewest a_doors a_isSo (v_undoMany - (1 : Int32)) (((v_undoAt + (10 : Int32)) - (1 : Int32)) - ((v_undoAt + (10 : Int32)) - (1 : Int32)) / (10 : Int32) * (10 : Int32)) v_seenMany v_letterMany v_readAt v_tokenAt v_token v_value v_faultAt v_readOnce v_greatUpper v_greatLower (upd A_now_38 (y38_1).toNatClampNeg (A_undos ((((31 : Int32) * (((v_undoAt + (10 : Int32)) - (1 : Int32)) - ((v_undoAt + (10 : Int32)) - (1 : Int32)) / (10 : Int32) * (10 : Int32))) + y38_1)).toNatClampNeg)) A_undos A_seen A_seenAs A_isKept A_kept A_text A_read A_fewest A_doors A_isSo) H := hP
          have hD : va_D A (k_Mo cC cI cZ a_this a_now a_undos a_seen a_seenAs a_isKept a_kept a_text a_read a_fewest a_doors a_isSo (v_undoMany - (1 : Int32)) (((v_undoAt + (10 : Int32)) - (1 : Int32)) - ((v_undoAt + (10 : Int32)) - (1 : Int32)) / (10 : Int32) * (10 : Int32)) v_seenMany v_letterMany v_readAt v_tokenAt v_token v_value v_faultAt v_readOnce v_greatUpper v_greatLower (upd A_now_38 (y38_1).toNatClampNeg (A_undos ((((31 : Int32) * (((v_undoAt + (10 : Int32)) - (1 : Int32)) - ((v_undoAt + (10 : Int32)) - (1 : Int32)) / (10 : Int32) * (10 : Int32))) + y38_1)).toNatClampNeg)) A_undos A_seen A_seenAs A_isKept A_kept A_text A_read A_fewest A_doors A_isSo) := hD
          refine lv_iinc (v := (y38_1 + (1 : Int32))) (lv' := [(1, .int (y38_1 + (1 : Int32))), (0, .ref a_this)]) hx hb dX11_undo_64 hl (k := 1) rfl rfl (by decide) rfl (fun ls hl => ?_)
          refine lv_goto (tgt := 38) hx hb dX11_undo_67 (by decide) ?_
          exact ih38 (y38_1 + (1 : Int32)) (upd A_now_38 (y38_1).toNatClampNeg (A_undos ((((31 : Int32) * (((v_undoAt + (10 : Int32)) - (1 : Int32)) - ((v_undoAt + (10 : Int32)) - (1 : Int32)) / (10 : Int32) * (10 : Int32))) + y38_1)).toNatClampNeg)) _ h _ _ _ hP hD hS (lv_sub hl [1, 0] rfl) k38_0
    obtain ⟨z3, e3, h⟩ := bd h
    refine LP38 fu (0 : Int32) A_now z3 e3 _ _ _ hP hD hS (lv_sub hl [1, 0] rfl) ?_
    intro H locs ls hP hD hS hl
    refine lv_aload_n hx hb dX11_undo_70 rfl (lv_at hl 0 rfl) ?_
    refine va_get (ci := 11) (v := .int (v_undoMany - (1 : Int32))) (C := RX11) (T := TX11) (N := 23) hx hb htT inlX11 hown hK hP 0 rfl rfl 1 (by decide) (htT _ q_14_0) (fun _ h9 => h9) rfl dX11_undo_71 ?_
    obtain rfl := Option.some.inj h
    exact hret _ _ _ _ _ hP hS dX11_undo_74 rfl rfl
  · have h := ip c1 h
    refine lv_bipush (v := (-2 : Int32)) hx hb dX11_undo_7 rfl ?_
    obtain rfl := Option.some.inj h
    exact hret _ _ _ _ _ hP hS dX11_undo_9 rfl rfl
set_option maxHeartbeats 4000000 in
set_option maxRecDepth 100000 in
theorem c_Mo_unseen (l : Launch) (D : va_G) (cC cI cZ : ClassId) (a_this : Nat) (a_now : Nat) (a_undos : Nat) (a_seen : Nat) (a_seenAs : Nat) (a_isKept : Nat) (a_kept : Nat) (a_text : Nat) (a_read : Nat) (a_fewest : Nat) (a_doors : Nat) (a_isSo : Nat) (v_undoMany : Int32) (v_undoAt : Int32) (v_seenMany : Int32) (v_letterMany : Int32) (v_readAt : Int32) (v_tokenAt : Int32) (v_token : Int32) (v_value : Int32) (v_faultAt : Int32) (v_readOnce : Int32) (v_greatUpper : Int64) (v_greatLower : Int64) (A_now : Nat → Int32) (A_undos : Nat → Int32) (A_seen : Nat → Int32) (A_seenAs : Nat → Int32) (A_isKept : Nat → Int32) (A_kept : Nat → Int32) (A_text : Nat → Int32) (A_read : Nat → Int32) (A_fewest : Nat → Int32) (A_doors : Nat → Int32) (A_isSo : Nat → Int32) (p1 : Int32) (sz : Nat) (z : Int32 × (Nat → Int32) × (Nat → Int32)) (h : f_Mo_unseen v_seenMany A_now A_seen A_seenAs A_doors A_isSo p1 = some z) : Met l yX11_unseen (.code yX11_unseen cX11_unseen 6 (some .int) :: TBL) (RM 7 156) (PcM [.ref a_this, .int p1] sz D (TY cC cI cZ) (k_Mo cC cI cZ a_this a_now a_undos a_seen a_seenAs a_isKept a_kept a_text a_read a_fewest a_doors a_isSo v_undoMany v_undoAt v_seenMany v_letterMany v_readAt v_tokenAt v_token v_value v_faultAt v_readOnce v_greatUpper v_greatLower A_now A_undos A_seen A_seenAs A_isKept A_kept A_text A_read A_fewest A_doors A_isSo)) (fun a st o t => QM (some (.int z.1)) D (k_Mo cC cI cZ a_this a_now a_undos a_seen a_seenAs a_isKept a_kept a_text a_read a_fewest a_doors a_isSo v_undoMany v_undoAt v_seenMany v_letterMany v_readAt v_tokenAt v_token v_value v_faultAt v_readOnce v_greatUpper v_greatLower A_now A_undos A_seen A_seenAs A_isKept A_kept A_text A_read A_fewest z.2.1 z.2.2) (va_A (k_Mo cC cI cZ a_this a_now a_undos a_seen a_seenAs a_isKept a_kept a_text a_read a_fewest a_doors a_isSo v_undoMany v_undoAt v_seenMany v_letterMany v_readAt v_tokenAt v_token v_value v_faultAt v_readOnce v_greatUpper v_greatLower A_now A_undos A_seen A_seenAs A_isKept A_kept A_text A_read A_fewest A_doors A_isSo) sz) a st o t ∧ narrow .int (.int z.1) = .int z.1) 0 0 (va_A (k_Mo cC cI cZ a_this a_now a_undos a_seen a_seenAs a_isKept a_kept a_text a_read a_fewest a_doors a_isSo v_undoMany v_undoAt v_seenMany v_letterMany v_readAt v_tokenAt v_token v_value v_faultAt v_readOnce v_greatUpper v_greatLower A_now A_undos A_seen A_seenAs A_isKept A_kept A_text A_read A_fewest A_doors A_isSo) sz) := by
  refine muOf (by decide) (Nat.le_of_ble_eq_true rfl) rfl ?_
  intro p e s m args below meth c Q ls A X hP hD hS hA hl hret
  have X : Ctx p s m args c cX11_unseen 6 RX11 D (TY cC cI cZ) := X
  obtain ⟨hx, hb, hml, hown, htT, hK, hN⟩ := id X
  unfold f_Mo_unseen at h
  refine lv_iload_n hx hb dX11_unseen_0 rfl (lv_at hl 1 rfl) ?_
  refine lv_iconst (v := (0 : Int32)) hx hb dX11_unseen_1 rfl ?_
  refine lv_iconst (v := (2 : Int32)) hx hb dX11_unseen_2 rfl ?_
  refine roS X [.int p1, .int (0 : Int32), .int (2 : Int32)] [] (c_Mo_in l D cC cI cZ p1 (0 : Int32) (2 : Int32) _ rfl) gg_X11_48 hd_Mo_in ⟨rfl, rfl, Nat.le_of_ble_eq_true rfl, Nat.le_of_ble_eq_true rfl⟩ ⟨Nat.zero_le _, Nat.zero_le _⟩ hP [] rfl hl.1 rfl (Nat.le_of_ble_eq_true rfl) dX11_unseen_3 (fun n1 => ?_)
  refine lv_if_ne (tgt := 11) hx hb dX11_unseen_6 (by decide) (fun c2 => ?_) (fun c2 => ?_)
  · have h := im c2 h
    refine lv_aload_n hx hb dX11_unseen_11 rfl (lv_at hl 0 rfl) ?_
    obtain ⟨z3, e3, h⟩ := bd h
    refine muV (ws' := (k_Mo cC cI cZ a_this a_now a_undos a_seen a_seenAs a_isKept a_kept a_text a_read a_fewest a_doors a_isSo v_undoMany v_undoAt v_seenMany v_letterMany v_readAt v_tokenAt v_token v_value v_faultAt v_readOnce v_greatUpper v_greatLower A_now A_undos A_seen A_seenAs A_isKept A_kept A_text A_read A_fewest z3.2.1 z3.2.2)) X [] [] (c_Mo_layUnseen l D cC cI cZ a_this a_now a_undos a_seen a_seenAs a_isKept a_kept a_text a_read a_fewest a_doors a_isSo v_undoMany v_undoAt v_seenMany v_letterMany v_readAt v_tokenAt v_token v_value v_faultAt v_readOnce v_greatUpper v_greatLower A_now A_undos A_seen A_seenAs A_isKept A_kept A_text A_read A_fewest A_doors A_isSo _ z3 e3) gg_X11_199 hd_Mo_layUnseen ⟨rfl, rfl, Nat.le_of_ble_eq_true rfl, Nat.le_of_ble_eq_true rfl⟩ ⟨Nat.zero_le _, Nat.zero_le _⟩ hP hD hS hA [0, 1, 2, 3, 4, 5, 6, 7, 8, 9, 10, 11] [] [0, 1, 2, 3, 4, 5, 6, 7, 8, 9, 10, 11] rfl rfl (by decide) (by decide) rfl rfl rfl rfl rfl hl.1 rfl (Nat.le_of_ble_eq_true rfl) dX11_unseen_12 (fun H locs hP hD hS n3 => ?_)
    refine lv_istore_n (lv' := [(2, .int z3.1), (0, .ref a_this), (1, .int p1)]) hx hb dX11_unseen_15 rfl hl (by decide) rfl (fun ls hl => ?_)
    refine lv_bipush (v := (-9 : Int32)) hx hb dX11_unseen_16 rfl ?_
    refine lv_istore_n (lv' := [(3, .int (-9 : Int32)), (2, .int z3.1), (0, .ref a_this), (1, .int p1)]) hx hb dX11_unseen_18 rfl hl (by decide) rfl (fun ls hl => ?_)
    refine lv_bipush (v := (-9 : Int32)) hx hb dX11_unseen_19 rfl ?_
    refine lv_istore (lv' := [(4, .int (-9 : Int32)), (3, .int (-9 : Int32)), (2, .int z3.1), (0, .ref a_this), (1, .int p1)]) hx hb dX11_unseen_21 hl (by decide) rfl (fun ls hl => ?_)
    refine lv_iconst (v := (0 : Int32)) hx hb dX11_unseen_23 rfl ?_
    refine lv_istore (lv' := [(5, .int (0 : Int32)), (4, .int (-9 : Int32)), (3, .int (-9 : Int32)), (2, .int z3.1), (0, .ref a_this), (1, .int p1)]) hx hb dX11_unseen_24 hl (by decide) rfl (fun ls hl => ?_)
    have LP26 : ∀ (n : Nat) (y26_3 : Int32) (y26_4 : Int32) (y26_5 : Int32) (zq26 : Int32 × Int32), f_Mo_unseen_L26 p1 z3.1 z3.2.2 n y26_3 y26_4 y26_5 = some zq26 → ∀ (H : Heap) (locs : List Loc) (ls : Array Slot), va_P D vwCl (k_Mo cC cI cZ a_this a_now a_undos a_seen a_seenAs a_isKept a_kept a_text a_read a_fewest a_doors a_isSo v_undoMany v_undoAt v_seenMany v_letterMany v_readAt v_tokenAt v_token v_value v_faultAt v_readOnce v_greatUpper v_greatLower A_now A_undos A_seen A_seenAs A_isKept A_kept A_text A_read A_fewest z3.2.1 z3.2.2) H → va_D A (k_Mo cC cI cZ a_this a_now a_undos a_seen a_seenAs a_isKept a_kept a_text a_read a_fewest a_doors a_isSo v_undoMany v_undoAt v_seenMany v_letterMany v_readAt v_tokenAt v_token v_value v_faultAt v_readOnce v_greatUpper v_greatLower A_now A_undos A_seen A_seenAs A_isKept A_kept A_text A_read A_fewest z3.2.1 z3.2.2) → va_S A s.heap H locs → lv_has ls 6 [(0, .ref a_this), (1, .int p1), (2, .int z3.1), (3, .int y26_3), (4, .int y26_4), (5, .int y26_5)] → (∀ (H : Heap) (locs : List Loc) (ls : Array Slot), va_P D vwCl (k_Mo cC cI cZ a_this a_now a_undos a_seen a_seenAs a_isKept a_kept a_text a_read a_fewest a_doors a_isSo v_undoMany v_undoAt v_seenMany v_letterMany v_readAt v_tokenAt v_token v_value v_faultAt v_readOnce v_greatUpper v_greatLower A_now A_undos A_seen A_seenAs A_isKept A_kept A_text A_read A_fewest z3.2.1 z3.2.2) H → va_D A (k_Mo cC cI cZ a_this a_now a_undos a_seen a_seenAs a_isKept a_kept a_text a_read a_fewest a_doors a_isSo v_undoMany v_undoAt v_seenMany v_letterMany v_readAt v_tokenAt v_token v_value v_faultAt v_readOnce v_greatUpper v_greatLower A_now A_undos A_seen A_seenAs A_isKept A_kept A_text A_read A_fewest z3.2.1 z3.2.2) → va_S A s.heap H locs → lv_has ls 6 [(1, .int p1), (2, .int z3.1), (3, .int zq26.1), (4, .int zq26.2)] → W p l e (RM 7 156) s m args below meth c H locs 0 0 Q (F0 m 81 ls [])) → W p l e (RM 7 156) s m args below meth c H locs 0 0 Q (F0 m 26 ls []) := by
      clear h
      intro n
      induction n with
      | zero =>
        intro y26_3 y26_4 y26_5 zq26 h
        rw [f_Mo_unseen_L26_0] at h
        cases h
      | succ n ih26 =>
        intro y26_3 y26_4 y26_5 zq26 h H locs ls hP hD hS hl k26_0
        rw [f_Mo_unseen_L26_s] at h
        refine lv_iload hx hb dX11_unseen_26 (lv_at hl 5 rfl) ?_
        refine lv_bipush (v := (100 : Int32)) hx hb dX11_unseen_28 rfl ?_
        refine lv_icmp_ge (tgt := 81) hx hb dX11_unseen_30 (by decide) (fun c5 => ?_) (fun c5 => ?_)
        · have h := ip c5 h
          obtain rfl := Option.some.inj h
          exact k26_0 _ _ _ hP hD hS (lv_sub hl [1, 2, 3, 4] rfl)
        · have h := im c5 h
          refine lv_aload_n hx hb dX11_unseen_33 rfl (lv_at hl 0 rfl) ?_
          refine va_get (ci := 11) (v := .ref a_isSo) (C := RX11) (T := TX11) (N := 23) hx hb htT inlX11 hown hK hP 0 rfl rfl 22 (by decide) (htT _ q_7_11) (fun _ h9 => h9) rfl dX11_unseen_34 ?_
          refine lv_iload hx hb dX11_unseen_37 (lv_at hl 5 rfl) ?_
          obtain ⟨g6, h⟩ := gd h
          refine va_zald hx hb hK hP 11 2 rfl rfl (inB_in g6) dX11_unseen_39 ?_
          refine lv_if_eq (tgt := 54) hx hb dX11_unseen_40 (by decide) (fun c7 => ?_) (fun c7 => ?_)
          · have h := ip c7 h
            refine lv_iload_n hx hb dX11_unseen_54 rfl (lv_at hl 3 rfl) ?_
            refine lv_istore_n (lv' := [(3, .int y26_3), (0, .ref a_this), (1, .int p1), (2, .int z3.1), (4, .int y26_4), (5, .int y26_5)]) hx hb dX11_unseen_55 rfl hl (by decide) rfl (fun ls hl => ?_)
            refine lv_aload_n hx hb dX11_unseen_56 rfl (lv_at hl 1 rfl) ?_
            refine va_get (ci := 11) (v := .ref a_isSo) (C := RX11) (T := TX11) (N := 23) hx hb htT inlX11 hown hK hP 0 rfl rfl 22 (by decide) (htT _ q_7_11) (fun _ h9 => h9) rfl dX11_unseen_57 ?_
            refine lv_iload hx hb dX11_unseen_60 (lv_at hl 5 rfl) ?_
            obtain ⟨g8, h⟩ := gd h
            refine va_zald hx hb hK hP 11 2 rfl rfl (inB_in g8) dX11_unseen_62 ?_
            refine lv_if_eq (tgt := 71) hx hb dX11_unseen_63 (by decide) (fun _ => ?_) (fun c9 => absurd c7 c9)
            refine lv_iload hx hb dX11_unseen_71 (lv_at hl 4 rfl) ?_
            refine lv_istore (lv' := [(4, .int y26_4), (3, .int y26_3), (0, .ref a_this), (1, .int p1), (2, .int z3.1), (5, .int y26_5)]) hx hb dX11_unseen_73 hl (by decide) rfl (fun ls hl => ?_)
            refine lv_iinc (v := (y26_5 + (1 : Int32))) (lv' := [(5, .int (y26_5 + (1 : Int32))), (4, .int y26_4), (3, .int y26_3), (0, .ref a_this), (1, .int p1), (2, .int z3.1)]) hx hb dX11_unseen_75 hl (k := 5) rfl rfl (by decide) rfl (fun ls hl => ?_)
            refine lv_goto (tgt := 26) hx hb dX11_unseen_78 (by decide) ?_
            exact ih26 y26_3 y26_4 (y26_5 + (1 : Int32)) _ h _ _ _ hP hD hS (lv_sub hl [3, 4, 5, 2, 1, 0] rfl) k26_0
          · have h := im c7 h
            refine lv_iload_n hx hb dX11_unseen_43 rfl (lv_at hl 3 rfl) ?_
            refine lv_bipush (v := (-9 : Int32)) hx hb dX11_unseen_44 rfl ?_
            refine lv_icmp_ne (tgt := 54) hx hb dX11_unseen_46 (by decide) (fun c10 => ?_) (fun c10 => ?_)
            · have h := im c10 h
              refine lv_iload_n hx hb dX11_unseen_54 rfl (lv_at hl 3 rfl) ?_
              refine lv_istore_n (lv' := [(3, .int y26_3), (0, .ref a_this), (1, .int p1), (2, .int z3.1), (4, .int y26_4), (5, .int y26_5)]) hx hb dX11_unseen_55 rfl hl (by decide) rfl (fun ls hl => ?_)
              refine lv_aload_n hx hb dX11_unseen_56 rfl (lv_at hl 1 rfl) ?_
              refine va_get (ci := 11) (v := .ref a_isSo) (C := RX11) (T := TX11) (N := 23) hx hb htT inlX11 hown hK hP 0 rfl rfl 22 (by decide) (htT _ q_7_11) (fun _ h9 => h9) rfl dX11_unseen_57 ?_
              refine lv_iload hx hb dX11_unseen_60 (lv_at hl 5 rfl) ?_
              obtain ⟨g13, h⟩ := gd h
              refine va_zald hx hb hK hP 11 2 rfl rfl (inB_in g13) dX11_unseen_62 ?_
              refine lv_if_eq (tgt := 71) hx hb dX11_unseen_63 (by decide) (fun c14 => absurd c14 c7) (fun _ => ?_)
              refine lv_iload hx hb dX11_unseen_66 (lv_at hl 5 rfl) ?_
              refine lv_goto (tgt := 73) hx hb dX11_unseen_68 (by decide) ?_
              refine lv_istore (lv' := [(4, .int y26_5), (3, .int y26_3), (0, .ref a_this), (1, .int p1), (2, .int z3.1), (5, .int y26_5)]) hx hb dX11_unseen_73 hl (by decide) rfl (fun ls hl => ?_)
              refine lv_iinc (v := (y26_5 + (1 : Int32))) (lv' := [(5, .int (y26_5 + (1 : Int32))), (4, .int y26_5), (3, .int y26_3), (0, .ref a_this), (1, .int p1), (2, .int z3.1)]) hx hb dX11_unseen_75 hl (k := 5) rfl rfl (by decide) rfl (fun ls hl => ?_)
              refine lv_goto (tgt := 26) hx hb dX11_unseen_78 (by decide) ?_
              exact ih26 y26_3 y26_5 (y26_5 + (1 : Int32)) _ h _ _ _ hP hD hS (lv_sub hl [3, 4, 5, 2, 1, 0] rfl) k26_0
            · have h := ip c10 h
              refine lv_iload hx hb dX11_unseen_49 (lv_at hl 5 rfl) ?_
              refine lv_goto (tgt := 55) hx hb dX11_unseen_51 (by decide) ?_
              refine lv_istore_n (lv' := [(3, .int y26_5), (0, .ref a_this), (1, .int p1), (2, .int z3.1), (4, .int y26_4), (5, .int y26_5)]) hx hb dX11_unseen_55 rfl hl (by decide) rfl (fun ls hl => ?_)
              refine lv_aload_n hx hb dX11_unseen_56 rfl (lv_at hl 1 rfl) ?_
              refine va_get (ci := 11) (v := .ref a_isSo) (C := RX11) (T := TX11) (N := 23) hx hb htT inlX11 hown hK hP 0 rfl rfl 22 (by decide) (htT _ q_7_11) (fun _ h9 => h9) rfl dX11_unseen_57 ?_
              refine lv_iload hx hb dX11_unseen_60 (lv_at hl 5 rfl) ?_
              obtain ⟨g11, h⟩ := gd h
              refine va_zald hx hb hK hP 11 2 rfl rfl (inB_in g11) dX11_unseen_62 ?_
              refine lv_if_eq (tgt := 71) hx hb dX11_unseen_63 (by decide) (fun c12 => absurd c12 c7) (fun _ => ?_)
              refine lv_iload hx hb dX11_unseen_66 (lv_at hl 5 rfl) ?_
              refine lv_goto (tgt := 73) hx hb dX11_unseen_68 (by decide) ?_
              refine lv_istore (lv' := [(4, .int y26_5), (3, .int y26_5), (0, .ref a_this), (1, .int p1), (2, .int z3.1), (5, .int y26_5)]) hx hb dX11_unseen_73 hl (by decide) rfl (fun ls hl => ?_)
              refine lv_iinc (v := (y26_5 + (1 : Int32))) (lv' := [(5, .int (y26_5 + (1 : Int32))), (4, .int y26_5), (3, .int y26_5), (0, .ref a_this), (1, .int p1), (2, .int z3.1)]) hx hb dX11_unseen_75 hl (k := 5) rfl rfl (by decide) rfl (fun ls hl => ?_)
              refine lv_goto (tgt := 26) hx hb dX11_unseen_78 (by decide) ?_
              exact ih26 y26_5 y26_5 (y26_5 + (1 : Int32)) _ h _ _ _ hP hD hS (lv_sub hl [3, 4, 5, 2, 1, 0] rfl) k26_0
    obtain ⟨z4, e4, h⟩ := bd h
    refine LP26 fu (-9 : Int32) (-9 : Int32) (0 : Int32) z4 e4 _ _ _ hP hD hS (lv_sub hl [4, 5, 3, 2, 1, 0] rfl) ?_
    intro H locs ls hP hD hS hl
    refine lv_iload_n hx hb dX11_unseen_81 rfl (lv_at hl 0 rfl) ?_
    refine lv_if_ne (tgt := 89) hx hb dX11_unseen_82 (by decide) (fun c15 => ?_) (fun c15 => ?_)
    · have h := im c15 h
      refine lv_iload_n hx hb dX11_unseen_89 rfl (lv_at hl 0 rfl) ?_
      refine lv_iconst (v := (1 : Int32)) hx hb dX11_unseen_90 rfl ?_
      refine lv_icmp_ne (tgt := 98) hx hb dX11_unseen_91 (by decide) (fun c16 => ?_) (fun c16 => ?_)
      · have h := im c16 h
        refine lv_iload hx hb dX11_unseen_98 (lv_at hl 3 rfl) ?_
        obtain rfl := Option.some.inj h
        exact hret _ _ _ _ _ hP hS dX11_unseen_100 rfl rfl
      · have h := ip c16 h
        refine lv_iload_n hx hb dX11_unseen_94 rfl (lv_at hl 2 rfl) ?_
        refine lv_goto (tgt := 100) hx hb dX11_unseen_95 (by decide) ?_
        obtain rfl := Option.some.inj h
        exact hret _ _ _ _ _ hP hS dX11_unseen_100 rfl rfl
    · have h := ip c15 h
      refine lv_iload_n hx hb dX11_unseen_85 rfl (lv_at hl 1 rfl) ?_
      refine lv_goto (tgt := 100) hx hb dX11_unseen_86 (by decide) ?_
      obtain rfl := Option.some.inj h
      exact hret _ _ _ _ _ hP hS dX11_unseen_100 rfl rfl
  · have h := ip c2 h
    refine lv_iconst (v := (-1 : Int32)) hx hb dX11_unseen_9 rfl ?_
    obtain rfl := Option.some.inj h
    exact hret _ _ _ _ _ hP hS dX11_unseen_10 rfl rfl
set_option maxHeartbeats 4000000 in
set_option maxRecDepth 100000 in
theorem c_Mo_why (l : Launch) (D : va_G) (cC cI cZ : ClassId) (a_this : Nat) (a_now : Nat) (a_undos : Nat) (a_seen : Nat) (a_seenAs : Nat) (a_isKept : Nat) (a_kept : Nat) (a_text : Nat) (a_read : Nat) (a_fewest : Nat) (a_doors : Nat) (a_isSo : Nat) (v_undoMany : Int32) (v_undoAt : Int32) (v_seenMany : Int32) (v_letterMany : Int32) (v_readAt : Int32) (v_tokenAt : Int32) (v_token : Int32) (v_value : Int32) (v_faultAt : Int32) (v_readOnce : Int32) (v_greatUpper : Int64) (v_greatLower : Int64) (A_now : Nat → Int32) (A_undos : Nat → Int32) (A_seen : Nat → Int32) (A_seenAs : Nat → Int32) (A_isKept : Nat → Int32) (A_kept : Nat → Int32) (A_text : Nat → Int32) (A_read : Nat → Int32) (A_fewest : Nat → Int32) (A_doors : Nat → Int32) (A_isSo : Nat → Int32) (p1 : Int32) (p2 : Int32) (r : Int32) (h : f_Mo_why A_now p1 p2 = some r) : Met l yX11_why (.code yX11_why cX11_why 3 (some .int) :: TBL) (RM 6 130) (PcR [.ref a_this, .int p1, .int p2] D (TY cC cI cZ) (k_Mo cC cI cZ a_this a_now a_undos a_seen a_seenAs a_isKept a_kept a_text a_read a_fewest a_doors a_isSo v_undoMany v_undoAt v_seenMany v_letterMany v_readAt v_tokenAt v_token v_value v_faultAt v_readOnce v_greatUpper v_greatLower A_now A_undos A_seen A_seenAs A_isKept A_kept A_text A_read A_fewest A_doors A_isSo)) (vp_Si (PO .int r)) 0 0 (fun _ => False) := by
  refine roOf (by decide) (Nat.le_of_ble_eq_true rfl) rfl ?_
  intro p e s m args below meth c Q ls X hP hl hret
  have X : Ctx p s m args c cX11_why 3 RX11 D (TY cC cI cZ) := X
  obtain ⟨hx, hb, hml, hown, htT, hK, hN⟩ := id X
  unfold f_Mo_why at h
  refine lv_aload_n hx hb dX11_why_0 rfl (lv_at hl 0 rfl) ?_
  refine lv_iload_n hx hb dX11_why_1 rfl (lv_at hl 1 rfl) ?_
  refine lv_iload_n hx hb dX11_why_2 rfl (lv_at hl 2 rfl) ?_
  obtain ⟨r1, e1, h⟩ := bd h
  refine roV X [.int p1, .int p2] [] (c_Mo_isSide l D cC cI cZ a_this a_now a_undos a_seen a_seenAs a_isKept a_kept a_text a_read a_fewest a_doors a_isSo v_undoMany v_undoAt v_seenMany v_letterMany v_readAt v_tokenAt v_token v_value v_faultAt v_readOnce v_greatUpper v_greatLower A_now A_undos A_seen A_seenAs A_isKept A_kept A_text A_read A_fewest A_doors A_isSo p1 p2 r1 e1) gg_X11_192 hd_Mo_isSide ⟨rfl, rfl, Nat.le_of_ble_eq_true rfl, Nat.le_of_ble_eq_true rfl⟩ ⟨Nat.zero_le _, Nat.zero_le _⟩ hP [0, 1, 2, 3, 4, 5, 6, 7, 8, 9, 10, 11] rfl rfl rfl rfl hl.1 rfl (Nat.le_of_ble_eq_true rfl) dX11_why_3 (fun n1 => ?_)
  refine lv_if_eq (tgt := 29) hx hb dX11_why_6 (by decide) (fun c2 => ?_) (fun c2 => ?_)
  · have h := ip c2 h
    refine lv_iconst (v := (-1 : Int32)) hx hb dX11_why_29 rfl ?_
    exact hret _ _ _ dX11_why_30 (Option.some.inj h) rfl
  · have h := im c2 h
    refine lv_iload_n hx hb dX11_why_9 rfl (lv_at hl 1 rfl) ?_
    refine lv_iload_n hx hb dX11_why_10 rfl (lv_at hl 2 rfl) ?_
    refine lv_icmp_ge (tgt := 29) hx hb dX11_why_11 (by decide) (fun c3 => ?_) (fun c3 => ?_)
    · have h := ip c3 h
      refine lv_iconst (v := (-1 : Int32)) hx hb dX11_why_29 rfl ?_
      exact hret _ _ _ dX11_why_30 (Option.some.inj h) rfl
    · have h := im c3 h
      refine lv_aload_n hx hb dX11_why_14 rfl (lv_at hl 0 rfl) ?_
      refine lv_iload_n hx hb dX11_why_15 rfl (lv_at hl 1 rfl) ?_
      refine lv_iload_n hx hb dX11_why_16 rfl (lv_at hl 2 rfl) ?_
      refine lv_aload_n hx hb dX11_why_17 rfl (lv_at hl 0 rfl) ?_
      refine va_get (ci := 11) (v := .ref a_now) (C := RX11) (T := TX11) (N := 23) hx hb htT inlX11 hown hK hP 0 rfl rfl 0 (by decide) (htT _ q_7_0) (fun _ h9 => h9) rfl dX11_why_18 ?_
      refine lv_iconst (v := (1 : Int32)) hx hb dX11_why_21 rfl ?_
      obtain ⟨g4, h⟩ := gd h
      refine va_iald hx hb hK hP 1 1 rfl rfl (inB_in g4) dX11_why_22 ?_
      obtain ⟨r5, e5, h⟩ := bd h
      refine roV X [.int p1, .int p2, .int (A_now ((1 : Int32)).toNatClampNeg)] [] (c_Mo_whyNot l D cC cI cZ a_this a_now a_undos a_seen a_seenAs a_isKept a_kept a_text a_read a_fewest a_doors a_isSo v_undoMany v_undoAt v_seenMany v_letterMany v_readAt v_tokenAt v_token v_value v_faultAt v_readOnce v_greatUpper v_greatLower A_now A_undos A_seen A_seenAs A_isKept A_kept A_text A_read A_fewest A_doors A_isSo p1 p2 (A_now ((1 : Int32)).toNatClampNeg) r5 e5) gg_X11_143 hd_Mo_whyNot ⟨rfl, rfl, Nat.le_of_ble_eq_true rfl, Nat.le_of_ble_eq_true rfl⟩ ⟨Nat.zero_le _, Nat.zero_le _⟩ hP [0, 1, 2, 3, 4, 5, 6, 7, 8, 9, 10, 11] rfl rfl rfl rfl hl.1 rfl (Nat.le_of_ble_eq_true rfl) dX11_why_23 (fun n5 => ?_)
      refine lv_goto (tgt := 30) hx hb dX11_why_26 (by decide) ?_
      exact hret _ _ _ dX11_why_30 (Option.some.inj h) rfl
