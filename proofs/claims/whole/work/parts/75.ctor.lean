def cz_d0 : List Value := [.int 0, .int 0, .null, .null, .null, .null, .null, .null, .null, .null, .int 0]
theorem cz_df0 : ∀ j, j < pm_NN 0 → defaultValue (pm_tN 0 j) = vp_V cz_d0 j := by
  intro j hj
  match j, hj with
  | 0, _ => rfl
  | 1, _ => rfl
  | 2, _ => rfl
  | 3, _ => rfl
  | 4, _ => rfl
  | 5, _ => rfl
  | 6, _ => rfl
  | 7, _ => rfl
  | 8, _ => rfl
  | 9, _ => rfl
  | 10, _ => rfl
  | n + 11, h => exact absurd h (Nat.not_lt.mpr (Nat.le_add_left 11 n))
def cz_d1 : List Value := [.int 0, .int 0, .null]
theorem cz_df1 : ∀ j, j < pm_NN 1 → defaultValue (pm_tN 1 j) = vp_V cz_d1 j := by
  intro j hj
  match j, hj with
  | 0, _ => rfl
  | 1, _ => rfl
  | 2, _ => rfl
  | n + 3, h => exact absurd h (Nat.not_lt.mpr (Nat.le_add_left 3 n))
def cz_d2 : List Value := [.null, .int 0, .int 0, .int 0, .int 0, .int 0]
theorem cz_df2 : ∀ j, j < pm_NN 2 → defaultValue (pm_tN 2 j) = vp_V cz_d2 j := by
  intro j hj
  match j, hj with
  | 0, _ => rfl
  | 1, _ => rfl
  | 2, _ => rfl
  | 3, _ => rfl
  | 4, _ => rfl
  | 5, _ => rfl
  | n + 6, h => exact absurd h (Nat.not_lt.mpr (Nat.le_add_left 6 n))
def cz_d3 : List Value := [.int 0, .int 0, .null, .int 0, .int 0, .null, .null]
theorem cz_df3 : ∀ j, j < pm_NN 3 → defaultValue (pm_tN 3 j) = vp_V cz_d3 j := by
  intro j hj
  match j, hj with
  | 0, _ => rfl
  | 1, _ => rfl
  | 2, _ => rfl
  | 3, _ => rfl
  | 4, _ => rfl
  | 5, _ => rfl
  | 6, _ => rfl
  | n + 7, h => exact absurd h (Nat.not_lt.mpr (Nat.le_add_left 7 n))
def cz_d4 : List Value := [.int 0, .int 0, .int 0, .null, .null, .null, .null, .null, .null, .null]
theorem cz_df4 : ∀ j, j < pm_NN 4 → defaultValue (pm_tN 4 j) = vp_V cz_d4 j := by
  intro j hj
  match j, hj with
  | 0, _ => rfl
  | 1, _ => rfl
  | 2, _ => rfl
  | 3, _ => rfl
  | 4, _ => rfl
  | 5, _ => rfl
  | 6, _ => rfl
  | 7, _ => rfl
  | 8, _ => rfl
  | 9, _ => rfl
  | n + 10, h => exact absurd h (Nat.not_lt.mpr (Nat.le_add_left 10 n))
def cz_d5 : List Value := [.null, .null, .null, .null, .null, .null, .null, .null, .int 0]
theorem cz_df5 : ∀ j, j < pm_NN 5 → defaultValue (pm_tN 5 j) = vp_V cz_d5 j := by
  intro j hj
  match j, hj with
  | 0, _ => rfl
  | 1, _ => rfl
  | 2, _ => rfl
  | 3, _ => rfl
  | 4, _ => rfl
  | 5, _ => rfl
  | 6, _ => rfl
  | 7, _ => rfl
  | 8, _ => rfl
  | n + 9, h => exact absurd h (Nat.not_lt.mpr (Nat.le_add_left 9 n))
def cz_d6 : List Value := [.null, .null, .null, .int 0, .int 0, .null, .int 0, .int 0, .int 0, .int 0, .null, .int 0, .null, .int 0, .int 0, .int 0, .int 0, .int 0, .int 0, .int 0, .null, .int 0, .int 0, .null, .null, .int 0, .int 0, .long 0, .int 0, .int 0, .int 0, .null, .null, .null, .null, .int 0, .null]
theorem cz_df6 : ∀ j, j < pm_NN 6 → defaultValue (pm_tN 6 j) = vp_V cz_d6 j := by
  intro j hj
  match j, hj with
  | 0, _ => rfl
  | 1, _ => rfl
  | 2, _ => rfl
  | 3, _ => rfl
  | 4, _ => rfl
  | 5, _ => rfl
  | 6, _ => rfl
  | 7, _ => rfl
  | 8, _ => rfl
  | 9, _ => rfl
  | 10, _ => rfl
  | 11, _ => rfl
  | 12, _ => rfl
  | 13, _ => rfl
  | 14, _ => rfl
  | 15, _ => rfl
  | 16, _ => rfl
  | 17, _ => rfl
  | 18, _ => rfl
  | 19, _ => rfl
  | 20, _ => rfl
  | 21, _ => rfl
  | 22, _ => rfl
  | 23, _ => rfl
  | 24, _ => rfl
  | 25, _ => rfl
  | 26, _ => rfl
  | 27, _ => rfl
  | 28, _ => rfl
  | 29, _ => rfl
  | 30, _ => rfl
  | 31, _ => rfl
  | 32, _ => rfl
  | 33, _ => rfl
  | 34, _ => rfl
  | 35, _ => rfl
  | 36, _ => rfl
  | n + 37, h => exact absurd h (Nat.not_lt.mpr (Nat.le_add_left 37 n))
def tmWt_init : List (Nat × Instr) := [(0, .aload_n 0), (1, .invokespecial 1), (4, .aload_n 0), (5, .new 7), (8, .dup), (9, .invokespecial 9), (12, .putfield 10), (15, .aload_n 0), (16, .new 7), (19, .dup), (20, .invokespecial 9), (23, .putfield 16), (26, .aload_n 0), (27, .iconst 2), (28, .anewarray 7), (31, .putfield 19), (34, .aload_n 0), (35, .iconst 2), (36, .newarray .int), (38, .putfield 23), (41, .aload_n 0), (42, .new 27), (45, .dup), (46, .invokespecial 29), (49, .putfield 30), (52, .aload_n 0), (53, .new 34), (56, .dup), (57, .invokespecial 36), (60, .putfield 37), (63, .aload_n 0), (64, .new 41), (67, .dup), (68, .invokespecial 43), (71, .putfield 44), (74, .aload_n 0), (75, .iconst 4), (76, .anewarray 48), (79, .putfield 50), (82, .aload_n 0), (83, .iconst 0), (84, .putfield 54), (87, .iconst 0), (88, .istore_n 1), (89, .iload_n 1), (90, .iconst 2), (91, .if_icmp .ge 22), (94, .aload_n 0), (95, .getfield 19), (98, .iload_n 1), (99, .new 7), (102, .dup), (103, .invokespecial 9), (106, .aastore), (107, .iinc 1 1), (110, .goto (-21)), (113, .iconst 0), (114, .istore_n 1), (115, .iload_n 1), (116, .iconst 4), (117, .if_icmp .ge 22), (120, .aload_n 0), (121, .getfield 50), (124, .iload_n 1), (125, .new 48), (128, .dup), (129, .invokespecial 58), (132, .aastore), (133, .iinc 1 1), (136, .goto (-21)), (139, .return_)]
def mWt_init : pm_MI := (5, ⟨"WheelTickets", "<init>", "()V"⟩, prog_1_method_1_code, 2, none, tmWt_init, 0, 0)
set_option maxRecDepth 20000 in
theorem ok_mWt_init : pm_ok mWt_init := pm_mkok (by decide +kernel) (pm_in (List.mem_of_getElem? (i := 20) (by decide +kernel)) (by decide +kernel))
def tmWh_init : List (Nat × Instr) := [(0, .aload_n 0), (1, .invokespecial 3), (4, .aload_n 0), (5, .iconst 0), (6, .putfield 9), (9, .aload_n 0), (10, .iconst 0), (11, .putfield 15), (14, .aload_n 0), (15, .iconst 0), (16, .putfield 18), (19, .aload_n 0), (20, .iconst 4), (21, .newarray .int), (23, .putfield 21), (26, .aload_n 0), (27, .bipush 16), (29, .newarray .int), (31, .putfield 25), (34, .aload_n 0), (35, .iconst 4), (36, .newarray .int), (38, .putfield 28), (41, .aload_n 0), (42, .iconst 4), (43, .newarray .int), (45, .putfield 31), (48, .aload_n 0), (49, .iconst 4), (50, .newarray .int), (52, .putfield 34), (55, .aload_n 0), (56, .bipush 6), (58, .newarray .int), (60, .putfield 37), (63, .aload_n 0), (64, .bipush 6), (66, .newarray .int), (68, .putfield 40), (71, .return_)]
def mWh_init : pm_MI := (4, ⟨"WheelTickets$Wheel", "<init>", "()V"⟩, prog_6_method_1_code, 1, none, tmWh_init, 0, 0)
set_option maxRecDepth 20000 in
theorem ok_mWh_init : pm_ok mWh_init := pm_mkok (by decide +kernel) (pm_in (List.mem_of_getElem? (i := 28) (by decide +kernel)) (by decide +kernel))
def tmRe_init : List (Nat × Instr) := [(0, .aload_n 0), (1, .invokespecial 3), (4, .aload_n 0), (5, .iconst 0), (6, .putfield 9), (9, .aload_n 0), (10, .iconst 1), (11, .putfield 15), (14, .aload_n 0), (15, .iconst 4), (16, .newarray .int), (18, .putfield 18), (21, .aload_n 0), (22, .iconst 4), (23, .newarray .int), (25, .putfield 22), (28, .aload_n 0), (29, .iconst 4), (30, .newarray .int), (32, .putfield 25), (35, .aload_n 0), (36, .bipush 16), (38, .newarray .int), (40, .putfield 28), (43, .aload_n 0), (44, .bipush 96), (46, .newarray .int), (48, .putfield 31), (51, .aload_n 0), (52, .bipush 96), (54, .newarray .int), (56, .putfield 34), (59, .aload_n 0), (60, .iconst 4), (61, .newarray .int), (63, .putfield 37), (66, .aload_n 0), (67, .bipush 16), (69, .newarray .int), (71, .putfield 40), (74, .aload_n 0), (75, .iconst 0), (76, .putfield 43), (79, .return_)]
def mRe_init : pm_MI := (0, ⟨"WheelTickets$Rest", "<init>", "()V"⟩, prog_2_method_1_code, 1, none, tmRe_init, 0, 0)
set_option maxRecDepth 20000 in
theorem ok_mRe_init : pm_ok mRe_init := pm_mkok (by decide +kernel) (pm_in (List.mem_of_getElem? (i := 83) (by decide +kernel)) (by decide +kernel))
def tmTa_init : List (Nat × Instr) := [(0, .aload_n 0), (1, .invokespecial 3), (4, .aload_n 0), (5, .sipush 160), (8, .newarray .byte), (10, .putfield 9), (13, .aload_n 0), (14, .iconst 0), (15, .putfield 15), (18, .aload_n 0), (19, .iconst 0), (20, .putfield 19), (23, .aload_n 0), (24, .iconst 0), (25, .putfield 22), (28, .aload_n 0), (29, .iconst 0), (30, .putfield 25), (33, .aload_n 0), (34, .iconst 0), (35, .putfield 28), (38, .return_)]
def mTa_init : pm_MI := (2, ⟨"WheelTickets$Tape", "<init>", "()V"⟩, prog_4_method_1_code, 1, none, tmTa_init, 0, 0)
set_option maxRecDepth 20000 in
theorem ok_mTa_init : pm_ok mTa_init := pm_mkok (by decide +kernel) (pm_in (List.mem_of_getElem? (i := 124) (by decide +kernel)) (by decide +kernel))
def tmTe_init : List (Nat × Instr) := [(0, .aload_n 0), (1, .invokespecial 3), (4, .aload_n 0), (5, .iconst 0), (6, .putfield 9), (9, .aload_n 0), (10, .iconst 0), (11, .putfield 15), (14, .aload_n 0), (15, .iconst 3), (16, .newarray .int), (18, .putfield 18), (21, .aload_n 0), (22, .iconst 0), (23, .putfield 22), (26, .aload_n 0), (27, .iconst 0), (28, .putfield 25), (31, .aload_n 0), (32, .iconst 4), (33, .newarray .int), (35, .putfield 28), (38, .aload_n 0), (39, .iconst 4), (40, .newarray .int), (42, .putfield 31), (45, .return_)]
def mTe_init : pm_MI := (3, ⟨"WheelTickets$Teller", "<init>", "()V"⟩, prog_5_method_1_code, 1, none, tmTe_init, 0, 0)
set_option maxRecDepth 20000 in
theorem ok_mTe_init : pm_ok mTe_init := pm_mkok (by decide +kernel) (pm_in (List.mem_of_getElem? (i := 155) (by decide +kernel)) (by decide +kernel))
def tmSh_init : List (Nat × Instr) := [(0, .aload_n 0), (1, .invokespecial 3), (4, .aload_n 0), (5, .bipush (-4)), (7, .putfield 9), (10, .aload_n 0), (11, .iconst 0), (12, .putfield 15), (15, .aload_n 0), (16, .bipush 40), (18, .newarray .int), (20, .putfield 18), (23, .return_)]
def mSh_init : pm_MI := (1, ⟨"WheelTickets$Sheet", "<init>", "()V"⟩, prog_3_method_1_code, 1, none, tmSh_init, 0, 0)
set_option maxRecDepth 20000 in
theorem ok_mSh_init : pm_ok mSh_init := pm_mkok (by decide +kernel) (pm_in (List.mem_of_getElem? (i := 185) (by decide +kernel)) (by decide +kernel))
def tmMo_init : List (Nat × Instr) := [(0, .aload_n 0), (1, .invokespecial 1), (4, .aload_n 0), (5, .sipush 135), (8, .newarray .int), (10, .putfield 7), (13, .aload_n 0), (14, .bipush 45), (16, .newarray .int), (18, .putfield 13), (21, .aload_n 0), (22, .iconst 2), (23, .newarray .boolean), (25, .putfield 16), (28, .aload_n 0), (29, .bipush 45), (31, .newarray .int), (33, .putfield 20), (36, .aload_n 0), (37, .bipush 8), (39, .newarray .int), (41, .putfield 23), (44, .aload_n 0), (45, .sipush 160), (48, .newarray .int), (50, .putfield 26), (53, .aload_n 0), (54, .bipush 100), (56, .newarray .int), (58, .putfield 29), (61, .aload_n 0), (62, .iconst 4), (63, .newarray .int), (65, .putfield 32), (68, .aload_n 0), (69, .iconst 4), (70, .newarray .int), (72, .putfield 35), (75, .aload_n 0), (76, .bipush 16), (78, .newarray .int), (80, .putfield 38), (83, .aload_n 0), (84, .iconst 4), (85, .newarray .int), (87, .putfield 41), (90, .aload_n 0), (91, .iconst 4), (92, .newarray .int), (94, .putfield 44), (97, .aload_n 0), (98, .sipush 160), (101, .newarray .int), (103, .putfield 47), (106, .aload_n 0), (107, .bipush 45), (109, .newarray .int), (111, .putfield 50), (114, .iconst 0), (115, .istore_n 1), (116, .iload_n 1), (117, .iconst 4), (118, .if_icmp .ge 17), (121, .aload_n 0), (122, .getfield 41), (125, .iload_n 1), (126, .bipush (-4)), (128, .iastore), (129, .iinc 1 1), (132, .goto (-16)), (135, .aload_n 0), (136, .invokevirtual 53), (139, .aload_n 0), (140, .invokevirtual 56), (143, .return_)]
def mMo_init : pm_MI := (6, ⟨"WheelTicketsModel", "<init>", "()V"⟩, prog_8_method_1_code, 2, none, tmMo_init, 3, 100)
set_option maxRecDepth 20000 in
theorem ok_mMo_init : pm_ok mMo_init := pm_mkok (by decide +kernel) (pm_in (List.mem_of_getElem? (i := 790) (by decide +kernel)) (by decide +kernel))
def cz_w0Wh (h0 : Nat) : va_W := [(h0, .inr (4, cz_d4))]
def cz_wWh (cT : Nat → ClassId) (h0 : Nat) (u : Nat → Nat) : va_W := [(h0, .inr (4, [.int 0, .int 0, .int 0, .ref (u 0), .ref (u 1), .ref (u 2), .ref (u 3), .ref (u 4), .ref (u 5), .ref (u 6)])), ((u 0), .inl (cT 0, 4, .inl (fun _ => 0))), ((u 1), .inl (cT 0, 16, .inl (fun _ => 0))), ((u 2), .inl (cT 0, 4, .inl (fun _ => 0))), ((u 3), .inl (cT 0, 4, .inl (fun _ => 0))), ((u 4), .inl (cT 0, 4, .inl (fun _ => 0))), ((u 5), .inl (cT 0, 6, .inl (fun _ => 0))), ((u 6), .inl (cT 0, 6, .inl (fun _ => 0)))]
def cz_rWh : Room := { frames := 1, cells := 7, slots := 44, locals := 40 }
set_option maxHeartbeats 8000000 in
set_option maxRecDepth 100000 in
theorem c_mWh_init (l : Launch) (D : va_G) (cT : Nat → ClassId) : cz_Met l mWh_init cz_rWh D cT cz_w0Wh (cz_wWh cT) 7 44 := by
  refine cz_Met_of (by decide +kernel) rfl rfl rfl (Nat.le_of_ble_eq_true rfl) ?_
  intro p e s m below meth c A h0 ls C hw hl ret
  obtain ⟨locs, hlocs⟩ : ∃ x : List Loc, x = [] := ⟨_, rfl⟩
  rw [← hlocs] at hw ⊢
  generalize MQ below (cz_Post D (cz_w0Wh h0) s.heap.size (cz_wWh cT h0)) #[.ref h0] s 7 44 (va_A (cz_w0Wh h0) s.heap.size) = Q at ret ⊢
  generalize s.heap = H at hw ⊢ 
  refine lv_aload_n C.1 C.2.1 (pm_tab_ok ok_mWh_init.1 rfl) rfl (lv_at hl 0 rfl) ?_
  refine cz_obj C hl.1 (pm_in (List.mem_of_getElem? (i := 29) (by decide +kernel)) (by decide +kernel)) (pm_tab_ok ok_mWh_init.1 rfl) ⟨Nat.le_of_ble_eq_true rfl, Nat.le_of_ble_eq_true rfl⟩ ?_
  refine lv_aload_n C.1 C.2.1 (pm_tab_ok ok_mWh_init.1 rfl) rfl (lv_at hl 0 rfl) ?_
  refine lv_iconst (v := 0) C.1 C.2.1 (pm_tab_ok ok_mWh_init.1 rfl) (by decide) ?_
  refine cz_put C hw 0 (ci := 4) (kf := 0) (by decide +kernel) rfl rfl rfl rfl (Nat.le_of_ble_eq_true rfl) (pm_tab_ok ok_mWh_init.1 rfl) (fun H locs hw => ?_)
  replace hw : cz_W D A s [(h0, .inr (4, [.int 0, .int 0, .int 0, .null, .null, .null, .null, .null, .null, .null]))] H locs := hw
  refine lv_aload_n C.1 C.2.1 (pm_tab_ok ok_mWh_init.1 rfl) rfl (lv_at hl 0 rfl) ?_
  refine lv_iconst (v := 0) C.1 C.2.1 (pm_tab_ok ok_mWh_init.1 rfl) (by decide) ?_
  refine cz_put C hw 0 (ci := 4) (kf := 1) (by decide +kernel) rfl rfl rfl rfl (Nat.le_of_ble_eq_true rfl) (pm_tab_ok ok_mWh_init.1 rfl) (fun H locs hw => ?_)
  replace hw : cz_W D A s [(h0, .inr (4, [.int 0, .int 0, .int 0, .null, .null, .null, .null, .null, .null, .null]))] H locs := hw
  refine lv_aload_n C.1 C.2.1 (pm_tab_ok ok_mWh_init.1 rfl) rfl (lv_at hl 0 rfl) ?_
  refine lv_iconst (v := 0) C.1 C.2.1 (pm_tab_ok ok_mWh_init.1 rfl) (by decide) ?_
  refine cz_put C hw 0 (ci := 4) (kf := 2) (by decide +kernel) rfl rfl rfl rfl (Nat.le_of_ble_eq_true rfl) (pm_tab_ok ok_mWh_init.1 rfl) (fun H locs hw => ?_)
  replace hw : cz_W D A s [(h0, .inr (4, [.int 0, .int 0, .int 0, .null, .null, .null, .null, .null, .null, .null]))] H locs := hw
  refine lv_aload_n C.1 C.2.1 (pm_tab_ok ok_mWh_init.1 rfl) rfl (lv_at hl 0 rfl) ?_
  refine lv_iconst (v := 4) C.1 C.2.1 (pm_tab_ok ok_mWh_init.1 rfl) (by decide) ?_
  refine cz_newi C hw 4 (by decide) (by decide) (by decide) ⟨Nat.le_of_ble_eq_true rfl, Nat.le_of_ble_eq_true rfl⟩ (pm_tab_ok ok_mWh_init.1 rfl) (fun q1 H hw => ?_)
  replace hw : cz_W D A s [(h0, .inr (4, [.int 0, .int 0, .int 0, .null, .null, .null, .null, .null, .null, .null])), (q1, .inl (cT 0, 4, .inl (fun _ => 0)))] H locs := hw
  refine W.widen (k := 1) (n := 4) (by decide) (by decide) ?_
  refine cz_put C hw 0 (ci := 4) (kf := 3) (by decide +kernel) rfl rfl rfl rfl (Nat.le_of_ble_eq_true rfl) (pm_tab_ok ok_mWh_init.1 rfl) (fun H locs hw => ?_)
  replace hw : cz_W D A s [(h0, .inr (4, [.int 0, .int 0, .int 0, .ref q1, .null, .null, .null, .null, .null, .null])), (q1, .inl (cT 0, 4, .inl (fun _ => 0)))] H locs := hw
  refine lv_aload_n C.1 C.2.1 (pm_tab_ok ok_mWh_init.1 rfl) rfl (lv_at hl 0 rfl) ?_
  refine lv_bipush (v := 16) C.1 C.2.1 (pm_tab_ok ok_mWh_init.1 rfl) (by decide) ?_
  refine cz_newi C hw 16 (by decide) (by decide) (by decide) ⟨Nat.le_of_ble_eq_true rfl, Nat.le_of_ble_eq_true rfl⟩ (pm_tab_ok ok_mWh_init.1 rfl) (fun q2 H hw => ?_)
  replace hw : cz_W D A s [(h0, .inr (4, [.int 0, .int 0, .int 0, .ref q1, .null, .null, .null, .null, .null, .null])), (q1, .inl (cT 0, 4, .inl (fun _ => 0))), (q2, .inl (cT 0, 16, .inl (fun _ => 0)))] H locs := hw
  refine W.widen (k := 2) (n := 20) (by decide) (by decide) ?_
  refine cz_put C hw 0 (ci := 4) (kf := 4) (by decide +kernel) rfl rfl rfl rfl (Nat.le_of_ble_eq_true rfl) (pm_tab_ok ok_mWh_init.1 rfl) (fun H locs hw => ?_)
  replace hw : cz_W D A s [(h0, .inr (4, [.int 0, .int 0, .int 0, .ref q1, .ref q2, .null, .null, .null, .null, .null])), (q1, .inl (cT 0, 4, .inl (fun _ => 0))), (q2, .inl (cT 0, 16, .inl (fun _ => 0)))] H locs := hw
  refine lv_aload_n C.1 C.2.1 (pm_tab_ok ok_mWh_init.1 rfl) rfl (lv_at hl 0 rfl) ?_
  refine lv_iconst (v := 4) C.1 C.2.1 (pm_tab_ok ok_mWh_init.1 rfl) (by decide) ?_
  refine cz_newi C hw 4 (by decide) (by decide) (by decide) ⟨Nat.le_of_ble_eq_true rfl, Nat.le_of_ble_eq_true rfl⟩ (pm_tab_ok ok_mWh_init.1 rfl) (fun q3 H hw => ?_)
  replace hw : cz_W D A s [(h0, .inr (4, [.int 0, .int 0, .int 0, .ref q1, .ref q2, .null, .null, .null, .null, .null])), (q1, .inl (cT 0, 4, .inl (fun _ => 0))), (q2, .inl (cT 0, 16, .inl (fun _ => 0))), (q3, .inl (cT 0, 4, .inl (fun _ => 0)))] H locs := hw
  refine W.widen (k := 3) (n := 24) (by decide) (by decide) ?_
  refine cz_put C hw 0 (ci := 4) (kf := 5) (by decide +kernel) rfl rfl rfl rfl (Nat.le_of_ble_eq_true rfl) (pm_tab_ok ok_mWh_init.1 rfl) (fun H locs hw => ?_)
  replace hw : cz_W D A s [(h0, .inr (4, [.int 0, .int 0, .int 0, .ref q1, .ref q2, .ref q3, .null, .null, .null, .null])), (q1, .inl (cT 0, 4, .inl (fun _ => 0))), (q2, .inl (cT 0, 16, .inl (fun _ => 0))), (q3, .inl (cT 0, 4, .inl (fun _ => 0)))] H locs := hw
  refine lv_aload_n C.1 C.2.1 (pm_tab_ok ok_mWh_init.1 rfl) rfl (lv_at hl 0 rfl) ?_
  refine lv_iconst (v := 4) C.1 C.2.1 (pm_tab_ok ok_mWh_init.1 rfl) (by decide) ?_
  refine cz_newi C hw 4 (by decide) (by decide) (by decide) ⟨Nat.le_of_ble_eq_true rfl, Nat.le_of_ble_eq_true rfl⟩ (pm_tab_ok ok_mWh_init.1 rfl) (fun q4 H hw => ?_)
  replace hw : cz_W D A s [(h0, .inr (4, [.int 0, .int 0, .int 0, .ref q1, .ref q2, .ref q3, .null, .null, .null, .null])), (q1, .inl (cT 0, 4, .inl (fun _ => 0))), (q2, .inl (cT 0, 16, .inl (fun _ => 0))), (q3, .inl (cT 0, 4, .inl (fun _ => 0))), (q4, .inl (cT 0, 4, .inl (fun _ => 0)))] H locs := hw
  refine W.widen (k := 4) (n := 28) (by decide) (by decide) ?_
  refine cz_put C hw 0 (ci := 4) (kf := 6) (by decide +kernel) rfl rfl rfl rfl (Nat.le_of_ble_eq_true rfl) (pm_tab_ok ok_mWh_init.1 rfl) (fun H locs hw => ?_)
  replace hw : cz_W D A s [(h0, .inr (4, [.int 0, .int 0, .int 0, .ref q1, .ref q2, .ref q3, .ref q4, .null, .null, .null])), (q1, .inl (cT 0, 4, .inl (fun _ => 0))), (q2, .inl (cT 0, 16, .inl (fun _ => 0))), (q3, .inl (cT 0, 4, .inl (fun _ => 0))), (q4, .inl (cT 0, 4, .inl (fun _ => 0)))] H locs := hw
  refine lv_aload_n C.1 C.2.1 (pm_tab_ok ok_mWh_init.1 rfl) rfl (lv_at hl 0 rfl) ?_
  refine lv_iconst (v := 4) C.1 C.2.1 (pm_tab_ok ok_mWh_init.1 rfl) (by decide) ?_
  refine cz_newi C hw 4 (by decide) (by decide) (by decide) ⟨Nat.le_of_ble_eq_true rfl, Nat.le_of_ble_eq_true rfl⟩ (pm_tab_ok ok_mWh_init.1 rfl) (fun q5 H hw => ?_)
  replace hw : cz_W D A s [(h0, .inr (4, [.int 0, .int 0, .int 0, .ref q1, .ref q2, .ref q3, .ref q4, .null, .null, .null])), (q1, .inl (cT 0, 4, .inl (fun _ => 0))), (q2, .inl (cT 0, 16, .inl (fun _ => 0))), (q3, .inl (cT 0, 4, .inl (fun _ => 0))), (q4, .inl (cT 0, 4, .inl (fun _ => 0))), (q5, .inl (cT 0, 4, .inl (fun _ => 0)))] H locs := hw
  refine W.widen (k := 5) (n := 32) (by decide) (by decide) ?_
  refine cz_put C hw 0 (ci := 4) (kf := 7) (by decide +kernel) rfl rfl rfl rfl (Nat.le_of_ble_eq_true rfl) (pm_tab_ok ok_mWh_init.1 rfl) (fun H locs hw => ?_)
  replace hw : cz_W D A s [(h0, .inr (4, [.int 0, .int 0, .int 0, .ref q1, .ref q2, .ref q3, .ref q4, .ref q5, .null, .null])), (q1, .inl (cT 0, 4, .inl (fun _ => 0))), (q2, .inl (cT 0, 16, .inl (fun _ => 0))), (q3, .inl (cT 0, 4, .inl (fun _ => 0))), (q4, .inl (cT 0, 4, .inl (fun _ => 0))), (q5, .inl (cT 0, 4, .inl (fun _ => 0)))] H locs := hw
  refine lv_aload_n C.1 C.2.1 (pm_tab_ok ok_mWh_init.1 rfl) rfl (lv_at hl 0 rfl) ?_
  refine lv_bipush (v := 6) C.1 C.2.1 (pm_tab_ok ok_mWh_init.1 rfl) (by decide) ?_
  refine cz_newi C hw 6 (by decide) (by decide) (by decide) ⟨Nat.le_of_ble_eq_true rfl, Nat.le_of_ble_eq_true rfl⟩ (pm_tab_ok ok_mWh_init.1 rfl) (fun q6 H hw => ?_)
  replace hw : cz_W D A s [(h0, .inr (4, [.int 0, .int 0, .int 0, .ref q1, .ref q2, .ref q3, .ref q4, .ref q5, .null, .null])), (q1, .inl (cT 0, 4, .inl (fun _ => 0))), (q2, .inl (cT 0, 16, .inl (fun _ => 0))), (q3, .inl (cT 0, 4, .inl (fun _ => 0))), (q4, .inl (cT 0, 4, .inl (fun _ => 0))), (q5, .inl (cT 0, 4, .inl (fun _ => 0))), (q6, .inl (cT 0, 6, .inl (fun _ => 0)))] H locs := hw
  refine W.widen (k := 6) (n := 38) (by decide) (by decide) ?_
  refine cz_put C hw 0 (ci := 4) (kf := 8) (by decide +kernel) rfl rfl rfl rfl (Nat.le_of_ble_eq_true rfl) (pm_tab_ok ok_mWh_init.1 rfl) (fun H locs hw => ?_)
  replace hw : cz_W D A s [(h0, .inr (4, [.int 0, .int 0, .int 0, .ref q1, .ref q2, .ref q3, .ref q4, .ref q5, .ref q6, .null])), (q1, .inl (cT 0, 4, .inl (fun _ => 0))), (q2, .inl (cT 0, 16, .inl (fun _ => 0))), (q3, .inl (cT 0, 4, .inl (fun _ => 0))), (q4, .inl (cT 0, 4, .inl (fun _ => 0))), (q5, .inl (cT 0, 4, .inl (fun _ => 0))), (q6, .inl (cT 0, 6, .inl (fun _ => 0)))] H locs := hw
  refine lv_aload_n C.1 C.2.1 (pm_tab_ok ok_mWh_init.1 rfl) rfl (lv_at hl 0 rfl) ?_
  refine lv_bipush (v := 6) C.1 C.2.1 (pm_tab_ok ok_mWh_init.1 rfl) (by decide) ?_
  refine cz_newi C hw 6 (by decide) (by decide) (by decide) ⟨Nat.le_of_ble_eq_true rfl, Nat.le_of_ble_eq_true rfl⟩ (pm_tab_ok ok_mWh_init.1 rfl) (fun q7 H hw => ?_)
  replace hw : cz_W D A s [(h0, .inr (4, [.int 0, .int 0, .int 0, .ref q1, .ref q2, .ref q3, .ref q4, .ref q5, .ref q6, .null])), (q1, .inl (cT 0, 4, .inl (fun _ => 0))), (q2, .inl (cT 0, 16, .inl (fun _ => 0))), (q3, .inl (cT 0, 4, .inl (fun _ => 0))), (q4, .inl (cT 0, 4, .inl (fun _ => 0))), (q5, .inl (cT 0, 4, .inl (fun _ => 0))), (q6, .inl (cT 0, 6, .inl (fun _ => 0))), (q7, .inl (cT 0, 6, .inl (fun _ => 0)))] H locs := hw
  refine W.widen (k := 7) (n := 44) (by decide) (by decide) ?_
  refine cz_put C hw 0 (ci := 4) (kf := 9) (by decide +kernel) rfl rfl rfl rfl (Nat.le_of_ble_eq_true rfl) (pm_tab_ok ok_mWh_init.1 rfl) (fun H locs hw => ?_)
  replace hw : cz_W D A s [(h0, .inr (4, [.int 0, .int 0, .int 0, .ref q1, .ref q2, .ref q3, .ref q4, .ref q5, .ref q6, .ref q7])), (q1, .inl (cT 0, 4, .inl (fun _ => 0))), (q2, .inl (cT 0, 16, .inl (fun _ => 0))), (q3, .inl (cT 0, 4, .inl (fun _ => 0))), (q4, .inl (cT 0, 4, .inl (fun _ => 0))), (q5, .inl (cT 0, 4, .inl (fun _ => 0))), (q6, .inl (cT 0, 6, .inl (fun _ => 0))), (q7, .inl (cT 0, 6, .inl (fun _ => 0)))] H locs := hw
  exact ret 71 _ _ _ (fun i => match i with
    | 0 => q1
    | 1 => q2
    | 2 => q3
    | 3 => q4
    | 4 => q5
    | 5 => q6
    | 6 => q7
    | _ => 0) hw (pm_tab_ok ok_mWh_init.1 rfl)
def cz_w0Re (h0 : Nat) : va_W := [(h0, .inr (0, cz_d0))]
def cz_wRe (cT : Nat → ClassId) (h0 : Nat) (u : Nat → Nat) : va_W := [(h0, .inr (0, [.int 0, .int 1, .ref (u 0), .ref (u 1), .ref (u 2), .ref (u 3), .ref (u 4), .ref (u 5), .ref (u 6), .ref (u 7), .int 0])), ((u 0), .inl (cT 0, 4, .inl (fun _ => 0))), ((u 1), .inl (cT 0, 4, .inl (fun _ => 0))), ((u 2), .inl (cT 0, 4, .inl (fun _ => 0))), ((u 3), .inl (cT 0, 16, .inl (fun _ => 0))), ((u 4), .inl (cT 0, 96, .inl (fun _ => 0))), ((u 5), .inl (cT 0, 96, .inl (fun _ => 0))), ((u 6), .inl (cT 0, 4, .inl (fun _ => 0))), ((u 7), .inl (cT 0, 16, .inl (fun _ => 0)))]
def cz_rRe : Room := { frames := 1, cells := 8, slots := 240, locals := 40 }
set_option maxHeartbeats 8000000 in
set_option maxRecDepth 100000 in
theorem c_mRe_init (l : Launch) (D : va_G) (cT : Nat → ClassId) : cz_Met l mRe_init cz_rRe D cT cz_w0Re (cz_wRe cT) 8 240 := by
  refine cz_Met_of (by decide +kernel) rfl rfl rfl (Nat.le_of_ble_eq_true rfl) ?_
  intro p e s m below meth c A h0 ls C hw hl ret
  obtain ⟨locs, hlocs⟩ : ∃ x : List Loc, x = [] := ⟨_, rfl⟩
  rw [← hlocs] at hw ⊢
  generalize MQ below (cz_Post D (cz_w0Re h0) s.heap.size (cz_wRe cT h0)) #[.ref h0] s 8 240 (va_A (cz_w0Re h0) s.heap.size) = Q at ret ⊢
  generalize s.heap = H at hw ⊢ 
  refine lv_aload_n C.1 C.2.1 (pm_tab_ok ok_mRe_init.1 rfl) rfl (lv_at hl 0 rfl) ?_
  refine cz_obj C hl.1 (pm_in (List.mem_of_getElem? (i := 84) (by decide +kernel)) (by decide +kernel)) (pm_tab_ok ok_mRe_init.1 rfl) ⟨Nat.le_of_ble_eq_true rfl, Nat.le_of_ble_eq_true rfl⟩ ?_
  refine lv_aload_n C.1 C.2.1 (pm_tab_ok ok_mRe_init.1 rfl) rfl (lv_at hl 0 rfl) ?_
  refine lv_iconst (v := 0) C.1 C.2.1 (pm_tab_ok ok_mRe_init.1 rfl) (by decide) ?_
  refine cz_put C hw 0 (ci := 0) (kf := 0) (by decide +kernel) rfl rfl rfl rfl (Nat.le_of_ble_eq_true rfl) (pm_tab_ok ok_mRe_init.1 rfl) (fun H locs hw => ?_)
  replace hw : cz_W D A s [(h0, .inr (0, [.int 0, .int 0, .null, .null, .null, .null, .null, .null, .null, .null, .int 0]))] H locs := hw
  refine lv_aload_n C.1 C.2.1 (pm_tab_ok ok_mRe_init.1 rfl) rfl (lv_at hl 0 rfl) ?_
  refine lv_iconst (v := 1) C.1 C.2.1 (pm_tab_ok ok_mRe_init.1 rfl) (by decide) ?_
  refine cz_put C hw 0 (ci := 0) (kf := 1) (by decide +kernel) rfl rfl rfl rfl (Nat.le_of_ble_eq_true rfl) (pm_tab_ok ok_mRe_init.1 rfl) (fun H locs hw => ?_)
  replace hw : cz_W D A s [(h0, .inr (0, [.int 0, .int 1, .null, .null, .null, .null, .null, .null, .null, .null, .int 0]))] H locs := hw
  refine lv_aload_n C.1 C.2.1 (pm_tab_ok ok_mRe_init.1 rfl) rfl (lv_at hl 0 rfl) ?_
  refine lv_iconst (v := 4) C.1 C.2.1 (pm_tab_ok ok_mRe_init.1 rfl) (by decide) ?_
  refine cz_newi C hw 4 (by decide) (by decide) (by decide) ⟨Nat.le_of_ble_eq_true rfl, Nat.le_of_ble_eq_true rfl⟩ (pm_tab_ok ok_mRe_init.1 rfl) (fun q1 H hw => ?_)
  replace hw : cz_W D A s [(h0, .inr (0, [.int 0, .int 1, .null, .null, .null, .null, .null, .null, .null, .null, .int 0])), (q1, .inl (cT 0, 4, .inl (fun _ => 0)))] H locs := hw
  refine W.widen (k := 1) (n := 4) (by decide) (by decide) ?_
  refine cz_put C hw 0 (ci := 0) (kf := 2) (by decide +kernel) rfl rfl rfl rfl (Nat.le_of_ble_eq_true rfl) (pm_tab_ok ok_mRe_init.1 rfl) (fun H locs hw => ?_)
  replace hw : cz_W D A s [(h0, .inr (0, [.int 0, .int 1, .ref q1, .null, .null, .null, .null, .null, .null, .null, .int 0])), (q1, .inl (cT 0, 4, .inl (fun _ => 0)))] H locs := hw
  refine lv_aload_n C.1 C.2.1 (pm_tab_ok ok_mRe_init.1 rfl) rfl (lv_at hl 0 rfl) ?_
  refine lv_iconst (v := 4) C.1 C.2.1 (pm_tab_ok ok_mRe_init.1 rfl) (by decide) ?_
  refine cz_newi C hw 4 (by decide) (by decide) (by decide) ⟨Nat.le_of_ble_eq_true rfl, Nat.le_of_ble_eq_true rfl⟩ (pm_tab_ok ok_mRe_init.1 rfl) (fun q2 H hw => ?_)
  replace hw : cz_W D A s [(h0, .inr (0, [.int 0, .int 1, .ref q1, .null, .null, .null, .null, .null, .null, .null, .int 0])), (q1, .inl (cT 0, 4, .inl (fun _ => 0))), (q2, .inl (cT 0, 4, .inl (fun _ => 0)))] H locs := hw
  refine W.widen (k := 2) (n := 8) (by decide) (by decide) ?_
  refine cz_put C hw 0 (ci := 0) (kf := 3) (by decide +kernel) rfl rfl rfl rfl (Nat.le_of_ble_eq_true rfl) (pm_tab_ok ok_mRe_init.1 rfl) (fun H locs hw => ?_)
  replace hw : cz_W D A s [(h0, .inr (0, [.int 0, .int 1, .ref q1, .ref q2, .null, .null, .null, .null, .null, .null, .int 0])), (q1, .inl (cT 0, 4, .inl (fun _ => 0))), (q2, .inl (cT 0, 4, .inl (fun _ => 0)))] H locs := hw
  refine lv_aload_n C.1 C.2.1 (pm_tab_ok ok_mRe_init.1 rfl) rfl (lv_at hl 0 rfl) ?_
  refine lv_iconst (v := 4) C.1 C.2.1 (pm_tab_ok ok_mRe_init.1 rfl) (by decide) ?_
  refine cz_newi C hw 4 (by decide) (by decide) (by decide) ⟨Nat.le_of_ble_eq_true rfl, Nat.le_of_ble_eq_true rfl⟩ (pm_tab_ok ok_mRe_init.1 rfl) (fun q3 H hw => ?_)
  replace hw : cz_W D A s [(h0, .inr (0, [.int 0, .int 1, .ref q1, .ref q2, .null, .null, .null, .null, .null, .null, .int 0])), (q1, .inl (cT 0, 4, .inl (fun _ => 0))), (q2, .inl (cT 0, 4, .inl (fun _ => 0))), (q3, .inl (cT 0, 4, .inl (fun _ => 0)))] H locs := hw
  refine W.widen (k := 3) (n := 12) (by decide) (by decide) ?_
  refine cz_put C hw 0 (ci := 0) (kf := 4) (by decide +kernel) rfl rfl rfl rfl (Nat.le_of_ble_eq_true rfl) (pm_tab_ok ok_mRe_init.1 rfl) (fun H locs hw => ?_)
  replace hw : cz_W D A s [(h0, .inr (0, [.int 0, .int 1, .ref q1, .ref q2, .ref q3, .null, .null, .null, .null, .null, .int 0])), (q1, .inl (cT 0, 4, .inl (fun _ => 0))), (q2, .inl (cT 0, 4, .inl (fun _ => 0))), (q3, .inl (cT 0, 4, .inl (fun _ => 0)))] H locs := hw
  refine lv_aload_n C.1 C.2.1 (pm_tab_ok ok_mRe_init.1 rfl) rfl (lv_at hl 0 rfl) ?_
  refine lv_bipush (v := 16) C.1 C.2.1 (pm_tab_ok ok_mRe_init.1 rfl) (by decide) ?_
  refine cz_newi C hw 16 (by decide) (by decide) (by decide) ⟨Nat.le_of_ble_eq_true rfl, Nat.le_of_ble_eq_true rfl⟩ (pm_tab_ok ok_mRe_init.1 rfl) (fun q4 H hw => ?_)
  replace hw : cz_W D A s [(h0, .inr (0, [.int 0, .int 1, .ref q1, .ref q2, .ref q3, .null, .null, .null, .null, .null, .int 0])), (q1, .inl (cT 0, 4, .inl (fun _ => 0))), (q2, .inl (cT 0, 4, .inl (fun _ => 0))), (q3, .inl (cT 0, 4, .inl (fun _ => 0))), (q4, .inl (cT 0, 16, .inl (fun _ => 0)))] H locs := hw
  refine W.widen (k := 4) (n := 28) (by decide) (by decide) ?_
  refine cz_put C hw 0 (ci := 0) (kf := 5) (by decide +kernel) rfl rfl rfl rfl (Nat.le_of_ble_eq_true rfl) (pm_tab_ok ok_mRe_init.1 rfl) (fun H locs hw => ?_)
  replace hw : cz_W D A s [(h0, .inr (0, [.int 0, .int 1, .ref q1, .ref q2, .ref q3, .ref q4, .null, .null, .null, .null, .int 0])), (q1, .inl (cT 0, 4, .inl (fun _ => 0))), (q2, .inl (cT 0, 4, .inl (fun _ => 0))), (q3, .inl (cT 0, 4, .inl (fun _ => 0))), (q4, .inl (cT 0, 16, .inl (fun _ => 0)))] H locs := hw
  refine lv_aload_n C.1 C.2.1 (pm_tab_ok ok_mRe_init.1 rfl) rfl (lv_at hl 0 rfl) ?_
  refine lv_bipush (v := 96) C.1 C.2.1 (pm_tab_ok ok_mRe_init.1 rfl) (by decide) ?_
  refine cz_newi C hw 96 (by decide) (by decide) (by decide) ⟨Nat.le_of_ble_eq_true rfl, Nat.le_of_ble_eq_true rfl⟩ (pm_tab_ok ok_mRe_init.1 rfl) (fun q5 H hw => ?_)
  replace hw : cz_W D A s [(h0, .inr (0, [.int 0, .int 1, .ref q1, .ref q2, .ref q3, .ref q4, .null, .null, .null, .null, .int 0])), (q1, .inl (cT 0, 4, .inl (fun _ => 0))), (q2, .inl (cT 0, 4, .inl (fun _ => 0))), (q3, .inl (cT 0, 4, .inl (fun _ => 0))), (q4, .inl (cT 0, 16, .inl (fun _ => 0))), (q5, .inl (cT 0, 96, .inl (fun _ => 0)))] H locs := hw
  refine W.widen (k := 5) (n := 124) (by decide) (by decide) ?_
  refine cz_put C hw 0 (ci := 0) (kf := 6) (by decide +kernel) rfl rfl rfl rfl (Nat.le_of_ble_eq_true rfl) (pm_tab_ok ok_mRe_init.1 rfl) (fun H locs hw => ?_)
  replace hw : cz_W D A s [(h0, .inr (0, [.int 0, .int 1, .ref q1, .ref q2, .ref q3, .ref q4, .ref q5, .null, .null, .null, .int 0])), (q1, .inl (cT 0, 4, .inl (fun _ => 0))), (q2, .inl (cT 0, 4, .inl (fun _ => 0))), (q3, .inl (cT 0, 4, .inl (fun _ => 0))), (q4, .inl (cT 0, 16, .inl (fun _ => 0))), (q5, .inl (cT 0, 96, .inl (fun _ => 0)))] H locs := hw
  refine lv_aload_n C.1 C.2.1 (pm_tab_ok ok_mRe_init.1 rfl) rfl (lv_at hl 0 rfl) ?_
  refine lv_bipush (v := 96) C.1 C.2.1 (pm_tab_ok ok_mRe_init.1 rfl) (by decide) ?_
  refine cz_newi C hw 96 (by decide) (by decide) (by decide) ⟨Nat.le_of_ble_eq_true rfl, Nat.le_of_ble_eq_true rfl⟩ (pm_tab_ok ok_mRe_init.1 rfl) (fun q6 H hw => ?_)
  replace hw : cz_W D A s [(h0, .inr (0, [.int 0, .int 1, .ref q1, .ref q2, .ref q3, .ref q4, .ref q5, .null, .null, .null, .int 0])), (q1, .inl (cT 0, 4, .inl (fun _ => 0))), (q2, .inl (cT 0, 4, .inl (fun _ => 0))), (q3, .inl (cT 0, 4, .inl (fun _ => 0))), (q4, .inl (cT 0, 16, .inl (fun _ => 0))), (q5, .inl (cT 0, 96, .inl (fun _ => 0))), (q6, .inl (cT 0, 96, .inl (fun _ => 0)))] H locs := hw
  refine W.widen (k := 6) (n := 220) (by decide) (by decide) ?_
  refine cz_put C hw 0 (ci := 0) (kf := 7) (by decide +kernel) rfl rfl rfl rfl (Nat.le_of_ble_eq_true rfl) (pm_tab_ok ok_mRe_init.1 rfl) (fun H locs hw => ?_)
  replace hw : cz_W D A s [(h0, .inr (0, [.int 0, .int 1, .ref q1, .ref q2, .ref q3, .ref q4, .ref q5, .ref q6, .null, .null, .int 0])), (q1, .inl (cT 0, 4, .inl (fun _ => 0))), (q2, .inl (cT 0, 4, .inl (fun _ => 0))), (q3, .inl (cT 0, 4, .inl (fun _ => 0))), (q4, .inl (cT 0, 16, .inl (fun _ => 0))), (q5, .inl (cT 0, 96, .inl (fun _ => 0))), (q6, .inl (cT 0, 96, .inl (fun _ => 0)))] H locs := hw
  refine lv_aload_n C.1 C.2.1 (pm_tab_ok ok_mRe_init.1 rfl) rfl (lv_at hl 0 rfl) ?_
  refine lv_iconst (v := 4) C.1 C.2.1 (pm_tab_ok ok_mRe_init.1 rfl) (by decide) ?_
  refine cz_newi C hw 4 (by decide) (by decide) (by decide) ⟨Nat.le_of_ble_eq_true rfl, Nat.le_of_ble_eq_true rfl⟩ (pm_tab_ok ok_mRe_init.1 rfl) (fun q7 H hw => ?_)
  replace hw : cz_W D A s [(h0, .inr (0, [.int 0, .int 1, .ref q1, .ref q2, .ref q3, .ref q4, .ref q5, .ref q6, .null, .null, .int 0])), (q1, .inl (cT 0, 4, .inl (fun _ => 0))), (q2, .inl (cT 0, 4, .inl (fun _ => 0))), (q3, .inl (cT 0, 4, .inl (fun _ => 0))), (q4, .inl (cT 0, 16, .inl (fun _ => 0))), (q5, .inl (cT 0, 96, .inl (fun _ => 0))), (q6, .inl (cT 0, 96, .inl (fun _ => 0))), (q7, .inl (cT 0, 4, .inl (fun _ => 0)))] H locs := hw
  refine W.widen (k := 7) (n := 224) (by decide) (by decide) ?_
  refine cz_put C hw 0 (ci := 0) (kf := 8) (by decide +kernel) rfl rfl rfl rfl (Nat.le_of_ble_eq_true rfl) (pm_tab_ok ok_mRe_init.1 rfl) (fun H locs hw => ?_)
  replace hw : cz_W D A s [(h0, .inr (0, [.int 0, .int 1, .ref q1, .ref q2, .ref q3, .ref q4, .ref q5, .ref q6, .ref q7, .null, .int 0])), (q1, .inl (cT 0, 4, .inl (fun _ => 0))), (q2, .inl (cT 0, 4, .inl (fun _ => 0))), (q3, .inl (cT 0, 4, .inl (fun _ => 0))), (q4, .inl (cT 0, 16, .inl (fun _ => 0))), (q5, .inl (cT 0, 96, .inl (fun _ => 0))), (q6, .inl (cT 0, 96, .inl (fun _ => 0))), (q7, .inl (cT 0, 4, .inl (fun _ => 0)))] H locs := hw
  refine lv_aload_n C.1 C.2.1 (pm_tab_ok ok_mRe_init.1 rfl) rfl (lv_at hl 0 rfl) ?_
  refine lv_bipush (v := 16) C.1 C.2.1 (pm_tab_ok ok_mRe_init.1 rfl) (by decide) ?_
  refine cz_newi C hw 16 (by decide) (by decide) (by decide) ⟨Nat.le_of_ble_eq_true rfl, Nat.le_of_ble_eq_true rfl⟩ (pm_tab_ok ok_mRe_init.1 rfl) (fun q8 H hw => ?_)
  replace hw : cz_W D A s [(h0, .inr (0, [.int 0, .int 1, .ref q1, .ref q2, .ref q3, .ref q4, .ref q5, .ref q6, .ref q7, .null, .int 0])), (q1, .inl (cT 0, 4, .inl (fun _ => 0))), (q2, .inl (cT 0, 4, .inl (fun _ => 0))), (q3, .inl (cT 0, 4, .inl (fun _ => 0))), (q4, .inl (cT 0, 16, .inl (fun _ => 0))), (q5, .inl (cT 0, 96, .inl (fun _ => 0))), (q6, .inl (cT 0, 96, .inl (fun _ => 0))), (q7, .inl (cT 0, 4, .inl (fun _ => 0))), (q8, .inl (cT 0, 16, .inl (fun _ => 0)))] H locs := hw
  refine W.widen (k := 8) (n := 240) (by decide) (by decide) ?_
  refine cz_put C hw 0 (ci := 0) (kf := 9) (by decide +kernel) rfl rfl rfl rfl (Nat.le_of_ble_eq_true rfl) (pm_tab_ok ok_mRe_init.1 rfl) (fun H locs hw => ?_)
  replace hw : cz_W D A s [(h0, .inr (0, [.int 0, .int 1, .ref q1, .ref q2, .ref q3, .ref q4, .ref q5, .ref q6, .ref q7, .ref q8, .int 0])), (q1, .inl (cT 0, 4, .inl (fun _ => 0))), (q2, .inl (cT 0, 4, .inl (fun _ => 0))), (q3, .inl (cT 0, 4, .inl (fun _ => 0))), (q4, .inl (cT 0, 16, .inl (fun _ => 0))), (q5, .inl (cT 0, 96, .inl (fun _ => 0))), (q6, .inl (cT 0, 96, .inl (fun _ => 0))), (q7, .inl (cT 0, 4, .inl (fun _ => 0))), (q8, .inl (cT 0, 16, .inl (fun _ => 0)))] H locs := hw
  refine lv_aload_n C.1 C.2.1 (pm_tab_ok ok_mRe_init.1 rfl) rfl (lv_at hl 0 rfl) ?_
  refine lv_iconst (v := 0) C.1 C.2.1 (pm_tab_ok ok_mRe_init.1 rfl) (by decide) ?_
  refine cz_put C hw 0 (ci := 0) (kf := 10) (by decide +kernel) rfl rfl rfl rfl (Nat.le_of_ble_eq_true rfl) (pm_tab_ok ok_mRe_init.1 rfl) (fun H locs hw => ?_)
  replace hw : cz_W D A s [(h0, .inr (0, [.int 0, .int 1, .ref q1, .ref q2, .ref q3, .ref q4, .ref q5, .ref q6, .ref q7, .ref q8, .int 0])), (q1, .inl (cT 0, 4, .inl (fun _ => 0))), (q2, .inl (cT 0, 4, .inl (fun _ => 0))), (q3, .inl (cT 0, 4, .inl (fun _ => 0))), (q4, .inl (cT 0, 16, .inl (fun _ => 0))), (q5, .inl (cT 0, 96, .inl (fun _ => 0))), (q6, .inl (cT 0, 96, .inl (fun _ => 0))), (q7, .inl (cT 0, 4, .inl (fun _ => 0))), (q8, .inl (cT 0, 16, .inl (fun _ => 0)))] H locs := hw
  exact ret 79 _ _ _ (fun i => match i with
    | 0 => q1
    | 1 => q2
    | 2 => q3
    | 3 => q4
    | 4 => q5
    | 5 => q6
    | 6 => q7
    | 7 => q8
    | _ => 0) hw (pm_tab_ok ok_mRe_init.1 rfl)
def cz_w0Ta (h0 : Nat) : va_W := [(h0, .inr (2, cz_d2))]
def cz_wTa (cT : Nat → ClassId) (h0 : Nat) (u : Nat → Nat) : va_W := [(h0, .inr (2, [.ref (u 0), .int 0, .int 0, .int 0, .int 0, .int 0])), ((u 0), .inl (cT 1, 160, .inl (fun _ => 0)))]
def cz_rTa : Room := { frames := 1, cells := 1, slots := 160, locals := 40 }
set_option maxHeartbeats 8000000 in
set_option maxRecDepth 100000 in
theorem c_mTa_init (l : Launch) (D : va_G) (cT : Nat → ClassId) : cz_Met l mTa_init cz_rTa D cT cz_w0Ta (cz_wTa cT) 1 160 := by
  refine cz_Met_of (by decide +kernel) rfl rfl rfl (Nat.le_of_ble_eq_true rfl) ?_
  intro p e s m below meth c A h0 ls C hw hl ret
  obtain ⟨locs, hlocs⟩ : ∃ x : List Loc, x = [] := ⟨_, rfl⟩
  rw [← hlocs] at hw ⊢
  generalize MQ below (cz_Post D (cz_w0Ta h0) s.heap.size (cz_wTa cT h0)) #[.ref h0] s 1 160 (va_A (cz_w0Ta h0) s.heap.size) = Q at ret ⊢
  generalize s.heap = H at hw ⊢ 
  refine lv_aload_n C.1 C.2.1 (pm_tab_ok ok_mTa_init.1 rfl) rfl (lv_at hl 0 rfl) ?_
  refine cz_obj C hl.1 (pm_in (List.mem_of_getElem? (i := 125) (by decide +kernel)) (by decide +kernel)) (pm_tab_ok ok_mTa_init.1 rfl) ⟨Nat.le_of_ble_eq_true rfl, Nat.le_of_ble_eq_true rfl⟩ ?_
  refine lv_aload_n C.1 C.2.1 (pm_tab_ok ok_mTa_init.1 rfl) rfl (lv_at hl 0 rfl) ?_
  refine lv_sipush (v := 160) C.1 C.2.1 (pm_tab_ok ok_mTa_init.1 rfl) (by decide) ?_
  refine cz_newb C hw 160 (by decide) (by decide) (by decide) ⟨Nat.le_of_ble_eq_true rfl, Nat.le_of_ble_eq_true rfl⟩ (pm_tab_ok ok_mTa_init.1 rfl) (fun q1 H hw => ?_)
  replace hw : cz_W D A s [(h0, .inr (2, [.null, .int 0, .int 0, .int 0, .int 0, .int 0])), (q1, .inl (cT 1, 160, .inl (fun _ => 0)))] H locs := hw
  refine W.widen (k := 1) (n := 160) (by decide) (by decide) ?_
  refine cz_put C hw 0 (ci := 2) (kf := 0) (by decide +kernel) rfl rfl rfl rfl (Nat.le_of_ble_eq_true rfl) (pm_tab_ok ok_mTa_init.1 rfl) (fun H locs hw => ?_)
  replace hw : cz_W D A s [(h0, .inr (2, [.ref q1, .int 0, .int 0, .int 0, .int 0, .int 0])), (q1, .inl (cT 1, 160, .inl (fun _ => 0)))] H locs := hw
  refine lv_aload_n C.1 C.2.1 (pm_tab_ok ok_mTa_init.1 rfl) rfl (lv_at hl 0 rfl) ?_
  refine lv_iconst (v := 0) C.1 C.2.1 (pm_tab_ok ok_mTa_init.1 rfl) (by decide) ?_
  refine cz_put C hw 0 (ci := 2) (kf := 1) (by decide +kernel) rfl rfl rfl rfl (Nat.le_of_ble_eq_true rfl) (pm_tab_ok ok_mTa_init.1 rfl) (fun H locs hw => ?_)
  replace hw : cz_W D A s [(h0, .inr (2, [.ref q1, .int 0, .int 0, .int 0, .int 0, .int 0])), (q1, .inl (cT 1, 160, .inl (fun _ => 0)))] H locs := hw
  refine lv_aload_n C.1 C.2.1 (pm_tab_ok ok_mTa_init.1 rfl) rfl (lv_at hl 0 rfl) ?_
  refine lv_iconst (v := 0) C.1 C.2.1 (pm_tab_ok ok_mTa_init.1 rfl) (by decide) ?_
  refine cz_put C hw 0 (ci := 2) (kf := 2) (by decide +kernel) rfl rfl rfl rfl (Nat.le_of_ble_eq_true rfl) (pm_tab_ok ok_mTa_init.1 rfl) (fun H locs hw => ?_)
  replace hw : cz_W D A s [(h0, .inr (2, [.ref q1, .int 0, .int 0, .int 0, .int 0, .int 0])), (q1, .inl (cT 1, 160, .inl (fun _ => 0)))] H locs := hw
  refine lv_aload_n C.1 C.2.1 (pm_tab_ok ok_mTa_init.1 rfl) rfl (lv_at hl 0 rfl) ?_
  refine lv_iconst (v := 0) C.1 C.2.1 (pm_tab_ok ok_mTa_init.1 rfl) (by decide) ?_
  refine cz_put C hw 0 (ci := 2) (kf := 3) (by decide +kernel) rfl rfl rfl rfl (Nat.le_of_ble_eq_true rfl) (pm_tab_ok ok_mTa_init.1 rfl) (fun H locs hw => ?_)
  replace hw : cz_W D A s [(h0, .inr (2, [.ref q1, .int 0, .int 0, .int 0, .int 0, .int 0])), (q1, .inl (cT 1, 160, .inl (fun _ => 0)))] H locs := hw
  refine lv_aload_n C.1 C.2.1 (pm_tab_ok ok_mTa_init.1 rfl) rfl (lv_at hl 0 rfl) ?_
  refine lv_iconst (v := 0) C.1 C.2.1 (pm_tab_ok ok_mTa_init.1 rfl) (by decide) ?_
  refine cz_put C hw 0 (ci := 2) (kf := 4) (by decide +kernel) rfl rfl rfl rfl (Nat.le_of_ble_eq_true rfl) (pm_tab_ok ok_mTa_init.1 rfl) (fun H locs hw => ?_)
  replace hw : cz_W D A s [(h0, .inr (2, [.ref q1, .int 0, .int 0, .int 0, .int 0, .int 0])), (q1, .inl (cT 1, 160, .inl (fun _ => 0)))] H locs := hw
  refine lv_aload_n C.1 C.2.1 (pm_tab_ok ok_mTa_init.1 rfl) rfl (lv_at hl 0 rfl) ?_
  refine lv_iconst (v := 0) C.1 C.2.1 (pm_tab_ok ok_mTa_init.1 rfl) (by decide) ?_
  refine cz_put C hw 0 (ci := 2) (kf := 5) (by decide +kernel) rfl rfl rfl rfl (Nat.le_of_ble_eq_true rfl) (pm_tab_ok ok_mTa_init.1 rfl) (fun H locs hw => ?_)
  replace hw : cz_W D A s [(h0, .inr (2, [.ref q1, .int 0, .int 0, .int 0, .int 0, .int 0])), (q1, .inl (cT 1, 160, .inl (fun _ => 0)))] H locs := hw
  exact ret 38 _ _ _ (fun i => match i with
    | 0 => q1
    | _ => 0) hw (pm_tab_ok ok_mTa_init.1 rfl)
def cz_w0Te (h0 : Nat) : va_W := [(h0, .inr (3, cz_d3))]
def cz_wTe (cT : Nat → ClassId) (h0 : Nat) (u : Nat → Nat) : va_W := [(h0, .inr (3, [.int 0, .int 0, .ref (u 0), .int 0, .int 0, .ref (u 1), .ref (u 2)])), ((u 0), .inl (cT 0, 3, .inl (fun _ => 0))), ((u 1), .inl (cT 0, 4, .inl (fun _ => 0))), ((u 2), .inl (cT 0, 4, .inl (fun _ => 0)))]
def cz_rTe : Room := { frames := 1, cells := 3, slots := 11, locals := 40 }
set_option maxHeartbeats 8000000 in
set_option maxRecDepth 100000 in
theorem c_mTe_init (l : Launch) (D : va_G) (cT : Nat → ClassId) : cz_Met l mTe_init cz_rTe D cT cz_w0Te (cz_wTe cT) 3 11 := by
  refine cz_Met_of (by decide +kernel) rfl rfl rfl (Nat.le_of_ble_eq_true rfl) ?_
  intro p e s m below meth c A h0 ls C hw hl ret
  obtain ⟨locs, hlocs⟩ : ∃ x : List Loc, x = [] := ⟨_, rfl⟩
  rw [← hlocs] at hw ⊢
  generalize MQ below (cz_Post D (cz_w0Te h0) s.heap.size (cz_wTe cT h0)) #[.ref h0] s 3 11 (va_A (cz_w0Te h0) s.heap.size) = Q at ret ⊢
  generalize s.heap = H at hw ⊢ 
  refine lv_aload_n C.1 C.2.1 (pm_tab_ok ok_mTe_init.1 rfl) rfl (lv_at hl 0 rfl) ?_
  refine cz_obj C hl.1 (pm_in (List.mem_of_getElem? (i := 156) (by decide +kernel)) (by decide +kernel)) (pm_tab_ok ok_mTe_init.1 rfl) ⟨Nat.le_of_ble_eq_true rfl, Nat.le_of_ble_eq_true rfl⟩ ?_
  refine lv_aload_n C.1 C.2.1 (pm_tab_ok ok_mTe_init.1 rfl) rfl (lv_at hl 0 rfl) ?_
  refine lv_iconst (v := 0) C.1 C.2.1 (pm_tab_ok ok_mTe_init.1 rfl) (by decide) ?_
  refine cz_put C hw 0 (ci := 3) (kf := 0) (by decide +kernel) rfl rfl rfl rfl (Nat.le_of_ble_eq_true rfl) (pm_tab_ok ok_mTe_init.1 rfl) (fun H locs hw => ?_)
  replace hw : cz_W D A s [(h0, .inr (3, [.int 0, .int 0, .null, .int 0, .int 0, .null, .null]))] H locs := hw
  refine lv_aload_n C.1 C.2.1 (pm_tab_ok ok_mTe_init.1 rfl) rfl (lv_at hl 0 rfl) ?_
  refine lv_iconst (v := 0) C.1 C.2.1 (pm_tab_ok ok_mTe_init.1 rfl) (by decide) ?_
  refine cz_put C hw 0 (ci := 3) (kf := 1) (by decide +kernel) rfl rfl rfl rfl (Nat.le_of_ble_eq_true rfl) (pm_tab_ok ok_mTe_init.1 rfl) (fun H locs hw => ?_)
  replace hw : cz_W D A s [(h0, .inr (3, [.int 0, .int 0, .null, .int 0, .int 0, .null, .null]))] H locs := hw
  refine lv_aload_n C.1 C.2.1 (pm_tab_ok ok_mTe_init.1 rfl) rfl (lv_at hl 0 rfl) ?_
  refine lv_iconst (v := 3) C.1 C.2.1 (pm_tab_ok ok_mTe_init.1 rfl) (by decide) ?_
  refine cz_newi C hw 3 (by decide) (by decide) (by decide) ⟨Nat.le_of_ble_eq_true rfl, Nat.le_of_ble_eq_true rfl⟩ (pm_tab_ok ok_mTe_init.1 rfl) (fun q1 H hw => ?_)
  replace hw : cz_W D A s [(h0, .inr (3, [.int 0, .int 0, .null, .int 0, .int 0, .null, .null])), (q1, .inl (cT 0, 3, .inl (fun _ => 0)))] H locs := hw
  refine W.widen (k := 1) (n := 3) (by decide) (by decide) ?_
  refine cz_put C hw 0 (ci := 3) (kf := 2) (by decide +kernel) rfl rfl rfl rfl (Nat.le_of_ble_eq_true rfl) (pm_tab_ok ok_mTe_init.1 rfl) (fun H locs hw => ?_)
  replace hw : cz_W D A s [(h0, .inr (3, [.int 0, .int 0, .ref q1, .int 0, .int 0, .null, .null])), (q1, .inl (cT 0, 3, .inl (fun _ => 0)))] H locs := hw
  refine lv_aload_n C.1 C.2.1 (pm_tab_ok ok_mTe_init.1 rfl) rfl (lv_at hl 0 rfl) ?_
  refine lv_iconst (v := 0) C.1 C.2.1 (pm_tab_ok ok_mTe_init.1 rfl) (by decide) ?_
  refine cz_put C hw 0 (ci := 3) (kf := 3) (by decide +kernel) rfl rfl rfl rfl (Nat.le_of_ble_eq_true rfl) (pm_tab_ok ok_mTe_init.1 rfl) (fun H locs hw => ?_)
  replace hw : cz_W D A s [(h0, .inr (3, [.int 0, .int 0, .ref q1, .int 0, .int 0, .null, .null])), (q1, .inl (cT 0, 3, .inl (fun _ => 0)))] H locs := hw
  refine lv_aload_n C.1 C.2.1 (pm_tab_ok ok_mTe_init.1 rfl) rfl (lv_at hl 0 rfl) ?_
  refine lv_iconst (v := 0) C.1 C.2.1 (pm_tab_ok ok_mTe_init.1 rfl) (by decide) ?_
  refine cz_put C hw 0 (ci := 3) (kf := 4) (by decide +kernel) rfl rfl rfl rfl (Nat.le_of_ble_eq_true rfl) (pm_tab_ok ok_mTe_init.1 rfl) (fun H locs hw => ?_)
  replace hw : cz_W D A s [(h0, .inr (3, [.int 0, .int 0, .ref q1, .int 0, .int 0, .null, .null])), (q1, .inl (cT 0, 3, .inl (fun _ => 0)))] H locs := hw
  refine lv_aload_n C.1 C.2.1 (pm_tab_ok ok_mTe_init.1 rfl) rfl (lv_at hl 0 rfl) ?_
  refine lv_iconst (v := 4) C.1 C.2.1 (pm_tab_ok ok_mTe_init.1 rfl) (by decide) ?_
  refine cz_newi C hw 4 (by decide) (by decide) (by decide) ⟨Nat.le_of_ble_eq_true rfl, Nat.le_of_ble_eq_true rfl⟩ (pm_tab_ok ok_mTe_init.1 rfl) (fun q2 H hw => ?_)
  replace hw : cz_W D A s [(h0, .inr (3, [.int 0, .int 0, .ref q1, .int 0, .int 0, .null, .null])), (q1, .inl (cT 0, 3, .inl (fun _ => 0))), (q2, .inl (cT 0, 4, .inl (fun _ => 0)))] H locs := hw
  refine W.widen (k := 2) (n := 7) (by decide) (by decide) ?_
  refine cz_put C hw 0 (ci := 3) (kf := 5) (by decide +kernel) rfl rfl rfl rfl (Nat.le_of_ble_eq_true rfl) (pm_tab_ok ok_mTe_init.1 rfl) (fun H locs hw => ?_)
  replace hw : cz_W D A s [(h0, .inr (3, [.int 0, .int 0, .ref q1, .int 0, .int 0, .ref q2, .null])), (q1, .inl (cT 0, 3, .inl (fun _ => 0))), (q2, .inl (cT 0, 4, .inl (fun _ => 0)))] H locs := hw
  refine lv_aload_n C.1 C.2.1 (pm_tab_ok ok_mTe_init.1 rfl) rfl (lv_at hl 0 rfl) ?_
  refine lv_iconst (v := 4) C.1 C.2.1 (pm_tab_ok ok_mTe_init.1 rfl) (by decide) ?_
  refine cz_newi C hw 4 (by decide) (by decide) (by decide) ⟨Nat.le_of_ble_eq_true rfl, Nat.le_of_ble_eq_true rfl⟩ (pm_tab_ok ok_mTe_init.1 rfl) (fun q3 H hw => ?_)
  replace hw : cz_W D A s [(h0, .inr (3, [.int 0, .int 0, .ref q1, .int 0, .int 0, .ref q2, .null])), (q1, .inl (cT 0, 3, .inl (fun _ => 0))), (q2, .inl (cT 0, 4, .inl (fun _ => 0))), (q3, .inl (cT 0, 4, .inl (fun _ => 0)))] H locs := hw
  refine W.widen (k := 3) (n := 11) (by decide) (by decide) ?_
  refine cz_put C hw 0 (ci := 3) (kf := 6) (by decide +kernel) rfl rfl rfl rfl (Nat.le_of_ble_eq_true rfl) (pm_tab_ok ok_mTe_init.1 rfl) (fun H locs hw => ?_)
  replace hw : cz_W D A s [(h0, .inr (3, [.int 0, .int 0, .ref q1, .int 0, .int 0, .ref q2, .ref q3])), (q1, .inl (cT 0, 3, .inl (fun _ => 0))), (q2, .inl (cT 0, 4, .inl (fun _ => 0))), (q3, .inl (cT 0, 4, .inl (fun _ => 0)))] H locs := hw
  exact ret 45 _ _ _ (fun i => match i with
    | 0 => q1
    | 1 => q2
    | 2 => q3
    | _ => 0) hw (pm_tab_ok ok_mTe_init.1 rfl)
def cz_w0Sh (h0 : Nat) : va_W := [(h0, .inr (1, cz_d1))]
def cz_wSh (cT : Nat → ClassId) (h0 : Nat) (u : Nat → Nat) : va_W := [(h0, .inr (1, [.int (-4), .int 0, .ref (u 0)])), ((u 0), .inl (cT 0, 40, .inl (fun _ => 0)))]
def cz_rSh : Room := { frames := 1, cells := 1, slots := 40, locals := 40 }
set_option maxHeartbeats 8000000 in
set_option maxRecDepth 100000 in
theorem c_mSh_init (l : Launch) (D : va_G) (cT : Nat → ClassId) : cz_Met l mSh_init cz_rSh D cT cz_w0Sh (cz_wSh cT) 1 40 := by
  refine cz_Met_of (by decide +kernel) rfl rfl rfl (Nat.le_of_ble_eq_true rfl) ?_
  intro p e s m below meth c A h0 ls C hw hl ret
  obtain ⟨locs, hlocs⟩ : ∃ x : List Loc, x = [] := ⟨_, rfl⟩
  rw [← hlocs] at hw ⊢
  generalize MQ below (cz_Post D (cz_w0Sh h0) s.heap.size (cz_wSh cT h0)) #[.ref h0] s 1 40 (va_A (cz_w0Sh h0) s.heap.size) = Q at ret ⊢
  generalize s.heap = H at hw ⊢ 
  refine lv_aload_n C.1 C.2.1 (pm_tab_ok ok_mSh_init.1 rfl) rfl (lv_at hl 0 rfl) ?_
  refine cz_obj C hl.1 (pm_in (List.mem_of_getElem? (i := 186) (by decide +kernel)) (by decide +kernel)) (pm_tab_ok ok_mSh_init.1 rfl) ⟨Nat.le_of_ble_eq_true rfl, Nat.le_of_ble_eq_true rfl⟩ ?_
  refine lv_aload_n C.1 C.2.1 (pm_tab_ok ok_mSh_init.1 rfl) rfl (lv_at hl 0 rfl) ?_
  refine lv_bipush (v := -4) C.1 C.2.1 (pm_tab_ok ok_mSh_init.1 rfl) (by decide) ?_
  refine cz_put C hw 0 (ci := 1) (kf := 0) (by decide +kernel) rfl rfl rfl rfl (Nat.le_of_ble_eq_true rfl) (pm_tab_ok ok_mSh_init.1 rfl) (fun H locs hw => ?_)
  replace hw : cz_W D A s [(h0, .inr (1, [.int (-4), .int 0, .null]))] H locs := hw
  refine lv_aload_n C.1 C.2.1 (pm_tab_ok ok_mSh_init.1 rfl) rfl (lv_at hl 0 rfl) ?_
  refine lv_iconst (v := 0) C.1 C.2.1 (pm_tab_ok ok_mSh_init.1 rfl) (by decide) ?_
  refine cz_put C hw 0 (ci := 1) (kf := 1) (by decide +kernel) rfl rfl rfl rfl (Nat.le_of_ble_eq_true rfl) (pm_tab_ok ok_mSh_init.1 rfl) (fun H locs hw => ?_)
  replace hw : cz_W D A s [(h0, .inr (1, [.int (-4), .int 0, .null]))] H locs := hw
  refine lv_aload_n C.1 C.2.1 (pm_tab_ok ok_mSh_init.1 rfl) rfl (lv_at hl 0 rfl) ?_
  refine lv_bipush (v := 40) C.1 C.2.1 (pm_tab_ok ok_mSh_init.1 rfl) (by decide) ?_
  refine cz_newi C hw 40 (by decide) (by decide) (by decide) ⟨Nat.le_of_ble_eq_true rfl, Nat.le_of_ble_eq_true rfl⟩ (pm_tab_ok ok_mSh_init.1 rfl) (fun q1 H hw => ?_)
  replace hw : cz_W D A s [(h0, .inr (1, [.int (-4), .int 0, .null])), (q1, .inl (cT 0, 40, .inl (fun _ => 0)))] H locs := hw
  refine W.widen (k := 1) (n := 40) (by decide) (by decide) ?_
  refine cz_put C hw 0 (ci := 1) (kf := 2) (by decide +kernel) rfl rfl rfl rfl (Nat.le_of_ble_eq_true rfl) (pm_tab_ok ok_mSh_init.1 rfl) (fun H locs hw => ?_)
  replace hw : cz_W D A s [(h0, .inr (1, [.int (-4), .int 0, .ref q1])), (q1, .inl (cT 0, 40, .inl (fun _ => 0)))] H locs := hw
  exact ret 23 _ _ _ (fun i => match i with
    | 0 => q1
    | _ => 0) hw (pm_tab_ok ok_mSh_init.1 rfl)
