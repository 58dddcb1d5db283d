def wp_X4_bitOf (p0 : Int32) (p1 : Int32) (post : Int32 → Prop) : Prop := post ((jushr p0 p1) &&& (1 : Int32))
abbrev rm_X4_bitOf : Room := { frames := 0, cells := 0, slots := 0, locals := 0 }
set_option maxRecDepth 100000 in
set_option maxHeartbeats 4000000 in
theorem ct_X4_bitOf (D : va_G) (cI cZ : ClassId) (p0 : Int32) (p1 : Int32) {post : Int32 → Prop} (h : wp_X4_bitOf p0 p1 post) (l : Launch) (sz : Nat) : Met l yX4_bitOf (wsM yX4_bitOf cX4_bitOf 2 (some .int)) rm_X4_bitOf (va_Pc [.int p0, .int p1] (gP D cI cZ [] sz)) (gR post) 0 0 (fun _ => False) := by
  refine q_startR (own := RX4) (by decide +kernel) rfl (Nat.le_of_ble_eq_true rfl) (fun E F Z => ?_)
  show Wg E [] 0 0 0 [(0, .int p0), (1, .int p1)] []
  unfold wp_X4_bitOf at h
  refine q_iload_n (pc := 0) F 0 dX4_bitOf_0 rfl ?_
  refine q_iload_n (pc := 1) F 1 dX4_bitOf_1 rfl ?_
  refine q_iushr (pc := 2) F dX4_bitOf_2 ?_
  refine q_iconst (pc := 3) F (v := 1) dX4_bitOf_3 (by decide) ?_
  refine q_iand (pc := 4) F dX4_bitOf_4 ?_
  exact q_iretR (pc := 5) F Z dX4_bitOf_5 h

def wp_J6_bitCount_0f7a4 (p0 : Int32) (post : Int32 → Prop) : Prop := (∀ x0_9 : Int32, x0_9 = p0 - ((jushr p0 (1 : Int32)) &&& (1431655765 : Int32)) → (∀ x0_23 : Int32, x0_23 = (x0_9 &&& (858993459 : Int32)) + ((jushr x0_9 (2 : Int32)) &&& (858993459 : Int32)) → (∀ x0_33 : Int32, x0_33 = (x0_23 + (jushr x0_23 (4 : Int32))) &&& (252645135 : Int32) → (∀ x0_40 : Int32, x0_40 = x0_33 + (jushr x0_33 (8 : Int32)) → (∀ x0_47 : Int32, x0_47 = x0_40 + (jushr x0_40 (16 : Int32)) → post (x0_47 &&& (63 : Int32)))))))
abbrev rm_J6_bitCount_0f7a4 : Room := { frames := 0, cells := 0, slots := 0, locals := 0 }
set_option maxRecDepth 100000 in
set_option maxHeartbeats 4000000 in
theorem ct_J6_bitCount_0f7a4 (D : va_G) (cI cZ : ClassId) (p0 : Int32) {post : Int32 → Prop} (h : wp_J6_bitCount_0f7a4 p0 post) (l : Launch) (sz : Nat) : Met l yJ6_bitCount_0f7a4 (wsM yJ6_bitCount_0f7a4 cJ6_bitCount_0f7a4 1 (some .int)) rm_J6_bitCount_0f7a4 (va_Pc [.int p0] (gP D cI cZ [] sz)) (gR post) 0 0 (fun _ => False) := by
  refine q_startR (own := RJ6) (by decide +kernel) rfl (Nat.le_of_ble_eq_true rfl) (fun E F Z => ?_)
  show Wg E [] 0 0 0 [(0, .int p0)] []
  unfold wp_J6_bitCount_0f7a4 at h
  refine q_iload_n (pc := 0) F 0 dJ6_bitCount_0f7a4_0 rfl ?_
  refine q_iload_n (pc := 1) F 0 dJ6_bitCount_0f7a4_1 rfl ?_
  refine q_iconst (pc := 2) F (v := 1) dJ6_bitCount_0f7a4_2 (by decide) ?_
  refine q_iushr (pc := 3) F dJ6_bitCount_0f7a4_3 ?_
  refine q_ldcw (pc := 4) F kJ6_265 dJ6_bitCount_0f7a4_4 ?_
  refine q_iand (pc := 7) F dJ6_bitCount_0f7a4_7 ?_
  refine q_isub (pc := 8) F dJ6_bitCount_0f7a4_8 ?_
  refine q_topi (fun x0_9 ex0_9 => ?_)
  have h := h x0_9 ex0_9
  refine q_istore_n (pc := 9) F (lv' := [(0, .int x0_9)]) dJ6_bitCount_0f7a4_9 (by decide) rfl ?_
  refine q_iload_n (pc := 10) F 0 dJ6_bitCount_0f7a4_10 rfl ?_
  refine q_ldcw (pc := 11) F kJ6_266 dJ6_bitCount_0f7a4_11 ?_
  refine q_iand (pc := 14) F dJ6_bitCount_0f7a4_14 ?_
  refine q_iload_n (pc := 15) F 0 dJ6_bitCount_0f7a4_15 rfl ?_
  refine q_iconst (pc := 16) F (v := 2) dJ6_bitCount_0f7a4_16 (by decide) ?_
  refine q_iushr (pc := 17) F dJ6_bitCount_0f7a4_17 ?_
  refine q_ldcw (pc := 18) F kJ6_266 dJ6_bitCount_0f7a4_18 ?_
  refine q_iand (pc := 21) F dJ6_bitCount_0f7a4_21 ?_
  refine q_iadd (pc := 22) F dJ6_bitCount_0f7a4_22 ?_
  refine q_topi (fun x0_23 ex0_23 => ?_)
  have h := h x0_23 ex0_23
  refine q_istore_n (pc := 23) F (lv' := [(0, .int x0_23)]) dJ6_bitCount_0f7a4_23 (by decide) rfl ?_
  refine q_iload_n (pc := 24) F 0 dJ6_bitCount_0f7a4_24 rfl ?_
  refine q_iload_n (pc := 25) F 0 dJ6_bitCount_0f7a4_25 rfl ?_
  refine q_iconst (pc := 26) F (v := 4) dJ6_bitCount_0f7a4_26 (by decide) ?_
  refine q_iushr (pc := 27) F dJ6_bitCount_0f7a4_27 ?_
  refine q_iadd (pc := 28) F dJ6_bitCount_0f7a4_28 ?_
  refine q_ldcw (pc := 29) F kJ6_267 dJ6_bitCount_0f7a4_29 ?_
  refine q_iand (pc := 32) F dJ6_bitCount_0f7a4_32 ?_
  refine q_topi (fun x0_33 ex0_33 => ?_)
  have h := h x0_33 ex0_33
  refine q_istore_n (pc := 33) F (lv' := [(0, .int x0_33)]) dJ6_bitCount_0f7a4_33 (by decide) rfl ?_
  refine q_iload_n (pc := 34) F 0 dJ6_bitCount_0f7a4_34 rfl ?_
  refine q_iload_n (pc := 35) F 0 dJ6_bitCount_0f7a4_35 rfl ?_
  refine q_bipush (pc := 36) F (v := 8) dJ6_bitCount_0f7a4_36 (by decide) ?_
  refine q_iushr (pc := 38) F dJ6_bitCount_0f7a4_38 ?_
  refine q_iadd (pc := 39) F dJ6_bitCount_0f7a4_39 ?_
  refine q_topi (fun x0_40 ex0_40 => ?_)
  have h := h x0_40 ex0_40
  refine q_istore_n (pc := 40) F (lv' := [(0, .int x0_40)]) dJ6_bitCount_0f7a4_40 (by decide) rfl ?_
  refine q_iload_n (pc := 41) F 0 dJ6_bitCount_0f7a4_41 rfl ?_
  refine q_iload_n (pc := 42) F 0 dJ6_bitCount_0f7a4_42 rfl ?_
  refine q_bipush (pc := 43) F (v := 16) dJ6_bitCount_0f7a4_43 (by decide) ?_
  refine q_iushr (pc := 45) F dJ6_bitCount_0f7a4_45 ?_
  refine q_iadd (pc := 46) F dJ6_bitCount_0f7a4_46 ?_
  refine q_topi (fun x0_47 ex0_47 => ?_)
  have h := h x0_47 ex0_47
  refine q_istore_n (pc := 47) F (lv' := [(0, .int x0_47)]) dJ6_bitCount_0f7a4_47 (by decide) rfl ?_
  refine q_iload_n (pc := 48) F 0 dJ6_bitCount_0f7a4_48 rfl ?_
  refine q_bipush (pc := 49) F (v := 63) dJ6_bitCount_0f7a4_49 (by decide) ?_
  refine q_iand (pc := 51) F dJ6_bitCount_0f7a4_51 ?_
  exact q_iretR (pc := 52) F Z dJ6_bitCount_0f7a4_52 h

def wp_X0_empty (h_wide : Int32) (h_high : Int32) (h_walls : Int32) (h_doors : Int32) (h_law : Int32) (h_lamps : Int32) (h_people : Int32) (post : Int32 → Int32 → Int32 → Int32 → Int32 → Int32 → Int32 → Prop) : Prop := post (4 : Int32) (3 : Int32) (0 : Int32) (0 : Int32) (0 : Int32) (0 : Int32) (0 : Int32)
abbrev rm_X0_empty : Room := { frames := 0, cells := 0, slots := 0, locals := 0 }
set_option maxRecDepth 100000 in
set_option maxHeartbeats 4000000 in
theorem ct_X0_empty (D : va_G) (cI cZ : ClassId) (a_H a_H_lampCell a_H_lampReach a_H_shine a_H_personCell a_H_wish a_H_side a_H_light a_H_leavers : Nat) (h_wide : Int32) (h_high : Int32) (h_walls : Int32) (h_doors : Int32) (h_law : Int32) (h_lamps : Int32) (h_people : Int32) {post : Int32 → Int32 → Int32 → Int32 → Int32 → Int32 → Int32 → Prop} (h : wp_X0_empty h_wide h_high h_walls h_doors h_law h_lamps h_people post) (l : Launch) (sz : Nat) : Met l yX0_empty (wsM yX0_empty cX0_empty 1 none) rm_X0_empty (va_Pc [.ref a_H] (gP D cI cZ [(a_H, .inr (0, [.int h_wide, .int h_high, .int h_walls, .int h_doors, .int h_law, .int h_lamps, .int h_people, .ref a_H_lampCell, .ref a_H_lampReach, .ref a_H_shine, .ref a_H_personCell, .ref a_H_wish, .ref a_H_side, .ref a_H_light, .ref a_H_leavers]))] sz)) (gQv D (fun (u : Int32 × Int32 × Int32 × Int32 × Int32 × Int32 × Int32) => post u.1 u.2.1 u.2.2.1 u.2.2.2.1 u.2.2.2.2.1 u.2.2.2.2.2.1 u.2.2.2.2.2.2) (fun (u : Int32 × Int32 × Int32 × Int32 × Int32 × Int32 × Int32) => [(a_H, .inr (0, [.int u.1, .int u.2.1, .int u.2.2.1, .int u.2.2.2.1, .int u.2.2.2.2.1, .int u.2.2.2.2.2.1, .int u.2.2.2.2.2.2, .ref a_H_lampCell, .ref a_H_lampReach, .ref a_H_shine, .ref a_H_personCell, .ref a_H_wish, .ref a_H_side, .ref a_H_light, .ref a_H_leavers]))]) [(a_H, .inr (0, [.int h_wide, .int h_high, .int h_walls, .int h_doors, .int h_law, .int h_lamps, .int h_people, .ref a_H_lampCell, .ref a_H_lampReach, .ref a_H_shine, .ref a_H_personCell, .ref a_H_wish, .ref a_H_side, .ref a_H_light, .ref a_H_leavers]))] sz) 0 0 (va_A [(a_H, .inr (0, [.int h_wide, .int h_high, .int h_walls, .int h_doors, .int h_law, .int h_lamps, .int h_people, .ref a_H_lampCell, .ref a_H_lampReach, .ref a_H_shine, .ref a_H_personCell, .ref a_H_wish, .ref a_H_side, .ref a_H_light, .ref a_H_leavers]))] sz) := by
  refine q_startM (own := RX0) (Qc := gQv D (fun (u : Int32 × Int32 × Int32 × Int32 × Int32 × Int32 × Int32) => post u.1 u.2.1 u.2.2.1 u.2.2.2.1 u.2.2.2.2.1 u.2.2.2.2.2.1 u.2.2.2.2.2.2) (fun (u : Int32 × Int32 × Int32 × Int32 × Int32 × Int32 × Int32) => [(a_H, .inr (0, [.int u.1, .int u.2.1, .int u.2.2.1, .int u.2.2.2.1, .int u.2.2.2.2.1, .int u.2.2.2.2.2.1, .int u.2.2.2.2.2.2, .ref a_H_lampCell, .ref a_H_lampReach, .ref a_H_shine, .ref a_H_personCell, .ref a_H_wish, .ref a_H_side, .ref a_H_light, .ref a_H_leavers]))]) [(a_H, .inr (0, [.int h_wide, .int h_high, .int h_walls, .int h_doors, .int h_law, .int h_lamps, .int h_people, .ref a_H_lampCell, .ref a_H_lampReach, .ref a_H_shine, .ref a_H_personCell, .ref a_H_wish, .ref a_H_side, .ref a_H_light, .ref a_H_leavers]))]) (by decide +kernel) rfl (Nat.le_of_ble_eq_true rfl) (fun E F Z M => ?_)
  show Wg E [(a_H, .inr (0, [.int h_wide, .int h_high, .int h_walls, .int h_doors, .int h_law, .int h_lamps, .int h_people, .ref a_H_lampCell, .ref a_H_lampReach, .ref a_H_shine, .ref a_H_personCell, .ref a_H_wish, .ref a_H_side, .ref a_H_light, .ref a_H_leavers]))] 0 0 0 [(0, .ref a_H)] []
  unfold wp_X0_empty at h
  refine q_aload_n (pc := 0) F 0 dX0_empty_0 rfl ?_
  refine q_iconst (pc := 1) F (v := 4) dX0_empty_1 (by decide) ?_
  refine q_put (pc := 2) F M (cs' := [(a_H, .inr (0, [.int (4 : Int32), .int h_high, .int h_walls, .int h_doors, .int h_law, .int h_lamps, .int h_people, .ref a_H_lampCell, .ref a_H_lampReach, .ref a_H_shine, .ref a_H_personCell, .ref a_H_wish, .ref a_H_side, .ref a_H_light, .ref a_H_leavers]))]) fpX0_9 0 rfl rfl rfl (Nat.le_of_ble_eq_true rfl) rfl dX0_empty_2 ?_
  refine q_aload_n (pc := 5) F 0 dX0_empty_5 rfl ?_
  refine q_iconst (pc := 6) F (v := 3) dX0_empty_6 (by decide) ?_
  refine q_put (pc := 7) F M (cs' := [(a_H, .inr (0, [.int (4 : Int32), .int (3 : Int32), .int h_walls, .int h_doors, .int h_law, .int h_lamps, .int h_people, .ref a_H_lampCell, .ref a_H_lampReach, .ref a_H_shine, .ref a_H_personCell, .ref a_H_wish, .ref a_H_side, .ref a_H_light, .ref a_H_leavers]))]) fpX0_15 0 rfl rfl rfl (Nat.le_of_ble_eq_true rfl) rfl dX0_empty_7 ?_
  refine q_aload_n (pc := 10) F 0 dX0_empty_10 rfl ?_
  refine q_iconst (pc := 11) F (v := 0) dX0_empty_11 (by decide) ?_
  refine q_put (pc := 12) F M (cs' := [(a_H, .inr (0, [.int (4 : Int32), .int (3 : Int32), .int (0 : Int32), .int h_doors, .int h_law, .int h_lamps, .int h_people, .ref a_H_lampCell, .ref a_H_lampReach, .ref a_H_shine, .ref a_H_personCell, .ref a_H_wish, .ref a_H_side, .ref a_H_light, .ref a_H_leavers]))]) fpX0_43 0 rfl rfl rfl (Nat.le_of_ble_eq_true rfl) rfl dX0_empty_12 ?_
  refine q_aload_n (pc := 15) F 0 dX0_empty_15 rfl ?_
  refine q_iconst (pc := 16) F (v := 0) dX0_empty_16 (by decide) ?_
  refine q_put (pc := 17) F M (cs' := [(a_H, .inr (0, [.int (4 : Int32), .int (3 : Int32), .int (0 : Int32), .int (0 : Int32), .int h_law, .int h_lamps, .int h_people, .ref a_H_lampCell, .ref a_H_lampReach, .ref a_H_shine, .ref a_H_personCell, .ref a_H_wish, .ref a_H_side, .ref a_H_light, .ref a_H_leavers]))]) fpX0_46 0 rfl rfl rfl (Nat.le_of_ble_eq_true rfl) rfl dX0_empty_17 ?_
  refine q_aload_n (pc := 20) F 0 dX0_empty_20 rfl ?_
  refine q_iconst (pc := 21) F (v := 0) dX0_empty_21 (by decide) ?_
  refine q_put (pc := 22) F M (cs' := [(a_H, .inr (0, [.int (4 : Int32), .int (3 : Int32), .int (0 : Int32), .int (0 : Int32), .int (0 : Int32), .int h_lamps, .int h_people, .ref a_H_lampCell, .ref a_H_lampReach, .ref a_H_shine, .ref a_H_personCell, .ref a_H_wish, .ref a_H_side, .ref a_H_light, .ref a_H_leavers]))]) fpX0_49 0 rfl rfl rfl (Nat.le_of_ble_eq_true rfl) rfl dX0_empty_22 ?_
  refine q_aload_n (pc := 25) F 0 dX0_empty_25 rfl ?_
  refine q_iconst (pc := 26) F (v := 0) dX0_empty_26 (by decide) ?_
  refine q_put (pc := 27) F M (cs' := [(a_H, .inr (0, [.int (4 : Int32), .int (3 : Int32), .int (0 : Int32), .int (0 : Int32), .int (0 : Int32), .int (0 : Int32), .int h_people, .ref a_H_lampCell, .ref a_H_lampReach, .ref a_H_shine, .ref a_H_personCell, .ref a_H_wish, .ref a_H_side, .ref a_H_light, .ref a_H_leavers]))]) fpX0_52 0 rfl rfl rfl (Nat.le_of_ble_eq_true rfl) rfl dX0_empty_27 ?_
  refine q_aload_n (pc := 30) F 0 dX0_empty_30 rfl ?_
  refine q_iconst (pc := 31) F (v := 0) dX0_empty_31 (by decide) ?_
  refine q_put (pc := 32) F M (cs' := [(a_H, .inr (0, [.int (4 : Int32), .int (3 : Int32), .int (0 : Int32), .int (0 : Int32), .int (0 : Int32), .int (0 : Int32), .int (0 : Int32), .ref a_H_lampCell, .ref a_H_lampReach, .ref a_H_shine, .ref a_H_personCell, .ref a_H_wish, .ref a_H_side, .ref a_H_light, .ref a_H_leavers]))]) fpX0_55 0 rfl rfl rfl (Nat.le_of_ble_eq_true rfl) rfl dX0_empty_32 ?_
  exact q_vretM (pc := 35) F Z dX0_empty_35 ((4 : Int32), (3 : Int32), (0 : Int32), (0 : Int32), (0 : Int32), (0 : Int32), (0 : Int32)) h rfl

def wp_X0_cells (h_wide : Int32) (h_high : Int32) (post : Int32 → Prop) : Prop := post (h_wide * h_high)
abbrev rm_X0_cells : Room := { frames := 0, cells := 0, slots := 0, locals := 0 }
set_option maxRecDepth 100000 in
set_option maxHeartbeats 4000000 in
theorem ct_X0_cells (D : va_G) (cI cZ : ClassId) (a_H a_H_lampCell a_H_lampReach a_H_shine a_H_personCell a_H_wish a_H_side a_H_light a_H_leavers : Nat) (h_wide : Int32) (h_high : Int32) (h_walls : Int32) (h_doors : Int32) (h_law : Int32) (h_lamps : Int32) (h_people : Int32) {post : Int32 → Prop} (h : wp_X0_cells h_wide h_high post) (l : Launch) (sz : Nat) : Met l yX0_cells (wsM yX0_cells cX0_cells 1 (some .int)) rm_X0_cells (va_Pc [.ref a_H] (gP D cI cZ [(a_H, .inr (0, [.int h_wide, .int h_high, .int h_walls, .int h_doors, .int h_law, .int h_lamps, .int h_people, .ref a_H_lampCell, .ref a_H_lampReach, .ref a_H_shine, .ref a_H_personCell, .ref a_H_wish, .ref a_H_side, .ref a_H_light, .ref a_H_leavers]))] sz)) (gR post) 0 0 (fun _ => False) := by
  refine q_startR (own := RX0) (by decide +kernel) rfl (Nat.le_of_ble_eq_true rfl) (fun E F Z => ?_)
  show Wg E [(a_H, .inr (0, [.int h_wide, .int h_high, .int h_walls, .int h_doors, .int h_law, .int h_lamps, .int h_people, .ref a_H_lampCell, .ref a_H_lampReach, .ref a_H_shine, .ref a_H_personCell, .ref a_H_wish, .ref a_H_side, .ref a_H_light, .ref a_H_leavers]))] 0 0 0 [(0, .ref a_H)] []
  unfold wp_X0_cells at h
  refine q_aload_n (pc := 0) F 0 dX0_cells_0 rfl ?_
  refine q_get (pc := 1) F fgX0_9 0 rfl rfl dX0_cells_1 ?_
  refine q_aload_n (pc := 4) F 0 dX0_cells_4 rfl ?_
  refine q_get (pc := 5) F fgX0_15 0 rfl rfl dX0_cells_5 ?_
  refine q_imul (pc := 8) F dX0_cells_8 ?_
  exact q_iretR (pc := 9) F Z dX0_cells_9 h

def wp_X0_allLamps (h_lamps : Int32) (post : Int32 → Prop) : Prop := post ((jshl (1 : Int32) h_lamps) - (1 : Int32))
abbrev rm_X0_allLamps : Room := { frames := 0, cells := 0, slots := 0, locals := 0 }
set_option maxRecDepth 100000 in
set_option maxHeartbeats 4000000 in
theorem ct_X0_allLamps (D : va_G) (cI cZ : ClassId) (a_H a_H_lampCell a_H_lampReach a_H_shine a_H_personCell a_H_wish a_H_side a_H_light a_H_leavers : Nat) (h_wide : Int32) (h_high : Int32) (h_walls : Int32) (h_doors : Int32) (h_law : Int32) (h_lamps : Int32) (h_people : Int32) {post : Int32 → Prop} (h : wp_X0_allLamps h_lamps post) (l : Launch) (sz : Nat) : Met l yX0_allLamps (wsM yX0_allLamps cX0_allLamps 1 (some .int)) rm_X0_allLamps (va_Pc [.ref a_H] (gP D cI cZ [(a_H, .inr (0, [.int h_wide, .int h_high, .int h_walls, .int h_doors, .int h_law, .int h_lamps, .int h_people, .ref a_H_lampCell, .ref a_H_lampReach, .ref a_H_shine, .ref a_H_personCell, .ref a_H_wish, .ref a_H_side, .ref a_H_light, .ref a_H_leavers]))] sz)) (gR post) 0 0 (fun _ => False) := by
  refine q_startR (own := RX0) (by decide +kernel) rfl (Nat.le_of_ble_eq_true rfl) (fun E F Z => ?_)
  show Wg E [(a_H, .inr (0, [.int h_wide, .int h_high, .int h_walls, .int h_doors, .int h_law, .int h_lamps, .int h_people, .ref a_H_lampCell, .ref a_H_lampReach, .ref a_H_shine, .ref a_H_personCell, .ref a_H_wish, .ref a_H_side, .ref a_H_light, .ref a_H_leavers]))] 0 0 0 [(0, .ref a_H)] []
  unfold wp_X0_allLamps at h
  refine q_iconst (pc := 0) F (v := 1) dX0_allLamps_0 (by decide) ?_
  refine q_aload_n (pc := 1) F 0 dX0_allLamps_1 rfl ?_
  refine q_get (pc := 2) F fgX0_52 0 rfl rfl dX0_allLamps_2 ?_
  refine q_ishl (pc := 5) F dX0_allLamps_5 ?_
  refine q_iconst (pc := 6) F (v := 1) dX0_allLamps_6 (by decide) ?_
  refine q_isub (pc := 7) F dX0_allLamps_7 ?_
  exact q_iretR (pc := 8) F Z dX0_allLamps_8 h

def wp_X0_allPeople (h_people : Int32) (post : Int32 → Prop) : Prop := post ((jshl (1 : Int32) h_people) - (1 : Int32))
abbrev rm_X0_allPeople : Room := { frames := 0, cells := 0, slots := 0, locals := 0 }
set_option maxRecDepth 100000 in
set_option maxHeartbeats 4000000 in
theorem ct_X0_allPeople (D : va_G) (cI cZ : ClassId) (a_H a_H_lampCell a_H_lampReach a_H_shine a_H_personCell a_H_wish a_H_side a_H_light a_H_leavers : Nat) (h_wide : Int32) (h_high : Int32) (h_walls : Int32) (h_doors : Int32) (h_law : Int32) (h_lamps : Int32) (h_people : Int32) {post : Int32 → Prop} (h : wp_X0_allPeople h_people post) (l : Launch) (sz : Nat) : Met l yX0_allPeople (wsM yX0_allPeople cX0_allPeople 1 (some .int)) rm_X0_allPeople (va_Pc [.ref a_H] (gP D cI cZ [(a_H, .inr (0, [.int h_wide, .int h_high, .int h_walls, .int h_doors, .int h_law, .int h_lamps, .int h_people, .ref a_H_lampCell, .ref a_H_lampReach, .ref a_H_shine, .ref a_H_personCell, .ref a_H_wish, .ref a_H_side, .ref a_H_light, .ref a_H_leavers]))] sz)) (gR post) 0 0 (fun _ => False) := by
  refine q_startR (own := RX0) (by decide +kernel) rfl (Nat.le_of_ble_eq_true rfl) (fun E F Z => ?_)
  show Wg E [(a_H, .inr (0, [.int h_wide, .int h_high, .int h_walls, .int h_doors, .int h_law, .int h_lamps, .int h_people, .ref a_H_lampCell, .ref a_H_lampReach, .ref a_H_shine, .ref a_H_personCell, .ref a_H_wish, .ref a_H_side, .ref a_H_light, .ref a_H_leavers]))] 0 0 0 [(0, .ref a_H)] []
  unfold wp_X0_allPeople at h
  refine q_iconst (pc := 0) F (v := 1) dX0_allPeople_0 (by decide) ?_
  refine q_aload_n (pc := 1) F 0 dX0_allPeople_1 rfl ?_
  refine q_get (pc := 2) F fgX0_55 0 rfl rfl dX0_allPeople_2 ?_
  refine q_ishl (pc := 5) F dX0_allPeople_5 ?_
  refine q_iconst (pc := 6) F (v := 1) dX0_allPeople_6 (by decide) ?_
  refine q_isub (pc := 7) F dX0_allPeople_7 ?_
  exact q_iretR (pc := 8) F Z dX0_allPeople_8 h

def wp_X0_addLamp (p0 : Int32) (p1 : Int32) (h_lamps : Int32) (h_lampCell : Nat → Int32) (h_lampReach : Nat → Int32) (post : Int32 → (Nat → Int32) → (Nat → Int32) → Prop) : Prop := (((6 : Int32) ≤ h_lamps → post h_lamps h_lampCell h_lampReach) ∧ (¬ (6 : Int32) ≤ h_lamps → (vp_in h_lamps 6 ∧ (vp_in h_lamps 6 ∧ post (h_lamps + (1 : Int32)) (upd h_lampCell (ix h_lamps) p0) (upd h_lampReach (ix h_lamps) p1)))))
abbrev rm_X0_addLamp : Room := { frames := 0, cells := 0, slots := 0, locals := 0 }
set_option maxRecDepth 100000 in
set_option maxHeartbeats 4000000 in
theorem ct_X0_addLamp (D : va_G) (cI cZ : ClassId) (a_H a_H_lampCell a_H_lampReach a_H_shine a_H_personCell a_H_wish a_H_side a_H_light a_H_leavers : Nat) (h_wide : Int32) (h_high : Int32) (h_walls : Int32) (h_doors : Int32) (h_law : Int32) (h_lamps : Int32) (h_people : Int32) (h_lampCell : Nat → Int32) (h_lampReach : Nat → Int32) (p0 : Int32) (p1 : Int32) {post : Int32 → (Nat → Int32) → (Nat → Int32) → Prop} (h : wp_X0_addLamp p0 p1 h_lamps h_lampCell h_lampReach post) (l : Launch) (sz : Nat) : Met l yX0_addLamp (wsM yX0_addLamp cX0_addLamp 3 none) rm_X0_addLamp (va_Pc [.ref a_H, .int p0, .int p1] (gP D cI cZ [(a_H, .inr (0, [.int h_wide, .int h_high, .int h_walls, .int h_doors, .int h_law, .int h_lamps, .int h_people, .ref a_H_lampCell, .ref a_H_lampReach, .ref a_H_shine, .ref a_H_personCell, .ref a_H_wish, .ref a_H_side, .ref a_H_light, .ref a_H_leavers])), (a_H_lampCell, .inl (cI, 6, .inl h_lampCell)), (a_H_lampReach, .inl (cI, 6, .inl h_lampReach))] sz)) (gQv D (fun (u : Int32 × (Nat → Int32) × (Nat → Int32)) => post u.1 u.2.1 u.2.2) (fun (u : Int32 × (Nat → Int32) × (Nat → Int32)) => [(a_H, .inr (0, [.int h_wide, .int h_high, .int h_walls, .int h_doors, .int h_law, .int u.1, .int h_people, .ref a_H_lampCell, .ref a_H_lampReach, .ref a_H_shine, .ref a_H_personCell, .ref a_H_wish, .ref a_H_side, .ref a_H_light, .ref a_H_leavers])), (a_H_lampCell, .inl (cI, 6, .inl u.2.1)), (a_H_lampReach, .inl (cI, 6, .inl u.2.2))]) [(a_H, .inr (0, [.int h_wide, .int h_high, .int h_walls, .int h_doors, .int h_law, .int h_lamps, .int h_people, .ref a_H_lampCell, .ref a_H_lampReach, .ref a_H_shine, .ref a_H_personCell, .ref a_H_wish, .ref a_H_side, .ref a_H_light, .ref a_H_leavers])), (a_H_lampCell, .inl (cI, 6, .inl h_lampCell)), (a_H_lampReach, .inl (cI, 6, .inl h_lampReach))] sz) 0 0 (va_A [(a_H, .inr (0, [.int h_wide, .int h_high, .int h_walls, .int h_doors, .int h_law, .int h_lamps, .int h_people, .ref a_H_lampCell, .ref a_H_lampReach, .ref a_H_shine, .ref a_H_personCell, .ref a_H_wish, .ref a_H_side, .ref a_H_light, .ref a_H_leavers])), (a_H_lampCell, .inl (cI, 6, .inl h_lampCell)), (a_H_lampReach, .inl (cI, 6, .inl h_lampReach))] sz) := by
  refine q_startM (own := RX0) (Qc := gQv D (fun (u : Int32 × (Nat → Int32) × (Nat → Int32)) => post u.1 u.2.1 u.2.2) (fun (u : Int32 × (Nat → Int32) × (Nat → Int32)) => [(a_H, .inr (0, [.int h_wide, .int h_high, .int h_walls, .int h_doors, .int h_law, .int u.1, .int h_people, .ref a_H_lampCell, .ref a_H_lampReach, .ref a_H_shine, .ref a_H_personCell, .ref a_H_wish, .ref a_H_side, .ref a_H_light, .ref a_H_leavers])), (a_H_lampCell, .inl (cI, 6, .inl u.2.1)), (a_H_lampReach, .inl (cI, 6, .inl u.2.2))]) [(a_H, .inr (0, [.int h_wide, .int h_high, .int h_walls, .int h_doors, .int h_law, .int h_lamps, .int h_people, .ref a_H_lampCell, .ref a_H_lampReach, .ref a_H_shine, .ref a_H_personCell, .ref a_H_wish, .ref a_H_side, .ref a_H_light, .ref a_H_leavers])), (a_H_lampCell, .inl (cI, 6, .inl h_lampCell)), (a_H_lampReach, .inl (cI, 6, .inl h_lampReach))]) (by decide +kernel) rfl (Nat.le_of_ble_eq_true rfl) (fun E F Z M => ?_)
  show Wg E [(a_H, .inr (0, [.int h_wide, .int h_high, .int h_walls, .int h_doors, .int h_law, .int h_lamps, .int h_people, .ref a_H_lampCell, .ref a_H_lampReach, .ref a_H_shine, .ref a_H_personCell, .ref a_H_wish, .ref a_H_side, .ref a_H_light, .ref a_H_leavers])), (a_H_lampCell, .inl (cI, 6, .inl h_lampCell)), (a_H_lampReach, .inl (cI, 6, .inl h_lampReach))] 0 0 0 [(0, .ref a_H), (1, .int p0), (2, .int p1)] []
  unfold wp_X0_addLamp at h
  refine q_aload_n (pc := 0) F 0 dX0_addLamp_0 rfl ?_
  refine q_get (pc := 1) F fgX0_52 0 rfl rfl dX0_addLamp_1 ?_
  refine q_bipush (pc := 4) F (v := 6) dX0_addLamp_4 (by decide) ?_
  refine q_icmp_ge (pc := 6) (tgt := 39) F dX0_addLamp_6 (by decide) (fun c6 => ?_) (fun c6 => ?_)
  · have h := h.1 c6
    exact q_vretM (pc := 39) F Z dX0_addLamp_39 (h_lamps, h_lampCell, h_lampReach) h rfl
  · have h := h.2 c6
    refine q_aload_n (pc := 9) F 0 dX0_addLamp_9 rfl ?_
    refine q_get (pc := 10) F fgX0_18 0 rfl rfl dX0_addLamp_10 ?_
    refine q_aload_n (pc := 13) F 0 dX0_addLamp_13 rfl ?_
    refine q_get (pc := 14) F fgX0_52 0 rfl rfl dX0_addLamp_14 ?_
    refine q_iload_n (pc := 17) F 1 dX0_addLamp_17 rfl ?_
    obtain ⟨hi18, h⟩ := h
    refine q_iast (pc := 18) F M (cs' := [(a_H, .inr (0, [.int h_wide, .int h_high, .int h_walls, .int h_doors, .int h_law, .int h_lamps, .int h_people, .ref a_H_lampCell, .ref a_H_lampReach, .ref a_H_shine, .ref a_H_personCell, .ref a_H_wish, .ref a_H_side, .ref a_H_light, .ref a_H_leavers])), (a_H_lampCell, .inl (cI, 6, .inl (upd h_lampCell (ix h_lamps) p0))), (a_H_lampReach, .inl (cI, 6, .inl h_lampReach))]) 1 rfl hi18 rfl dX0_addLamp_18 ?_
    refine q_aload_n (pc := 19) F 0 dX0_addLamp_19 rfl ?_
    refine q_get (pc := 20) F fgX0_22 0 rfl rfl dX0_addLamp_20 ?_
    refine q_aload_n (pc := 23) F 0 dX0_addLamp_23 rfl ?_
    refine q_get (pc := 24) F fgX0_52 0 rfl rfl dX0_addLamp_24 ?_
    refine q_iload_n (pc := 27) F 2 dX0_addLamp_27 rfl ?_
    obtain ⟨hi28, h⟩ := h
    refine q_iast (pc := 28) F M (cs' := [(a_H, .inr (0, [.int h_wide, .int h_high, .int h_walls, .int h_doors, .int h_law, .int h_lamps, .int h_people, .ref a_H_lampCell, .ref a_H_lampReach, .ref a_H_shine, .ref a_H_personCell, .ref a_H_wish, .ref a_H_side, .ref a_H_light, .ref a_H_leavers])), (a_H_lampCell, .inl (cI, 6, .inl (upd h_lampCell (ix h_lamps) p0))), (a_H_lampReach, .inl (cI, 6, .inl (upd h_lampReach (ix h_lamps) p1)))]) 2 rfl hi28 rfl dX0_addLamp_28 ?_
    refine q_aload_n (pc := 29) F 0 dX0_addLamp_29 rfl ?_
    refine q_dup (pc := 30) F dX0_addLamp_30 rfl ?_
    refine q_get (pc := 31) F fgX0_52 0 rfl rfl dX0_addLamp_31 ?_
    refine q_iconst (pc := 34) F (v := 1) dX0_addLamp_34 (by decide) ?_
    refine q_iadd (pc := 35) F dX0_addLamp_35 ?_
    refine q_put (pc := 36) F M (cs' := [(a_H, .inr (0, [.int h_wide, .int h_high, .int h_walls, .int h_doors, .int h_law, .int (h_lamps + (1 : Int32)), .int h_people, .ref a_H_lampCell, .ref a_H_lampReach, .ref a_H_shine, .ref a_H_personCell, .ref a_H_wish, .ref a_H_side, .ref a_H_light, .ref a_H_leavers])), (a_H_lampCell, .inl (cI, 6, .inl (upd h_lampCell (ix h_lamps) p0))), (a_H_lampReach, .inl (cI, 6, .inl (upd h_lampReach (ix h_lamps) p1)))]) fpX0_52 0 rfl rfl rfl (Nat.le_of_ble_eq_true rfl) rfl dX0_addLamp_36 ?_
    exact q_vretM (pc := 39) F Z dX0_addLamp_39 (h_lamps + (1 : Int32), upd h_lampCell (ix h_lamps) p0, upd h_lampReach (ix h_lamps) p1) h rfl

def wp_X0_addPerson (p0 : Int32) (p1 : Int32) (p2 : Int32) (h_people : Int32) (h_personCell : Nat → Int32) (h_wish : Nat → Int32) (h_side : Nat → Int32) (post : Int32 → (Nat → Int32) → (Nat → Int32) → (Nat → Int32) → Prop) : Prop := (((6 : Int32) ≤ h_people → post h_people h_personCell h_wish h_side) ∧ (¬ (6 : Int32) ≤ h_people → (vp_in h_people 6 ∧ (vp_in h_people 6 ∧ (vp_in h_people 6 ∧ post (h_people + (1 : Int32)) (upd h_personCell (ix h_people) p0) (upd h_wish (ix h_people) p1) (upd h_side (ix h_people) p2))))))
abbrev rm_X0_addPerson : Room := { frames := 0, cells := 0, slots := 0, locals := 0 }
set_option maxRecDepth 100000 in
set_option maxHeartbeats 4000000 in
theorem ct_X0_addPerson (D : va_G) (cI cZ : ClassId) (a_H a_H_lampCell a_H_lampReach a_H_shine a_H_personCell a_H_wish a_H_side a_H_light a_H_leavers : Nat) (h_wide : Int32) (h_high : Int32) (h_walls : Int32) (h_doors : Int32) (h_law : Int32) (h_lamps : Int32) (h_people : Int32) (h_personCell : Nat → Int32) (h_wish : Nat → Int32) (h_side : Nat → Int32) (p0 : Int32) (p1 : Int32) (p2 : Int32) {post : Int32 → (Nat → Int32) → (Nat → Int32) → (Nat → Int32) → Prop} (h : wp_X0_addPerson p0 p1 p2 h_people h_personCell h_wish h_side post) (l : Launch) (sz : Nat) : Met l yX0_addPerson (wsM yX0_addPerson cX0_addPerson 4 none) rm_X0_addPerson (va_Pc [.ref a_H, .int p0, .int p1, .int p2] (gP D cI cZ [(a_H, .inr (0, [.int h_wide, .int h_high, .int h_walls, .int h_doors, .int h_law, .int h_lamps, .int h_people, .ref a_H_lampCell, .ref a_H_lampReach, .ref a_H_shine, .ref a_H_personCell, .ref a_H_wish, .ref a_H_side, .ref a_H_light, .ref a_H_leavers])), (a_H_personCell, .inl (cI, 6, .inl h_personCell)), (a_H_wish, .inl (cI, 6, .inl h_wish)), (a_H_side, .inl (cI, 6, .inl h_side))] sz)) (gQv D (fun (u : Int32 × (Nat → Int32) × (Nat → Int32) × (Nat → Int32)) => post u.1 u.2.1 u.2.2.1 u.2.2.2) (fun (u : Int32 × (Nat → Int32) × (Nat → Int32) × (Nat → Int32)) => [(a_H, .inr (0, [.int h_wide, .int h_high, .int h_walls, .int h_doors, .int h_law, .int h_lamps, .int u.1, .ref a_H_lampCell, .ref a_H_lampReach, .ref a_H_shine, .ref a_H_personCell, .ref a_H_wish, .ref a_H_side, .ref a_H_light, .ref a_H_leavers])), (a_H_personCell, .inl (cI, 6, .inl u.2.1)), (a_H_wish, .inl (cI, 6, .inl u.2.2.1)), (a_H_side, .inl (cI, 6, .inl u.2.2.2))]) [(a_H, .inr (0, [.int h_wide, .int h_high, .int h_walls, .int h_doors, .int h_law, .int h_lamps, .int h_people, .ref a_H_lampCell, .ref a_H_lampReach, .ref a_H_shine, .ref a_H_personCell, .ref a_H_wish, .ref a_H_side, .ref a_H_light, .ref a_H_leavers])), (a_H_personCell, .inl (cI, 6, .inl h_personCell)), (a_H_wish, .inl (cI, 6, .inl h_wish)), (a_H_side, .inl (cI, 6, .inl h_side))] sz) 0 0 (va_A [(a_H, .inr (0, [.int h_wide, .int h_high, .int h_walls, .int h_doors, .int h_law, .int h_lamps, .int h_people, .ref a_H_lampCell, .ref a_H_lampReach, .ref a_H_shine, .ref a_H_personCell, .ref a_H_wish, .ref a_H_side, .ref a_H_light, .ref a_H_leavers])), (a_H_personCell, .inl (cI, 6, .inl h_personCell)), (a_H_wish, .inl (cI, 6, .inl h_wish)), (a_H_side, .inl (cI, 6, .inl h_side))] sz) := by
  refine q_startM (own := RX0) (Qc := gQv D (fun (u : Int32 × (Nat → Int32) × (Nat → Int32) × (Nat → Int32)) => post u.1 u.2.1 u.2.2.1 u.2.2.2) (fun (u : Int32 × (Nat → Int32) × (Nat → Int32) × (Nat → Int32)) => [(a_H, .inr (0, [.int h_wide, .int h_high, .int h_walls, .int h_doors, .int h_law, .int h_lamps, .int u.1, .ref a_H_lampCell, .ref a_H_lampReach, .ref a_H_shine, .ref a_H_personCell, .ref a_H_wish, .ref a_H_side, .ref a_H_light, .ref a_H_leavers])), (a_H_personCell, .inl (cI, 6, .inl u.2.1)), (a_H_wish, .inl (cI, 6, .inl u.2.2.1)), (a_H_side, .inl (cI, 6, .inl u.2.2.2))]) [(a_H, .inr (0, [.int h_wide, .int h_high, .int h_walls, .int h_doors, .int h_law, .int h_lamps, .int h_people, .ref a_H_lampCell, .ref a_H_lampReach, .ref a_H_shine, .ref a_H_personCell, .ref a_H_wish, .ref a_H_side, .ref a_H_light, .ref a_H_leavers])), (a_H_personCell, .inl (cI, 6, .inl h_personCell)), (a_H_wish, .inl (cI, 6, .inl h_wish)), (a_H_side, .inl (cI, 6, .inl h_side))]) (by decide +kernel) rfl (Nat.le_of_ble_eq_true rfl) (fun E F Z M => ?_)
  show Wg E [(a_H, .inr (0, [.int h_wide, .int h_high, .int h_walls, .int h_doors, .int h_law, .int h_lamps, .int h_people, .ref a_H_lampCell, .ref a_H_lampReach, .ref a_H_shine, .ref a_H_personCell, .ref a_H_wish, .ref a_H_side, .ref a_H_light, .ref a_H_leavers])), (a_H_personCell, .inl (cI, 6, .inl h_personCell)), (a_H_wish, .inl (cI, 6, .inl h_wish)), (a_H_side, .inl (cI, 6, .inl h_side))] 0 0 0 [(0, .ref a_H), (1, .int p0), (2, .int p1), (3, .int p2)] []
  unfold wp_X0_addPerson at h
  refine q_aload_n (pc := 0) F 0 dX0_addPerson_0 rfl ?_
  refine q_get (pc := 1) F fgX0_55 0 rfl rfl dX0_addPerson_1 ?_
  refine q_bipush (pc := 4) F (v := 6) dX0_addPerson_4 (by decide) ?_
  refine q_icmp_ge (pc := 6) (tgt := 49) F dX0_addPerson_6 (by decide) (fun c6 => ?_) (fun c6 => ?_)
  · have h := h.1 c6
    exact q_vretM (pc := 49) F Z dX0_addPerson_49 (h_people, h_personCell, h_wish, h_side) h rfl
  · have h := h.2 c6
    refine q_aload_n (pc := 9) F 0 dX0_addPerson_9 rfl ?_
    refine q_get (pc := 10) F fgX0_28 0 rfl rfl dX0_addPerson_10 ?_
    refine q_aload_n (pc := 13) F 0 dX0_addPerson_13 rfl ?_
    refine q_get (pc := 14) F fgX0_55 0 rfl rfl dX0_addPerson_14 ?_
    refine q_iload_n (pc := 17) F 1 dX0_addPerson_17 rfl ?_
    obtain ⟨hi18, h⟩ := h
    refine q_iast (pc := 18) F M (cs' := [(a_H, .inr (0, [.int h_wide, .int h_high, .int h_walls, .int h_doors, .int h_law, .int h_lamps, .int h_people, .ref a_H_lampCell, .ref a_H_lampReach, .ref a_H_shine, .ref a_H_personCell, .ref a_H_wish, .ref a_H_side, .ref a_H_light, .ref a_H_leavers])), (a_H_personCell, .inl (cI, 6, .inl (upd h_personCell (ix h_people) p0))), (a_H_wish, .inl (cI, 6, .inl h_wish)), (a_H_side, .inl (cI, 6, .inl h_side))]) 1 rfl hi18 rfl dX0_addPerson_18 ?_
    refine q_aload_n (pc := 19) F 0 dX0_addPerson_19 rfl ?_
    refine q_get (pc := 20) F fgX0_31 0 rfl rfl dX0_addPerson_20 ?_
    refine q_aload_n (pc := 23) F 0 dX0_addPerson_23 rfl ?_
    refine q_get (pc := 24) F fgX0_55 0 rfl rfl dX0_addPerson_24 ?_
    refine q_iload_n (pc := 27) F 2 dX0_addPerson_27 rfl ?_
    obtain ⟨hi28, h⟩ := h
    refine q_iast (pc := 28) F M (cs' := [(a_H, .inr (0, [.int h_wide, .int h_high, .int h_walls, .int h_doors, .int h_law, .int h_lamps, .int h_people, .ref a_H_lampCell, .ref a_H_lampReach, .ref a_H_shine, .ref a_H_personCell, .ref a_H_wish, .ref a_H_side, .ref a_H_light, .ref a_H_leavers])), (a_H_personCell, .inl (cI, 6, .inl (upd h_personCell (ix h_people) p0))), (a_H_wish, .inl (cI, 6, .inl (upd h_wish (ix h_people) p1))), (a_H_side, .inl (cI, 6, .inl h_side))]) 2 rfl hi28 rfl dX0_addPerson_28 ?_
    refine q_aload_n (pc := 29) F 0 dX0_addPerson_29 rfl ?_
    refine q_get (pc := 30) F fgX0_34 0 rfl rfl dX0_addPerson_30 ?_
    refine q_aload_n (pc := 33) F 0 dX0_addPerson_33 rfl ?_
    refine q_get (pc := 34) F fgX0_55 0 rfl rfl dX0_addPerson_34 ?_
    refine q_iload_n (pc := 37) F 3 dX0_addPerson_37 rfl ?_
    obtain ⟨hi38, h⟩ := h
    refine q_iast (pc := 38) F M (cs' := [(a_H, .inr (0, [.int h_wide, .int h_high, .int h_walls, .int h_doors, .int h_law, .int h_lamps, .int h_people, .ref a_H_lampCell, .ref a_H_lampReach, .ref a_H_shine, .ref a_H_personCell, .ref a_H_wish, .ref a_H_side, .ref a_H_light, .ref a_H_leavers])), (a_H_personCell, .inl (cI, 6, .inl (upd h_personCell (ix h_people) p0))), (a_H_wish, .inl (cI, 6, .inl (upd h_wish (ix h_people) p1))), (a_H_side, .inl (cI, 6, .inl (upd h_side (ix h_people) p2)))]) 3 rfl hi38 rfl dX0_addPerson_38 ?_
    refine q_aload_n (pc := 39) F 0 dX0_addPerson_39 rfl ?_
    refine q_dup (pc := 40) F dX0_addPerson_40 rfl ?_
    refine q_get (pc := 41) F fgX0_55 0 rfl rfl dX0_addPerson_41 ?_
    refine q_iconst (pc := 44) F (v := 1) dX0_addPerson_44 (by decide) ?_
    refine q_iadd (pc := 45) F dX0_addPerson_45 ?_
    refine q_put (pc := 46) F M (cs' := [(a_H, .inr (0, [.int h_wide, .int h_high, .int h_walls, .int h_doors, .int h_law, .int h_lamps, .int (h_people + (1 : Int32)), .ref a_H_lampCell, .ref a_H_lampReach, .ref a_H_shine, .ref a_H_personCell, .ref a_H_wish, .ref a_H_side, .ref a_H_light, .ref a_H_leavers])), (a_H_personCell, .inl (cI, 6, .inl (upd h_personCell (ix h_people) p0))), (a_H_wish, .inl (cI, 6, .inl (upd h_wish (ix h_people) p1))), (a_H_side, .inl (cI, 6, .inl (upd h_side (ix h_people) p2)))]) fpX0_55 0 rfl rfl rfl (Nat.le_of_ble_eq_true rfl) rfl dX0_addPerson_46 ?_
    exact q_vretM (pc := 49) F Z dX0_addPerson_49 (h_people + (1 : Int32), upd h_personCell (ix h_people) p0, upd h_wish (ix h_people) p1, upd h_side (ix h_people) p2) h rfl

def wp_X0_beside_L4 (h_wide : Int32) (h_high : Int32) (K29 : Int32 → Prop) : Nat → Int32 → Int32 → Prop
  | 0, _, _ => False
  | n + 1, x2, x3 => ((h_high ≤ x3 → K29 x2) ∧ (¬ h_high ≤ x3 → (∀ x2_22 : Int32, x2_22 = x2 ||| (jshl (1 : Int32) (h_wide * x3)) → wp_X0_beside_L4 h_wide h_high K29 n x2_22 (x3 + (1 : Int32)))))
def wp_X0_beside (p0 : Int32) (h_wide : Int32) (h_high : Int32) (post : Int32 → Prop) : Prop := (jn (fun (K29 : Int32 → Prop) => (∃ n4 : Nat, wp_X0_beside_L4 h_wide h_high K29 n4 (0 : Int32) (0 : Int32))) (fun (x2_29 : Int32) => (∀ x3_37 : Int32, x3_37 = jshl x2_29 (h_wide - (1 : Int32)) → (∀ x4_51 : Int32, x4_51 = (jshl p0 h_wide) ||| (jushr p0 h_wide) → (∀ x5_68 : Int32, x5_68 = (jshl (p0 &&& (x3_37 ^^^ (-1 : Int32))) (1 : Int32)) ||| (jushr (p0 &&& (x2_29 ^^^ (-1 : Int32))) (1 : Int32)) → post (x4_51 ||| x5_68))))))
abbrev rm_X0_beside : Room := { frames := 0, cells := 0, slots := 0, locals := 0 }
set_option maxRecDepth 100000 in
set_option maxHeartbeats 4000000 in
theorem ct_X0_beside (D : va_G) (cI cZ : ClassId) (a_H a_H_lampCell a_H_lampReach a_H_shine a_H_personCell a_H_wish a_H_side a_H_light a_H_leavers : Nat) (h_wide : Int32) (h_high : Int32) (h_walls : Int32) (h_doors : Int32) (h_law : Int32) (h_lamps : Int32) (h_people : Int32) (p0 : Int32) {post : Int32 → Prop} (h : wp_X0_beside p0 h_wide h_high post) (l : Launch) (sz : Nat) : Met l yX0_beside (wsM yX0_beside cX0_beside 6 (some .int)) rm_X0_beside (va_Pc [.ref a_H, .int p0] (gP D cI cZ [(a_H, .inr (0, [.int h_wide, .int h_high, .int h_walls, .int h_doors, .int h_law, .int h_lamps, .int h_people, .ref a_H_lampCell, .ref a_H_lampReach, .ref a_H_shine, .ref a_H_personCell, .ref a_H_wish, .ref a_H_side, .ref a_H_light, .ref a_H_leavers]))] sz)) (gR post) 0 0 (fun _ => False) := by
  refine q_startR (own := RX0) (by decide +kernel) rfl (Nat.le_of_ble_eq_true rfl) (fun E F Z => ?_)
  show Wg E [(a_H, .inr (0, [.int h_wide, .int h_high, .int h_walls, .int h_doors, .int h_law, .int h_lamps, .int h_people, .ref a_H_lampCell, .ref a_H_lampReach, .ref a_H_shine, .ref a_H_personCell, .ref a_H_wish, .ref a_H_side, .ref a_H_light, .ref a_H_leavers]))] 0 0 0 [(0, .ref a_H), (1, .int p0)] []
  unfold wp_X0_beside at h
  refine q_iconst (pc := 0) F (v := 0) dX0_beside_0 (by decide) ?_
  refine q_istore_n (pc := 1) F (lv' := [(2, .int (0 : Int32)), (0, .ref a_H), (1, .int p0)]) dX0_beside_1 (by decide) rfl ?_
  refine q_iconst (pc := 2) F (v := 0) dX0_beside_2 (by decide) ?_
  refine q_istore_n (pc := 3) F (lv' := [(3, .int (0 : Int32)), (2, .int (0 : Int32)), (0, .ref a_H), (1, .int p0)]) dX0_beside_3 (by decide) rfl ?_
  refine jnW h (fun K => ∀ (x2_29 : Int32), K x2_29 → Wg E [(a_H, .inr (0, [.int h_wide, .int h_high, .int h_walls, .int h_doors, .int h_law, .int h_lamps, .int h_people, .ref a_H_lampCell, .ref a_H_lampReach, .ref a_H_shine, .ref a_H_personCell, .ref a_H_wish, .ref a_H_side, .ref a_H_light, .ref a_H_leavers]))] 0 0 29 [(0, .ref a_H), (1, .int p0), (2, .int x2_29)] []) ?_ ?_
  · intro x2_29 h
    refine q_iload_n (pc := 29) F 2 dX0_beside_29 rfl ?_
    refine q_aload_n (pc := 30) F 0 dX0_beside_30 rfl ?_
    refine q_get (pc := 31) F fgX0_9 0 rfl rfl dX0_beside_31 ?_
    refine q_iconst (pc := 34) F (v := 1) dX0_beside_34 (by decide) ?_
    refine q_isub (pc := 35) F dX0_beside_35 ?_
    refine q_ishl (pc := 36) F dX0_beside_36 ?_
    refine q_topi (fun x3_37 ex3_37 => ?_)
    have h := h x3_37 ex3_37
    refine q_istore_n (pc := 37) F (lv' := [(3, .int x3_37), (0, .ref a_H), (1, .int p0), (2, .int x2_29)]) dX0_beside_37 (by decide) rfl ?_
    refine q_iload_n (pc := 38) F 2 dX0_beside_38 rfl ?_
    refine q_aload_n (pc := 39) F 1 dX0_beside_39 rfl ?_
    refine q_get (pc := 40) F fgX0_9 0 rfl rfl dX0_beside_40 ?_
    refine q_ishl (pc := 43) F dX0_beside_43 ?_
    refine q_iload_n (pc := 44) F 2 dX0_beside_44 rfl ?_
    refine q_aload_n (pc := 45) F 1 dX0_beside_45 rfl ?_
    refine q_get (pc := 46) F fgX0_9 0 rfl rfl dX0_beside_46 ?_
    refine q_iushr (pc := 49) F dX0_beside_49 ?_
    refine q_ior (pc := 50) F dX0_beside_50 ?_
    refine q_topi (fun x4_51 ex4_51 => ?_)
    have h := h x4_51 ex4_51
    refine q_istore (pc := 51) F (lv' := [(4, .int x4_51), (3, .int x3_37), (0, .ref a_H), (1, .int p0), (2, .int x2_29)]) dX0_beside_51 (by decide) rfl ?_
    refine q_iload_n (pc := 53) F 3 dX0_beside_53 rfl ?_
    refine q_iload_n (pc := 54) F 1 dX0_beside_54 rfl ?_
    refine q_iconst (pc := 55) F (v := -1) dX0_beside_55 (by decide) ?_
    refine q_ixor (pc := 56) F dX0_beside_56 ?_
    refine q_iand (pc := 57) F dX0_beside_57 ?_
    refine q_iconst (pc := 58) F (v := 1) dX0_beside_58 (by decide) ?_
    refine q_ishl (pc := 59) F dX0_beside_59 ?_
    refine q_iload_n (pc := 60) F 3 dX0_beside_60 rfl ?_
    refine q_iload_n (pc := 61) F 4 dX0_beside_61 rfl ?_
    refine q_iconst (pc := 62) F (v := -1) dX0_beside_62 (by decide) ?_
    refine q_ixor (pc := 63) F dX0_beside_63 ?_
    refine q_iand (pc := 64) F dX0_beside_64 ?_
    refine q_iconst (pc := 65) F (v := 1) dX0_beside_65 (by decide) ?_
    refine q_iushr (pc := 66) F dX0_beside_66 ?_
    refine q_ior (pc := 67) F dX0_beside_67 ?_
    refine q_topi (fun x5_68 ex5_68 => ?_)
    have h := h x5_68 ex5_68
    refine q_istore (pc := 68) F (lv' := [(5, .int x5_68), (4, .int x4_51), (3, .int x3_37), (0, .ref a_H), (1, .int p0), (2, .int x2_29)]) dX0_beside_68 (by decide) rfl ?_
    refine q_iload (pc := 70) F 1 dX0_beside_70 rfl ?_
    refine q_iload (pc := 72) F 0 dX0_beside_72 rfl ?_
    refine q_ior (pc := 74) F dX0_beside_74 ?_
    exact q_iretR (pc := 75) F Z dX0_beside_75 h
  · intro K29 J29 h
    obtain ⟨n4, h⟩ := h
    have lp4 : ∀ (n : Nat) (x2_h4 : Int32) (x3_h4 : Int32), wp_X0_beside_L4 h_wide h_high K29 n x2_h4 x3_h4 → Wg E [(a_H, .inr (0, [.int h_wide, .int h_high, .int h_walls, .int h_doors, .int h_law, .int h_lamps, .int h_people, .ref a_H_lampCell, .ref a_H_lampReach, .ref a_H_shine, .ref a_H_personCell, .ref a_H_wish, .ref a_H_side, .ref a_H_light, .ref a_H_leavers]))] 0 0 4 [(0, .ref a_H), (1, .int p0), (2, .int x2_h4), (3, .int x3_h4)] [] := by
      intro n
      induction n with
      | zero => intro x2_h4 x3_h4 h; exact h.elim
      | succ n ih =>
        intro x2_h4 x3_h4 h
        unfold wp_X0_beside_L4 at h
        refine q_iload_n (pc := 4) F 3 dX0_beside_4 rfl ?_
        refine q_aload_n (pc := 5) F 0 dX0_beside_5 rfl ?_
        refine q_get (pc := 6) F fgX0_15 0 rfl rfl dX0_beside_6 ?_
        refine q_icmp_ge (pc := 9) (tgt := 29) F dX0_beside_9 (by decide) (fun c9 => ?_) (fun c9 => ?_)
        · have h := h.1 c9
          refine q_lv (lv' := [(0, .ref a_H), (1, .int p0), (2, .int x2_h4)]) [0, 1, 2] rfl ?_
          exact J29 x2_h4 h
        · have h := h.2 c9
          refine q_iload_n (pc := 12) F 2 dX0_beside_12 rfl ?_
          refine q_iconst (pc := 13) F (v := 1) dX0_beside_13 (by decide) ?_
          refine q_aload_n (pc := 14) F 0 dX0_beside_14 rfl ?_
          refine q_get (pc := 15) F fgX0_9 0 rfl rfl dX0_beside_15 ?_
          refine q_iload_n (pc := 18) F 3 dX0_beside_18 rfl ?_
          refine q_imul (pc := 19) F dX0_beside_19 ?_
          refine q_ishl (pc := 20) F dX0_beside_20 ?_
          refine q_ior (pc := 21) F dX0_beside_21 ?_
          refine q_topi (fun x2_22 ex2_22 => ?_)
          have h := h x2_22 ex2_22
          refine q_istore_n (pc := 22) F (lv' := [(2, .int x2_22), (0, .ref a_H), (1, .int p0), (3, .int x3_h4)]) dX0_beside_22 (by decide) rfl ?_
          refine q_iinc (pc := 23) F (v := x3_h4 + (1 : Int32)) (lv' := [(3, .int (x3_h4 + (1 : Int32))), (2, .int x2_22), (0, .ref a_H), (1, .int p0)]) 3 dX0_beside_23 rfl rfl (by decide) rfl ?_
          refine q_goto (pc := 26) (tgt := 4) F dX0_beside_26 (by decide) ?_
          refine q_lv (lv' := [(0, .ref a_H), (1, .int p0), (2, .int x2_22), (3, .int (x3_h4 + (1 : Int32)))]) [2, 3, 1, 0] rfl ?_
          exact ih x2_22 (x3_h4 + (1 : Int32)) h
    refine q_lv (lv' := [(0, .ref a_H), (1, .int p0), (2, .int (0 : Int32)), (3, .int (0 : Int32))]) [2, 3, 1, 0] rfl ?_
    exact lp4 n4 (0 : Int32) (0 : Int32) h

def wp_X0_spread_L6 (x2 : Int32) (x3 : Int32) (h_wide : Int32) (h_high : Int32) (post : Int32 → Prop) : Nat → Int32 → Int32 → Prop
  | 0, _, _ => False
  | n + 1, x4, x5 => ((x3 ≤ x5 → post x4) ∧ (¬ x3 ≤ x5 → (wp_X0_beside x4 h_wide h_high (fun (r17 : Int32) => (∀ x6_23 : Int32, x6_23 = x4 ||| (r17 &&& x2) → ((x6_23 = x4 → post x4) ∧ (¬ x6_23 = x4 → wp_X0_spread_L6 x2 x3 h_wide h_high post n x6_23 (x5 + (1 : Int32)))))))))
def wp_X0_spread (p0 : Int32) (p1 : Int32) (p2 : Int32) (h_wide : Int32) (h_high : Int32) (post : Int32 → Prop) : Prop := (∃ n6 : Nat, wp_X0_spread_L6 p1 p2 h_wide h_high post n6 p0 (0 : Int32))
abbrev rm_X0_spread : Room := { frames := 1, cells := 0, slots := 0, locals := 25 }
set_option maxRecDepth 100000 in
set_option maxHeartbeats 4000000 in
theorem ct_X0_spread (D : va_G) (cI cZ : ClassId) (a_H a_H_lampCell a_H_lampReach a_H_shine a_H_personCell a_H_wish a_H_side a_H_light a_H_leavers : Nat) (h_wide : Int32) (h_high : Int32) (h_walls : Int32) (h_doors : Int32) (h_law : Int32) (h_lamps : Int32) (h_people : Int32) (p0 : Int32) (p1 : Int32) (p2 : Int32) {post : Int32 → Prop} (h : wp_X0_spread p0 p1 p2 h_wide h_high post) (l : Launch) (sz : Nat) : Met l yX0_spread (wsM yX0_spread cX0_spread 7 (some .int)) rm_X0_spread (va_Pc [.ref a_H, .int p0, .int p1, .int p2] (gP D cI cZ [(a_H, .inr (0, [.int h_wide, .int h_high, .int h_walls, .int h_doors, .int h_law, .int h_lamps, .int h_people, .ref a_H_lampCell, .ref a_H_lampReach, .ref a_H_shine, .ref a_H_personCell, .ref a_H_wish, .ref a_H_side, .ref a_H_light, .ref a_H_leavers]))] sz)) (gR post) 0 0 (fun _ => False) := by
  refine q_startR (own := RX0) (by decide +kernel) rfl (Nat.le_of_ble_eq_true rfl) (fun E F Z => ?_)
  show Wg E [(a_H, .inr (0, [.int h_wide, .int h_high, .int h_walls, .int h_doors, .int h_law, .int h_lamps, .int h_people, .ref a_H_lampCell, .ref a_H_lampReach, .ref a_H_shine, .ref a_H_personCell, .ref a_H_wish, .ref a_H_side, .ref a_H_light, .ref a_H_leavers]))] 0 0 0 [(0, .ref a_H), (1, .int p0), (2, .int p1), (3, .int p2)] []
  unfold wp_X0_spread at h
  refine q_iload_n (pc := 0) F 1 dX0_spread_0 rfl ?_
  refine q_istore (pc := 1) F (lv' := [(4, .int p0), (0, .ref a_H), (1, .int p0), (2, .int p1), (3, .int p2)]) dX0_spread_1 (by decide) rfl ?_
  refine q_iconst (pc := 3) F (v := 0) dX0_spread_3 (by decide) ?_
  refine q_istore (pc := 4) F (lv' := [(5, .int (0 : Int32)), (4, .int p0), (0, .ref a_H), (1, .int p0), (2, .int p1), (3, .int p2)]) dX0_spread_4 (by decide) rfl ?_
  obtain ⟨n6, h⟩ := h
  have lp6 : ∀ (n : Nat) (x4_h6 : Int32) (x5_h6 : Int32), wp_X0_spread_L6 p1 p2 h_wide h_high post n x4_h6 x5_h6 → Wg E [(a_H, .inr (0, [.int h_wide, .int h_high, .int h_walls, .int h_doors, .int h_law, .int h_lamps, .int h_people, .ref a_H_lampCell, .ref a_H_lampReach, .ref a_H_shine, .ref a_H_personCell, .ref a_H_wish, .ref a_H_side, .ref a_H_light, .ref a_H_leavers]))] 0 0 6 [(0, .ref a_H), (2, .int p1), (3, .int p2), (4, .int x4_h6), (5, .int x5_h6)] [] := by
    intro n
    induction n with
    | zero => intro x4_h6 x5_h6 h; exact h.elim
    | succ n ih =>
      intro x4_h6 x5_h6 h
      unfold wp_X0_spread_L6 at h
      refine q_iload (pc := 6) F 4 dX0_spread_6 rfl ?_
      refine q_iload_n (pc := 8) F 2 dX0_spread_8 rfl ?_
      refine q_icmp_ge (pc := 9) (tgt := 45) F dX0_spread_9 (by decide) (fun c9 => ?_) (fun c9 => ?_)
      · have h := h.1 c9
        refine q_iload (pc := 45) F 3 dX0_spread_45 rfl ?_
        exact q_iretR (pc := 47) F Z dX0_spread_47 h
      · have h := h.2 c9
        refine q_iload (pc := 12) F 3 dX0_spread_12 rfl ?_
        refine q_aload_n (pc := 14) F 0 dX0_spread_14 rfl ?_
        refine q_iload (pc := 15) F 3 dX0_spread_15 rfl ?_
        refine q_cR (q_runV (As := [.int x4_h6]) (rest := [.int x4_h6]) (pc := 17) F (fun l sz => ct_X0_beside D cI cZ a_H a_H_lampCell a_H_lampReach a_H_shine a_H_personCell a_H_wish a_H_side a_H_light a_H_leavers h_wide h_high h_walls h_doors h_law h_lamps h_people x4_h6 h l sz) mc_yX0_beside im_yX0_beside se_yX0_beside mlX0_84 ⟨by decide, by decide⟩ ⟨by decide, by decide⟩ ⟨rfl, rfl⟩ [0] rfl rfl rfl 0 rfl rfl rfl (Nat.le_of_ble_eq_true rfl) dX0_spread_17) (fun r17 h => ?_)
        refine q_iload_n (pc := 20) F 1 dX0_spread_20 rfl ?_
        refine q_iand (pc := 21) F dX0_spread_21 ?_
        refine q_ior (pc := 22) F dX0_spread_22 ?_
        refine q_topi (fun x6_23 ex6_23 => ?_)
        have h := h x6_23 ex6_23
        refine q_istore (pc := 23) F (lv' := [(6, .int x6_23), (0, .ref a_H), (2, .int p1), (3, .int p2), (4, .int x4_h6), (5, .int x5_h6)]) dX0_spread_23 (by decide) rfl ?_
        refine q_iload (pc := 25) F 0 dX0_spread_25 rfl ?_
        refine q_iload (pc := 27) F 4 dX0_spread_27 rfl ?_
        refine q_icmp_ne (pc := 29) (tgt := 35) F dX0_spread_29 (by decide) (fun c29 => ?_) (fun c29 => ?_)
        · have h := h.2 c29
          refine q_iload (pc := 35) F 0 dX0_spread_35 rfl ?_
          refine q_istore (pc := 37) F (lv' := [(4, .int x6_23), (6, .int x6_23), (0, .ref a_H), (2, .int p1), (3, .int p2), (5, .int x5_h6)]) dX0_spread_37 (by decide) rfl ?_
          refine q_iinc (pc := 39) F (v := x5_h6 + (1 : Int32)) (lv' := [(5, .int (x5_h6 + (1 : Int32))), (4, .int x6_23), (6, .int x6_23), (0, .ref a_H), (2, .int p1), (3, .int p2)]) 5 dX0_spread_39 rfl rfl (by decide) rfl ?_
          refine q_goto (pc := 42) (tgt := 6) F dX0_spread_42 (by decide) ?_
          refine q_lv (lv' := [(0, .ref a_H), (2, .int p1), (3, .int p2), (4, .int x6_23), (5, .int (x5_h6 + (1 : Int32)))]) [3, 4, 5, 1, 0] rfl ?_
          exact ih x6_23 (x5_h6 + (1 : Int32)) h
        · have h := h.1 c29
          refine q_iload (pc := 32) F 4 dX0_spread_32 rfl ?_
          exact q_iretR (pc := 34) F Z dX0_spread_34 h
  refine q_lv (lv' := [(0, .ref a_H), (2, .int p1), (3, .int p2), (4, .int p0), (5, .int (0 : Int32))]) [2, 4, 5, 1, 0] rfl ?_
  exact lp6 n6 p0 (0 : Int32) h

def wp_X0_shineFrom (p0 : Int32) (p1 : Int32) (h_wide : Int32) (h_high : Int32) (h_walls : Int32) (post : Int32 → Prop) : Prop := (wp_X0_cells h_wide h_high (fun (r6 : Int32) => (wp_X0_spread (jshl (1 : Int32) p0) (((jshl (1 : Int32) r6) - (1 : Int32)) &&& (h_walls ^^^ (-1 : Int32))) p1 h_wide h_high (fun (r20 : Int32) => post r20))))
abbrev rm_X0_shineFrom : Room := { frames := 2, cells := 0, slots := 0, locals := 51 }
set_option maxRecDepth 100000 in
set_option maxHeartbeats 4000000 in
theorem ct_X0_shineFrom (D : va_G) (cI cZ : ClassId) (a_H a_H_lampCell a_H_lampReach a_H_shine a_H_personCell a_H_wish a_H_side a_H_light a_H_leavers : Nat) (h_wide : Int32) (h_high : Int32) (h_walls : Int32) (h_doors : Int32) (h_law : Int32) (h_lamps : Int32) (h_people : Int32) (p0 : Int32) (p1 : Int32) {post : Int32 → Prop} (h : wp_X0_shineFrom p0 p1 h_wide h_high h_walls post) (l : Launch) (sz : Nat) : Met l yX0_shineFrom (wsM yX0_shineFrom cX0_shineFrom 3 (some .int)) rm_X0_shineFrom (va_Pc [.ref a_H, .int p0, .int p1] (gP D cI cZ [(a_H, .inr (0, [.int h_wide, .int h_high, .int h_walls, .int h_doors, .int h_law, .int h_lamps, .int h_people, .ref a_H_lampCell, .ref a_H_lampReach, .ref a_H_shine, .ref a_H_personCell, .ref a_H_wish, .ref a_H_side, .ref a_H_light, .ref a_H_leavers]))] sz)) (gR post) 0 0 (fun _ => False) := by
  refine q_startR (own := RX0) (by decide +kernel) rfl (Nat.le_of_ble_eq_true rfl) (fun E F Z => ?_)
  show Wg E [(a_H, .inr (0, [.int h_wide, .int h_high, .int h_walls, .int h_doors, .int h_law, .int h_lamps, .int h_people, .ref a_H_lampCell, .ref a_H_lampReach, .ref a_H_shine, .ref a_H_personCell, .ref a_H_wish, .ref a_H_side, .ref a_H_light, .ref a_H_leavers]))] 0 0 0 [(0, .ref a_H), (1, .int p0), (2, .int p1)] []
  unfold wp_X0_shineFrom at h
  refine q_aload_n (pc := 0) F 0 dX0_shineFrom_0 rfl ?_
  refine q_iconst (pc := 1) F (v := 1) dX0_shineFrom_1 (by decide) ?_
  refine q_iload_n (pc := 2) F 1 dX0_shineFrom_2 rfl ?_
  refine q_ishl (pc := 3) F dX0_shineFrom_3 ?_
  refine q_iconst (pc := 4) F (v := 1) dX0_shineFrom_4 (by decide) ?_
  refine q_aload_n (pc := 5) F 0 dX0_shineFrom_5 rfl ?_
  refine q_cR (q_runV (As := []) (rest := [.int (1 : Int32), .int (jshl (1 : Int32) p0), .ref a_H]) (pc := 6) F (fun l sz => ct_X0_cells D cI cZ a_H a_H_lampCell a_H_lampReach a_H_shine a_H_personCell a_H_wish a_H_side a_H_light a_H_leavers h_wide h_high h_walls h_doors h_law h_lamps h_people h l sz) mc_yX0_cells im_yX0_cells se_yX0_cells mlX0_80 ⟨by decide, by decide⟩ ⟨by decide, by decide⟩ ⟨rfl, rfl⟩ [0] rfl rfl rfl 0 rfl rfl rfl (Nat.le_of_ble_eq_true rfl) dX0_shineFrom_6) (fun r6 h => ?_)
  refine q_ishl (pc := 9) F dX0_shineFrom_9 ?_
  refine q_iconst (pc := 10) F (v := 1) dX0_shineFrom_10 (by decide) ?_
  refine q_isub (pc := 11) F dX0_shineFrom_11 ?_
  refine q_aload_n (pc := 12) F 0 dX0_shineFrom_12 rfl ?_
  refine q_get (pc := 13) F fgX0_43 0 rfl rfl dX0_shineFrom_13 ?_
  refine q_iconst (pc := 16) F (v := -1) dX0_shineFrom_16 (by decide) ?_
  refine q_ixor (pc := 17) F dX0_shineFrom_17 ?_
  refine q_iand (pc := 18) F dX0_shineFrom_18 ?_
  refine q_iload_n (pc := 19) F 2 dX0_shineFrom_19 rfl ?_
  refine q_cR (q_runV (As := [.int (jshl (1 : Int32) p0), .int (((jshl (1 : Int32) r6) - (1 : Int32)) &&& (h_walls ^^^ (-1 : Int32))), .int p1]) (rest := []) (pc := 20) F (fun l sz => ct_X0_spread D cI cZ a_H a_H_lampCell a_H_lampReach a_H_shine a_H_personCell a_H_wish a_H_side a_H_light a_H_leavers h_wide h_high h_walls h_doors h_law h_lamps h_people (jshl (1 : Int32) p0) (((jshl (1 : Int32) r6) - (1 : Int32)) &&& (h_walls ^^^ (-1 : Int32))) p1 h l sz) mc_yX0_spread im_yX0_spread se_yX0_spread mlX0_76 ⟨by decide, by decide⟩ ⟨by decide, by decide⟩ ⟨rfl, rfl⟩ [0] rfl rfl rfl 0 rfl rfl rfl (Nat.le_of_ble_eq_true rfl) dX0_shineFrom_20) (fun r20 h => ?_)
  exact q_iretR (pc := 23) F Z dX0_shineFrom_23 h

def wp_X0_lightOf_L4 (x1 : Int32) (h_shine : Nat → Int32) (post : Int32 → Prop) : Nat → Int32 → Int32 → Prop
  | 0, _, _ => False
  | n + 1, x2, x3 => (((7 : Int32) ≤ x3 → post x2) ∧ (¬ (7 : Int32) ≤ x3 → (wp_X4_bitOf x1 x3 (fun (r12 : Int32) => (jn (fun (K28 : Int32 → Prop) => ((r12 = (1 : Int32) → (vp_in x3 7 ∧ (∀ x2_27 : Int32, x2_27 = x2 ||| (h_shine (ix x3)) → K28 x2_27))) ∧ (¬ r12 = (1 : Int32) → K28 x2))) (fun (x2_28 : Int32) => wp_X0_lightOf_L4 x1 h_shine post n x2_28 (x3 + (1 : Int32))))))))
def wp_X0_lightOf (p0 : Int32) (h_shine : Nat → Int32) (post : Int32 → Prop) : Prop := (∃ n4 : Nat, wp_X0_lightOf_L4 p0 h_shine post n4 (0 : Int32) (0 : Int32))
abbrev rm_X0_lightOf : Room := { frames := 1, cells := 0, slots := 0, locals := 21 }
set_option maxRecDepth 100000 in
set_option maxHeartbeats 4000000 in
theorem ct_X0_lightOf (D : va_G) (cI cZ : ClassId) (a_H a_H_lampCell a_H_lampReach a_H_shine a_H_personCell a_H_wish a_H_side a_H_light a_H_leavers : Nat) (h_wide : Int32) (h_high : Int32) (h_walls : Int32) (h_doors : Int32) (h_law : Int32) (h_lamps : Int32) (h_people : Int32) (h_shine : Nat → Int32) (p0 : Int32) {post : Int32 → Prop} (h : wp_X0_lightOf p0 h_shine post) (l : Launch) (sz : Nat) : Met l yX0_lightOf (wsM yX0_lightOf cX0_lightOf 4 (some .int)) rm_X0_lightOf (va_Pc [.ref a_H, .int p0] (gP D cI cZ [(a_H, .inr (0, [.int h_wide, .int h_high, .int h_walls, .int h_doors, .int h_law, .int h_lamps, .int h_people, .ref a_H_lampCell, .ref a_H_lampReach, .ref a_H_shine, .ref a_H_personCell, .ref a_H_wish, .ref a_H_side, .ref a_H_light, .ref a_H_leavers])), (a_H_shine, .inl (cI, 7, .inl h_shine))] sz)) (gR post) 0 0 (fun _ => False) := by
  refine q_startR (own := RX0) (by decide +kernel) rfl (Nat.le_of_ble_eq_true rfl) (fun E F Z => ?_)
  show Wg E [(a_H, .inr (0, [.int h_wide, .int h_high, .int h_walls, .int h_doors, .int h_law, .int h_lamps, .int h_people, .ref a_H_lampCell, .ref a_H_lampReach, .ref a_H_shine, .ref a_H_personCell, .ref a_H_wish, .ref a_H_side, .ref a_H_light, .ref a_H_leavers])), (a_H_shine, .inl (cI, 7, .inl h_shine))] 0 0 0 [(0, .ref a_H), (1, .int p0)] []
  unfold wp_X0_lightOf at h
  refine q_iconst (pc := 0) F (v := 0) dX0_lightOf_0 (by decide) ?_
  refine q_istore_n (pc := 1) F (lv' := [(2, .int (0 : Int32)), (0, .ref a_H), (1, .int p0)]) dX0_lightOf_1 (by decide) rfl ?_
  refine q_iconst (pc := 2) F (v := 0) dX0_lightOf_2 (by decide) ?_
  refine q_istore_n (pc := 3) F (lv' := [(3, .int (0 : Int32)), (2, .int (0 : Int32)), (0, .ref a_H), (1, .int p0)]) dX0_lightOf_3 (by decide) rfl ?_
  obtain ⟨n4, h⟩ := h
  have lp4 : ∀ (n : Nat) (x2_h4 : Int32) (x3_h4 : Int32), wp_X0_lightOf_L4 p0 h_shine post n x2_h4 x3_h4 → Wg E [(a_H, .inr (0, [.int h_wide, .int h_high, .int h_walls, .int h_doors, .int h_law, .int h_lamps, .int h_people, .ref a_H_lampCell, .ref a_H_lampReach, .ref a_H_shine, .ref a_H_personCell, .ref a_H_wish, .ref a_H_side, .ref a_H_light, .ref a_H_leavers])), (a_H_shine, .inl (cI, 7, .inl h_shine))] 0 0 4 [(0, .ref a_H), (1, .int p0), (2, .int x2_h4), (3, .int x3_h4)] [] := by
    intro n
    induction n with
    | zero => intro x2_h4 x3_h4 h; exact h.elim
    | succ n ih =>
      intro x2_h4 x3_h4 h
      unfold wp_X0_lightOf_L4 at h
      refine q_iload_n (pc := 4) F 3 dX0_lightOf_4 rfl ?_
      refine q_bipush (pc := 5) F (v := 7) dX0_lightOf_5 (by decide) ?_
      refine q_icmp_ge (pc := 7) (tgt := 34) F dX0_lightOf_7 (by decide) (fun c7 => ?_) (fun c7 => ?_)
      · have h := h.1 c7
        refine q_iload_n (pc := 34) F 2 dX0_lightOf_34 rfl ?_
        exact q_iretR (pc := 35) F Z dX0_lightOf_35 h
      · have h := h.2 c7
        refine q_iload_n (pc := 10) F 1 dX0_lightOf_10 rfl ?_
        refine q_iload_n (pc := 11) F 3 dX0_lightOf_11 rfl ?_
        refine q_cR (q_runSN (As := [.int p0, .int x3_h4]) (rest := []) (pc := 12) F (fun l sz => ct_X4_bitOf D cI cZ p0 x3_h4 h l sz) mc_yX4_bitOf sm_yX4_bitOf (fun U h => h.2.2.2.1) ⟨by decide, by decide⟩ ⟨by decide, by decide⟩ ⟨rfl, rfl⟩ [] rfl rfl rfl rfl (Nat.le_of_ble_eq_true rfl) dX0_lightOf_12) (fun r12 h => ?_)
        refine q_iconst (pc := 15) F (v := 1) dX0_lightOf_15 (by decide) ?_
        refine jnW h (fun K => ∀ (x2_28 : Int32), K x2_28 → Wg E [(a_H, .inr (0, [.int h_wide, .int h_high, .int h_walls, .int h_doors, .int h_law, .int h_lamps, .int h_people, .ref a_H_lampCell, .ref a_H_lampReach, .ref a_H_shine, .ref a_H_personCell, .ref a_H_wish, .ref a_H_side, .ref a_H_light, .ref a_H_leavers])), (a_H_shine, .inl (cI, 7, .inl h_shine))] 0 0 28 [(0, .ref a_H), (1, .int p0), (2, .int x2_28), (3, .int x3_h4)] []) ?_ ?_
        · intro x2_28 h
          refine q_iinc (pc := 28) F (v := x3_h4 + (1 : Int32)) (lv' := [(3, .int (x3_h4 + (1 : Int32))), (0, .ref a_H), (1, .int p0), (2, .int x2_28)]) 3 dX0_lightOf_28 rfl rfl (by decide) rfl ?_
          refine q_goto (pc := 31) (tgt := 4) F dX0_lightOf_31 (by decide) ?_
          refine q_lv (lv' := [(0, .ref a_H), (1, .int p0), (2, .int x2_28), (3, .int (x3_h4 + (1 : Int32)))]) [1, 2, 3, 0] rfl ?_
          exact ih x2_28 (x3_h4 + (1 : Int32)) h
        · intro K28 J28 h
          refine q_icmp_ne (pc := 16) (tgt := 28) F dX0_lightOf_16 (by decide) (fun c16 => ?_) (fun c16 => ?_)
          · have h := h.2 c16
            exact J28 x2_h4 h
          · have h := h.1 c16
            refine q_iload_n (pc := 19) F 2 dX0_lightOf_19 rfl ?_
            refine q_aload_n (pc := 20) F 0 dX0_lightOf_20 rfl ?_
            refine q_get (pc := 21) F fgX0_25 0 rfl rfl dX0_lightOf_21 ?_
            refine q_iload_n (pc := 24) F 3 dX0_lightOf_24 rfl ?_
            obtain ⟨hi25, h⟩ := h
            refine q_iald (pc := 25) F 1 rfl hi25 dX0_lightOf_25 ?_
            refine q_ior (pc := 26) F dX0_lightOf_26 ?_
            refine q_topi (fun x2_27 ex2_27 => ?_)
            have h := h x2_27 ex2_27
            refine q_istore_n (pc := 27) F (lv' := [(2, .int x2_27), (0, .ref a_H), (1, .int p0), (3, .int x3_h4)]) dX0_lightOf_27 (by decide) rfl ?_
            refine q_lv (lv' := [(0, .ref a_H), (1, .int p0), (2, .int x2_27), (3, .int x3_h4)]) [1, 2, 0, 3] rfl ?_
            exact J28 x2_27 h
  refine q_lv (lv' := [(0, .ref a_H), (1, .int p0), (2, .int (0 : Int32)), (3, .int (0 : Int32))]) [2, 3, 1, 0] rfl ?_
  exact lp4 n4 (0 : Int32) (0 : Int32) h

def wp_X0_leaversIn_L31 (x2 : Int32) (h_people : Int32) (h_personCell : Nat → Int32) (post : Int32 → Prop) : Nat → Int32 → Int32 → Prop
  | 0, _, _ => False
  | n + 1, x3, x4 => ((h_people ≤ x4 → post x3) ∧ (¬ h_people ≤ x4 → (vp_in x4 6 ∧ (wp_X4_bitOf x2 (h_personCell (ix x4)) (fun (r49 : Int32) => (∀ x3_56 : Int32, x3_56 = x3 ||| (jshl r49 x4) → wp_X0_leaversIn_L31 x2 h_people h_personCell post n x3_56 (x4 + (1 : Int32))))))))
def wp_X0_leaversIn (p0 : Int32) (h_wide : Int32) (h_high : Int32) (h_doors : Int32) (h_law : Int32) (h_people : Int32) (h_personCell : Nat → Int32) (post : Int32 → Prop) : Prop := (jn (fun (K25 : Int32 → Prop) => ((h_law = (1 : Int32) → (wp_X0_spread (h_doors &&& p0) p0 (12 : Int32) h_wide h_high (fun (r18 : Int32) => K25 r18))) ∧ (¬ h_law = (1 : Int32) → K25 p0))) (fun (y25 : Int32) => (∃ n31 : Nat, wp_X0_leaversIn_L31 y25 h_people h_personCell post n31 (0 : Int32) (0 : Int32))))
abbrev rm_X0_leaversIn : Room := { frames := 2, cells := 0, slots := 0, locals := 51 }
set_option maxRecDepth 100000 in
set_option maxHeartbeats 4000000 in
theorem ct_X0_leaversIn (D : va_G) (cI cZ : ClassId) (a_H a_H_lampCell a_H_lampReach a_H_shine a_H_personCell a_H_wish a_H_side a_H_light a_H_leavers : Nat) (h_wide : Int32) (h_high : Int32) (h_walls : Int32) (h_doors : Int32) (h_law : Int32) (h_lamps : Int32) (h_people : Int32) (h_personCell : Nat → Int32) (p0 : Int32) {post : Int32 → Prop} (h : wp_X0_leaversIn p0 h_wide h_high h_doors h_law h_people h_personCell post) (l : Launch) (sz : Nat) : Met l yX0_leaversIn (wsM yX0_leaversIn cX0_leaversIn 5 (some .int)) rm_X0_leaversIn (va_Pc [.ref a_H, .int p0] (gP D cI cZ [(a_H, .inr (0, [.int h_wide, .int h_high, .int h_walls, .int h_doors, .int h_law, .int h_lamps, .int h_people, .ref a_H_lampCell, .ref a_H_lampReach, .ref a_H_shine, .ref a_H_personCell, .ref a_H_wish, .ref a_H_side, .ref a_H_light, .ref a_H_leavers])), (a_H_personCell, .inl (cI, 6, .inl h_personCell))] sz)) (gR post) 0 0 (fun _ => False) := by
  refine q_startR (own := RX0) (by decide +kernel) rfl (Nat.le_of_ble_eq_true rfl) (fun E F Z => ?_)
  show Wg E [(a_H, .inr (0, [.int h_wide, .int h_high, .int h_walls, .int h_doors, .int h_law, .int h_lamps, .int h_people, .ref a_H_lampCell, .ref a_H_lampReach, .ref a_H_shine, .ref a_H_personCell, .ref a_H_wish, .ref a_H_side, .ref a_H_light, .ref a_H_leavers])), (a_H_personCell, .inl (cI, 6, .inl h_personCell))] 0 0 0 [(0, .ref a_H), (1, .int p0)] []
  unfold wp_X0_leaversIn at h
  refine q_aload_n (pc := 0) F 0 dX0_leaversIn_0 rfl ?_
  refine q_get (pc := 1) F fgX0_49 0 rfl rfl dX0_leaversIn_1 ?_
  refine q_iconst (pc := 4) F (v := 1) dX0_leaversIn_4 (by decide) ?_
  refine jnW h (fun K => ∀ (y25 : Int32), K y25 → Wg E [(a_H, .inr (0, [.int h_wide, .int h_high, .int h_walls, .int h_doors, .int h_law, .int h_lamps, .int h_people, .ref a_H_lampCell, .ref a_H_lampReach, .ref a_H_shine, .ref a_H_personCell, .ref a_H_wish, .ref a_H_side, .ref a_H_light, .ref a_H_leavers])), (a_H_personCell, .inl (cI, 6, .inl h_personCell))] 0 0 25 [(0, .ref a_H)] [.int y25]) ?_ ?_
  · intro y25 h
    refine q_istore_n (pc := 25) F (lv' := [(2, .int y25), (0, .ref a_H)]) dX0_leaversIn_25 (by decide) rfl ?_
    refine q_iconst (pc := 26) F (v := 0) dX0_leaversIn_26 (by decide) ?_
    refine q_istore_n (pc := 27) F (lv' := [(3, .int (0 : Int32)), (2, .int y25), (0, .ref a_H)]) dX0_leaversIn_27 (by decide) rfl ?_
    refine q_iconst (pc := 28) F (v := 0) dX0_leaversIn_28 (by decide) ?_
    refine q_istore (pc := 29) F (lv' := [(4, .int (0 : Int32)), (3, .int (0 : Int32)), (2, .int y25), (0, .ref a_H)]) dX0_leaversIn_29 (by decide) rfl ?_
    obtain ⟨n31, h⟩ := h
    have lp31 : ∀ (n : Nat) (x3_h31 : Int32) (x4_h31 : Int32), wp_X0_leaversIn_L31 y25 h_people h_personCell post n x3_h31 x4_h31 → Wg E [(a_H, .inr (0, [.int h_wide, .int h_high, .int h_walls, .int h_doors, .int h_law, .int h_lamps, .int h_people, .ref a_H_lampCell, .ref a_H_lampReach, .ref a_H_shine, .ref a_H_personCell, .ref a_H_wish, .ref a_H_side, .ref a_H_light, .ref a_H_leavers])), (a_H_personCell, .inl (cI, 6, .inl h_personCell))] 0 0 31 [(0, .ref a_H), (2, .int y25), (3, .int x3_h31), (4, .int x4_h31)] [] := by
      intro n
      induction n with
      | zero => intro x3_h31 x4_h31 h; exact h.elim
      | succ n ih =>
        intro x3_h31 x4_h31 h
        unfold wp_X0_leaversIn_L31 at h
        refine q_iload (pc := 31) F 3 dX0_leaversIn_31 rfl ?_
        refine q_aload_n (pc := 33) F 0 dX0_leaversIn_33 rfl ?_
        refine q_get (pc := 34) F fgX0_55 0 rfl rfl dX0_leaversIn_34 ?_
        refine q_icmp_ge (pc := 37) (tgt := 63) F dX0_leaversIn_37 (by decide) (fun c37 => ?_) (fun c37 => ?_)
        · have h := h.1 c37
          refine q_iload_n (pc := 63) F 2 dX0_leaversIn_63 rfl ?_
          exact q_iretR (pc := 64) F Z dX0_leaversIn_64 h
        · have h := h.2 c37
          refine q_iload_n (pc := 40) F 2 dX0_leaversIn_40 rfl ?_
          refine q_iload_n (pc := 41) F 1 dX0_leaversIn_41 rfl ?_
          refine q_aload_n (pc := 42) F 0 dX0_leaversIn_42 rfl ?_
          refine q_get (pc := 43) F fgX0_28 0 rfl rfl dX0_leaversIn_43 ?_
          refine q_iload (pc := 46) F 3 dX0_leaversIn_46 rfl ?_
          obtain ⟨hi48, h⟩ := h
          refine q_iald (pc := 48) F 1 rfl hi48 dX0_leaversIn_48 ?_
          refine q_cR (q_runSN (As := [.int y25, .int (h_personCell (ix x4_h31))]) (rest := [.int x3_h31]) (pc := 49) F (fun l sz => ct_X4_bitOf D cI cZ y25 (h_personCell (ix x4_h31)) h l sz) mc_yX4_bitOf sm_yX4_bitOf (fun U h => h.2.2.2.1) ⟨by decide, by decide⟩ ⟨by decide, by decide⟩ ⟨rfl, rfl⟩ [] rfl rfl rfl rfl (Nat.le_of_ble_eq_true rfl) dX0_leaversIn_49) (fun r49 h => ?_)
          refine q_iload (pc := 52) F 3 dX0_leaversIn_52 rfl ?_
          refine q_ishl (pc := 54) F dX0_leaversIn_54 ?_
          refine q_ior (pc := 55) F dX0_leaversIn_55 ?_
          refine q_topi (fun x3_56 ex3_56 => ?_)
          have h := h x3_56 ex3_56
          refine q_istore_n (pc := 56) F (lv' := [(3, .int x3_56), (0, .ref a_H), (2, .int y25), (4, .int x4_h31)]) dX0_leaversIn_56 (by decide) rfl ?_
          refine q_iinc (pc := 57) F (v := x4_h31 + (1 : Int32)) (lv' := [(4, .int (x4_h31 + (1 : Int32))), (3, .int x3_56), (0, .ref a_H), (2, .int y25)]) 3 dX0_leaversIn_57 rfl rfl (by decide) rfl ?_
          refine q_goto (pc := 60) (tgt := 31) F dX0_leaversIn_60 (by decide) ?_
          refine q_lv (lv' := [(0, .ref a_H), (2, .int y25), (3, .int x3_56), (4, .int (x4_h31 + (1 : Int32)))]) [2, 3, 1, 0] rfl ?_
          exact ih x3_56 (x4_h31 + (1 : Int32)) h
    refine q_lv (lv' := [(0, .ref a_H), (2, .int y25), (3, .int (0 : Int32)), (4, .int (0 : Int32))]) [3, 2, 1, 0] rfl ?_
    exact lp31 n31 (0 : Int32) (0 : Int32) h
  · intro K25 J25 h
    refine q_icmp_ne (pc := 5) (tgt := 24) F dX0_leaversIn_5 (by decide) (fun c5 => ?_) (fun c5 => ?_)
    · have h := h.2 c5
      refine q_iload_n (pc := 24) F 1 dX0_leaversIn_24 rfl ?_
      refine q_lv (lv' := [(0, .ref a_H)]) [0] rfl ?_
      exact J25 p0 h
    · have h := h.1 c5
      refine q_aload_n (pc := 8) F 0 dX0_leaversIn_8 rfl ?_
      refine q_aload_n (pc := 9) F 0 dX0_leaversIn_9 rfl ?_
      refine q_get (pc := 10) F fgX0_46 0 rfl rfl dX0_leaversIn_10 ?_
      refine q_iload_n (pc := 13) F 1 dX0_leaversIn_13 rfl ?_
      refine q_iand (pc := 14) F dX0_leaversIn_14 ?_
      refine q_iload_n (pc := 15) F 1 dX0_leaversIn_15 rfl ?_
      refine q_bipush (pc := 16) F (v := 12) dX0_leaversIn_16 (by decide) ?_
      refine q_cR (q_runV (As := [.int (h_doors &&& p0), .int p0, .int (12 : Int32)]) (rest := []) (pc := 18) F (fun l sz => ct_X0_spread D cI cZ a_H a_H_lampCell a_H_lampReach a_H_shine a_H_personCell a_H_wish a_H_side a_H_light a_H_leavers h_wide h_high h_walls h_doors h_law h_lamps h_people (h_doors &&& p0) p0 (12 : Int32) h l sz) mc_yX0_spread im_yX0_spread se_yX0_spread mlX0_76 ⟨by decide, by decide⟩ ⟨by decide, by decide⟩ ⟨rfl, rfl⟩ [0] rfl rfl rfl 0 rfl rfl rfl (Nat.le_of_ble_eq_true rfl) dX0_leaversIn_18) (fun r18 h => ?_)
      refine q_goto (pc := 21) (tgt := 25) F dX0_leaversIn_21 (by decide) ?_
      refine q_lv (lv' := [(0, .ref a_H)]) [0] rfl ?_
      exact J25 r18 h

def wp_X0_fillLight_L2 (x2 : Int32) (h_wide : Int32) (h_high : Int32) (h_doors : Int32) (h_law : Int32) (h_people : Int32) (h_shine : Nat → Int32) (h_personCell : Nat → Int32) (post : (Nat → Int32) → (Nat → Int32) → Prop) : Nat → Int32 → (Nat → Int32) → (Nat → Int32) → Prop
  | 0, _, _, _ => False
  | n + 1, x3, h_light, h_leavers => ((x2 ≤ x3 → post h_light h_leavers) ∧ (¬ x2 ≤ x3 → (wp_X0_lightOf x3 h_shine (fun (r14 : Int32) => (vp_in x3 128 ∧ (vp_in x3 128 ∧ (wp_X0_leaversIn ((upd h_light (ix x3) r14) (ix x3)) h_wide h_high h_doors h_law h_people h_personCell (fun (r30 : Int32) => (vp_in x3 128 ∧ wp_X0_fillLight_L2 x2 h_wide h_high h_doors h_law h_people h_shine h_personCell post n (x3 + (1 : Int32)) (upd h_light (ix x3) r14) (upd h_leavers (ix x3) r30))))))))))
def wp_X0_fillLight (p0 : Int32) (p1 : Int32) (h_wide : Int32) (h_high : Int32) (h_doors : Int32) (h_law : Int32) (h_people : Int32) (h_shine : Nat → Int32) (h_personCell : Nat → Int32) (h_light : Nat → Int32) (h_leavers : Nat → Int32) (post : (Nat → Int32) → (Nat → Int32) → Prop) : Prop := (∃ n2 : Nat, wp_X0_fillLight_L2 p1 h_wide h_high h_doors h_law h_people h_shine h_personCell post n2 p0 h_light h_leavers)
abbrev rm_X0_fillLight : Room := { frames := 3, cells := 0, slots := 0, locals := 75 }
set_option maxRecDepth 100000 in
set_option maxHeartbeats 4000000 in
theorem ct_X0_fillLight (D : va_G) (cI cZ : ClassId) (a_H a_H_lampCell a_H_lampReach a_H_shine a_H_personCell a_H_wish a_H_side a_H_light a_H_leavers : Nat) (h_wide : Int32) (h_high : Int32) (h_walls : Int32) (h_doors : Int32) (h_law : Int32) (h_lamps : Int32) (h_people : Int32) (h_shine : Nat → Int32) (h_personCell : Nat → Int32) (h_light : Nat → Int32) (h_leavers : Nat → Int32) (p0 : Int32) (p1 : Int32) {post : (Nat → Int32) → (Nat → Int32) → Prop} (h : wp_X0_fillLight p0 p1 h_wide h_high h_doors h_law h_people h_shine h_personCell h_light h_leavers post) (l : Launch) (sz : Nat) : Met l yX0_fillLight (wsM yX0_fillLight cX0_fillLight 4 none) rm_X0_fillLight (va_Pc [.ref a_H, .int p0, .int p1] (gP D cI cZ [(a_H, .inr (0, [.int h_wide, .int h_high, .int h_walls, .int h_doors, .int h_law, .int h_lamps, .int h_people, .ref a_H_lampCell, .ref a_H_lampReach, .ref a_H_shine, .ref a_H_personCell, .ref a_H_wish, .ref a_H_side, .ref a_H_light, .ref a_H_leavers])), (a_H_shine, .inl (cI, 7, .inl h_shine)), (a_H_personCell, .inl (cI, 6, .inl h_personCell)), (a_H_light, .inl (cI, 128, .inl h_light)), (a_H_leavers, .inl (cI, 128, .inl h_leavers))] sz)) (gQv D (fun (u : (Nat → Int32) × (Nat → Int32)) => post u.1 u.2) (fun (u : (Nat → Int32) × (Nat → Int32)) => [(a_H, .inr (0, [.int h_wide, .int h_high, .int h_walls, .int h_doors, .int h_law, .int h_lamps, .int h_people, .ref a_H_lampCell, .ref a_H_lampReach, .ref a_H_shine, .ref a_H_personCell, .ref a_H_wish, .ref a_H_side, .ref a_H_light, .ref a_H_leavers])), (a_H_shine, .inl (cI, 7, .inl h_shine)), (a_H_personCell, .inl (cI, 6, .inl h_personCell)), (a_H_light, .inl (cI, 128, .inl u.1)), (a_H_leavers, .inl (cI, 128, .inl u.2))]) [(a_H, .inr (0, [.int h_wide, .int h_high, .int h_walls, .int h_doors, .int h_law, .int h_lamps, .int h_people, .ref a_H_lampCell, .ref a_H_lampReach, .ref a_H_shine, .ref a_H_personCell, .ref a_H_wish, .ref a_H_side, .ref a_H_light, .ref a_H_leavers])), (a_H_shine, .inl (cI, 7, .inl h_shine)), (a_H_personCell, .inl (cI, 6, .inl h_personCell)), (a_H_light, .inl (cI, 128, .inl h_light)), (a_H_leavers, .inl (cI, 128, .inl h_leavers))] sz) 0 0 (va_A [(a_H, .inr (0, [.int h_wide, .int h_high, .int h_walls, .int h_doors, .int h_law, .int h_lamps, .int h_people, .ref a_H_lampCell, .ref a_H_lampReach, .ref a_H_shine, .ref a_H_personCell, .ref a_H_wish, .ref a_H_side, .ref a_H_light, .ref a_H_leavers])), (a_H_shine, .inl (cI, 7, .inl h_shine)), (a_H_personCell, .inl (cI, 6, .inl h_personCell)), (a_H_light, .inl (cI, 128, .inl h_light)), (a_H_leavers, .inl (cI, 128, .inl h_leavers))] sz) := by
  refine q_startM (own := RX0) (Qc := gQv D (fun (u : (Nat → Int32) × (Nat → Int32)) => post u.1 u.2) (fun (u : (Nat → Int32) × (Nat → Int32)) => [(a_H, .inr (0, [.int h_wide, .int h_high, .int h_walls, .int h_doors, .int h_law, .int h_lamps, .int h_people, .ref a_H_lampCell, .ref a_H_lampReach, .ref a_H_shine, .ref a_H_personCell, .ref a_H_wish, .ref a_H_side, .ref a_H_light, .ref a_H_leavers])), (a_H_shine, .inl (cI, 7, .inl h_shine)), (a_H_personCell, .inl (cI, 6, .inl h_personCell)), (a_H_light, .inl (cI, 128, .inl u.1)), (a_H_leavers, .inl (cI, 128, .inl u.2))]) [(a_H, .inr (0, [.int h_wide, .int h_high, .int h_walls, .int h_doors, .int h_law, .int h_lamps, .int h_people, .ref a_H_lampCell, .ref a_H_lampReach, .ref a_H_shine, .ref a_H_personCell, .ref a_H_wish, .ref a_H_side, .ref a_H_light, .ref a_H_leavers])), (a_H_shine, .inl (cI, 7, .inl h_shine)), (a_H_personCell, .inl (cI, 6, .inl h_personCell)), (a_H_light, .inl (cI, 128, .inl h_light)), (a_H_leavers, .inl (cI, 128, .inl h_leavers))]) (by decide +kernel) rfl (Nat.le_of_ble_eq_true rfl) (fun E F Z M => ?_)
  show Wg E [(a_H, .inr (0, [.int h_wide, .int h_high, .int h_walls, .int h_doors, .int h_law, .int h_lamps, .int h_people, .ref a_H_lampCell, .ref a_H_lampReach, .ref a_H_shine, .ref a_H_personCell, .ref a_H_wish, .ref a_H_side, .ref a_H_light, .ref a_H_leavers])), (a_H_shine, .inl (cI, 7, .inl h_shine)), (a_H_personCell, .inl (cI, 6, .inl h_personCell)), (a_H_light, .inl (cI, 128, .inl h_light)), (a_H_leavers, .inl (cI, 128, .inl h_leavers))] 0 0 0 [(0, .ref a_H), (1, .int p0), (2, .int p1)] []
  unfold wp_X0_fillLight at h
  refine q_iload_n (pc := 0) F 1 dX0_fillLight_0 rfl ?_
  refine q_istore_n (pc := 1) F (lv' := [(3, .int p0), (0, .ref a_H), (1, .int p0), (2, .int p1)]) dX0_fillLight_1 (by decide) rfl ?_
  obtain ⟨n2, h⟩ := h
  have lp2 : ∀ (n : Nat) (x3_h2 : Int32) (h_light_h2 : Nat → Int32) (h_leavers_h2 : Nat → Int32), wp_X0_fillLight_L2 p1 h_wide h_high h_doors h_law h_people h_shine h_personCell post n x3_h2 h_light_h2 h_leavers_h2 → Wg E [(a_H, .inr (0, [.int h_wide, .int h_high, .int h_walls, .int h_doors, .int h_law, .int h_lamps, .int h_people, .ref a_H_lampCell, .ref a_H_lampReach, .ref a_H_shine, .ref a_H_personCell, .ref a_H_wish, .ref a_H_side, .ref a_H_light, .ref a_H_leavers])), (a_H_shine, .inl (cI, 7, .inl h_shine)), (a_H_personCell, .inl (cI, 6, .inl h_personCell)), (a_H_light, .inl (cI, 128, .inl h_light_h2)), (a_H_leavers, .inl (cI, 128, .inl h_leavers_h2))] 0 0 2 [(0, .ref a_H), (2, .int p1), (3, .int x3_h2)] [] := by
    intro n
    induction n with
    | zero => intro x3_h2 h_light_h2 h_leavers_h2 h; exact h.elim
    | succ n ih =>
      intro x3_h2 h_light_h2 h_leavers_h2 h
      unfold wp_X0_fillLight_L2 at h
      refine q_iload_n (pc := 2) F 2 dX0_fillLight_2 rfl ?_
      refine q_iload_n (pc := 3) F 1 dX0_fillLight_3 rfl ?_
      refine q_icmp_ge (pc := 4) (tgt := 40) F dX0_fillLight_4 (by decide) (fun c4 => ?_) (fun c4 => ?_)
      · have h := h.1 c4
        exact q_vretM (pc := 40) F Z dX0_fillLight_40 (h_light_h2, h_leavers_h2) h rfl
      · have h := h.2 c4
        refine q_aload_n (pc := 7) F 0 dX0_fillLight_7 rfl ?_
        refine q_get (pc := 8) F fgX0_37 0 rfl rfl dX0_fillLight_8 ?_
        refine q_iload_n (pc := 11) F 2 dX0_fillLight_11 rfl ?_
        refine q_aload_n (pc := 12) F 0 dX0_fillLight_12 rfl ?_
        refine q_iload_n (pc := 13) F 2 dX0_fillLight_13 rfl ?_
        refine q_cR (q_runV (As := [.int x3_h2]) (rest := [.int x3_h2, .ref a_H_light]) (pc := 14) F (fun l sz => ct_X0_lightOf D cI cZ a_H a_H_lampCell a_H_lampReach a_H_shine a_H_personCell a_H_wish a_H_side a_H_light a_H_leavers h_wide h_high h_walls h_doors h_law h_lamps h_people h_shine x3_h2 h l sz) mc_yX0_lightOf im_yX0_lightOf se_yX0_lightOf mlX0_66 ⟨by decide, by decide⟩ ⟨by decide, by decide⟩ ⟨rfl, rfl⟩ [0, 1] rfl rfl rfl 0 rfl rfl rfl (Nat.le_of_ble_eq_true rfl) dX0_fillLight_14) (fun r14 h => ?_)
        obtain ⟨hi17, h⟩ := h
        refine q_iast (pc := 17) F M (cs' := [(a_H, .inr (0, [.int h_wide, .int h_high, .int h_walls, .int h_doors, .int h_law, .int h_lamps, .int h_people, .ref a_H_lampCell, .ref a_H_lampReach, .ref a_H_shine, .ref a_H_personCell, .ref a_H_wish, .ref a_H_side, .ref a_H_light, .ref a_H_leavers])), (a_H_shine, .inl (cI, 7, .inl h_shine)), (a_H_personCell, .inl (cI, 6, .inl h_personCell)), (a_H_light, .inl (cI, 128, .inl (upd h_light_h2 (ix x3_h2) r14))), (a_H_leavers, .inl (cI, 128, .inl h_leavers_h2))]) 3 rfl hi17 rfl dX0_fillLight_17 ?_
        refine q_aload_n (pc := 18) F 0 dX0_fillLight_18 rfl ?_
        refine q_get (pc := 19) F fgX0_40 0 rfl rfl dX0_fillLight_19 ?_
        refine q_iload_n (pc := 22) F 2 dX0_fillLight_22 rfl ?_
        refine q_aload_n (pc := 23) F 0 dX0_fillLight_23 rfl ?_
        refine q_aload_n (pc := 24) F 0 dX0_fillLight_24 rfl ?_
        refine q_get (pc := 25) F fgX0_37 0 rfl rfl dX0_fillLight_25 ?_
        refine q_iload_n (pc := 28) F 2 dX0_fillLight_28 rfl ?_
        obtain ⟨hi29, h⟩ := h
        refine q_iald (pc := 29) F 3 rfl hi29 dX0_fillLight_29 ?_
        refine q_cR (q_runV (As := [.int ((upd h_light_h2 (ix x3_h2) r14) (ix x3_h2))]) (rest := [.int x3_h2, .ref a_H_leavers]) (pc := 30) F (fun l sz => ct_X0_leaversIn D cI cZ a_H a_H_lampCell a_H_lampReach a_H_shine a_H_personCell a_H_wish a_H_side a_H_light a_H_leavers h_wide h_high h_walls h_doors h_law h_lamps h_people h_personCell ((upd h_light_h2 (ix x3_h2) r14) (ix x3_h2)) h l sz) mc_yX0_leaversIn im_yX0_leaversIn se_yX0_leaversIn mlX0_70 ⟨by decide, by decide⟩ ⟨by decide, by decide⟩ ⟨rfl, rfl⟩ [0, 2] rfl rfl rfl 0 rfl rfl rfl (Nat.le_of_ble_eq_true rfl) dX0_fillLight_30) (fun r30 h => ?_)
        obtain ⟨hi33, h⟩ := h
        refine q_iast (pc := 33) F M (cs' := [(a_H, .inr (0, [.int h_wide, .int h_high, .int h_walls, .int h_doors, .int h_law, .int h_lamps, .int h_people, .ref a_H_lampCell, .ref a_H_lampReach, .ref a_H_shine, .ref a_H_personCell, .ref a_H_wish, .ref a_H_side, .ref a_H_light, .ref a_H_leavers])), (a_H_shine, .inl (cI, 7, .inl h_shine)), (a_H_personCell, .inl (cI, 6, .inl h_personCell)), (a_H_light, .inl (cI, 128, .inl (upd h_light_h2 (ix x3_h2) r14))), (a_H_leavers, .inl (cI, 128, .inl (upd h_leavers_h2 (ix x3_h2) r30)))]) 4 rfl hi33 rfl dX0_fillLight_33 ?_
        refine q_iinc (pc := 34) F (v := x3_h2 + (1 : Int32)) (lv' := [(3, .int (x3_h2 + (1 : Int32))), (0, .ref a_H), (2, .int p1)]) 2 dX0_fillLight_34 rfl rfl (by decide) rfl ?_
        refine q_goto (pc := 37) (tgt := 2) F dX0_fillLight_37 (by decide) ?_
        refine q_lv (lv' := [(0, .ref a_H), (2, .int p1), (3, .int (x3_h2 + (1 : Int32)))]) [1, 2, 0] rfl ?_
        exact ih (x3_h2 + (1 : Int32)) (upd h_light_h2 (ix x3_h2) r14) (upd h_leavers_h2 (ix x3_h2) r30) h
  refine q_lv (lv' := [(0, .ref a_H), (2, .int p1), (3, .int p0)]) [1, 3, 0] rfl ?_
  exact lp2 n2 p0 h_light h_leavers h

def wp_X0_lightUp_L2 (h_wide : Int32) (h_high : Int32) (h_walls : Int32) (h_lamps : Int32) (h_lampCell : Nat → Int32) (h_lampReach : Nat → Int32) (K38 : (Nat → Int32) → Prop) : Nat → Int32 → (Nat → Int32) → Prop
  | 0, _, _ => False
  | n + 1, x1, h_shine => ((h_lamps ≤ x1 → K38 h_shine) ∧ (¬ h_lamps ≤ x1 → (vp_in x1 6 ∧ (vp_in x1 6 ∧ (wp_X0_shineFrom (h_lampCell (ix x1)) (h_lampReach (ix x1)) h_wide h_high h_walls (fun (r28 : Int32) => (vp_in x1 7 ∧ wp_X0_lightUp_L2 h_wide h_high h_walls h_lamps h_lampCell h_lampReach K38 n (x1 + (1 : Int32)) (upd h_shine (ix x1) r28))))))))
def wp_X0_lightUp (h_wide : Int32) (h_high : Int32) (h_walls : Int32) (h_doors : Int32) (h_law : Int32) (h_lamps : Int32) (h_people : Int32) (h_lampCell : Nat → Int32) (h_lampReach : Nat → Int32) (h_shine : Nat → Int32) (h_personCell : Nat → Int32) (h_light : Nat → Int32) (h_leavers : Nat → Int32) (post : (Nat → Int32) → (Nat → Int32) → (Nat → Int32) → Prop) : Prop := (jn (fun (K38 : (Nat → Int32) → Prop) => (∃ n2 : Nat, wp_X0_lightUp_L2 h_wide h_high h_walls h_lamps h_lampCell h_lampReach K38 n2 (0 : Int32) h_shine)) (fun (h_shine_38 : Nat → Int32) => (wp_X0_fillLight (0 : Int32) (jshl (1 : Int32) h_lamps) h_wide h_high h_doors h_law h_people h_shine_38 h_personCell h_light h_leavers (fun (h_light_46 : Nat → Int32) (h_leavers_46 : Nat → Int32) => post h_shine_38 h_light_46 h_leavers_46))))
abbrev rm_X0_lightUp : Room := { frames := 4, cells := 0, slots := 0, locals := 98 }
set_option maxRecDepth 100000 in
set_option maxHeartbeats 4000000 in
theorem ct_X0_lightUp (D : va_G) (cI cZ : ClassId) (a_H a_H_lampCell a_H_lampReach a_H_shine a_H_personCell a_H_wish a_H_side a_H_light a_H_leavers : Nat) (h_wide : Int32) (h_high : Int32) (h_walls : Int32) (h_doors : Int32) (h_law : Int32) (h_lamps : Int32) (h_people : Int32) (h_lampCell : Nat → Int32) (h_lampReach : Nat → Int32) (h_shine : Nat → Int32) (h_personCell : Nat → Int32) (h_light : Nat → Int32) (h_leavers : Nat → Int32) {post : (Nat → Int32) → (Nat → Int32) → (Nat → Int32) → Prop} (h : wp_X0_lightUp h_wide h_high h_walls h_doors h_law h_lamps h_people h_lampCell h_lampReach h_shine h_personCell h_light h_leavers post) (l : Launch) (sz : Nat) : Met l yX0_lightUp (wsM yX0_lightUp cX0_lightUp 2 none) rm_X0_lightUp (va_Pc [.ref a_H] (gP D cI cZ [(a_H, .inr (0, [.int h_wide, .int h_high, .int h_walls, .int h_doors, .int h_law, .int h_lamps, .int h_people, .ref a_H_lampCell, .ref a_H_lampReach, .ref a_H_shine, .ref a_H_personCell, .ref a_H_wish, .ref a_H_side, .ref a_H_light, .ref a_H_leavers])), (a_H_lampCell, .inl (cI, 6, .inl h_lampCell)), (a_H_lampReach, .inl (cI, 6, .inl h_lampReach)), (a_H_shine, .inl (cI, 7, .inl h_shine)), (a_H_personCell, .inl (cI, 6, .inl h_personCell)), (a_H_light, .inl (cI, 128, .inl h_light)), (a_H_leavers, .inl (cI, 128, .inl h_leavers))] sz)) (gQv D (fun (u : (Nat → Int32) × (Nat → Int32) × (Nat → Int32)) => post u.1 u.2.1 u.2.2) (fun (u : (Nat → Int32) × (Nat → Int32) × (Nat → Int32)) => [(a_H, .inr (0, [.int h_wide, .int h_high, .int h_walls, .int h_doors, .int h_law, .int h_lamps, .int h_people, .ref a_H_lampCell, .ref a_H_lampReach, .ref a_H_shine, .ref a_H_personCell, .ref a_H_wish, .ref a_H_side, .ref a_H_light, .ref a_H_leavers])), (a_H_lampCell, .inl (cI, 6, .inl h_lampCell)), (a_H_lampReach, .inl (cI, 6, .inl h_lampReach)), (a_H_shine, .inl (cI, 7, .inl u.1)), (a_H_personCell, .inl (cI, 6, .inl h_personCell)), (a_H_light, .inl (cI, 128, .inl u.2.1)), (a_H_leavers, .inl (cI, 128, .inl u.2.2))]) [(a_H, .inr (0, [.int h_wide, .int h_high, .int h_walls, .int h_doors, .int h_law, .int h_lamps, .int h_people, .ref a_H_lampCell, .ref a_H_lampReach, .ref a_H_shine, .ref a_H_personCell, .ref a_H_wish, .ref a_H_side, .ref a_H_light, .ref a_H_leavers])), (a_H_lampCell, .inl (cI, 6, .inl h_lampCell)), (a_H_lampReach, .inl (cI, 6, .inl h_lampReach)), (a_H_shine, .inl (cI, 7, .inl h_shine)), (a_H_personCell, .inl (cI, 6, .inl h_personCell)), (a_H_light, .inl (cI, 128, .inl h_light)), (a_H_leavers, .inl (cI, 128, .inl h_leavers))] sz) 0 0 (va_A [(a_H, .inr (0, [.int h_wide, .int h_high, .int h_walls, .int h_doors, .int h_law, .int h_lamps, .int h_people, .ref a_H_lampCell, .ref a_H_lampReach, .ref a_H_shine, .ref a_H_personCell, .ref a_H_wish, .ref a_H_side, .ref a_H_light, .ref a_H_leavers])), (a_H_lampCell, .inl (cI, 6, .inl h_lampCell)), (a_H_lampReach, .inl (cI, 6, .inl h_lampReach)), (a_H_shine, .inl (cI, 7, .inl h_shine)), (a_H_personCell, .inl (cI, 6, .inl h_personCell)), (a_H_light, .inl (cI, 128, .inl h_light)), (a_H_leavers, .inl (cI, 128, .inl h_leavers))] sz) := by
  refine q_startM (own := RX0) (Qc := gQv D (fun (u : (Nat → Int32) × (Nat → Int32) × (Nat → Int32)) => post u.1 u.2.1 u.2.2) (fun (u : (Nat → Int32) × (Nat → Int32) × (Nat → Int32)) => [(a_H, .inr (0, [.int h_wide, .int h_high, .int h_walls, .int h_doors, .int h_law, .int h_lamps, .int h_people, .ref a_H_lampCell, .ref a_H_lampReach, .ref a_H_shine, .ref a_H_personCell, .ref a_H_wish, .ref a_H_side, .ref a_H_light, .ref a_H_leavers])), (a_H_lampCell, .inl (cI, 6, .inl h_lampCell)), (a_H_lampReach, .inl (cI, 6, .inl h_lampReach)), (a_H_shine, .inl (cI, 7, .inl u.1)), (a_H_personCell, .inl (cI, 6, .inl h_personCell)), (a_H_light, .inl (cI, 128, .inl u.2.1)), (a_H_leavers, .inl (cI, 128, .inl u.2.2))]) [(a_H, .inr (0, [.int h_wide, .int h_high, .int h_walls, .int h_doors, .int h_law, .int h_lamps, .int h_people, .ref a_H_lampCell, .ref a_H_lampReach, .ref a_H_shine, .ref a_H_personCell, .ref a_H_wish, .ref a_H_side, .ref a_H_light, .ref a_H_leavers])), (a_H_lampCell, .inl (cI, 6, .inl h_lampCell)), (a_H_lampReach, .inl (cI, 6, .inl h_lampReach)), (a_H_shine, .inl (cI, 7, .inl h_shine)), (a_H_personCell, .inl (cI, 6, .inl h_personCell)), (a_H_light, .inl (cI, 128, .inl h_light)), (a_H_leavers, .inl (cI, 128, .inl h_leavers))]) (by decide +kernel) rfl (Nat.le_of_ble_eq_true rfl) (fun E F Z M => ?_)
  show Wg E [(a_H, .inr (0, [.int h_wide, .int h_high, .int h_walls, .int h_doors, .int h_law, .int h_lamps, .int h_people, .ref a_H_lampCell, .ref a_H_lampReach, .ref a_H_shine, .ref a_H_personCell, .ref a_H_wish, .ref a_H_side, .ref a_H_light, .ref a_H_leavers])), (a_H_lampCell, .inl (cI, 6, .inl h_lampCell)), (a_H_lampReach, .inl (cI, 6, .inl h_lampReach)), (a_H_shine, .inl (cI, 7, .inl h_shine)), (a_H_personCell, .inl (cI, 6, .inl h_personCell)), (a_H_light, .inl (cI, 128, .inl h_light)), (a_H_leavers, .inl (cI, 128, .inl h_leavers))] 0 0 0 [(0, .ref a_H)] []
  unfold wp_X0_lightUp at h
  refine q_iconst (pc := 0) F (v := 0) dX0_lightUp_0 (by decide) ?_
  refine q_istore_n (pc := 1) F (lv' := [(1, .int (0 : Int32)), (0, .ref a_H)]) dX0_lightUp_1 (by decide) rfl ?_
  refine jnW h (fun K => ∀ (h_shine_38 : Nat → Int32), K h_shine_38 → Wg E [(a_H, .inr (0, [.int h_wide, .int h_high, .int h_walls, .int h_doors, .int h_law, .int h_lamps, .int h_people, .ref a_H_lampCell, .ref a_H_lampReach, .ref a_H_shine, .ref a_H_personCell, .ref a_H_wish, .ref a_H_side, .ref a_H_light, .ref a_H_leavers])), (a_H_lampCell, .inl (cI, 6, .inl h_lampCell)), (a_H_lampReach, .inl (cI, 6, .inl h_lampReach)), (a_H_shine, .inl (cI, 7, .inl h_shine_38)), (a_H_personCell, .inl (cI, 6, .inl h_personCell)), (a_H_light, .inl (cI, 128, .inl h_light)), (a_H_leavers, .inl (cI, 128, .inl h_leavers))] 0 0 38 [(0, .ref a_H)] []) ?_ ?_
  · intro h_shine_38 h
    refine q_aload_n (pc := 38) F 0 dX0_lightUp_38 rfl ?_
    refine q_iconst (pc := 39) F (v := 0) dX0_lightUp_39 (by decide) ?_
    refine q_iconst (pc := 40) F (v := 1) dX0_lightUp_40 (by decide) ?_
    refine q_aload_n (pc := 41) F 0 dX0_lightUp_41 rfl ?_
    refine q_get (pc := 42) F fgX0_52 0 rfl rfl dX0_lightUp_42 ?_
    refine q_ishl (pc := 45) F dX0_lightUp_45 ?_
    refine q_cMv (wr := [(a_H_lampCell, .inl (cI, 6, .inl h_lampCell)), (a_H_lampReach, .inl (cI, 6, .inl h_lampReach))]) (pc := 46) F M (q_runV (As := [.int (0 : Int32), .int (jshl (1 : Int32) h_lamps)]) (rest := []) (pc := 46) F (fun l sz => ct_X0_fillLight D cI cZ a_H a_H_lampCell a_H_lampReach a_H_shine a_H_personCell a_H_wish a_H_side a_H_light a_H_leavers h_wide h_high h_walls h_doors h_law h_lamps h_people h_shine_38 h_personCell h_light h_leavers (0 : Int32) (jshl (1 : Int32) h_lamps) h l sz) mc_yX0_fillLight im_yX0_fillLight se_yX0_fillLight mlX0_62 ⟨by decide, by decide⟩ ⟨by decide, by decide⟩ ⟨rfl, rfl⟩ [0, 3, 4, 5, 6] rfl rfl rfl 0 rfl rfl rfl (Nat.le_of_ble_eq_true rfl) dX0_lightUp_46) [0, 3, 4, 5, 6] [1, 2] rfl rfl rfl (by decide) (fun u46 h => ?_)
    obtain ⟨h_light_46, h_leavers_46⟩ := u46
    refine q_cs (cs' := [(a_H, .inr (0, [.int h_wide, .int h_high, .int h_walls, .int h_doors, .int h_law, .int h_lamps, .int h_people, .ref a_H_lampCell, .ref a_H_lampReach, .ref a_H_shine, .ref a_H_personCell, .ref a_H_wish, .ref a_H_side, .ref a_H_light, .ref a_H_leavers])), (a_H_lampCell, .inl (cI, 6, .inl h_lampCell)), (a_H_lampReach, .inl (cI, 6, .inl h_lampReach)), (a_H_shine, .inl (cI, 7, .inl h_shine_38)), (a_H_personCell, .inl (cI, 6, .inl h_personCell)), (a_H_light, .inl (cI, 128, .inl h_light_46)), (a_H_leavers, .inl (cI, 128, .inl h_leavers_46))]) [2, 0, 1, 3, 4, 5, 6] rfl rfl ?_
    exact q_vretM (pc := 49) F Z dX0_lightUp_49 (h_shine_38, h_light_46, h_leavers_46) h rfl
  · intro K38 J38 h
    obtain ⟨n2, h⟩ := h
    have lp2 : ∀ (n : Nat) (x1_h2 : Int32) (h_shine_h2 : Nat → Int32), wp_X0_lightUp_L2 h_wide h_high h_walls h_lamps h_lampCell h_lampReach K38 n x1_h2 h_shine_h2 → Wg E [(a_H, .inr (0, [.int h_wide, .int h_high, .int h_walls, .int h_doors, .int h_law, .int h_lamps, .int h_people, .ref a_H_lampCell, .ref a_H_lampReach, .ref a_H_shine, .ref a_H_personCell, .ref a_H_wish, .ref a_H_side, .ref a_H_light, .ref a_H_leavers])), (a_H_lampCell, .inl (cI, 6, .inl h_lampCell)), (a_H_lampReach, .inl (cI, 6, .inl h_lampReach)), (a_H_shine, .inl (cI, 7, .inl h_shine_h2)), (a_H_personCell, .inl (cI, 6, .inl h_personCell)), (a_H_light, .inl (cI, 128, .inl h_light)), (a_H_leavers, .inl (cI, 128, .inl h_leavers))] 0 0 2 [(0, .ref a_H), (1, .int x1_h2)] [] := by
      intro n
      induction n with
      | zero => intro x1_h2 h_shine_h2 h; exact h.elim
      | succ n ih =>
        intro x1_h2 h_shine_h2 h
        unfold wp_X0_lightUp_L2 at h
        refine q_iload_n (pc := 2) F 1 dX0_lightUp_2 rfl ?_
        refine q_aload_n (pc := 3) F 0 dX0_lightUp_3 rfl ?_
        refine q_get (pc := 4) F fgX0_52 0 rfl rfl dX0_lightUp_4 ?_
        refine q_icmp_ge (pc := 7) (tgt := 38) F dX0_lightUp_7 (by decide) (fun c7 => ?_) (fun c7 => ?_)
        · have h := h.1 c7
          refine q_lv (lv' := [(0, .ref a_H)]) [0] rfl ?_
          exact J38 h_shine_h2 h
        · have h := h.2 c7
          refine q_aload_n (pc := 10) F 0 dX0_lightUp_10 rfl ?_
          refine q_get (pc := 11) F fgX0_25 0 rfl rfl dX0_lightUp_11 ?_
          refine q_iload_n (pc := 14) F 1 dX0_lightUp_14 rfl ?_
          refine q_aload_n (pc := 15) F 0 dX0_lightUp_15 rfl ?_
          refine q_aload_n (pc := 16) F 0 dX0_lightUp_16 rfl ?_
          refine q_get (pc := 17) F fgX0_18 0 rfl rfl dX0_lightUp_17 ?_
          refine q_iload_n (pc := 20) F 1 dX0_lightUp_20 rfl ?_
          obtain ⟨hi21, h⟩ := h
          refine q_iald (pc := 21) F 1 rfl hi21 dX0_lightUp_21 ?_
          refine q_aload_n (pc := 22) F 0 dX0_lightUp_22 rfl ?_
          refine q_get (pc := 23) F fgX0_22 0 rfl rfl dX0_lightUp_23 ?_
          refine q_iload_n (pc := 26) F 1 dX0_lightUp_26 rfl ?_
          obtain ⟨hi27, h⟩ := h
          refine q_iald (pc := 27) F 2 rfl hi27 dX0_lightUp_27 ?_
          refine q_cR (q_runV (As := [.int (h_lampCell (ix x1_h2)), .int (h_lampReach (ix x1_h2))]) (rest := [.int x1_h2, .ref a_H_shine]) (pc := 28) F (fun l sz => ct_X0_shineFrom D cI cZ a_H a_H_lampCell a_H_lampReach a_H_shine a_H_personCell a_H_wish a_H_side a_H_light a_H_leavers h_wide h_high h_walls h_doors h_law h_lamps h_people (h_lampCell (ix x1_h2)) (h_lampReach (ix x1_h2)) h l sz) mc_yX0_shineFrom im_yX0_shineFrom se_yX0_shineFrom mlX0_58 ⟨by decide, by decide⟩ ⟨by decide, by decide⟩ ⟨rfl, rfl⟩ [0] rfl rfl rfl 0 rfl rfl rfl (Nat.le_of_ble_eq_true rfl) dX0_lightUp_28) (fun r28 h => ?_)
          obtain ⟨hi31, h⟩ := h
          refine q_iast (pc := 31) F M (cs' := [(a_H, .inr (0, [.int h_wide, .int h_high, .int h_walls, .int h_doors, .int h_law, .int h_lamps, .int h_people, .ref a_H_lampCell, .ref a_H_lampReach, .ref a_H_shine, .ref a_H_personCell, .ref a_H_wish, .ref a_H_side, .ref a_H_light, .ref a_H_leavers])), (a_H_lampCell, .inl (cI, 6, .inl h_lampCell)), (a_H_lampReach, .inl (cI, 6, .inl h_lampReach)), (a_H_shine, .inl (cI, 7, .inl (upd h_shine_h2 (ix x1_h2) r28))), (a_H_personCell, .inl (cI, 6, .inl h_personCell)), (a_H_light, .inl (cI, 128, .inl h_light)), (a_H_leavers, .inl (cI, 128, .inl h_leavers))]) 3 rfl hi31 rfl dX0_lightUp_31 ?_
          refine q_iinc (pc := 32) F (v := x1_h2 + (1 : Int32)) (lv' := [(1, .int (x1_h2 + (1 : Int32))), (0, .ref a_H)]) 1 dX0_lightUp_32 rfl rfl (by decide) rfl ?_
          refine q_goto (pc := 35) (tgt := 2) F dX0_lightUp_35 (by decide) ?_
          refine q_lv (lv' := [(0, .ref a_H), (1, .int (x1_h2 + (1 : Int32)))]) [1, 0] rfl ?_
          exact ih (x1_h2 + (1 : Int32)) (upd h_shine_h2 (ix x1_h2) r28) h
    refine q_lv (lv' := [(0, .ref a_H), (1, .int (0 : Int32))]) [1, 0] rfl ?_
    exact lp2 n2 (0 : Int32) h_shine h

def wp_X0_lightOneMore (p0 : Int32) (p1 : Int32) (h_wide : Int32) (h_high : Int32) (h_walls : Int32) (h_doors : Int32) (h_law : Int32) (h_lamps : Int32) (h_people : Int32) (h_shine : Nat → Int32) (h_personCell : Nat → Int32) (h_light : Nat → Int32) (h_leavers : Nat → Int32) (post : (Nat → Int32) → (Nat → Int32) → (Nat → Int32) → Prop) : Prop := (wp_X0_shineFrom p0 p1 h_wide h_high h_walls (fun (r11 : Int32) => (vp_in h_lamps 7 ∧ (wp_X0_fillLight (jshl (1 : Int32) h_lamps) (jshl (2 : Int32) h_lamps) h_wide h_high h_doors h_law h_people (upd h_shine (ix h_lamps) r11) h_personCell h_light h_leavers (fun (h_light_28 : Nat → Int32) (h_leavers_28 : Nat → Int32) => post (upd h_shine (ix h_lamps) r11) h_light_28 h_leavers_28)))))
abbrev rm_X0_lightOneMore : Room := { frames := 4, cells := 0, slots := 0, locals := 98 }
set_option maxRecDepth 100000 in
set_option maxHeartbeats 4000000 in
theorem ct_X0_lightOneMore (D : va_G) (cI cZ : ClassId) (a_H a_H_lampCell a_H_lampReach a_H_shine a_H_personCell a_H_wish a_H_side a_H_light a_H_leavers : Nat) (h_wide : Int32) (h_high : Int32) (h_walls : Int32) (h_doors : Int32) (h_law : Int32) (h_lamps : Int32) (h_people : Int32) (h_shine : Nat → Int32) (h_personCell : Nat → Int32) (h_light : Nat → Int32) (h_leavers : Nat → Int32) (p0 : Int32) (p1 : Int32) {post : (Nat → Int32) → (Nat → Int32) → (Nat → Int32) → Prop} (h : wp_X0_lightOneMore p0 p1 h_wide h_high h_walls h_doors h_law h_lamps h_people h_shine h_personCell h_light h_leavers post) (l : Launch) (sz : Nat) : Met l yX0_lightOneMore (wsM yX0_lightOneMore cX0_lightOneMore 3 none) rm_X0_lightOneMore (va_Pc [.ref a_H, .int p0, .int p1] (gP D cI cZ [(a_H, .inr (0, [.int h_wide, .int h_high, .int h_walls, .int h_doors, .int h_law, .int h_lamps, .int h_people, .ref a_H_lampCell, .ref a_H_lampReach, .ref a_H_shine, .ref a_H_personCell, .ref a_H_wish, .ref a_H_side, .ref a_H_light, .ref a_H_leavers])), (a_H_shine, .inl (cI, 7, .inl h_shine)), (a_H_personCell, .inl (cI, 6, .inl h_personCell)), (a_H_light, .inl (cI, 128, .inl h_light)), (a_H_leavers, .inl (cI, 128, .inl h_leavers))] sz)) (gQv D (fun (u : (Nat → Int32) × (Nat → Int32) × (Nat → Int32)) => post u.1 u.2.1 u.2.2) (fun (u : (Nat → Int32) × (Nat → Int32) × (Nat → Int32)) => [(a_H, .inr (0, [.int h_wide, .int h_high, .int h_walls, .int h_doors, .int h_law, .int h_lamps, .int h_people, .ref a_H_lampCell, .ref a_H_lampReach, .ref a_H_shine, .ref a_H_personCell, .ref a_H_wish, .ref a_H_side, .ref a_H_light, .ref a_H_leavers])), (a_H_shine, .inl (cI, 7, .inl u.1)), (a_H_personCell, .inl (cI, 6, .inl h_personCell)), (a_H_light, .inl (cI, 128, .inl u.2.1)), (a_H_leavers, .inl (cI, 128, .inl u.2.2))]) [(a_H, .inr (0, [.int h_wide, .int h_high, .int h_walls, .int h_doors, .int h_law, .int h_lamps, .int h_people, .ref a_H_lampCell, .ref a_H_lampReach, .ref a_H_shine, .ref a_H_personCell, .ref a_H_wish, .ref a_H_side, .ref a_H_light, .ref a_H_leavers])), (a_H_shine, .inl (cI, 7, .inl h_shine)), (a_H_personCell, .inl (cI, 6, .inl h_personCell)), (a_H_light, .inl (cI, 128, .inl h_light)), (a_H_leavers, .inl (cI, 128, .inl h_leavers))] sz) 0 0 (va_A [(a_H, .inr (0, [.int h_wide, .int h_high, .int h_walls, .int h_doors, .int h_law, .int h_lamps, .int h_people, .ref a_H_lampCell, .ref a_H_lampReach, .ref a_H_shine, .ref a_H_personCell, .ref a_H_wish, .ref a_H_side, .ref a_H_light, .ref a_H_leavers])), (a_H_shine, .inl (cI, 7, .inl h_shine)), (a_H_personCell, .inl (cI, 6, .inl h_personCell)), (a_H_light, .inl (cI, 128, .inl h_light)), (a_H_leavers, .inl (cI, 128, .inl h_leavers))] sz) := by
  refine q_startM (own := RX0) (Qc := gQv D (fun (u : (Nat → Int32) × (Nat → Int32) × (Nat → Int32)) => post u.1 u.2.1 u.2.2) (fun (u : (Nat → Int32) × (Nat → Int32) × (Nat → Int32)) => [(a_H, .inr (0, [.int h_wide, .int h_high, .int h_walls, .int h_doors, .int h_law, .int h_lamps, .int h_people, .ref a_H_lampCell, .ref a_H_lampReach, .ref a_H_shine, .ref a_H_personCell, .ref a_H_wish, .ref a_H_side, .ref a_H_light, .ref a_H_leavers])), (a_H_shine, .inl (cI, 7, .inl u.1)), (a_H_personCell, .inl (cI, 6, .inl h_personCell)), (a_H_light, .inl (cI, 128, .inl u.2.1)), (a_H_leavers, .inl (cI, 128, .inl u.2.2))]) [(a_H, .inr (0, [.int h_wide, .int h_high, .int h_walls, .int h_doors, .int h_law, .int h_lamps, .int h_people, .ref a_H_lampCell, .ref a_H_lampReach, .ref a_H_shine, .ref a_H_personCell, .ref a_H_wish, .ref a_H_side, .ref a_H_light, .ref a_H_leavers])), (a_H_shine, .inl (cI, 7, .inl h_shine)), (a_H_personCell, .inl (cI, 6, .inl h_personCell)), (a_H_light, .inl (cI, 128, .inl h_light)), (a_H_leavers, .inl (cI, 128, .inl h_leavers))]) (by decide +kernel) rfl (Nat.le_of_ble_eq_true rfl) (fun E F Z M => ?_)
  show Wg E [(a_H, .inr (0, [.int h_wide, .int h_high, .int h_walls, .int h_doors, .int h_law, .int h_lamps, .int h_people, .ref a_H_lampCell, .ref a_H_lampReach, .ref a_H_shine, .ref a_H_personCell, .ref a_H_wish, .ref a_H_side, .ref a_H_light, .ref a_H_leavers])), (a_H_shine, .inl (cI, 7, .inl h_shine)), (a_H_personCell, .inl (cI, 6, .inl h_personCell)), (a_H_light, .inl (cI, 128, .inl h_light)), (a_H_leavers, .inl (cI, 128, .inl h_leavers))] 0 0 0 [(0, .ref a_H), (1, .int p0), (2, .int p1)] []
  unfold wp_X0_lightOneMore at h
  refine q_aload_n (pc := 0) F 0 dX0_lightOneMore_0 rfl ?_
  refine q_get (pc := 1) F fgX0_25 0 rfl rfl dX0_lightOneMore_1 ?_
  refine q_aload_n (pc := 4) F 0 dX0_lightOneMore_4 rfl ?_
  refine q_get (pc := 5) F fgX0_52 0 rfl rfl dX0_lightOneMore_5 ?_
  refine q_aload_n (pc := 8) F 0 dX0_lightOneMore_8 rfl ?_
  refine q_iload_n (pc := 9) F 1 dX0_lightOneMore_9 rfl ?_
  refine q_iload_n (pc := 10) F 2 dX0_lightOneMore_10 rfl ?_
  refine q_cR (q_runV (As := [.int p0, .int p1]) (rest := [.int h_lamps, .ref a_H_shine]) (pc := 11) F (fun l sz => ct_X0_shineFrom D cI cZ a_H a_H_lampCell a_H_lampReach a_H_shine a_H_personCell a_H_wish a_H_side a_H_light a_H_leavers h_wide h_high h_walls h_doors h_law h_lamps h_people p0 p1 h l sz) mc_yX0_shineFrom im_yX0_shineFrom se_yX0_shineFrom mlX0_58 ⟨by decide, by decide⟩ ⟨by decide, by decide⟩ ⟨rfl, rfl⟩ [0] rfl rfl rfl 0 rfl rfl rfl (Nat.le_of_ble_eq_true rfl) dX0_lightOneMore_11) (fun r11 h => ?_)
  obtain ⟨hi14, h⟩ := h
  refine q_iast (pc := 14) F M (cs' := [(a_H, .inr (0, [.int h_wide, .int h_high, .int h_walls, .int h_doors, .int h_law, .int h_lamps, .int h_people, .ref a_H_lampCell, .ref a_H_lampReach, .ref a_H_shine, .ref a_H_personCell, .ref a_H_wish, .ref a_H_side, .ref a_H_light, .ref a_H_leavers])), (a_H_shine, .inl (cI, 7, .inl (upd h_shine (ix h_lamps) r11))), (a_H_personCell, .inl (cI, 6, .inl h_personCell)), (a_H_light, .inl (cI, 128, .inl h_light)), (a_H_leavers, .inl (cI, 128, .inl h_leavers))]) 1 rfl hi14 rfl dX0_lightOneMore_14 ?_
  refine q_aload_n (pc := 15) F 0 dX0_lightOneMore_15 rfl ?_
  refine q_iconst (pc := 16) F (v := 1) dX0_lightOneMore_16 (by decide) ?_
  refine q_aload_n (pc := 17) F 0 dX0_lightOneMore_17 rfl ?_
  refine q_get (pc := 18) F fgX0_52 0 rfl rfl dX0_lightOneMore_18 ?_
  refine q_ishl (pc := 21) F dX0_lightOneMore_21 ?_
  refine q_iconst (pc := 22) F (v := 2) dX0_lightOneMore_22 (by decide) ?_
  refine q_aload_n (pc := 23) F 0 dX0_lightOneMore_23 rfl ?_
  refine q_get (pc := 24) F fgX0_52 0 rfl rfl dX0_lightOneMore_24 ?_
  refine q_ishl (pc := 27) F dX0_lightOneMore_27 ?_
  refine q_cMv (wr := []) (pc := 28) F M (q_runV (As := [.int (jshl (1 : Int32) h_lamps), .int (jshl (2 : Int32) h_lamps)]) (rest := []) (pc := 28) F (fun l sz => ct_X0_fillLight D cI cZ a_H a_H_lampCell a_H_lampReach a_H_shine a_H_personCell a_H_wish a_H_side a_H_light a_H_leavers h_wide h_high h_walls h_doors h_law h_lamps h_people (upd h_shine (ix h_lamps) r11) h_personCell h_light h_leavers (jshl (1 : Int32) h_lamps) (jshl (2 : Int32) h_lamps) h l sz) mc_yX0_fillLight im_yX0_fillLight se_yX0_fillLight mlX0_62 ⟨by decide, by decide⟩ ⟨by decide, by decide⟩ ⟨rfl, rfl⟩ [0, 1, 2, 3, 4] rfl rfl rfl 0 rfl rfl rfl (Nat.le_of_ble_eq_true rfl) dX0_lightOneMore_28) [0, 1, 2, 3, 4] [] rfl rfl rfl (by decide) (fun u28 h => ?_)
  obtain ⟨h_light_28, h_leavers_28⟩ := u28
  refine q_cs (cs' := [(a_H, .inr (0, [.int h_wide, .int h_high, .int h_walls, .int h_doors, .int h_law, .int h_lamps, .int h_people, .ref a_H_lampCell, .ref a_H_lampReach, .ref a_H_shine, .ref a_H_personCell, .ref a_H_wish, .ref a_H_side, .ref a_H_light, .ref a_H_leavers])), (a_H_shine, .inl (cI, 7, .inl (upd h_shine (ix h_lamps) r11))), (a_H_personCell, .inl (cI, 6, .inl h_personCell)), (a_H_light, .inl (cI, 128, .inl h_light_28)), (a_H_leavers, .inl (cI, 128, .inl h_leavers_28))]) [0, 1, 2, 3, 4] rfl rfl ?_
  exact q_vretM (pc := 31) F Z dX0_lightOneMore_31 (upd h_shine (ix h_lamps) r11, h_light_28, h_leavers_28) h rfl

def wp_X1_restart (n_left : Int32) (n_gone : Int32) (n_dark : Int32) (n_seen : Int32) (post : Int32 → Int32 → Int32 → Int32 → Prop) : Prop := post (0 : Int32) (0 : Int32) (0 : Int32) (0 : Int32)
abbrev rm_X1_restart : Room := { frames := 0, cells := 0, slots := 0, locals := 0 }
set_option maxRecDepth 100000 in
set_option maxHeartbeats 4000000 in
theorem ct_X1_restart (D : va_G) (cI cZ : ClassId) (a_N a_N_leaver a_N_putOut a_N_seenAfter a_N_seenCell a_N_seenLight : Nat) (n_left : Int32) (n_gone : Int32) (n_dark : Int32) (n_seen : Int32) {post : Int32 → Int32 → Int32 → Int32 → Prop} (h : wp_X1_restart n_left n_gone n_dark n_seen post) (l : Launch) (sz : Nat) : Met l yX1_restart (wsM yX1_restart cX1_restart 1 none) rm_X1_restart (va_Pc [.ref a_N] (gP D cI cZ [(a_N, .inr (1, [.int n_left, .int n_gone, .int n_dark, .int n_seen, .ref a_N_leaver, .ref a_N_putOut, .ref a_N_seenAfter, .ref a_N_seenCell, .ref a_N_seenLight]))] sz)) (gQv D (fun (u : Int32 × Int32 × Int32 × Int32) => post u.1 u.2.1 u.2.2.1 u.2.2.2) (fun (u : Int32 × Int32 × Int32 × Int32) => [(a_N, .inr (1, [.int u.1, .int u.2.1, .int u.2.2.1, .int u.2.2.2, .ref a_N_leaver, .ref a_N_putOut, .ref a_N_seenAfter, .ref a_N_seenCell, .ref a_N_seenLight]))]) [(a_N, .inr (1, [.int n_left, .int n_gone, .int n_dark, .int n_seen, .ref a_N_leaver, .ref a_N_putOut, .ref a_N_seenAfter, .ref a_N_seenCell, .ref a_N_seenLight]))] sz) 0 0 (va_A [(a_N, .inr (1, [.int n_left, .int n_gone, .int n_dark, .int n_seen, .ref a_N_leaver, .ref a_N_putOut, .ref a_N_seenAfter, .ref a_N_seenCell, .ref a_N_seenLight]))] sz) := by
  refine q_startM (own := RX1) (Qc := gQv D (fun (u : Int32 × Int32 × Int32 × Int32) => post u.1 u.2.1 u.2.2.1 u.2.2.2) (fun (u : Int32 × Int32 × Int32 × Int32) => [(a_N, .inr (1, [.int u.1, .int u.2.1, .int u.2.2.1, .int u.2.2.2, .ref a_N_leaver, .ref a_N_putOut, .ref a_N_seenAfter, .ref a_N_seenCell, .ref a_N_seenLight]))]) [(a_N, .inr (1, [.int n_left, .int n_gone, .int n_dark, .int n_seen, .ref a_N_leaver, .ref a_N_putOut, .ref a_N_seenAfter, .ref a_N_seenCell, .ref a_N_seenLight]))]) (by decide +kernel) rfl (Nat.le_of_ble_eq_true rfl) (fun E F Z M => ?_)
  show Wg E [(a_N, .inr (1, [.int n_left, .int n_gone, .int n_dark, .int n_seen, .ref a_N_leaver, .ref a_N_putOut, .ref a_N_seenAfter, .ref a_N_seenCell, .ref a_N_seenLight]))] 0 0 0 [(0, .ref a_N)] []
  unfold wp_X1_restart at h
  refine q_aload_n (pc := 0) F 0 dX1_restart_0 rfl ?_
  refine q_iconst (pc := 1) F (v := 0) dX1_restart_1 (by decide) ?_
  refine q_put (pc := 2) F M (cs' := [(a_N, .inr (1, [.int (0 : Int32), .int n_gone, .int n_dark, .int n_seen, .ref a_N_leaver, .ref a_N_putOut, .ref a_N_seenAfter, .ref a_N_seenCell, .ref a_N_seenLight]))]) fpX1_27 0 rfl rfl rfl (Nat.le_of_ble_eq_true rfl) rfl dX1_restart_2 ?_
  refine q_aload_n (pc := 5) F 0 dX1_restart_5 rfl ?_
  refine q_iconst (pc := 6) F (v := 0) dX1_restart_6 (by decide) ?_
  refine q_put (pc := 7) F M (cs' := [(a_N, .inr (1, [.int (0 : Int32), .int (0 : Int32), .int n_dark, .int n_seen, .ref a_N_leaver, .ref a_N_putOut, .ref a_N_seenAfter, .ref a_N_seenCell, .ref a_N_seenLight]))]) fpX1_31 0 rfl rfl rfl (Nat.le_of_ble_eq_true rfl) rfl dX1_restart_7 ?_
  refine q_aload_n (pc := 10) F 0 dX1_restart_10 rfl ?_
  refine q_iconst (pc := 11) F (v := 0) dX1_restart_11 (by decide) ?_
  refine q_put (pc := 12) F M (cs' := [(a_N, .inr (1, [.int (0 : Int32), .int (0 : Int32), .int (0 : Int32), .int n_seen, .ref a_N_leaver, .ref a_N_putOut, .ref a_N_seenAfter, .ref a_N_seenCell, .ref a_N_seenLight]))]) fpX1_34 0 rfl rfl rfl (Nat.le_of_ble_eq_true rfl) rfl dX1_restart_12 ?_
  refine q_aload_n (pc := 15) F 0 dX1_restart_15 rfl ?_
  refine q_iconst (pc := 16) F (v := 0) dX1_restart_16 (by decide) ?_
  refine q_put (pc := 17) F M (cs' := [(a_N, .inr (1, [.int (0 : Int32), .int (0 : Int32), .int (0 : Int32), .int (0 : Int32), .ref a_N_leaver, .ref a_N_putOut, .ref a_N_seenAfter, .ref a_N_seenCell, .ref a_N_seenLight]))]) fpX1_37 0 rfl rfl rfl (Nat.le_of_ble_eq_true rfl) rfl dX1_restart_17 ?_
  exact q_vretM (pc := 20) F Z dX1_restart_20 ((0 : Int32), (0 : Int32), (0 : Int32), (0 : Int32)) h rfl

def wp_X1_copyFrom (n_left : Int32) (n_gone : Int32) (n_dark : Int32) (n_seen : Int32) (n_leaver : Nat → Int32) (n_putOut : Nat → Int32) (n_seenAfter : Nat → Int32) (n_seenCell : Nat → Int32) (n_seenLight : Nat → Int32) (o_left : Int32) (o_gone : Int32) (o_dark : Int32) (o_seen : Int32) (o_leaver : Nat → Int32) (o_putOut : Nat → Int32) (o_seenAfter : Nat → Int32) (o_seenCell : Nat → Int32) (o_seenLight : Nat → Int32) (post : Int32 → Int32 → Int32 → Int32 → (Nat → Int32) → (Nat → Int32) → (Nat → Int32) → (Nat → Int32) → (Nat → Int32) → Prop) : Prop := post o_left o_gone o_dark o_seen (va_cpy o_leaver n_leaver 0 0 6) (va_cpy o_putOut n_putOut 0 0 6) (va_cpy o_seenAfter n_seenAfter 0 0 8) (va_cpy o_seenCell n_seenCell 0 0 8) (va_cpy o_seenLight n_seenLight 0 0 8)
abbrev rm_X1_copyFrom : Room := { frames := 1, cells := 0, slots := 0, locals := 35 }
set_option maxRecDepth 100000 in
set_option maxHeartbeats 4000000 in
theorem ct_X1_copyFrom (D : va_G) (cI cZ : ClassId) (a_N a_N_leaver a_N_putOut a_N_seenAfter a_N_seenCell a_N_seenLight a_O a_O_leaver a_O_putOut a_O_seenAfter a_O_seenCell a_O_seenLight : Nat) (n_left : Int32) (n_gone : Int32) (n_dark : Int32) (n_seen : Int32) (n_leaver : Nat → Int32) (n_putOut : Nat → Int32) (n_seenAfter : Nat → Int32) (n_seenCell : Nat → Int32) (n_seenLight : Nat → Int32) (o_left : Int32) (o_gone : Int32) (o_dark : Int32) (o_seen : Int32) (o_leaver : Nat → Int32) (o_putOut : Nat → Int32) (o_seenAfter : Nat → Int32) (o_seenCell : Nat → Int32) (o_seenLight : Nat → Int32) {post : Int32 → Int32 → Int32 → Int32 → (Nat → Int32) → (Nat → Int32) → (Nat → Int32) → (Nat → Int32) → (Nat → Int32) → Prop} (h : wp_X1_copyFrom n_left n_gone n_dark n_seen n_leaver n_putOut n_seenAfter n_seenCell n_seenLight o_left o_gone o_dark o_seen o_leaver o_putOut o_seenAfter o_seenCell o_seenLight post) (l : Launch) (sz : Nat) : Met l yX1_copyFrom (wsM yX1_copyFrom cX1_copyFrom 2 none) rm_X1_copyFrom (va_Pc [.ref a_N, .ref a_O] (gP D cI cZ [(a_N, .inr (1, [.int n_left, .int n_gone, .int n_dark, .int n_seen, .ref a_N_leaver, .ref a_N_putOut, .ref a_N_seenAfter, .ref a_N_seenCell, .ref a_N_seenLight])), (a_N_leaver, .inl (cI, 6, .inl n_leaver)), (a_N_putOut, .inl (cI, 6, .inl n_putOut)), (a_N_seenAfter, .inl (cI, 8, .inl n_seenAfter)), (a_N_seenCell, .inl (cI, 8, .inl n_seenCell)), (a_N_seenLight, .inl (cI, 8, .inl n_seenLight)), (a_O, .inr (1, [.int o_left, .int o_gone, .int o_dark, .int o_seen, .ref a_O_leaver, .ref a_O_putOut, .ref a_O_seenAfter, .ref a_O_seenCell, .ref a_O_seenLight])), (a_O_leaver, .inl (cI, 6, .inl o_leaver)), (a_O_putOut, .inl (cI, 6, .inl o_putOut)), (a_O_seenAfter, .inl (cI, 8, .inl o_seenAfter)), (a_O_seenCell, .inl (cI, 8, .inl o_seenCell)), (a_O_seenLight, .inl (cI, 8, .inl o_seenLight))] sz)) (gQv D (fun (u : Int32 × Int32 × Int32 × Int32 × (Nat → Int32) × (Nat → Int32) × (Nat → Int32) × (Nat → Int32) × (Nat → Int32)) => post u.1 u.2.1 u.2.2.1 u.2.2.2.1 u.2.2.2.2.1 u.2.2.2.2.2.1 u.2.2.2.2.2.2.1 u.2.2.2.2.2.2.2.1 u.2.2.2.2.2.2.2.2) (fun (u : Int32 × Int32 × Int32 × Int32 × (Nat → Int32) × (Nat → Int32) × (Nat → Int32) × (Nat → Int32) × (Nat → Int32)) => [(a_N, .inr (1, [.int u.1, .int u.2.1, .int u.2.2.1, .int u.2.2.2.1, .ref a_N_leaver, .ref a_N_putOut, .ref a_N_seenAfter, .ref a_N_seenCell, .ref a_N_seenLight])), (a_N_leaver, .inl (cI, 6, .inl u.2.2.2.2.1)), (a_N_putOut, .inl (cI, 6, .inl u.2.2.2.2.2.1)), (a_N_seenAfter, .inl (cI, 8, .inl u.2.2.2.2.2.2.1)), (a_N_seenCell, .inl (cI, 8, .inl u.2.2.2.2.2.2.2.1)), (a_N_seenLight, .inl (cI, 8, .inl u.2.2.2.2.2.2.2.2)), (a_O, .inr (1, [.int o_left, .int o_gone, .int o_dark, .int o_seen, .ref a_O_leaver, .ref a_O_putOut, .ref a_O_seenAfter, .ref a_O_seenCell, .ref a_O_seenLight])), (a_O_leaver, .inl (cI, 6, .inl o_leaver)), (a_O_putOut, .inl (cI, 6, .inl o_putOut)), (a_O_seenAfter, .inl (cI, 8, .inl o_seenAfter)), (a_O_seenCell, .inl (cI, 8, .inl o_seenCell)), (a_O_seenLight, .inl (cI, 8, .inl o_seenLight))]) [(a_N, .inr (1, [.int n_left, .int n_gone, .int n_dark, .int n_seen, .ref a_N_leaver, .ref a_N_putOut, .ref a_N_seenAfter, .ref a_N_seenCell, .ref a_N_seenLight])), (a_N_leaver, .inl (cI, 6, .inl n_leaver)), (a_N_putOut, .inl (cI, 6, .inl n_putOut)), (a_N_seenAfter, .inl (cI, 8, .inl n_seenAfter)), (a_N_seenCell, .inl (cI, 8, .inl n_seenCell)), (a_N_seenLight, .inl (cI, 8, .inl n_seenLight)), (a_O, .inr (1, [.int o_left, .int o_gone, .int o_dark, .int o_seen, .ref a_O_leaver, .ref a_O_putOut, .ref a_O_seenAfter, .ref a_O_seenCell, .ref a_O_seenLight])), (a_O_leaver, .inl (cI, 6, .inl o_leaver)), (a_O_putOut, .inl (cI, 6, .inl o_putOut)), (a_O_seenAfter, .inl (cI, 8, .inl o_seenAfter)), (a_O_seenCell, .inl (cI, 8, .inl o_seenCell)), (a_O_seenLight, .inl (cI, 8, .inl o_seenLight))] sz) 0 0 (va_A [(a_N, .inr (1, [.int n_left, .int n_gone, .int n_dark, .int n_seen, .ref a_N_leaver, .ref a_N_putOut, .ref a_N_seenAfter, .ref a_N_seenCell, .ref a_N_seenLight])), (a_N_leaver, .inl (cI, 6, .inl n_leaver)), (a_N_putOut, .inl (cI, 6, .inl n_putOut)), (a_N_seenAfter, .inl (cI, 8, .inl n_seenAfter)), (a_N_seenCell, .inl (cI, 8, .inl n_seenCell)), (a_N_seenLight, .inl (cI, 8, .inl n_seenLight)), (a_O, .inr (1, [.int o_left, .int o_gone, .int o_dark, .int o_seen, .ref a_O_leaver, .ref a_O_putOut, .ref a_O_seenAfter, .ref a_O_seenCell, .ref a_O_seenLight])), (a_O_leaver, .inl (cI, 6, .inl o_leaver)), (a_O_putOut, .inl (cI, 6, .inl o_putOut)), (a_O_seenAfter, .inl (cI, 8, .inl o_seenAfter)), (a_O_seenCell, .inl (cI, 8, .inl o_seenCell)), (a_O_seenLight, .inl (cI, 8, .inl o_seenLight))] sz) := by
  refine q_startM (own := RX1) (Qc := gQv D (fun (u : Int32 × Int32 × Int32 × Int32 × (Nat → Int32) × (Nat → Int32) × (Nat → Int32) × (Nat → Int32) × (Nat → Int32)) => post u.1 u.2.1 u.2.2.1 u.2.2.2.1 u.2.2.2.2.1 u.2.2.2.2.2.1 u.2.2.2.2.2.2.1 u.2.2.2.2.2.2.2.1 u.2.2.2.2.2.2.2.2) (fun (u : Int32 × Int32 × Int32 × Int32 × (Nat → Int32) × (Nat → Int32) × (Nat → Int32) × (Nat → Int32) × (Nat → Int32)) => [(a_N, .inr (1, [.int u.1, .int u.2.1, .int u.2.2.1, .int u.2.2.2.1, .ref a_N_leaver, .ref a_N_putOut, .ref a_N_seenAfter, .ref a_N_seenCell, .ref a_N_seenLight])), (a_N_leaver, .inl (cI, 6, .inl u.2.2.2.2.1)), (a_N_putOut, .inl (cI, 6, .inl u.2.2.2.2.2.1)), (a_N_seenAfter, .inl (cI, 8, .inl u.2.2.2.2.2.2.1)), (a_N_seenCell, .inl (cI, 8, .inl u.2.2.2.2.2.2.2.1)), (a_N_seenLight, .inl (cI, 8, .inl u.2.2.2.2.2.2.2.2)), (a_O, .inr (1, [.int o_left, .int o_gone, .int o_dark, .int o_seen, .ref a_O_leaver, .ref a_O_putOut, .ref a_O_seenAfter, .ref a_O_seenCell, .ref a_O_seenLight])), (a_O_leaver, .inl (cI, 6, .inl o_leaver)), (a_O_putOut, .inl (cI, 6, .inl o_putOut)), (a_O_seenAfter, .inl (cI, 8, .inl o_seenAfter)), (a_O_seenCell, .inl (cI, 8, .inl o_seenCell)), (a_O_seenLight, .inl (cI, 8, .inl o_seenLight))]) [(a_N, .inr (1, [.int n_left, .int n_gone, .int n_dark, .int n_seen, .ref a_N_leaver, .ref a_N_putOut, .ref a_N_seenAfter, .ref a_N_seenCell, .ref a_N_seenLight])), (a_N_leaver, .inl (cI, 6, .inl n_leaver)), (a_N_putOut, .inl (cI, 6, .inl n_putOut)), (a_N_seenAfter, .inl (cI, 8, .inl n_seenAfter)), (a_N_seenCell, .inl (cI, 8, .inl n_seenCell)), (a_N_seenLight, .inl (cI, 8, .inl n_seenLight)), (a_O, .inr (1, [.int o_left, .int o_gone, .int o_dark, .int o_seen, .ref a_O_leaver, .ref a_O_putOut, .ref a_O_seenAfter, .ref a_O_seenCell, .ref a_O_seenLight])), (a_O_leaver, .inl (cI, 6, .inl o_leaver)), (a_O_putOut, .inl (cI, 6, .inl o_putOut)), (a_O_seenAfter, .inl (cI, 8, .inl o_seenAfter)), (a_O_seenCell, .inl (cI, 8, .inl o_seenCell)), (a_O_seenLight, .inl (cI, 8, .inl o_seenLight))]) (by decide +kernel) rfl (Nat.le_of_ble_eq_true rfl) (fun E F Z M => ?_)
  show Wg E [(a_N, .inr (1, [.int n_left, .int n_gone, .int n_dark, .int n_seen, .ref a_N_leaver, .ref a_N_putOut, .ref a_N_seenAfter, .ref a_N_seenCell, .ref a_N_seenLight])), (a_N_leaver, .inl (cI, 6, .inl n_leaver)), (a_N_putOut, .inl (cI, 6, .inl n_putOut)), (a_N_seenAfter, .inl (cI, 8, .inl n_seenAfter)), (a_N_seenCell, .inl (cI, 8, .inl n_seenCell)), (a_N_seenLight, .inl (cI, 8, .inl n_seenLight)), (a_O, .inr (1, [.int o_left, .int o_gone, .int o_dark, .int o_seen, .ref a_O_leaver, .ref a_O_putOut, .ref a_O_seenAfter, .ref a_O_seenCell, .ref a_O_seenLight])), (a_O_leaver, .inl (cI, 6, .inl o_leaver)), (a_O_putOut, .inl (cI, 6, .inl o_putOut)), (a_O_seenAfter, .inl (cI, 8, .inl o_seenAfter)), (a_O_seenCell, .inl (cI, 8, .inl o_seenCell)), (a_O_seenLight, .inl (cI, 8, .inl o_seenLight))] 0 0 0 [(0, .ref a_N), (1, .ref a_O)] []
  unfold wp_X1_copyFrom at h
  refine q_aload_n (pc := 0) F 0 dX1_copyFrom_0 rfl ?_
  refine q_aload_n (pc := 1) F 1 dX1_copyFrom_1 rfl ?_
  refine q_get (pc := 2) F fgX1_27 6 rfl rfl dX1_copyFrom_2 ?_
  refine q_put (pc := 5) F M (cs' := [(a_N, .inr (1, [.int o_left, .int n_gone, .int n_dark, .int n_seen, .ref a_N_leaver, .ref a_N_putOut, .ref a_N_seenAfter, .ref a_N_seenCell, .ref a_N_seenLight])), (a_N_leaver, .inl (cI, 6, .inl n_leaver)), (a_N_putOut, .inl (cI, 6, .inl n_putOut)), (a_N_seenAfter, .inl (cI, 8, .inl n_seenAfter)), (a_N_seenCell, .inl (cI, 8, .inl n_seenCell)), (a_N_seenLight, .inl (cI, 8, .inl n_seenLight)), (a_O, .inr (1, [.int o_left, .int o_gone, .int o_dark, .int o_seen, .ref a_O_leaver, .ref a_O_putOut, .ref a_O_seenAfter, .ref a_O_seenCell, .ref a_O_seenLight])), (a_O_leaver, .inl (cI, 6, .inl o_leaver)), (a_O_putOut, .inl (cI, 6, .inl o_putOut)), (a_O_seenAfter, .inl (cI, 8, .inl o_seenAfter)), (a_O_seenCell, .inl (cI, 8, .inl o_seenCell)), (a_O_seenLight, .inl (cI, 8, .inl o_seenLight))]) fpX1_27 0 rfl rfl rfl (Nat.le_of_ble_eq_true rfl) rfl dX1_copyFrom_5 ?_
  refine q_aload_n (pc := 8) F 0 dX1_copyFrom_8 rfl ?_
  refine q_aload_n (pc := 9) F 1 dX1_copyFrom_9 rfl ?_
  refine q_get (pc := 10) F fgX1_31 6 rfl rfl dX1_copyFrom_10 ?_
  refine q_put (pc := 13) F M (cs' := [(a_N, .inr (1, [.int o_left, .int o_gone, .int n_dark, .int n_seen, .ref a_N_leaver, .ref a_N_putOut, .ref a_N_seenAfter, .ref a_N_seenCell, .ref a_N_seenLight])), (a_N_leaver, .inl (cI, 6, .inl n_leaver)), (a_N_putOut, .inl (cI, 6, .inl n_putOut)), (a_N_seenAfter, .inl (cI, 8, .inl n_seenAfter)), (a_N_seenCell, .inl (cI, 8, .inl n_seenCell)), (a_N_seenLight, .inl (cI, 8, .inl n_seenLight)), (a_O, .inr (1, [.int o_left, .int o_gone, .int o_dark, .int o_seen, .ref a_O_leaver, .ref a_O_putOut, .ref a_O_seenAfter, .ref a_O_seenCell, .ref a_O_seenLight])), (a_O_leaver, .inl (cI, 6, .inl o_leaver)), (a_O_putOut, .inl (cI, 6, .inl o_putOut)), (a_O_seenAfter, .inl (cI, 8, .inl o_seenAfter)), (a_O_seenCell, .inl (cI, 8, .inl o_seenCell)), (a_O_seenLight, .inl (cI, 8, .inl o_seenLight))]) fpX1_31 0 rfl rfl rfl (Nat.le_of_ble_eq_true rfl) rfl dX1_copyFrom_13 ?_
  refine q_aload_n (pc := 16) F 0 dX1_copyFrom_16 rfl ?_
  refine q_aload_n (pc := 17) F 1 dX1_copyFrom_17 rfl ?_
  refine q_get (pc := 18) F fgX1_34 6 rfl rfl dX1_copyFrom_18 ?_
  refine q_put (pc := 21) F M (cs' := [(a_N, .inr (1, [.int o_left, .int o_gone, .int o_dark, .int n_seen, .ref a_N_leaver, .ref a_N_putOut, .ref a_N_seenAfter, .ref a_N_seenCell, .ref a_N_seenLight])), (a_N_leaver, .inl (cI, 6, .inl n_leaver)), (a_N_putOut, .inl (cI, 6, .inl n_putOut)), (a_N_seenAfter, .inl (cI, 8, .inl n_seenAfter)), (a_N_seenCell, .inl (cI, 8, .inl n_seenCell)), (a_N_seenLight, .inl (cI, 8, .inl n_seenLight)), (a_O, .inr (1, [.int o_left, .int o_gone, .int o_dark, .int o_seen, .ref a_O_leaver, .ref a_O_putOut, .ref a_O_seenAfter, .ref a_O_seenCell, .ref a_O_seenLight])), (a_O_leaver, .inl (cI, 6, .inl o_leaver)), (a_O_putOut, .inl (cI, 6, .inl o_putOut)), (a_O_seenAfter, .inl (cI, 8, .inl o_seenAfter)), (a_O_seenCell, .inl (cI, 8, .inl o_seenCell)), (a_O_seenLight, .inl (cI, 8, .inl o_seenLight))]) fpX1_34 0 rfl rfl rfl (Nat.le_of_ble_eq_true rfl) rfl dX1_copyFrom_21 ?_
  refine q_aload_n (pc := 24) F 0 dX1_copyFrom_24 rfl ?_
  refine q_aload_n (pc := 25) F 1 dX1_copyFrom_25 rfl ?_
  refine q_get (pc := 26) F fgX1_37 6 rfl rfl dX1_copyFrom_26 ?_
  refine q_put (pc := 29) F M (cs' := [(a_N, .inr (1, [.int o_left, .int o_gone, .int o_dark, .int o_seen, .ref a_N_leaver, .ref a_N_putOut, .ref a_N_seenAfter, .ref a_N_seenCell, .ref a_N_seenLight])), (a_N_leaver, .inl (cI, 6, .inl n_leaver)), (a_N_putOut, .inl (cI, 6, .inl n_putOut)), (a_N_seenAfter, .inl (cI, 8, .inl n_seenAfter)), (a_N_seenCell, .inl (cI, 8, .inl n_seenCell)), (a_N_seenLight, .inl (cI, 8, .inl n_seenLight)), (a_O, .inr (1, [.int o_left, .int o_gone, .int o_dark, .int o_seen, .ref a_O_leaver, .ref a_O_putOut, .ref a_O_seenAfter, .ref a_O_seenCell, .ref a_O_seenLight])), (a_O_leaver, .inl (cI, 6, .inl o_leaver)), (a_O_putOut, .inl (cI, 6, .inl o_putOut)), (a_O_seenAfter, .inl (cI, 8, .inl o_seenAfter)), (a_O_seenCell, .inl (cI, 8, .inl o_seenCell)), (a_O_seenLight, .inl (cI, 8, .inl o_seenLight))]) fpX1_37 0 rfl rfl rfl (Nat.le_of_ble_eq_true rfl) rfl dX1_copyFrom_29 ?_
  refine q_aload_n (pc := 32) F 1 dX1_copyFrom_32 rfl ?_
  refine q_get (pc := 33) F fgX1_9 6 rfl rfl dX1_copyFrom_33 ?_
  refine q_iconst (pc := 36) F (v := 0) dX1_copyFrom_36 (by decide) ?_
  refine q_aload_n (pc := 37) F 0 dX1_copyFrom_37 rfl ?_
  refine q_get (pc := 38) F fgX1_9 0 rfl rfl dX1_copyFrom_38 ?_
  refine q_iconst (pc := 41) F (v := 0) dX1_copyFrom_41 (by decide) ?_
  refine q_bipush (pc := 42) F (v := 6) dX1_copyFrom_42 (by decide) ?_
  refine q_copyi (pc := 44) F M (cs' := [(a_N, .inr (1, [.int o_left, .int o_gone, .int o_dark, .int o_seen, .ref a_N_leaver, .ref a_N_putOut, .ref a_N_seenAfter, .ref a_N_seenCell, .ref a_N_seenLight])), (a_N_leaver, .inl (cI, 6, .inl (va_cpy o_leaver n_leaver 0 0 6))), (a_N_putOut, .inl (cI, 6, .inl n_putOut)), (a_N_seenAfter, .inl (cI, 8, .inl n_seenAfter)), (a_N_seenCell, .inl (cI, 8, .inl n_seenCell)), (a_N_seenLight, .inl (cI, 8, .inl n_seenLight)), (a_O, .inr (1, [.int o_left, .int o_gone, .int o_dark, .int o_seen, .ref a_O_leaver, .ref a_O_putOut, .ref a_O_seenAfter, .ref a_O_seenCell, .ref a_O_seenLight])), (a_O_leaver, .inl (cI, 6, .inl o_leaver)), (a_O_putOut, .inl (cI, 6, .inl o_putOut)), (a_O_seenAfter, .inl (cI, 8, .inl o_seenAfter)), (a_O_seenCell, .inl (cI, 8, .inl o_seenCell)), (a_O_seenLight, .inl (cI, 8, .inl o_seenLight))]) mlX1_40 nm_arraycopyName sm_arraycopyName in_J10 7 1 rfl rfl (by decide) (by decide) (by decide) (by decide) (by decide) (by decide) (Nat.le_of_ble_eq_true rfl) rfl dX1_copyFrom_44 ?_
  refine q_aload_n (pc := 47) F 1 dX1_copyFrom_47 rfl ?_
  refine q_get (pc := 48) F fgX1_15 6 rfl rfl dX1_copyFrom_48 ?_
  refine q_iconst (pc := 51) F (v := 0) dX1_copyFrom_51 (by decide) ?_
  refine q_aload_n (pc := 52) F 0 dX1_copyFrom_52 rfl ?_
  refine q_get (pc := 53) F fgX1_15 0 rfl rfl dX1_copyFrom_53 ?_
  refine q_iconst (pc := 56) F (v := 0) dX1_copyFrom_56 (by decide) ?_
  refine q_bipush (pc := 57) F (v := 6) dX1_copyFrom_57 (by decide) ?_
  refine q_copyi (pc := 59) F M (cs' := [(a_N, .inr (1, [.int o_left, .int o_gone, .int o_dark, .int o_seen, .ref a_N_leaver, .ref a_N_putOut, .ref a_N_seenAfter, .ref a_N_seenCell, .ref a_N_seenLight])), (a_N_leaver, .inl (cI, 6, .inl (va_cpy o_leaver n_leaver 0 0 6))), (a_N_putOut, .inl (cI, 6, .inl (va_cpy o_putOut n_putOut 0 0 6))), (a_N_seenAfter, .inl (cI, 8, .inl n_seenAfter)), (a_N_seenCell, .inl (cI, 8, .inl n_seenCell)), (a_N_seenLight, .inl (cI, 8, .inl n_seenLight)), (a_O, .inr (1, [.int o_left, .int o_gone, .int o_dark, .int o_seen, .ref a_O_leaver, .ref a_O_putOut, .ref a_O_seenAfter, .ref a_O_seenCell, .ref a_O_seenLight])), (a_O_leaver, .inl (cI, 6, .inl o_leaver)), (a_O_putOut, .inl (cI, 6, .inl o_putOut)), (a_O_seenAfter, .inl (cI, 8, .inl o_seenAfter)), (a_O_seenCell, .inl (cI, 8, .inl o_seenCell)), (a_O_seenLight, .inl (cI, 8, .inl o_seenLight))]) mlX1_40 nm_arraycopyName sm_arraycopyName in_J10 8 2 rfl rfl (by decide) (by decide) (by decide) (by decide) (by decide) (by decide) (Nat.le_of_ble_eq_true rfl) rfl dX1_copyFrom_59 ?_
  refine q_aload_n (pc := 62) F 1 dX1_copyFrom_62 rfl ?_
  refine q_get (pc := 63) F fgX1_18 6 rfl rfl dX1_copyFrom_63 ?_
  refine q_iconst (pc := 66) F (v := 0) dX1_copyFrom_66 (by decide) ?_
  refine q_aload_n (pc := 67) F 0 dX1_copyFrom_67 rfl ?_
  refine q_get (pc := 68) F fgX1_18 0 rfl rfl dX1_copyFrom_68 ?_
  refine q_iconst (pc := 71) F (v := 0) dX1_copyFrom_71 (by decide) ?_
  refine q_bipush (pc := 72) F (v := 8) dX1_copyFrom_72 (by decide) ?_
  refine q_copyi (pc := 74) F M (cs' := [(a_N, .inr (1, [.int o_left, .int o_gone, .int o_dark, .int o_seen, .ref a_N_leaver, .ref a_N_putOut, .ref a_N_seenAfter, .ref a_N_seenCell, .ref a_N_seenLight])), (a_N_leaver, .inl (cI, 6, .inl (va_cpy o_leaver n_leaver 0 0 6))), (a_N_putOut, .inl (cI, 6, .inl (va_cpy o_putOut n_putOut 0 0 6))), (a_N_seenAfter, .inl (cI, 8, .inl (va_cpy o_seenAfter n_seenAfter 0 0 8))), (a_N_seenCell, .inl (cI, 8, .inl n_seenCell)), (a_N_seenLight, .inl (cI, 8, .inl n_seenLight)), (a_O, .inr (1, [.int o_left, .int o_gone, .int o_dark, .int o_seen, .ref a_O_leaver, .ref a_O_putOut, .ref a_O_seenAfter, .ref a_O_seenCell, .ref a_O_seenLight])), (a_O_leaver, .inl (cI, 6, .inl o_leaver)), (a_O_putOut, .inl (cI, 6, .inl o_putOut)), (a_O_seenAfter, .inl (cI, 8, .inl o_seenAfter)), (a_O_seenCell, .inl (cI, 8, .inl o_seenCell)), (a_O_seenLight, .inl (cI, 8, .inl o_seenLight))]) mlX1_40 nm_arraycopyName sm_arraycopyName in_J10 9 3 rfl rfl (by decide) (by decide) (by decide) (by decide) (by decide) (by decide) (Nat.le_of_ble_eq_true rfl) rfl dX1_copyFrom_74 ?_
  refine q_aload_n (pc := 77) F 1 dX1_copyFrom_77 rfl ?_
  refine q_get (pc := 78) F fgX1_21 6 rfl rfl dX1_copyFrom_78 ?_
  refine q_iconst (pc := 81) F (v := 0) dX1_copyFrom_81 (by decide) ?_
  refine q_aload_n (pc := 82) F 0 dX1_copyFrom_82 rfl ?_
  refine q_get (pc := 83) F fgX1_21 0 rfl rfl dX1_copyFrom_83 ?_
  refine q_iconst (pc := 86) F (v := 0) dX1_copyFrom_86 (by decide) ?_
  refine q_bipush (pc := 87) F (v := 8) dX1_copyFrom_87 (by decide) ?_
  refine q_copyi (pc := 89) F M (cs' := [(a_N, .inr (1, [.int o_left, .int o_gone, .int o_dark, .int o_seen, .ref a_N_leaver, .ref a_N_putOut, .ref a_N_seenAfter, .ref a_N_seenCell, .ref a_N_seenLight])), (a_N_leaver, .inl (cI, 6, .inl (va_cpy o_leaver n_leaver 0 0 6))), (a_N_putOut, .inl (cI, 6, .inl (va_cpy o_putOut n_putOut 0 0 6))), (a_N_seenAfter, .inl (cI, 8, .inl (va_cpy o_seenAfter n_seenAfter 0 0 8))), (a_N_seenCell, .inl (cI, 8, .inl (va_cpy o_seenCell n_seenCell 0 0 8))), (a_N_seenLight, .inl (cI, 8, .inl n_seenLight)), (a_O, .inr (1, [.int o_left, .int o_gone, .int o_dark, .int o_seen, .ref a_O_leaver, .ref a_O_putOut, .ref a_O_seenAfter, .ref a_O_seenCell, .ref a_O_seenLight])), (a_O_leaver, .inl (cI, 6, .inl o_leaver)), (a_O_putOut, .inl (cI, 6, .inl o_putOut)), (a_O_seenAfter, .inl (cI, 8, .inl o_seenAfter)), (a_O_seenCell, .inl (cI, 8, .inl o_seenCell)), (a_O_seenLight, .inl (cI, 8, .inl o_seenLight))]) mlX1_40 nm_arraycopyName sm_arraycopyName in_J10 10 4 rfl rfl (by decide) (by decide) (by decide) (by decide) (by decide) (by decide) (Nat.le_of_ble_eq_true rfl) rfl dX1_copyFrom_89 ?_
  refine q_aload_n (pc := 92) F 1 dX1_copyFrom_92 rfl ?_
  refine q_get (pc := 93) F fgX1_24 6 rfl rfl dX1_copyFrom_93 ?_
  refine q_iconst (pc := 96) F (v := 0) dX1_copyFrom_96 (by decide) ?_
  refine q_aload_n (pc := 97) F 0 dX1_copyFrom_97 rfl ?_
  refine q_get (pc := 98) F fgX1_24 0 rfl rfl dX1_copyFrom_98 ?_
  refine q_iconst (pc := 101) F (v := 0) dX1_copyFrom_101 (by decide) ?_
  refine q_bipush (pc := 102) F (v := 8) dX1_copyFrom_102 (by decide) ?_
  refine q_copyi (pc := 104) F M (cs' := [(a_N, .inr (1, [.int o_left, .int o_gone, .int o_dark, .int o_seen, .ref a_N_leaver, .ref a_N_putOut, .ref a_N_seenAfter, .ref a_N_seenCell, .ref a_N_seenLight])), (a_N_leaver, .inl (cI, 6, .inl (va_cpy o_leaver n_leaver 0 0 6))), (a_N_putOut, .inl (cI, 6, .inl (va_cpy o_putOut n_putOut 0 0 6))), (a_N_seenAfter, .inl (cI, 8, .inl (va_cpy o_seenAfter n_seenAfter 0 0 8))), (a_N_seenCell, .inl (cI, 8, .inl (va_cpy o_seenCell n_seenCell 0 0 8))), (a_N_seenLight, .inl (cI, 8, .inl (va_cpy o_seenLight n_seenLight 0 0 8))), (a_O, .inr (1, [.int o_left, .int o_gone, .int o_dark, .int o_seen, .ref a_O_leaver, .ref a_O_putOut, .ref a_O_seenAfter, .ref a_O_seenCell, .ref a_O_seenLight])), (a_O_leaver, .inl (cI, 6, .inl o_leaver)), (a_O_putOut, .inl (cI, 6, .inl o_putOut)), (a_O_seenAfter, .inl (cI, 8, .inl o_seenAfter)), (a_O_seenCell, .inl (cI, 8, .inl o_seenCell)), (a_O_seenLight, .inl (cI, 8, .inl o_seenLight))]) mlX1_40 nm_arraycopyName sm_arraycopyName in_J10 11 5 rfl rfl (by decide) (by decide) (by decide) (by decide) (by decide) (by decide) (Nat.le_of_ble_eq_true rfl) rfl dX1_copyFrom_104 ?_
  exact q_vretM (pc := 107) F Z dX1_copyFrom_107 (o_left, o_gone, o_dark, o_seen, va_cpy o_leaver n_leaver 0 0 6, va_cpy o_putOut n_putOut 0 0 6, va_cpy o_seenAfter n_seenAfter 0 0 8, va_cpy o_seenCell n_seenCell 0 0 8, va_cpy o_seenLight n_seenLight 0 0 8) h rfl

def wp_X1_depart (p0 : Int32) (p1 : Int32) (n_left : Int32) (n_gone : Int32) (n_dark : Int32) (n_leaver : Nat → Int32) (n_putOut : Nat → Int32) (post : Int32 → Int32 → Int32 → (Nat → Int32) → (Nat → Int32) → Prop) : Prop := ((n_left < (6 : Int32) → (vp_in n_left 6 ∧ (vp_in n_left 6 ∧ post (n_left + (1 : Int32)) (n_gone ||| (jshl (1 : Int32) p0)) (n_dark ||| (jshl (1 : Int32) p1)) (upd n_leaver (ix n_left) p0) (upd n_putOut (ix n_left) p1)))) ∧ (¬ n_left < (6 : Int32) → post n_left n_gone n_dark n_leaver n_putOut))
abbrev rm_X1_depart : Room := { frames := 0, cells := 0, slots := 0, locals := 0 }
set_option maxRecDepth 100000 in
set_option maxHeartbeats 4000000 in
theorem ct_X1_depart (D : va_G) (cI cZ : ClassId) (a_N a_N_leaver a_N_putOut a_N_seenAfter a_N_seenCell a_N_seenLight : Nat) (n_left : Int32) (n_gone : Int32) (n_dark : Int32) (n_seen : Int32) (n_leaver : Nat → Int32) (n_putOut : Nat → Int32) (p0 : Int32) (p1 : Int32) {post : Int32 → Int32 → Int32 → (Nat → Int32) → (Nat → Int32) → Prop} (h : wp_X1_depart p0 p1 n_left n_gone n_dark n_leaver n_putOut post) (l : Launch) (sz : Nat) : Met l yX1_depart (wsM yX1_depart cX1_depart 3 none) rm_X1_depart (va_Pc [.ref a_N, .int p0, .int p1] (gP D cI cZ [(a_N, .inr (1, [.int n_left, .int n_gone, .int n_dark, .int n_seen, .ref a_N_leaver, .ref a_N_putOut, .ref a_N_seenAfter, .ref a_N_seenCell, .ref a_N_seenLight])), (a_N_leaver, .inl (cI, 6, .inl n_leaver)), (a_N_putOut, .inl (cI, 6, .inl n_putOut))] sz)) (gQv D (fun (u : Int32 × Int32 × Int32 × (Nat → Int32) × (Nat → Int32)) => post u.1 u.2.1 u.2.2.1 u.2.2.2.1 u.2.2.2.2) (fun (u : Int32 × Int32 × Int32 × (Nat → Int32) × (Nat → Int32)) => [(a_N, .inr (1, [.int u.1, .int u.2.1, .int u.2.2.1, .int n_seen, .ref a_N_leaver, .ref a_N_putOut, .ref a_N_seenAfter, .ref a_N_seenCell, .ref a_N_seenLight])), (a_N_leaver, .inl (cI, 6, .inl u.2.2.2.1)), (a_N_putOut, .inl (cI, 6, .inl u.2.2.2.2))]) [(a_N, .inr (1, [.int n_left, .int n_gone, .int n_dark, .int n_seen, .ref a_N_leaver, .ref a_N_putOut, .ref a_N_seenAfter, .ref a_N_seenCell, .ref a_N_seenLight])), (a_N_leaver, .inl (cI, 6, .inl n_leaver)), (a_N_putOut, .inl (cI, 6, .inl n_putOut))] sz) 0 0 (va_A [(a_N, .inr (1, [.int n_left, .int n_gone, .int n_dark, .int n_seen, .ref a_N_leaver, .ref a_N_putOut, .ref a_N_seenAfter, .ref a_N_seenCell, .ref a_N_seenLight])), (a_N_leaver, .inl (cI, 6, .inl n_leaver)), (a_N_putOut, .inl (cI, 6, .inl n_putOut))] sz) := by
  refine q_startM (own := RX1) (Qc := gQv D (fun (u : Int32 × Int32 × Int32 × (Nat → Int32) × (Nat → Int32)) => post u.1 u.2.1 u.2.2.1 u.2.2.2.1 u.2.2.2.2) (fun (u : Int32 × Int32 × Int32 × (Nat → Int32) × (Nat → Int32)) => [(a_N, .inr (1, [.int u.1, .int u.2.1, .int u.2.2.1, .int n_seen, .ref a_N_leaver, .ref a_N_putOut, .ref a_N_seenAfter, .ref a_N_seenCell, .ref a_N_seenLight])), (a_N_leaver, .inl (cI, 6, .inl u.2.2.2.1)), (a_N_putOut, .inl (cI, 6, .inl u.2.2.2.2))]) [(a_N, .inr (1, [.int n_left, .int n_gone, .int n_dark, .int n_seen, .ref a_N_leaver, .ref a_N_putOut, .ref a_N_seenAfter, .ref a_N_seenCell, .ref a_N_seenLight])), (a_N_leaver, .inl (cI, 6, .inl n_leaver)), (a_N_putOut, .inl (cI, 6, .inl n_putOut))]) (by decide +kernel) rfl (Nat.le_of_ble_eq_true rfl) (fun E F Z M => ?_)
  show Wg E [(a_N, .inr (1, [.int n_left, .int n_gone, .int n_dark, .int n_seen, .ref a_N_leaver, .ref a_N_putOut, .ref a_N_seenAfter, .ref a_N_seenCell, .ref a_N_seenLight])), (a_N_leaver, .inl (cI, 6, .inl n_leaver)), (a_N_putOut, .inl (cI, 6, .inl n_putOut))] 0 0 0 [(0, .ref a_N), (1, .int p0), (2, .int p1)] []
  unfold wp_X1_depart at h
  refine q_aload_n (pc := 0) F 0 dX1_depart_0 rfl ?_
  refine q_get (pc := 1) F fgX1_27 0 rfl rfl dX1_depart_1 ?_
  refine q_bipush (pc := 4) F (v := 6) dX1_depart_4 (by decide) ?_
  refine q_icmp_lt (pc := 6) (tgt := 10) F dX1_depart_6 (by decide) (fun c6 => ?_) (fun c6 => ?_)
  · have h := h.1 c6
    refine q_aload_n (pc := 10) F 0 dX1_depart_10 rfl ?_
    refine q_get (pc := 11) F fgX1_9 0 rfl rfl dX1_depart_11 ?_
    refine q_aload_n (pc := 14) F 0 dX1_depart_14 rfl ?_
    refine q_get (pc := 15) F fgX1_27 0 rfl rfl dX1_depart_15 ?_
    refine q_iload_n (pc := 18) F 1 dX1_depart_18 rfl ?_
    obtain ⟨hi19, h⟩ := h
    refine q_iast (pc := 19) F M (cs' := [(a_N, .inr (1, [.int n_left, .int n_gone, .int n_dark, .int n_seen, .ref a_N_leaver, .ref a_N_putOut, .ref a_N_seenAfter, .ref a_N_seenCell, .ref a_N_seenLight])), (a_N_leaver, .inl (cI, 6, .inl (upd n_leaver (ix n_left) p0))), (a_N_putOut, .inl (cI, 6, .inl n_putOut))]) 1 rfl hi19 rfl dX1_depart_19 ?_
    refine q_aload_n (pc := 20) F 0 dX1_depart_20 rfl ?_
    refine q_get (pc := 21) F fgX1_15 0 rfl rfl dX1_depart_21 ?_
    refine q_aload_n (pc := 24) F 0 dX1_depart_24 rfl ?_
    refine q_get (pc := 25) F fgX1_27 0 rfl rfl dX1_depart_25 ?_
    refine q_iload_n (pc := 28) F 2 dX1_depart_28 rfl ?_
    obtain ⟨hi29, h⟩ := h
    refine q_iast (pc := 29) F M (cs' := [(a_N, .inr (1, [.int n_left, .int n_gone, .int n_dark, .int n_seen, .ref a_N_leaver, .ref a_N_putOut, .ref a_N_seenAfter, .ref a_N_seenCell, .ref a_N_seenLight])), (a_N_leaver, .inl (cI, 6, .inl (upd n_leaver (ix n_left) p0))), (a_N_putOut, .inl (cI, 6, .inl (upd n_putOut (ix n_left) p1)))]) 2 rfl hi29 rfl dX1_depart_29 ?_
    refine q_aload_n (pc := 30) F 0 dX1_depart_30 rfl ?_
    refine q_dup (pc := 31) F dX1_depart_31 rfl ?_
    refine q_get (pc := 32) F fgX1_31 0 rfl rfl dX1_depart_32 ?_
    refine q_iconst (pc := 35) F (v := 1) dX1_depart_35 (by decide) ?_
    refine q_iload_n (pc := 36) F 1 dX1_depart_36 rfl ?_
    refine q_ishl (pc := 37) F dX1_depart_37 ?_
    refine q_ior (pc := 38) F dX1_depart_38 ?_
    refine q_put (pc := 39) F M (cs' := [(a_N, .inr (1, [.int n_left, .int (n_gone ||| (jshl (1 : Int32) p0)), .int n_dark, .int n_seen, .ref a_N_leaver, .ref a_N_putOut, .ref a_N_seenAfter, .ref a_N_seenCell, .ref a_N_seenLight])), (a_N_leaver, .inl (cI, 6, .inl (upd n_leaver (ix n_left) p0))), (a_N_putOut, .inl (cI, 6, .inl (upd n_putOut (ix n_left) p1)))]) fpX1_31 0 rfl rfl rfl (Nat.le_of_ble_eq_true rfl) rfl dX1_depart_39 ?_
    refine q_aload_n (pc := 42) F 0 dX1_depart_42 rfl ?_
    refine q_dup (pc := 43) F dX1_depart_43 rfl ?_
    refine q_get (pc := 44) F fgX1_34 0 rfl rfl dX1_depart_44 ?_
    refine q_iconst (pc := 47) F (v := 1) dX1_depart_47 (by decide) ?_
    refine q_iload_n (pc := 48) F 2 dX1_depart_48 rfl ?_
    refine q_ishl (pc := 49) F dX1_depart_49 ?_
    refine q_ior (pc := 50) F dX1_depart_50 ?_
    refine q_put (pc := 51) F M (cs' := [(a_N, .inr (1, [.int n_left, .int (n_gone ||| (jshl (1 : Int32) p0)), .int (n_dark ||| (jshl (1 : Int32) p1)), .int n_seen, .ref a_N_leaver, .ref a_N_putOut, .ref a_N_seenAfter, .ref a_N_seenCell, .ref a_N_seenLight])), (a_N_leaver, .inl (cI, 6, .inl (upd n_leaver (ix n_left) p0))), (a_N_putOut, .inl (cI, 6, .inl (upd n_putOut (ix n_left) p1)))]) fpX1_34 0 rfl rfl rfl (Nat.le_of_ble_eq_true rfl) rfl dX1_depart_51 ?_
    refine q_aload_n (pc := 54) F 0 dX1_depart_54 rfl ?_
    refine q_dup (pc := 55) F dX1_depart_55 rfl ?_
    refine q_get (pc := 56) F fgX1_27 0 rfl rfl dX1_depart_56 ?_
    refine q_iconst (pc := 59) F (v := 1) dX1_depart_59 (by decide) ?_
    refine q_iadd (pc := 60) F dX1_depart_60 ?_
    refine q_put (pc := 61) F M (cs' := [(a_N, .inr (1, [.int (n_left + (1 : Int32)), .int (n_gone ||| (jshl (1 : Int32) p0)), .int (n_dark ||| (jshl (1 : Int32) p1)), .int n_seen, .ref a_N_leaver, .ref a_N_putOut, .ref a_N_seenAfter, .ref a_N_seenCell, .ref a_N_seenLight])), (a_N_leaver, .inl (cI, 6, .inl (upd n_leaver (ix n_left) p0))), (a_N_putOut, .inl (cI, 6, .inl (upd n_putOut (ix n_left) p1)))]) fpX1_27 0 rfl rfl rfl (Nat.le_of_ble_eq_true rfl) rfl dX1_depart_61 ?_
    exact q_vretM (pc := 64) F Z dX1_depart_64 (n_left + (1 : Int32), n_gone ||| (jshl (1 : Int32) p0), n_dark ||| (jshl (1 : Int32) p1), upd n_leaver (ix n_left) p0, upd n_putOut (ix n_left) p1) h rfl
  · have h := h.2 c6
    exact q_vretM (pc := 9) F Z dX1_depart_9 (n_left, n_gone, n_dark, n_leaver, n_putOut) h rfl

def wp_X1_takeBack (n_left : Int32) (n_gone : Int32) (n_dark : Int32) (n_leaver : Nat → Int32) (n_putOut : Nat → Int32) (post : Int32 → Int32 → Int32 → Prop) : Prop := (((0 : Int32) < n_left → (vp_in (n_left - (1 : Int32)) 6 ∧ (vp_in (n_left - (1 : Int32)) 6 ∧ post (n_left - (1 : Int32)) (n_gone &&& ((jshl (1 : Int32) (n_leaver (ix (n_left - (1 : Int32))))) ^^^ (-1 : Int32))) (n_dark &&& ((jshl (1 : Int32) (n_putOut (ix (n_left - (1 : Int32))))) ^^^ (-1 : Int32)))))) ∧ (¬ (0 : Int32) < n_left → post n_left n_gone n_dark))
abbrev rm_X1_takeBack : Room := { frames := 0, cells := 0, slots := 0, locals := 0 }
set_option maxRecDepth 100000 in
set_option maxHeartbeats 4000000 in
theorem ct_X1_takeBack (D : va_G) (cI cZ : ClassId) (a_N a_N_leaver a_N_putOut a_N_seenAfter a_N_seenCell a_N_seenLight : Nat) (n_left : Int32) (n_gone : Int32) (n_dark : Int32) (n_seen : Int32) (n_leaver : Nat → Int32) (n_putOut : Nat → Int32) {post : Int32 → Int32 → Int32 → Prop} (h : wp_X1_takeBack n_left n_gone n_dark n_leaver n_putOut post) (l : Launch) (sz : Nat) : Met l yX1_takeBack (wsM yX1_takeBack cX1_takeBack 1 none) rm_X1_takeBack (va_Pc [.ref a_N] (gP D cI cZ [(a_N, .inr (1, [.int n_left, .int n_gone, .int n_dark, .int n_seen, .ref a_N_leaver, .ref a_N_putOut, .ref a_N_seenAfter, .ref a_N_seenCell, .ref a_N_seenLight])), (a_N_leaver, .inl (cI, 6, .inl n_leaver)), (a_N_putOut, .inl (cI, 6, .inl n_putOut))] sz)) (gQv D (fun (u : Int32 × Int32 × Int32) => post u.1 u.2.1 u.2.2) (fun (u : Int32 × Int32 × Int32) => [(a_N, .inr (1, [.int u.1, .int u.2.1, .int u.2.2, .int n_seen, .ref a_N_leaver, .ref a_N_putOut, .ref a_N_seenAfter, .ref a_N_seenCell, .ref a_N_seenLight])), (a_N_leaver, .inl (cI, 6, .inl n_leaver)), (a_N_putOut, .inl (cI, 6, .inl n_putOut))]) [(a_N, .inr (1, [.int n_left, .int n_gone, .int n_dark, .int n_seen, .ref a_N_leaver, .ref a_N_putOut, .ref a_N_seenAfter, .ref a_N_seenCell, .ref a_N_seenLight])), (a_N_leaver, .inl (cI, 6, .inl n_leaver)), (a_N_putOut, .inl (cI, 6, .inl n_putOut))] sz) 0 0 (va_A [(a_N, .inr (1, [.int n_left, .int n_gone, .int n_dark, .int n_seen, .ref a_N_leaver, .ref a_N_putOut, .ref a_N_seenAfter, .ref a_N_seenCell, .ref a_N_seenLight])), (a_N_leaver, .inl (cI, 6, .inl n_leaver)), (a_N_putOut, .inl (cI, 6, .inl n_putOut))] sz) := by
  refine q_startM (own := RX1) (Qc := gQv D (fun (u : Int32 × Int32 × Int32) => post u.1 u.2.1 u.2.2) (fun (u : Int32 × Int32 × Int32) => [(a_N, .inr (1, [.int u.1, .int u.2.1, .int u.2.2, .int n_seen, .ref a_N_leaver, .ref a_N_putOut, .ref a_N_seenAfter, .ref a_N_seenCell, .ref a_N_seenLight])), (a_N_leaver, .inl (cI, 6, .inl n_leaver)), (a_N_putOut, .inl (cI, 6, .inl n_putOut))]) [(a_N, .inr (1, [.int n_left, .int n_gone, .int n_dark, .int n_seen, .ref a_N_leaver, .ref a_N_putOut, .ref a_N_seenAfter, .ref a_N_seenCell, .ref a_N_seenLight])), (a_N_leaver, .inl (cI, 6, .inl n_leaver)), (a_N_putOut, .inl (cI, 6, .inl n_putOut))]) (by decide +kernel) rfl (Nat.le_of_ble_eq_true rfl) (fun E F Z M => ?_)
  show Wg E [(a_N, .inr (1, [.int n_left, .int n_gone, .int n_dark, .int n_seen, .ref a_N_leaver, .ref a_N_putOut, .ref a_N_seenAfter, .ref a_N_seenCell, .ref a_N_seenLight])), (a_N_leaver, .inl (cI, 6, .inl n_leaver)), (a_N_putOut, .inl (cI, 6, .inl n_putOut))] 0 0 0 [(0, .ref a_N)] []
  unfold wp_X1_takeBack at h
  refine q_aload_n (pc := 0) F 0 dX1_takeBack_0 rfl ?_
  refine q_get (pc := 1) F fgX1_27 0 rfl rfl dX1_takeBack_1 ?_
  refine q_if_gt (pc := 4) (tgt := 8) F dX1_takeBack_4 (by decide) (fun c4 => ?_) (fun c4 => ?_)
  · have h := h.1 c4
    refine q_aload_n (pc := 8) F 0 dX1_takeBack_8 rfl ?_
    refine q_dup (pc := 9) F dX1_takeBack_9 rfl ?_
    refine q_get (pc := 10) F fgX1_27 0 rfl rfl dX1_takeBack_10 ?_
    refine q_iconst (pc := 13) F (v := 1) dX1_takeBack_13 (by decide) ?_
    refine q_isub (pc := 14) F dX1_takeBack_14 ?_
    refine q_put (pc := 15) F M (cs' := [(a_N, .inr (1, [.int (n_left - (1 : Int32)), .int n_gone, .int n_dark, .int n_seen, .ref a_N_leaver, .ref a_N_putOut, .ref a_N_seenAfter, .ref a_N_seenCell, .ref a_N_seenLight])), (a_N_leaver, .inl (cI, 6, .inl n_leaver)), (a_N_putOut, .inl (cI, 6, .inl n_putOut))]) fpX1_27 0 rfl rfl rfl (Nat.le_of_ble_eq_true rfl) rfl dX1_takeBack_15 ?_
    refine q_aload_n (pc := 18) F 0 dX1_takeBack_18 rfl ?_
    refine q_dup (pc := 19) F dX1_takeBack_19 rfl ?_
    refine q_get (pc := 20) F fgX1_31 0 rfl rfl dX1_takeBack_20 ?_
    refine q_iconst (pc := 23) F (v := 1) dX1_takeBack_23 (by decide) ?_
    refine q_aload_n (pc := 24) F 0 dX1_takeBack_24 rfl ?_
    refine q_get (pc := 25) F fgX1_9 0 rfl rfl dX1_takeBack_25 ?_
    refine q_aload_n (pc := 28) F 0 dX1_takeBack_28 rfl ?_
    refine q_get (pc := 29) F fgX1_27 0 rfl rfl dX1_takeBack_29 ?_
    obtain ⟨hi32, h⟩ := h
    refine q_iald (pc := 32) F 1 rfl hi32 dX1_takeBack_32 ?_
    refine q_ishl (pc := 33) F dX1_takeBack_33 ?_
    refine q_iconst (pc := 34) F (v := -1) dX1_takeBack_34 (by decide) ?_
    refine q_ixor (pc := 35) F dX1_takeBack_35 ?_
    refine q_iand (pc := 36) F dX1_takeBack_36 ?_
    refine q_put (pc := 37) F M (cs' := [(a_N, .inr (1, [.int (n_left - (1 : Int32)), .int (n_gone &&& ((jshl (1 : Int32) (n_leaver (ix (n_left - (1 : Int32))))) ^^^ (-1 : Int32))), .int n_dark, .int n_seen, .ref a_N_leaver, .ref a_N_putOut, .ref a_N_seenAfter, .ref a_N_seenCell, .ref a_N_seenLight])), (a_N_leaver, .inl (cI, 6, .inl n_leaver)), (a_N_putOut, .inl (cI, 6, .inl n_putOut))]) fpX1_31 0 rfl rfl rfl (Nat.le_of_ble_eq_true rfl) rfl dX1_takeBack_37 ?_
    refine q_aload_n (pc := 40) F 0 dX1_takeBack_40 rfl ?_
    refine q_dup (pc := 41) F dX1_takeBack_41 rfl ?_
    refine q_get (pc := 42) F fgX1_34 0 rfl rfl dX1_takeBack_42 ?_
    refine q_iconst (pc := 45) F (v := 1) dX1_takeBack_45 (by decide) ?_
    refine q_aload_n (pc := 46) F 0 dX1_takeBack_46 rfl ?_
    refine q_get (pc := 47) F fgX1_15 0 rfl rfl dX1_takeBack_47 ?_
    refine q_aload_n (pc := 50) F 0 dX1_takeBack_50 rfl ?_
    refine q_get (pc := 51) F fgX1_27 0 rfl rfl dX1_takeBack_51 ?_
    obtain ⟨hi54, h⟩ := h
    refine q_iald (pc := 54) F 2 rfl hi54 dX1_takeBack_54 ?_
    refine q_ishl (pc := 55) F dX1_takeBack_55 ?_
    refine q_iconst (pc := 56) F (v := -1) dX1_takeBack_56 (by decide) ?_
    refine q_ixor (pc := 57) F dX1_takeBack_57 ?_
    refine q_iand (pc := 58) F dX1_takeBack_58 ?_
    refine q_put (pc := 59) F M (cs' := [(a_N, .inr (1, [.int (n_left - (1 : Int32)), .int (n_gone &&& ((jshl (1 : Int32) (n_leaver (ix (n_left - (1 : Int32))))) ^^^ (-1 : Int32))), .int (n_dark &&& ((jshl (1 : Int32) (n_putOut (ix (n_left - (1 : Int32))))) ^^^ (-1 : Int32))), .int n_seen, .ref a_N_leaver, .ref a_N_putOut, .ref a_N_seenAfter, .ref a_N_seenCell, .ref a_N_seenLight])), (a_N_leaver, .inl (cI, 6, .inl n_leaver)), (a_N_putOut, .inl (cI, 6, .inl n_putOut))]) fpX1_34 0 rfl rfl rfl (Nat.le_of_ble_eq_true rfl) rfl dX1_takeBack_59 ?_
    exact q_vretM (pc := 62) F Z dX1_takeBack_62 (n_left - (1 : Int32), n_gone &&& ((jshl (1 : Int32) (n_leaver (ix (n_left - (1 : Int32))))) ^^^ (-1 : Int32)), n_dark &&& ((jshl (1 : Int32) (n_putOut (ix (n_left - (1 : Int32))))) ^^^ (-1 : Int32))) h rfl
  · have h := h.2 c4
    exact q_vretM (pc := 7) F Z dX1_takeBack_7 (n_left, n_gone, n_dark) h rfl

def wp_X1_placeOf_L2 (x1 : Int32) (n_left : Int32) (n_leaver : Nat → Int32) (post : Int32 → Prop) : Nat → Int32 → Prop
  | 0, _ => False
  | n + 1, x2 => ((n_left ≤ x2 → post (-9 : Int32)) ∧ (¬ n_left ≤ x2 → (vp_in x2 6 ∧ (((n_leaver (ix x2)) = x1 → post x2) ∧ (¬ (n_leaver (ix x2)) = x1 → wp_X1_placeOf_L2 x1 n_left n_leaver post n (x2 + (1 : Int32)))))))
def wp_X1_placeOf (p0 : Int32) (n_left : Int32) (n_leaver : Nat → Int32) (post : Int32 → Prop) : Prop := (∃ n2 : Nat, wp_X1_placeOf_L2 p0 n_left n_leaver post n2 (0 : Int32))
abbrev rm_X1_placeOf : Room := { frames := 0, cells := 0, slots := 0, locals := 0 }
set_option maxRecDepth 100000 in
set_option maxHeartbeats 4000000 in
theorem ct_X1_placeOf (D : va_G) (cI cZ : ClassId) (a_N a_N_leaver a_N_putOut a_N_seenAfter a_N_seenCell a_N_seenLight : Nat) (n_left : Int32) (n_gone : Int32) (n_dark : Int32) (n_seen : Int32) (n_leaver : Nat → Int32) (p0 : Int32) {post : Int32 → Prop} (h : wp_X1_placeOf p0 n_left n_leaver post) (l : Launch) (sz : Nat) : Met l yX1_placeOf (wsM yX1_placeOf cX1_placeOf 3 (some .int)) rm_X1_placeOf (va_Pc [.ref a_N, .int p0] (gP D cI cZ [(a_N, .inr (1, [.int n_left, .int n_gone, .int n_dark, .int n_seen, .ref a_N_leaver, .ref a_N_putOut, .ref a_N_seenAfter, .ref a_N_seenCell, .ref a_N_seenLight])), (a_N_leaver, .inl (cI, 6, .inl n_leaver))] sz)) (gR post) 0 0 (fun _ => False) := by
  refine q_startR (own := RX1) (by decide +kernel) rfl (Nat.le_of_ble_eq_true rfl) (fun E F Z => ?_)
  show Wg E [(a_N, .inr (1, [.int n_left, .int n_gone, .int n_dark, .int n_seen, .ref a_N_leaver, .ref a_N_putOut, .ref a_N_seenAfter, .ref a_N_seenCell, .ref a_N_seenLight])), (a_N_leaver, .inl (cI, 6, .inl n_leaver))] 0 0 0 [(0, .ref a_N), (1, .int p0)] []
  unfold wp_X1_placeOf at h
  refine q_iconst (pc := 0) F (v := 0) dX1_placeOf_0 (by decide) ?_
  refine q_istore_n (pc := 1) F (lv' := [(2, .int (0 : Int32)), (0, .ref a_N), (1, .int p0)]) dX1_placeOf_1 (by decide) rfl ?_
  obtain ⟨n2, h⟩ := h
  have lp2 : ∀ (n : Nat) (x2_h2 : Int32), wp_X1_placeOf_L2 p0 n_left n_leaver post n x2_h2 → Wg E [(a_N, .inr (1, [.int n_left, .int n_gone, .int n_dark, .int n_seen, .ref a_N_leaver, .ref a_N_putOut, .ref a_N_seenAfter, .ref a_N_seenCell, .ref a_N_seenLight])), (a_N_leaver, .inl (cI, 6, .inl n_leaver))] 0 0 2 [(0, .ref a_N), (1, .int p0), (2, .int x2_h2)] [] := by
    intro n
    induction n with
    | zero => intro x2_h2 h; exact h.elim
    | succ n ih =>
      intro x2_h2 h
      unfold wp_X1_placeOf_L2 at h
      refine q_iload_n (pc := 2) F 2 dX1_placeOf_2 rfl ?_
      refine q_aload_n (pc := 3) F 0 dX1_placeOf_3 rfl ?_
      refine q_get (pc := 4) F fgX1_27 0 rfl rfl dX1_placeOf_4 ?_
      refine q_icmp_ge (pc := 7) (tgt := 28) F dX1_placeOf_7 (by decide) (fun c7 => ?_) (fun c7 => ?_)
      · have h := h.1 c7
        refine q_bipush (pc := 28) F (v := -9) dX1_placeOf_28 (by decide) ?_
        exact q_iretR (pc := 30) F Z dX1_placeOf_30 h
      · have h := h.2 c7
        refine q_aload_n (pc := 10) F 0 dX1_placeOf_10 rfl ?_
        refine q_get (pc := 11) F fgX1_9 0 rfl rfl dX1_placeOf_11 ?_
        refine q_iload_n (pc := 14) F 2 dX1_placeOf_14 rfl ?_
        obtain ⟨hi15, h⟩ := h
        refine q_iald (pc := 15) F 1 rfl hi15 dX1_placeOf_15 ?_
        refine q_iload_n (pc := 16) F 1 dX1_placeOf_16 rfl ?_
        refine q_icmp_ne (pc := 17) (tgt := 22) F dX1_placeOf_17 (by decide) (fun c17 => ?_) (fun c17 => ?_)
        · have h := h.2 c17
          refine q_iinc (pc := 22) F (v := x2_h2 + (1 : Int32)) (lv' := [(2, .int (x2_h2 + (1 : Int32))), (0, .ref a_N), (1, .int p0)]) 2 dX1_placeOf_22 rfl rfl (by decide) rfl ?_
          refine q_goto (pc := 25) (tgt := 2) F dX1_placeOf_25 (by decide) ?_
          refine q_lv (lv' := [(0, .ref a_N), (1, .int p0), (2, .int (x2_h2 + (1 : Int32)))]) [1, 2, 0] rfl ?_
          exact ih (x2_h2 + (1 : Int32)) h
        · have h := h.1 c17
          refine q_iload_n (pc := 20) F 2 dX1_placeOf_20 rfl ?_
          exact q_iretR (pc := 21) F Z dX1_placeOf_21 h
  refine q_lv (lv' := [(0, .ref a_N), (1, .int p0), (2, .int (0 : Int32))]) [1, 2, 0] rfl ?_
  exact lp2 n2 (0 : Int32) h

def wp_X1_noteSeen (p0 : Int32) (p1 : Int32) (p2 : Int32) (n_seen : Int32) (n_seenAfter : Nat → Int32) (n_seenCell : Nat → Int32) (n_seenLight : Nat → Int32) (post : Int32 → (Nat → Int32) → (Nat → Int32) → (Nat → Int32) → Prop) : Prop := ((n_seen < (8 : Int32) → (vp_in n_seen 8 ∧ (vp_in n_seen 8 ∧ (vp_in n_seen 8 ∧ post (n_seen + (1 : Int32)) (upd n_seenAfter (ix n_seen) p0) (upd n_seenCell (ix n_seen) p1) (upd n_seenLight (ix n_seen) p2))))) ∧ (¬ n_seen < (8 : Int32) → post n_seen n_seenAfter n_seenCell n_seenLight))
abbrev rm_X1_noteSeen : Room := { frames := 0, cells := 0, slots := 0, locals := 0 }
set_option maxRecDepth 100000 in
set_option maxHeartbeats 4000000 in
theorem ct_X1_noteSeen (D : va_G) (cI cZ : ClassId) (a_N a_N_leaver a_N_putOut a_N_seenAfter a_N_seenCell a_N_seenLight : Nat) (n_left : Int32) (n_gone : Int32) (n_dark : Int32) (n_seen : Int32) (n_seenAfter : Nat → Int32) (n_seenCell : Nat → Int32) (n_seenLight : Nat → Int32) (p0 : Int32) (p1 : Int32) (p2 : Int32) {post : Int32 → (Nat → Int32) → (Nat → Int32) → (Nat → Int32) → Prop} (h : wp_X1_noteSeen p0 p1 p2 n_seen n_seenAfter n_seenCell n_seenLight post) (l : Launch) (sz : Nat) : Met l yX1_noteSeen (wsM yX1_noteSeen cX1_noteSeen 4 none) rm_X1_noteSeen (va_Pc [.ref a_N, .int p0, .int p1, .int p2] (gP D cI cZ [(a_N, .inr (1, [.int n_left, .int n_gone, .int n_dark, .int n_seen, .ref a_N_leaver, .ref a_N_putOut, .ref a_N_seenAfter, .ref a_N_seenCell, .ref a_N_seenLight])), (a_N_seenAfter, .inl (cI, 8, .inl n_seenAfter)), (a_N_seenCell, .inl (cI, 8, .inl n_seenCell)), (a_N_seenLight, .inl (cI, 8, .inl n_seenLight))] sz)) (gQv D (fun (u : Int32 × (Nat → Int32) × (Nat → Int32) × (Nat → Int32)) => post u.1 u.2.1 u.2.2.1 u.2.2.2) (fun (u : Int32 × (Nat → Int32) × (Nat → Int32) × (Nat → Int32)) => [(a_N, .inr (1, [.int n_left, .int n_gone, .int n_dark, .int u.1, .ref a_N_leaver, .ref a_N_putOut, .ref a_N_seenAfter, .ref a_N_seenCell, .ref a_N_seenLight])), (a_N_seenAfter, .inl (cI, 8, .inl u.2.1)), (a_N_seenCell, .inl (cI, 8, .inl u.2.2.1)), (a_N_seenLight, .inl (cI, 8, .inl u.2.2.2))]) [(a_N, .inr (1, [.int n_left, .int n_gone, .int n_dark, .int n_seen, .ref a_N_leaver, .ref a_N_putOut, .ref a_N_seenAfter, .ref a_N_seenCell, .ref a_N_seenLight])), (a_N_seenAfter, .inl (cI, 8, .inl n_seenAfter)), (a_N_seenCell, .inl (cI, 8, .inl n_seenCell)), (a_N_seenLight, .inl (cI, 8, .inl n_seenLight))] sz) 0 0 (va_A [(a_N, .inr (1, [.int n_left, .int n_gone, .int n_dark, .int n_seen, .ref a_N_leaver, .ref a_N_putOut, .ref a_N_seenAfter, .ref a_N_seenCell, .ref a_N_seenLight])), (a_N_seenAfter, .inl (cI, 8, .inl n_seenAfter)), (a_N_seenCell, .inl (cI, 8, .inl n_seenCell)), (a_N_seenLight, .inl (cI, 8, .inl n_seenLight))] sz) := by
  refine q_startM (own := RX1) (Qc := gQv D (fun (u : Int32 × (Nat → Int32) × (Nat → Int32) × (Nat → Int32)) => post u.1 u.2.1 u.2.2.1 u.2.2.2) (fun (u : Int32 × (Nat → Int32) × (Nat → Int32) × (Nat → Int32)) => [(a_N, .inr (1, [.int n_left, .int n_gone, .int n_dark, .int u.1, .ref a_N_leaver, .ref a_N_putOut, .ref a_N_seenAfter, .ref a_N_seenCell, .ref a_N_seenLight])), (a_N_seenAfter, .inl (cI, 8, .inl u.2.1)), (a_N_seenCell, .inl (cI, 8, .inl u.2.2.1)), (a_N_seenLight, .inl (cI, 8, .inl u.2.2.2))]) [(a_N, .inr (1, [.int n_left, .int n_gone, .int n_dark, .int n_seen, .ref a_N_leaver, .ref a_N_putOut, .ref a_N_seenAfter, .ref a_N_seenCell, .ref a_N_seenLight])), (a_N_seenAfter, .inl (cI, 8, .inl n_seenAfter)), (a_N_seenCell, .inl (cI, 8, .inl n_seenCell)), (a_N_seenLight, .inl (cI, 8, .inl n_seenLight))]) (by decide +kernel) rfl (Nat.le_of_ble_eq_true rfl) (fun E F Z M => ?_)
  show Wg E [(a_N, .inr (1, [.int n_left, .int n_gone, .int n_dark, .int n_seen, .ref a_N_leaver, .ref a_N_putOut, .ref a_N_seenAfter, .ref a_N_seenCell, .ref a_N_seenLight])), (a_N_seenAfter, .inl (cI, 8, .inl n_seenAfter)), (a_N_seenCell, .inl (cI, 8, .inl n_seenCell)), (a_N_seenLight, .inl (cI, 8, .inl n_seenLight))] 0 0 0 [(0, .ref a_N), (1, .int p0), (2, .int p1), (3, .int p2)] []
  unfold wp_X1_noteSeen at h
  refine q_aload_n (pc := 0) F 0 dX1_noteSeen_0 rfl ?_
  refine q_get (pc := 1) F fgX1_37 0 rfl rfl dX1_noteSeen_1 ?_
  refine q_bipush (pc := 4) F (v := 8) dX1_noteSeen_4 (by decide) ?_
  refine q_icmp_lt (pc := 6) (tgt := 10) F dX1_noteSeen_6 (by decide) (fun c6 => ?_) (fun c6 => ?_)
  · have h := h.1 c6
    refine q_aload_n (pc := 10) F 0 dX1_noteSeen_10 rfl ?_
    refine q_get (pc := 11) F fgX1_18 0 rfl rfl dX1_noteSeen_11 ?_
    refine q_aload_n (pc := 14) F 0 dX1_noteSeen_14 rfl ?_
    refine q_get (pc := 15) F fgX1_37 0 rfl rfl dX1_noteSeen_15 ?_
    refine q_iload_n (pc := 18) F 1 dX1_noteSeen_18 rfl ?_
    obtain ⟨hi19, h⟩ := h
    refine q_iast (pc := 19) F M (cs' := [(a_N, .inr (1, [.int n_left, .int n_gone, .int n_dark, .int n_seen, .ref a_N_leaver, .ref a_N_putOut, .ref a_N_seenAfter, .ref a_N_seenCell, .ref a_N_seenLight])), (a_N_seenAfter, .inl (cI, 8, .inl (upd n_seenAfter (ix n_seen) p0))), (a_N_seenCell, .inl (cI, 8, .inl n_seenCell)), (a_N_seenLight, .inl (cI, 8, .inl n_seenLight))]) 1 rfl hi19 rfl dX1_noteSeen_19 ?_
    refine q_aload_n (pc := 20) F 0 dX1_noteSeen_20 rfl ?_
    refine q_get (pc := 21) F fgX1_21 0 rfl rfl dX1_noteSeen_21 ?_
    refine q_aload_n (pc := 24) F 0 dX1_noteSeen_24 rfl ?_
    refine q_get (pc := 25) F fgX1_37 0 rfl rfl dX1_noteSeen_25 ?_
    refine q_iload_n (pc := 28) F 2 dX1_noteSeen_28 rfl ?_
    obtain ⟨hi29, h⟩ := h
    refine q_iast (pc := 29) F M (cs' := [(a_N, .inr (1, [.int n_left, .int n_gone, .int n_dark, .int n_seen, .ref a_N_leaver, .ref a_N_putOut, .ref a_N_seenAfter, .ref a_N_seenCell, .ref a_N_seenLight])), (a_N_seenAfter, .inl (cI, 8, .inl (upd n_seenAfter (ix n_seen) p0))), (a_N_seenCell, .inl (cI, 8, .inl (upd n_seenCell (ix n_seen) p1))), (a_N_seenLight, .inl (cI, 8, .inl n_seenLight))]) 2 rfl hi29 rfl dX1_noteSeen_29 ?_
    refine q_aload_n (pc := 30) F 0 dX1_noteSeen_30 rfl ?_
    refine q_get (pc := 31) F fgX1_24 0 rfl rfl dX1_noteSeen_31 ?_
    refine q_aload_n (pc := 34) F 0 dX1_noteSeen_34 rfl ?_
    refine q_get (pc := 35) F fgX1_37 0 rfl rfl dX1_noteSeen_35 ?_
    refine q_iload_n (pc := 38) F 3 dX1_noteSeen_38 rfl ?_
    obtain ⟨hi39, h⟩ := h
    refine q_iast (pc := 39) F M (cs' := [(a_N, .inr (1, [.int n_left, .int n_gone, .int n_dark, .int n_seen, .ref a_N_leaver, .ref a_N_putOut, .ref a_N_seenAfter, .ref a_N_seenCell, .ref a_N_seenLight])), (a_N_seenAfter, .inl (cI, 8, .inl (upd n_seenAfter (ix n_seen) p0))), (a_N_seenCell, .inl (cI, 8, .inl (upd n_seenCell (ix n_seen) p1))), (a_N_seenLight, .inl (cI, 8, .inl (upd n_seenLight (ix n_seen) p2)))]) 3 rfl hi39 rfl dX1_noteSeen_39 ?_
    refine q_aload_n (pc := 40) F 0 dX1_noteSeen_40 rfl ?_
    refine q_dup (pc := 41) F dX1_noteSeen_41 rfl ?_
    refine q_get (pc := 42) F fgX1_37 0 rfl rfl dX1_noteSeen_42 ?_
    refine q_iconst (pc := 45) F (v := 1) dX1_noteSeen_45 (by decide) ?_
    refine q_iadd (pc := 46) F dX1_noteSeen_46 ?_
    refine q_put (pc := 47) F M (cs' := [(a_N, .inr (1, [.int n_left, .int n_gone, .int n_dark, .int (n_seen + (1 : Int32)), .ref a_N_leaver, .ref a_N_putOut, .ref a_N_seenAfter, .ref a_N_seenCell, .ref a_N_seenLight])), (a_N_seenAfter, .inl (cI, 8, .inl (upd n_seenAfter (ix n_seen) p0))), (a_N_seenCell, .inl (cI, 8, .inl (upd n_seenCell (ix n_seen) p1))), (a_N_seenLight, .inl (cI, 8, .inl (upd n_seenLight (ix n_seen) p2)))]) fpX1_37 0 rfl rfl rfl (Nat.le_of_ble_eq_true rfl) rfl dX1_noteSeen_47 ?_
    exact q_vretM (pc := 50) F Z dX1_noteSeen_50 (n_seen + (1 : Int32), upd n_seenAfter (ix n_seen) p0, upd n_seenCell (ix n_seen) p1, upd n_seenLight (ix n_seen) p2) h rfl
  · have h := h.2 c6
    exact q_vretM (pc := 9) F Z dX1_noteSeen_9 (n_seen, n_seenAfter, n_seenCell, n_seenLight) h rfl

def wp_X1_sawLaterThan_L2 (x1 : Int32) (n_seen : Int32) (n_seenAfter : Nat → Int32) (post : Int32 → Prop) : Nat → Int32 → Prop
  | 0, _ => False
  | n + 1, x2 => ((n_seen ≤ x2 → post (0 : Int32)) ∧ (¬ n_seen ≤ x2 → (vp_in x2 8 ∧ (((n_seenAfter (ix x2)) ≤ x1 → wp_X1_sawLaterThan_L2 x1 n_seen n_seenAfter post n (x2 + (1 : Int32))) ∧ (¬ (n_seenAfter (ix x2)) ≤ x1 → post (1 : Int32))))))
def wp_X1_sawLaterThan (p0 : Int32) (n_seen : Int32) (n_seenAfter : Nat → Int32) (post : Int32 → Prop) : Prop := (∃ n2 : Nat, wp_X1_sawLaterThan_L2 p0 n_seen n_seenAfter post n2 (0 : Int32))
abbrev rm_X1_sawLaterThan : Room := { frames := 0, cells := 0, slots := 0, locals := 0 }
set_option maxRecDepth 100000 in
set_option maxHeartbeats 4000000 in
theorem ct_X1_sawLaterThan (D : va_G) (cI cZ : ClassId) (a_N a_N_leaver a_N_putOut a_N_seenAfter a_N_seenCell a_N_seenLight : Nat) (n_left : Int32) (n_gone : Int32) (n_dark : Int32) (n_seen : Int32) (n_seenAfter : Nat → Int32) (p0 : Int32) {post : Int32 → Prop} (h : wp_X1_sawLaterThan p0 n_seen n_seenAfter post) (l : Launch) (sz : Nat) : Met l yX1_sawLaterThan (wsM yX1_sawLaterThan cX1_sawLaterThan 3 (some .boolean)) rm_X1_sawLaterThan (va_Pc [.ref a_N, .int p0] (gP D cI cZ [(a_N, .inr (1, [.int n_left, .int n_gone, .int n_dark, .int n_seen, .ref a_N_leaver, .ref a_N_putOut, .ref a_N_seenAfter, .ref a_N_seenCell, .ref a_N_seenLight])), (a_N_seenAfter, .inl (cI, 8, .inl n_seenAfter))] sz)) (gR (fun r => isB r ∧ post r)) 0 0 (fun _ => False) := by
  refine q_startR (own := RX1) (by decide +kernel) rfl (Nat.le_of_ble_eq_true rfl) (fun E F Z => ?_)
  show Wg E [(a_N, .inr (1, [.int n_left, .int n_gone, .int n_dark, .int n_seen, .ref a_N_leaver, .ref a_N_putOut, .ref a_N_seenAfter, .ref a_N_seenCell, .ref a_N_seenLight])), (a_N_seenAfter, .inl (cI, 8, .inl n_seenAfter))] 0 0 0 [(0, .ref a_N), (1, .int p0)] []
  unfold wp_X1_sawLaterThan at h
  refine q_iconst (pc := 0) F (v := 0) dX1_sawLaterThan_0 (by decide) ?_
  refine q_istore_n (pc := 1) F (lv' := [(2, .int (0 : Int32)), (0, .ref a_N), (1, .int p0)]) dX1_sawLaterThan_1 (by decide) rfl ?_
  obtain ⟨n2, h⟩ := h
  have lp2 : ∀ (n : Nat) (x2_h2 : Int32), wp_X1_sawLaterThan_L2 p0 n_seen n_seenAfter post n x2_h2 → Wg E [(a_N, .inr (1, [.int n_left, .int n_gone, .int n_dark, .int n_seen, .ref a_N_leaver, .ref a_N_putOut, .ref a_N_seenAfter, .ref a_N_seenCell, .ref a_N_seenLight])), (a_N_seenAfter, .inl (cI, 8, .inl n_seenAfter))] 0 0 2 [(0, .ref a_N), (1, .int p0), (2, .int x2_h2)] [] := by
    intro n
    induction n with
    | zero => intro x2_h2 h; exact h.elim
    | succ n ih =>
      intro x2_h2 h
      unfold wp_X1_sawLaterThan_L2 at h
      refine q_iload_n (pc := 2) F 2 dX1_sawLaterThan_2 rfl ?_
      refine q_aload_n (pc := 3) F 0 dX1_sawLaterThan_3 rfl ?_
      refine q_get (pc := 4) F fgX1_37 0 rfl rfl dX1_sawLaterThan_4 ?_
      refine q_icmp_ge (pc := 7) (tgt := 28) F dX1_sawLaterThan_7 (by decide) (fun c7 => ?_) (fun c7 => ?_)
      · have h := h.1 c7
        refine q_iconst (pc := 28) F (v := 0) dX1_sawLaterThan_28 (by decide) ?_
        exact q_zretR (pc := 29) F Z dX1_sawLaterThan_29 (Or.inl rfl) h
      · have h := h.2 c7
        refine q_aload_n (pc := 10) F 0 dX1_sawLaterThan_10 rfl ?_
        refine q_get (pc := 11) F fgX1_18 0 rfl rfl dX1_sawLaterThan_11 ?_
        refine q_iload_n (pc := 14) F 2 dX1_sawLaterThan_14 rfl ?_
        obtain ⟨hi15, h⟩ := h
        refine q_iald (pc := 15) F 1 rfl hi15 dX1_sawLaterThan_15 ?_
        refine q_iload_n (pc := 16) F 1 dX1_sawLaterThan_16 rfl ?_
        refine q_icmp_le (pc := 17) (tgt := 22) F dX1_sawLaterThan_17 (by decide) (fun c17 => ?_) (fun c17 => ?_)
        · have h := h.1 c17
          refine q_iinc (pc := 22) F (v := x2_h2 + (1 : Int32)) (lv' := [(2, .int (x2_h2 + (1 : Int32))), (0, .ref a_N), (1, .int p0)]) 2 dX1_sawLaterThan_22 rfl rfl (by decide) rfl ?_
          refine q_goto (pc := 25) (tgt := 2) F dX1_sawLaterThan_25 (by decide) ?_
          refine q_lv (lv' := [(0, .ref a_N), (1, .int p0), (2, .int (x2_h2 + (1 : Int32)))]) [1, 2, 0] rfl ?_
          exact ih (x2_h2 + (1 : Int32)) h
        · have h := h.2 c17
          refine q_iconst (pc := 20) F (v := 1) dX1_sawLaterThan_20 (by decide) ?_
          exact q_zretR (pc := 21) F Z dX1_sawLaterThan_21 (Or.inr rfl) h
  refine q_lv (lv' := [(0, .ref a_N), (1, .int p0), (2, .int (0 : Int32))]) [1, 2, 0] rfl ?_
  exact lp2 n2 (0 : Int32) h

def wp_X1_agrees_L2 (x1 : Int32) (x2 : Int32) (n_seen : Int32) (n_seenAfter : Nat → Int32) (n_seenCell : Nat → Int32) (n_seenLight : Nat → Int32) (post : Int32 → Prop) : Nat → Int32 → Prop
  | 0, _ => False
  | n + 1, x3 => ((n_seen ≤ x3 → post (1 : Int32)) ∧ (¬ n_seen ≤ x3 → (vp_in x3 8 ∧ (jn (fun (K41 : Prop) => (((n_seenAfter (ix x3)) = x1 → (vp_in x3 8 ∧ (wp_X4_bitOf x2 (n_seenCell (ix x3)) (fun (r27 : Int32) => (vp_in x3 8 ∧ ((r27 = (n_seenLight (ix x3)) → K41) ∧ (¬ r27 = (n_seenLight (ix x3)) → post (0 : Int32)))))))) ∧ (¬ (n_seenAfter (ix x3)) = x1 → K41))) (wp_X1_agrees_L2 x1 x2 n_seen n_seenAfter n_seenCell n_seenLight post n (x3 + (1 : Int32)))))))
def wp_X1_agrees (p0 : Int32) (p1 : Int32) (n_seen : Int32) (n_seenAfter : Nat → Int32) (n_seenCell : Nat → Int32) (n_seenLight : Nat → Int32) (post : Int32 → Prop) : Prop := (∃ n2 : Nat, wp_X1_agrees_L2 p0 p1 n_seen n_seenAfter n_seenCell n_seenLight post n2 (0 : Int32))
abbrev rm_X1_agrees : Room := { frames := 1, cells := 0, slots := 0, locals := 21 }
set_option maxRecDepth 100000 in
set_option maxHeartbeats 4000000 in
theorem ct_X1_agrees (D : va_G) (cI cZ : ClassId) (a_N a_N_leaver a_N_putOut a_N_seenAfter a_N_seenCell a_N_seenLight : Nat) (n_left : Int32) (n_gone : Int32) (n_dark : Int32) (n_seen : Int32) (n_seenAfter : Nat → Int32) (n_seenCell : Nat → Int32) (n_seenLight : Nat → Int32) (p0 : Int32) (p1 : Int32) {post : Int32 → Prop} (h : wp_X1_agrees p0 p1 n_seen n_seenAfter n_seenCell n_seenLight post) (l : Launch) (sz : Nat) : Met l yX1_agrees (wsM yX1_agrees cX1_agrees 4 (some .boolean)) rm_X1_agrees (va_Pc [.ref a_N, .int p0, .int p1] (gP D cI cZ [(a_N, .inr (1, [.int n_left, .int n_gone, .int n_dark, .int n_seen, .ref a_N_leaver, .ref a_N_putOut, .ref a_N_seenAfter, .ref a_N_seenCell, .ref a_N_seenLight])), (a_N_seenAfter, .inl (cI, 8, .inl n_seenAfter)), (a_N_seenCell, .inl (cI, 8, .inl n_seenCell)), (a_N_seenLight, .inl (cI, 8, .inl n_seenLight))] sz)) (gR (fun r => isB r ∧ post r)) 0 0 (fun _ => False) := by
  refine q_startR (own := RX1) (by decide +kernel) rfl (Nat.le_of_ble_eq_true rfl) (fun E F Z => ?_)
  show Wg E [(a_N, .inr (1, [.int n_left, .int n_gone, .int n_dark, .int n_seen, .ref a_N_leaver, .ref a_N_putOut, .ref a_N_seenAfter, .ref a_N_seenCell, .ref a_N_seenLight])), (a_N_seenAfter, .inl (cI, 8, .inl n_seenAfter)), (a_N_seenCell, .inl (cI, 8, .inl n_seenCell)), (a_N_seenLight, .inl (cI, 8, .inl n_seenLight))] 0 0 0 [(0, .ref a_N), (1, .int p0), (2, .int p1)] []
  unfold wp_X1_agrees at h
  refine q_iconst (pc := 0) F (v := 0) dX1_agrees_0 (by decide) ?_
  refine q_istore_n (pc := 1) F (lv' := [(3, .int (0 : Int32)), (0, .ref a_N), (1, .int p0), (2, .int p1)]) dX1_agrees_1 (by decide) rfl ?_
  obtain ⟨n2, h⟩ := h
  have lp2 : ∀ (n : Nat) (x3_h2 : Int32), wp_X1_agrees_L2 p0 p1 n_seen n_seenAfter n_seenCell n_seenLight post n x3_h2 → Wg E [(a_N, .inr (1, [.int n_left, .int n_gone, .int n_dark, .int n_seen, .ref a_N_leaver, .ref a_N_putOut, .ref a_N_seenAfter, .ref a_N_seenCell, .ref a_N_seenLight])), (a_N_seenAfter, .inl (cI, 8, .inl n_seenAfter)), (a_N_seenCell, .inl (cI, 8, .inl n_seenCell)), (a_N_seenLight, .inl (cI, 8, .inl n_seenLight))] 0 0 2 [(0, .ref a_N), (1, .int p0), (2, .int p1), (3, .int x3_h2)] [] := by
    intro n
    induction n with
    | zero => intro x3_h2 h; exact h.elim
    | succ n ih =>
      intro x3_h2 h
      unfold wp_X1_agrees_L2 at h
      refine q_iload_n (pc := 2) F 3 dX1_agrees_2 rfl ?_
      refine q_aload_n (pc := 3) F 0 dX1_agrees_3 rfl ?_
      refine q_get (pc := 4) F fgX1_37 0 rfl rfl dX1_agrees_4 ?_
      refine q_icmp_ge (pc := 7) (tgt := 47) F dX1_agrees_7 (by decide) (fun c7 => ?_) (fun c7 => ?_)
      · have h := h.1 c7
        refine q_iconst (pc := 47) F (v := 1) dX1_agrees_47 (by decide) ?_
        exact q_zretR (pc := 48) F Z dX1_agrees_48 (Or.inr rfl) h
      · have h := h.2 c7
        refine q_aload_n (pc := 10) F 0 dX1_agrees_10 rfl ?_
        refine q_get (pc := 11) F fgX1_18 0 rfl rfl dX1_agrees_11 ?_
        refine q_iload_n (pc := 14) F 3 dX1_agrees_14 rfl ?_
        obtain ⟨hi15, h⟩ := h
        refine q_iald (pc := 15) F 1 rfl hi15 dX1_agrees_15 ?_
        refine q_iload_n (pc := 16) F 1 dX1_agrees_16 rfl ?_
        refine jnW h (fun K => K → Wg E [(a_N, .inr (1, [.int n_left, .int n_gone, .int n_dark, .int n_seen, .ref a_N_leaver, .ref a_N_putOut, .ref a_N_seenAfter, .ref a_N_seenCell, .ref a_N_seenLight])), (a_N_seenAfter, .inl (cI, 8, .inl n_seenAfter)), (a_N_seenCell, .inl (cI, 8, .inl n_seenCell)), (a_N_seenLight, .inl (cI, 8, .inl n_seenLight))] 0 0 41 [(0, .ref a_N), (1, .int p0), (2, .int p1), (3, .int x3_h2)] []) ?_ ?_
        · intro h
          refine q_iinc (pc := 41) F (v := x3_h2 + (1 : Int32)) (lv' := [(3, .int (x3_h2 + (1 : Int32))), (0, .ref a_N), (1, .int p0), (2, .int p1)]) 3 dX1_agrees_41 rfl rfl (by decide) rfl ?_
          refine q_goto (pc := 44) (tgt := 2) F dX1_agrees_44 (by decide) ?_
          refine q_lv (lv' := [(0, .ref a_N), (1, .int p0), (2, .int p1), (3, .int (x3_h2 + (1 : Int32)))]) [1, 2, 3, 0] rfl ?_
          exact ih (x3_h2 + (1 : Int32)) h
        · intro K41 J41 h
          refine q_icmp_ne (pc := 17) (tgt := 41) F dX1_agrees_17 (by decide) (fun c17 => ?_) (fun c17 => ?_)
          · have h := h.2 c17
            exact J41 h
          · have h := h.1 c17
            refine q_iload_n (pc := 20) F 2 dX1_agrees_20 rfl ?_
            refine q_aload_n (pc := 21) F 0 dX1_agrees_21 rfl ?_
            refine q_get (pc := 22) F fgX1_21 0 rfl rfl dX1_agrees_22 ?_
            refine q_iload_n (pc := 25) F 3 dX1_agrees_25 rfl ?_
            obtain ⟨hi26, h⟩ := h
            refine q_iald (pc := 26) F 2 rfl hi26 dX1_agrees_26 ?_
            refine q_cR (q_runSN (As := [.int p1, .int (n_seenCell (ix x3_h2))]) (rest := []) (pc := 27) F (fun l sz => ct_X4_bitOf D cI cZ p1 (n_seenCell (ix x3_h2)) h l sz) mc_yX4_bitOf sm_yX4_bitOf (fun U h => h.2.2.2.2.1) ⟨by decide, by decide⟩ ⟨by decide, by decide⟩ ⟨rfl, rfl⟩ [] rfl rfl rfl rfl (Nat.le_of_ble_eq_true rfl) dX1_agrees_27) (fun r27 h => ?_)
            refine q_aload_n (pc := 30) F 0 dX1_agrees_30 rfl ?_
            refine q_get (pc := 31) F fgX1_24 0 rfl rfl dX1_agrees_31 ?_
            refine q_iload_n (pc := 34) F 3 dX1_agrees_34 rfl ?_
            obtain ⟨hi35, h⟩ := h
            refine q_iald (pc := 35) F 3 rfl hi35 dX1_agrees_35 ?_
            refine q_icmp_eq (pc := 36) (tgt := 41) F dX1_agrees_36 (by decide) (fun c36 => ?_) (fun c36 => ?_)
            · have h := h.1 c36
              exact J41 h
            · have h := h.2 c36
              refine q_iconst (pc := 39) F (v := 0) dX1_agrees_39 (by decide) ?_
              exact q_zretR (pc := 40) F Z dX1_agrees_40 (Or.inl rfl) h
  refine q_lv (lv' := [(0, .ref a_N), (1, .int p0), (2, .int p1), (3, .int (0 : Int32))]) [1, 2, 3, 0] rfl ?_
  exact lp2 n2 (0 : Int32) h
