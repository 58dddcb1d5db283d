def wp_X2_lookAt (k_tablesKnown : Int32) (post : Int32 → Prop) : Prop := post (0 : Int32)
abbrev rm_X2_lookAt : Room := { frames := 0, cells := 0, slots := 0, locals := 0 }
set_option maxRecDepth 100000 in
set_option maxHeartbeats 4000000 in
theorem ct_X2_lookAt (D : va_G) (cI cZ : ClassId) (a_K a_H a_K_longest a_K_ways a_K_griefs a_K_wins a_D : Nat) (k_tablesKnown : Int32) (k_chosenPerson : Int32) (k_chosenLamp : Int32) {post : Int32 → Prop} (h : wp_X2_lookAt k_tablesKnown post) (l : Launch) (sz : Nat) : Met l yX2_lookAt (wsM yX2_lookAt cX2_lookAt 2 none) rm_X2_lookAt (va_Pc [.ref a_K, .ref a_D] (gP D cI cZ [(a_K, .inr (2, [.ref a_H, .ref a_K_longest, .ref a_K_ways, .ref a_K_griefs, .ref a_K_wins, .int k_tablesKnown, .int k_chosenPerson, .int k_chosenLamp]))] sz)) (gQv D (fun (u : Int32) => post u) (fun (u : Int32) => [(a_K, .inr (2, [.ref a_D, .ref a_K_longest, .ref a_K_ways, .ref a_K_griefs, .ref a_K_wins, .int u, .int k_chosenPerson, .int k_chosenLamp]))]) [(a_K, .inr (2, [.ref a_H, .ref a_K_longest, .ref a_K_ways, .ref a_K_griefs, .ref a_K_wins, .int k_tablesKnown, .int k_chosenPerson, .int k_chosenLamp]))] sz) 0 0 (va_A [(a_K, .inr (2, [.ref a_H, .ref a_K_longest, .ref a_K_ways, .ref a_K_griefs, .ref a_K_wins, .int k_tablesKnown, .int k_chosenPerson, .int k_chosenLamp]))] sz) := by
  refine q_startM (own := RX2) (Qc := gQv D (fun (u : Int32) => post u) (fun (u : Int32) => [(a_K, .inr (2, [.ref a_D, .ref a_K_longest, .ref a_K_ways, .ref a_K_griefs, .ref a_K_wins, .int u, .int k_chosenPerson, .int k_chosenLamp]))]) [(a_K, .inr (2, [.ref a_H, .ref a_K_longest, .ref a_K_ways, .ref a_K_griefs, .ref a_K_wins, .int k_tablesKnown, .int k_chosenPerson, .int k_chosenLamp]))]) (by decide +kernel) rfl (Nat.le_of_ble_eq_true rfl) (fun E F Z M => ?_)
  show Wg E [(a_K, .inr (2, [.ref a_H, .ref a_K_longest, .ref a_K_ways, .ref a_K_griefs, .ref a_K_wins, .int k_tablesKnown, .int k_chosenPerson, .int k_chosenLamp]))] 0 0 0 [(0, .ref a_K), (1, .ref a_D)] []
  unfold wp_X2_lookAt at h
  refine q_aload_n (pc := 0) F 0 dX2_lookAt_0 rfl ?_
  refine q_aload_n (pc := 1) F 1 dX2_lookAt_1 rfl ?_
  refine q_put (pc := 2) F M (cs' := [(a_K, .inr (2, [.ref a_D, .ref a_K_longest, .ref a_K_ways, .ref a_K_griefs, .ref a_K_wins, .int k_tablesKnown, .int k_chosenPerson, .int k_chosenLamp]))]) fpX2_24 0 rfl rfl rfl (Nat.le_of_ble_eq_true rfl) rfl dX2_lookAt_2 ?_
  refine q_aload_n (pc := 5) F 0 dX2_lookAt_5 rfl ?_
  refine q_iconst (pc := 6) F (v := 0) dX2_lookAt_6 (by decide) ?_
  refine q_put (pc := 7) F M (cs' := [(a_K, .inr (2, [.ref a_D, .ref a_K_longest, .ref a_K_ways, .ref a_K_griefs, .ref a_K_wins, .int (0 : Int32), .int k_chosenPerson, .int k_chosenLamp]))]) fpX2_28 0 rfl rfl rfl (Nat.le_of_ble_eq_true rfl) rfl dX2_lookAt_7 ?_
  exact q_vretM (pc := 10) F Z dX2_lookAt_10 (0 : Int32) h rfl

def wp_X2_fillLongest_L13 (x3 : Int32) (k_longest : Nat → Int32) (K56 : Int32 → Prop) : Nat → Int32 → Int32 → Prop
  | 0, _, _ => False
  | n + 1, x4, x5 => (((7 : Int32) ≤ x5 → K56 x4) ∧ (¬ (7 : Int32) ≤ x5 → (wp_X4_bitOf x3 x5 (fun (r23 : Int32) => (jn (fun (K50 : Int32 → Prop) => ((r23 = (1 : Int32) → (vp_in (x3 &&& ((jshl (1 : Int32) x5) ^^^ (-1 : Int32))) 128 ∧ (∀ x4_48 : Int32, x4_48 = jmax x4 (k_longest (ix (x3 &&& ((jshl (1 : Int32) x5) ^^^ (-1 : Int32))))) → K50 x4_48))) ∧ (¬ r23 = (1 : Int32) → K50 x4))) (fun (x4_50 : Int32) => wp_X2_fillLongest_L13 x3 k_longest K56 n x4_50 (x5 + (1 : Int32))))))))
def wp_X2_fillLongest_L2 (x1 : Int32) (x2 : Int32) (h_leavers : Nat → Int32) (post : (Nat → Int32) → Prop) : Nat → Int32 → (Nat → Int32) → Prop
  | 0, _, _ => False
  | n + 1, x3, k_longest => ((x2 ≤ x3 → post k_longest) ∧ (¬ x2 ≤ x3 → (jn (fun (K56 : Int32 → Prop) => (∃ n13 : Nat, wp_X2_fillLongest_L13 x3 k_longest K56 n13 (-1 : Int32) (0 : Int32))) (fun (x4_56 : Int32) => (vp_in x3 128 ∧ (wp_J6_bitCount_0f7a4 ((h_leavers (ix x3)) &&& x1) (fun (r72 : Int32) => (vp_in x3 128 ∧ wp_X2_fillLongest_L2 x1 x2 h_leavers post n (x3 + (1 : Int32)) (upd k_longest (ix x3) (jmin r72 ((1 : Int32) + x4_56)))))))))))
def wp_X2_fillLongest (p0 : Int32) (p1 : Int32) (k_longest : Nat → Int32) (h_leavers : Nat → Int32) (post : (Nat → Int32) → Prop) : Prop := (∃ n2 : Nat, wp_X2_fillLongest_L2 p0 p1 h_leavers post n2 (0 : Int32) k_longest)
abbrev rm_X2_fillLongest : Room := { frames := 1, cells := 0, slots := 0, locals := 21 }
set_option maxRecDepth 100000 in
set_option maxHeartbeats 4000000 in
theorem ct_X2_fillLongest (D : va_G) (cI cZ : ClassId) (a_K a_H a_K_longest a_K_ways a_K_griefs a_K_wins a_H_lampCell a_H_lampReach a_H_shine a_H_personCell a_H_wish a_H_side a_H_light a_H_leavers : Nat) (k_tablesKnown : Int32) (k_chosenPerson : Int32) (k_chosenLamp : Int32) (k_longest : Nat → Int32) (h_wide : Int32) (h_high : Int32) (h_walls : Int32) (h_doors : Int32) (h_law : Int32) (h_lamps : Int32) (h_people : Int32) (h_leavers : Nat → Int32) (p0 : Int32) (p1 : Int32) {post : (Nat → Int32) → Prop} (h : wp_X2_fillLongest p0 p1 k_longest h_leavers post) (l : Launch) (sz : Nat) : Met l yX2_fillLongest (wsM yX2_fillLongest cX2_fillLongest 6 none) rm_X2_fillLongest (va_Pc [.ref a_K, .int p0, .int p1] (gP D cI cZ [(a_K, .inr (2, [.ref a_H, .ref a_K_longest, .ref a_K_ways, .ref a_K_griefs, .ref a_K_wins, .int k_tablesKnown, .int k_chosenPerson, .int k_chosenLamp])), (a_K_longest, .inl (cI, 128, .inl k_longest)), (a_H, .inr (0, [.int h_wide, .int h_high, .int h_walls, .int h_doors, .int h_law, .int h_lamps, .int h_people, .ref a_H_lampCell, .ref a_H_lampReach, .ref a_H_shine, .ref a_H_personCell, .ref a_H_wish, .ref a_H_side, .ref a_H_light, .ref a_H_leavers])), (a_H_leavers, .inl (cI, 128, .inl h_leavers))] sz)) (gQv D (fun (u : (Nat → Int32)) => post u) (fun (u : (Nat → Int32)) => [(a_K, .inr (2, [.ref a_H, .ref a_K_longest, .ref a_K_ways, .ref a_K_griefs, .ref a_K_wins, .int k_tablesKnown, .int k_chosenPerson, .int k_chosenLamp])), (a_K_longest, .inl (cI, 128, .inl u)), (a_H, .inr (0, [.int h_wide, .int h_high, .int h_walls, .int h_doors, .int h_law, .int h_lamps, .int h_people, .ref a_H_lampCell, .ref a_H_lampReach, .ref a_H_shine, .ref a_H_personCell, .ref a_H_wish, .ref a_H_side, .ref a_H_light, .ref a_H_leavers])), (a_H_leavers, .inl (cI, 128, .inl h_leavers))]) [(a_K, .inr (2, [.ref a_H, .ref a_K_longest, .ref a_K_ways, .ref a_K_griefs, .ref a_K_wins, .int k_tablesKnown, .int k_chosenPerson, .int k_chosenLamp])), (a_K_longest, .inl (cI, 128, .inl k_longest)), (a_H, .inr (0, [.int h_wide, .int h_high, .int h_walls, .int h_doors, .int h_law, .int h_lamps, .int h_people, .ref a_H_lampCell, .ref a_H_lampReach, .ref a_H_shine, .ref a_H_personCell, .ref a_H_wish, .ref a_H_side, .ref a_H_light, .ref a_H_leavers])), (a_H_leavers, .inl (cI, 128, .inl h_leavers))] sz) 0 0 (va_A [(a_K, .inr (2, [.ref a_H, .ref a_K_longest, .ref a_K_ways, .ref a_K_griefs, .ref a_K_wins, .int k_tablesKnown, .int k_chosenPerson, .int k_chosenLamp])), (a_K_longest, .inl (cI, 128, .inl k_longest)), (a_H, .inr (0, [.int h_wide, .int h_high, .int h_walls, .int h_doors, .int h_law, .int h_lamps, .int h_people, .ref a_H_lampCell, .ref a_H_lampReach, .ref a_H_shine, .ref a_H_personCell, .ref a_H_wish, .ref a_H_side, .ref a_H_light, .ref a_H_leavers])), (a_H_leavers, .inl (cI, 128, .inl h_leavers))] sz) := by
  refine q_startM (own := RX2) (Qc := gQv D (fun (u : (Nat → Int32)) => post u) (fun (u : (Nat → Int32)) => [(a_K, .inr (2, [.ref a_H, .ref a_K_longest, .ref a_K_ways, .ref a_K_griefs, .ref a_K_wins, .int k_tablesKnown, .int k_chosenPerson, .int k_chosenLamp])), (a_K_longest, .inl (cI, 128, .inl u)), (a_H, .inr (0, [.int h_wide, .int h_high, .int h_walls, .int h_doors, .int h_law, .int h_lamps, .int h_people, .ref a_H_lampCell, .ref a_H_lampReach, .ref a_H_shine, .ref a_H_personCell, .ref a_H_wish, .ref a_H_side, .ref a_H_light, .ref a_H_leavers])), (a_H_leavers, .inl (cI, 128, .inl h_leavers))]) [(a_K, .inr (2, [.ref a_H, .ref a_K_longest, .ref a_K_ways, .ref a_K_griefs, .ref a_K_wins, .int k_tablesKnown, .int k_chosenPerson, .int k_chosenLamp])), (a_K_longest, .inl (cI, 128, .inl k_longest)), (a_H, .inr (0, [.int h_wide, .int h_high, .int h_walls, .int h_doors, .int h_law, .int h_lamps, .int h_people, .ref a_H_lampCell, .ref a_H_lampReach, .ref a_H_shine, .ref a_H_personCell, .ref a_H_wish, .ref a_H_side, .ref a_H_light, .ref a_H_leavers])), (a_H_leavers, .inl (cI, 128, .inl h_leavers))]) (by decide +kernel) rfl (Nat.le_of_ble_eq_true rfl) (fun E F Z M => ?_)
  show Wg E [(a_K, .inr (2, [.ref a_H, .ref a_K_longest, .ref a_K_ways, .ref a_K_griefs, .ref a_K_wins, .int k_tablesKnown, .int k_chosenPerson, .int k_chosenLamp])), (a_K_longest, .inl (cI, 128, .inl k_longest)), (a_H, .inr (0, [.int h_wide, .int h_high, .int h_walls, .int h_doors, .int h_law, .int h_lamps, .int h_people, .ref a_H_lampCell, .ref a_H_lampReach, .ref a_H_shine, .ref a_H_personCell, .ref a_H_wish, .ref a_H_side, .ref a_H_light, .ref a_H_leavers])), (a_H_leavers, .inl (cI, 128, .inl h_leavers))] 0 0 0 [(0, .ref a_K), (1, .int p0), (2, .int p1)] []
  unfold wp_X2_fillLongest at h
  refine q_iconst (pc := 0) F (v := 0) dX2_fillLongest_0 (by decide) ?_
  refine q_istore_n (pc := 1) F (lv' := [(3, .int (0 : Int32)), (0, .ref a_K), (1, .int p0), (2, .int p1)]) dX2_fillLongest_1 (by decide) rfl ?_
  obtain ⟨n2, h⟩ := h
  have lp2 : ∀ (n : Nat) (x3_h2 : Int32) (k_longest_h2 : Nat → Int32), wp_X2_fillLongest_L2 p0 p1 h_leavers post n x3_h2 k_longest_h2 → Wg E [(a_K, .inr (2, [.ref a_H, .ref a_K_longest, .ref a_K_ways, .ref a_K_griefs, .ref a_K_wins, .int k_tablesKnown, .int k_chosenPerson, .int k_chosenLamp])), (a_K_longest, .inl (cI, 128, .inl k_longest_h2)), (a_H, .inr (0, [.int h_wide, .int h_high, .int h_walls, .int h_doors, .int h_law, .int h_lamps, .int h_people, .ref a_H_lampCell, .ref a_H_lampReach, .ref a_H_shine, .ref a_H_personCell, .ref a_H_wish, .ref a_H_side, .ref a_H_light, .ref a_H_leavers])), (a_H_leavers, .inl (cI, 128, .inl h_leavers))] 0 0 2 [(0, .ref a_K), (1, .int p0), (2, .int p1), (3, .int x3_h2)] [] := by
    intro n
    induction n with
    | zero => intro x3_h2 k_longest_h2 h; exact h.elim
    | succ n ih =>
      intro x3_h2 k_longest_h2 h
      unfold wp_X2_fillLongest_L2 at h
      refine q_iload_n (pc := 2) F 3 dX2_fillLongest_2 rfl ?_
      refine q_iload_n (pc := 3) F 2 dX2_fillLongest_3 rfl ?_
      refine q_icmp_ge (pc := 4) (tgt := 89) F dX2_fillLongest_4 (by decide) (fun c4 => ?_) (fun c4 => ?_)
      · have h := h.1 c4
        exact q_vretM (pc := 89) F Z dX2_fillLongest_89 k_longest_h2 h rfl
      · have h := h.2 c4
        refine q_iconst (pc := 7) F (v := -1) dX2_fillLongest_7 (by decide) ?_
        refine q_istore (pc := 8) F (lv' := [(4, .int (-1 : Int32)), (0, .ref a_K), (1, .int p0), (2, .int p1), (3, .int x3_h2)]) dX2_fillLongest_8 (by decide) rfl ?_
        refine q_iconst (pc := 10) F (v := 0) dX2_fillLongest_10 (by decide) ?_
        refine q_istore (pc := 11) F (lv' := [(5, .int (0 : Int32)), (4, .int (-1 : Int32)), (0, .ref a_K), (1, .int p0), (2, .int p1), (3, .int x3_h2)]) dX2_fillLongest_11 (by decide) rfl ?_
        refine jnW h (fun K => ∀ (x4_56 : Int32), K x4_56 → Wg E [(a_K, .inr (2, [.ref a_H, .ref a_K_longest, .ref a_K_ways, .ref a_K_griefs, .ref a_K_wins, .int k_tablesKnown, .int k_chosenPerson, .int k_chosenLamp])), (a_K_longest, .inl (cI, 128, .inl k_longest_h2)), (a_H, .inr (0, [.int h_wide, .int h_high, .int h_walls, .int h_doors, .int h_law, .int h_lamps, .int h_people, .ref a_H_lampCell, .ref a_H_lampReach, .ref a_H_shine, .ref a_H_personCell, .ref a_H_wish, .ref a_H_side, .ref a_H_light, .ref a_H_leavers])), (a_H_leavers, .inl (cI, 128, .inl h_leavers))] 0 0 56 [(0, .ref a_K), (1, .int p0), (2, .int p1), (3, .int x3_h2), (4, .int x4_56)] []) ?_ ?_
        · intro x4_56 h
          refine q_aload_n (pc := 56) F 0 dX2_fillLongest_56 rfl ?_
          refine q_get (pc := 57) F fgX2_9 0 rfl rfl dX2_fillLongest_57 ?_
          refine q_iload_n (pc := 60) F 3 dX2_fillLongest_60 rfl ?_
          refine q_aload_n (pc := 61) F 0 dX2_fillLongest_61 rfl ?_
          refine q_get (pc := 62) F fgX2_24 0 rfl rfl dX2_fillLongest_62 ?_
          refine q_get (pc := 65) F fgX2_51 2 rfl rfl dX2_fillLongest_65 ?_
          refine q_iload_n (pc := 68) F 3 dX2_fillLongest_68 rfl ?_
          obtain ⟨hi69, h⟩ := h
          refine q_iald (pc := 69) F 3 rfl hi69 dX2_fillLongest_69 ?_
          refine q_iload_n (pc := 70) F 1 dX2_fillLongest_70 rfl ?_
          refine q_iand (pc := 71) F dX2_fillLongest_71 ?_
          refine q_cR (q_runS (As := [.int ((h_leavers (ix x3_h2)) &&& p0)]) (rest := [.int x3_h2, .ref a_K_longest]) (pc := 72) F (fun l sz => ct_J6_bitCount_0f7a4 D cI cZ ((h_leavers (ix x3_h2)) &&& p0) h l sz) mc_yJ6_bitCount_0f7a4 sm_yJ6_bitCount_0f7a4 mlX2_54 ⟨by decide, by decide⟩ ⟨by decide, by decide⟩ ⟨rfl, rfl⟩ [] rfl rfl rfl rfl (Nat.le_of_ble_eq_true rfl) dX2_fillLongest_72) (fun r72 h => ?_)
          refine q_iconst (pc := 75) F (v := 1) dX2_fillLongest_75 (by decide) ?_
          refine q_iload (pc := 76) F 4 dX2_fillLongest_76 rfl ?_
          refine q_iadd (pc := 78) F dX2_fillLongest_78 ?_
          refine q_mmin (pc := 79) F mlX2_60 sm_Lib_Math_min_name in_J9 cd_Lib_Math_min_name (by decide) (Nat.le_of_ble_eq_true rfl) (by decide) (by decide) dX2_fillLongest_79 ?_
          obtain ⟨hi82, h⟩ := h
          refine q_iast (pc := 82) F M (cs' := [(a_K, .inr (2, [.ref a_H, .ref a_K_longest, .ref a_K_ways, .ref a_K_griefs, .ref a_K_wins, .int k_tablesKnown, .int k_chosenPerson, .int k_chosenLamp])), (a_K_longest, .inl (cI, 128, .inl (upd k_longest_h2 (ix x3_h2) (jmin r72 ((1 : Int32) + x4_56))))), (a_H, .inr (0, [.int h_wide, .int h_high, .int h_walls, .int h_doors, .int h_law, .int h_lamps, .int h_people, .ref a_H_lampCell, .ref a_H_lampReach, .ref a_H_shine, .ref a_H_personCell, .ref a_H_wish, .ref a_H_side, .ref a_H_light, .ref a_H_leavers])), (a_H_leavers, .inl (cI, 128, .inl h_leavers))]) 1 rfl hi82 rfl dX2_fillLongest_82 ?_
          refine q_iinc (pc := 83) F (v := x3_h2 + (1 : Int32)) (lv' := [(3, .int (x3_h2 + (1 : Int32))), (0, .ref a_K), (1, .int p0), (2, .int p1), (4, .int x4_56)]) 3 dX2_fillLongest_83 rfl rfl (by decide) rfl ?_
          refine q_goto (pc := 86) (tgt := 2) F dX2_fillLongest_86 (by decide) ?_
          refine q_lv (lv' := [(0, .ref a_K), (1, .int p0), (2, .int p1), (3, .int (x3_h2 + (1 : Int32)))]) [1, 2, 3, 0] rfl ?_
          exact ih (x3_h2 + (1 : Int32)) (upd k_longest_h2 (ix x3_h2) (jmin r72 ((1 : Int32) + x4_56))) h
        · intro K56 J56 h
          obtain ⟨n13, h⟩ := h
          have lp13 : ∀ (n : Nat) (x4_h13 : Int32) (x5_h13 : Int32), wp_X2_fillLongest_L13 x3_h2 k_longest_h2 K56 n x4_h13 x5_h13 → Wg E [(a_K, .inr (2, [.ref a_H, .ref a_K_longest, .ref a_K_ways, .ref a_K_griefs, .ref a_K_wins, .int k_tablesKnown, .int k_chosenPerson, .int k_chosenLamp])), (a_K_longest, .inl (cI, 128, .inl k_longest_h2)), (a_H, .inr (0, [.int h_wide, .int h_high, .int h_walls, .int h_doors, .int h_law, .int h_lamps, .int h_people, .ref a_H_lampCell, .ref a_H_lampReach, .ref a_H_shine, .ref a_H_personCell, .ref a_H_wish, .ref a_H_side, .ref a_H_light, .ref a_H_leavers])), (a_H_leavers, .inl (cI, 128, .inl h_leavers))] 0 0 13 [(0, .ref a_K), (1, .int p0), (2, .int p1), (3, .int x3_h2), (4, .int x4_h13), (5, .int x5_h13)] [] := by
            intro n
            induction n with
            | zero => intro x4_h13 x5_h13 h; exact h.elim
            | succ n ih =>
              intro x4_h13 x5_h13 h
              unfold wp_X2_fillLongest_L13 at h
              refine q_iload (pc := 13) F 5 dX2_fillLongest_13 rfl ?_
              refine q_bipush (pc := 15) F (v := 7) dX2_fillLongest_15 (by decide) ?_
              refine q_icmp_ge (pc := 17) (tgt := 56) F dX2_fillLongest_17 (by decide) (fun c17 => ?_) (fun c17 => ?_)
              · have h := h.1 c17
                refine q_lv (lv' := [(0, .ref a_K), (1, .int p0), (2, .int p1), (3, .int x3_h2), (4, .int x4_h13)]) [0, 1, 2, 3, 4] rfl ?_
                exact J56 x4_h13 h
              · have h := h.2 c17
                refine q_iload_n (pc := 20) F 3 dX2_fillLongest_20 rfl ?_
                refine q_iload (pc := 21) F 5 dX2_fillLongest_21 rfl ?_
                refine q_cR (q_runSN (As := [.int x3_h2, .int x5_h13]) (rest := []) (pc := 23) F (fun l sz => ct_X4_bitOf D cI cZ x3_h2 x5_h13 h l sz) mc_yX4_bitOf sm_yX4_bitOf (fun U h => h.2.2.2.2.2.1) ⟨by decide, by decide⟩ ⟨by decide, by decide⟩ ⟨rfl, rfl⟩ [] rfl rfl rfl rfl (Nat.le_of_ble_eq_true rfl) dX2_fillLongest_23) (fun r23 h => ?_)
                refine q_iconst (pc := 26) F (v := 1) dX2_fillLongest_26 (by decide) ?_
                refine jnW h (fun K => ∀ (x4_50 : Int32), K x4_50 → Wg E [(a_K, .inr (2, [.ref a_H, .ref a_K_longest, .ref a_K_ways, .ref a_K_griefs, .ref a_K_wins, .int k_tablesKnown, .int k_chosenPerson, .int k_chosenLamp])), (a_K_longest, .inl (cI, 128, .inl k_longest_h2)), (a_H, .inr (0, [.int h_wide, .int h_high, .int h_walls, .int h_doors, .int h_law, .int h_lamps, .int h_people, .ref a_H_lampCell, .ref a_H_lampReach, .ref a_H_shine, .ref a_H_personCell, .ref a_H_wish, .ref a_H_side, .ref a_H_light, .ref a_H_leavers])), (a_H_leavers, .inl (cI, 128, .inl h_leavers))] 0 0 50 [(0, .ref a_K), (1, .int p0), (2, .int p1), (3, .int x3_h2), (4, .int x4_50), (5, .int x5_h13)] []) ?_ ?_
                · intro x4_50 h
                  refine q_iinc (pc := 50) F (v := x5_h13 + (1 : Int32)) (lv' := [(5, .int (x5_h13 + (1 : Int32))), (0, .ref a_K), (1, .int p0), (2, .int p1), (3, .int x3_h2), (4, .int x4_50)]) 5 dX2_fillLongest_50 rfl rfl (by decide) rfl ?_
                  refine q_goto (pc := 53) (tgt := 13) F dX2_fillLongest_53 (by decide) ?_
                  refine q_lv (lv' := [(0, .ref a_K), (1, .int p0), (2, .int p1), (3, .int x3_h2), (4, .int x4_50), (5, .int (x5_h13 + (1 : Int32)))]) [1, 2, 3, 4, 5, 0] rfl ?_
                  exact ih x4_50 (x5_h13 + (1 : Int32)) h
                · intro K50 J50 h
                  refine q_icmp_ne (pc := 27) (tgt := 50) F dX2_fillLongest_27 (by decide) (fun c27 => ?_) (fun c27 => ?_)
                  · have h := h.2 c27
                    exact J50 x4_h13 h
                  · have h := h.1 c27
                    refine q_iload (pc := 30) F 4 dX2_fillLongest_30 rfl ?_
                    refine q_aload_n (pc := 32) F 0 dX2_fillLongest_32 rfl ?_
                    refine q_get (pc := 33) F fgX2_9 0 rfl rfl dX2_fillLongest_33 ?_
                    refine q_iload_n (pc := 36) F 3 dX2_fillLongest_36 rfl ?_
                    refine q_iconst (pc := 37) F (v := 1) dX2_fillLongest_37 (by decide) ?_
                    refine q_iload (pc := 38) F 5 dX2_fillLongest_38 rfl ?_
                    refine q_ishl (pc := 40) F dX2_fillLongest_40 ?_
                    refine q_iconst (pc := 41) F (v := -1) dX2_fillLongest_41 (by decide) ?_
                    refine q_ixor (pc := 42) F dX2_fillLongest_42 ?_
                    refine q_iand (pc := 43) F dX2_fillLongest_43 ?_
                    obtain ⟨hi44, h⟩ := h
                    refine q_iald (pc := 44) F 1 rfl hi44 dX2_fillLongest_44 ?_
                    refine q_mmax (pc := 45) F mlX2_46 sm_Lib_Math_max_name in_J9 cd_Lib_Math_max_name (by decide) (Nat.le_of_ble_eq_true rfl) (by decide) (by decide) dX2_fillLongest_45 ?_
                    refine q_topi (fun x4_48 ex4_48 => ?_)
                    have h := h x4_48 ex4_48
                    refine q_istore (pc := 48) F (lv' := [(4, .int x4_48), (0, .ref a_K), (1, .int p0), (2, .int p1), (3, .int x3_h2), (5, .int x5_h13)]) dX2_fillLongest_48 (by decide) rfl ?_
                    refine q_lv (lv' := [(0, .ref a_K), (1, .int p0), (2, .int p1), (3, .int x3_h2), (4, .int x4_48), (5, .int x5_h13)]) [1, 2, 3, 4, 0, 5] rfl ?_
                    exact J50 x4_48 h
          refine q_lv (lv' := [(0, .ref a_K), (1, .int p0), (2, .int p1), (3, .int x3_h2), (4, .int (-1 : Int32)), (5, .int (0 : Int32))]) [2, 3, 4, 5, 1, 0] rfl ?_
          exact lp13 n13 (-1 : Int32) (0 : Int32) h
  refine q_lv (lv' := [(0, .ref a_K), (1, .int p0), (2, .int p1), (3, .int (0 : Int32))]) [1, 2, 3, 0] rfl ?_
  exact lp2 n2 (0 : Int32) k_longest h

def wp_X2_mostOf (p0 : Int32) (p1 : Int32) (k_longest : Nat → Int32) (h_lamps : Int32) (h_leavers : Nat → Int32) (post : Int32 → (Nat → Int32) → Prop) : Prop := (wp_X2_fillLongest p0 (jshl (1 : Int32) h_lamps) k_longest h_leavers (fun (k_longest_11 : Nat → Int32) => (vp_in p1 128 ∧ post (k_longest_11 (ix p1)) k_longest_11)))
abbrev rm_X2_mostOf : Room := { frames := 2, cells := 0, slots := 0, locals := 46 }
set_option maxRecDepth 100000 in
set_option maxHeartbeats 4000000 in
theorem ct_X2_mostOf (D : va_G) (cI cZ : ClassId) (a_K a_H a_K_longest a_K_ways a_K_griefs a_K_wins a_H_lampCell a_H_lampReach a_H_shine a_H_personCell a_H_wish a_H_side a_H_light a_H_leavers : Nat) (k_tablesKnown : Int32) (k_chosenPerson : Int32) (k_chosenLamp : Int32) (k_longest : Nat → Int32) (h_wide : Int32) (h_high : Int32) (h_walls : Int32) (h_doors : Int32) (h_law : Int32) (h_lamps : Int32) (h_people : Int32) (h_leavers : Nat → Int32) (p0 : Int32) (p1 : Int32) {post : Int32 → (Nat → Int32) → Prop} (h : wp_X2_mostOf p0 p1 k_longest h_lamps h_leavers post) (l : Launch) (sz : Nat) : Met l yX2_mostOf (wsM yX2_mostOf cX2_mostOf 3 (some .int)) rm_X2_mostOf (va_Pc [.ref a_K, .int p0, .int p1] (gP D cI cZ [(a_K, .inr (2, [.ref a_H, .ref a_K_longest, .ref a_K_ways, .ref a_K_griefs, .ref a_K_wins, .int k_tablesKnown, .int k_chosenPerson, .int k_chosenLamp])), (a_K_longest, .inl (cI, 128, .inl k_longest)), (a_H, .inr (0, [.int h_wide, .int h_high, .int h_walls, .int h_doors, .int h_law, .int h_lamps, .int h_people, .ref a_H_lampCell, .ref a_H_lampReach, .ref a_H_shine, .ref a_H_personCell, .ref a_H_wish, .ref a_H_side, .ref a_H_light, .ref a_H_leavers])), (a_H_leavers, .inl (cI, 128, .inl h_leavers))] sz)) (gQi D (fun r (u : (Nat → Int32)) => post r u) (fun (u : (Nat → Int32)) => [(a_K, .inr (2, [.ref a_H, .ref a_K_longest, .ref a_K_ways, .ref a_K_griefs, .ref a_K_wins, .int k_tablesKnown, .int k_chosenPerson, .int k_chosenLamp])), (a_K_longest, .inl (cI, 128, .inl u)), (a_H, .inr (0, [.int h_wide, .int h_high, .int h_walls, .int h_doors, .int h_law, .int h_lamps, .int h_people, .ref a_H_lampCell, .ref a_H_lampReach, .ref a_H_shine, .ref a_H_personCell, .ref a_H_wish, .ref a_H_side, .ref a_H_light, .ref a_H_leavers])), (a_H_leavers, .inl (cI, 128, .inl h_leavers))]) [(a_K, .inr (2, [.ref a_H, .ref a_K_longest, .ref a_K_ways, .ref a_K_griefs, .ref a_K_wins, .int k_tablesKnown, .int k_chosenPerson, .int k_chosenLamp])), (a_K_longest, .inl (cI, 128, .inl k_longest)), (a_H, .inr (0, [.int h_wide, .int h_high, .int h_walls, .int h_doors, .int h_law, .int h_lamps, .int h_people, .ref a_H_lampCell, .ref a_H_lampReach, .ref a_H_shine, .ref a_H_personCell, .ref a_H_wish, .ref a_H_side, .ref a_H_light, .ref a_H_leavers])), (a_H_leavers, .inl (cI, 128, .inl h_leavers))] sz) 0 0 (va_A [(a_K, .inr (2, [.ref a_H, .ref a_K_longest, .ref a_K_ways, .ref a_K_griefs, .ref a_K_wins, .int k_tablesKnown, .int k_chosenPerson, .int k_chosenLamp])), (a_K_longest, .inl (cI, 128, .inl k_longest)), (a_H, .inr (0, [.int h_wide, .int h_high, .int h_walls, .int h_doors, .int h_law, .int h_lamps, .int h_people, .ref a_H_lampCell, .ref a_H_lampReach, .ref a_H_shine, .ref a_H_personCell, .ref a_H_wish, .ref a_H_side, .ref a_H_light, .ref a_H_leavers])), (a_H_leavers, .inl (cI, 128, .inl h_leavers))] sz) := by
  refine q_startM (own := RX2) (Qc := gQi D (fun r (u : (Nat → Int32)) => post r u) (fun (u : (Nat → Int32)) => [(a_K, .inr (2, [.ref a_H, .ref a_K_longest, .ref a_K_ways, .ref a_K_griefs, .ref a_K_wins, .int k_tablesKnown, .int k_chosenPerson, .int k_chosenLamp])), (a_K_longest, .inl (cI, 128, .inl u)), (a_H, .inr (0, [.int h_wide, .int h_high, .int h_walls, .int h_doors, .int h_law, .int h_lamps, .int h_people, .ref a_H_lampCell, .ref a_H_lampReach, .ref a_H_shine, .ref a_H_personCell, .ref a_H_wish, .ref a_H_side, .ref a_H_light, .ref a_H_leavers])), (a_H_leavers, .inl (cI, 128, .inl h_leavers))]) [(a_K, .inr (2, [.ref a_H, .ref a_K_longest, .ref a_K_ways, .ref a_K_griefs, .ref a_K_wins, .int k_tablesKnown, .int k_chosenPerson, .int k_chosenLamp])), (a_K_longest, .inl (cI, 128, .inl k_longest)), (a_H, .inr (0, [.int h_wide, .int h_high, .int h_walls, .int h_doors, .int h_law, .int h_lamps, .int h_people, .ref a_H_lampCell, .ref a_H_lampReach, .ref a_H_shine, .ref a_H_personCell, .ref a_H_wish, .ref a_H_side, .ref a_H_light, .ref a_H_leavers])), (a_H_leavers, .inl (cI, 128, .inl h_leavers))]) (by decide +kernel) rfl (Nat.le_of_ble_eq_true rfl) (fun E F Z M => ?_)
  show Wg E [(a_K, .inr (2, [.ref a_H, .ref a_K_longest, .ref a_K_ways, .ref a_K_griefs, .ref a_K_wins, .int k_tablesKnown, .int k_chosenPerson, .int k_chosenLamp])), (a_K_longest, .inl (cI, 128, .inl k_longest)), (a_H, .inr (0, [.int h_wide, .int h_high, .int h_walls, .int h_doors, .int h_law, .int h_lamps, .int h_people, .ref a_H_lampCell, .ref a_H_lampReach, .ref a_H_shine, .ref a_H_personCell, .ref a_H_wish, .ref a_H_side, .ref a_H_light, .ref a_H_leavers])), (a_H_leavers, .inl (cI, 128, .inl h_leavers))] 0 0 0 [(0, .ref a_K), (1, .int p0), (2, .int p1)] []
  unfold wp_X2_mostOf at h
  refine q_aload_n (pc := 0) F 0 dX2_mostOf_0 rfl ?_
  refine q_iload_n (pc := 1) F 1 dX2_mostOf_1 rfl ?_
  refine q_iconst (pc := 2) F (v := 1) dX2_mostOf_2 (by decide) ?_
  refine q_aload_n (pc := 3) F 0 dX2_mostOf_3 rfl ?_
  refine q_get (pc := 4) F fgX2_24 0 rfl rfl dX2_mostOf_4 ?_
  refine q_get (pc := 7) F fgX2_32 2 rfl rfl dX2_mostOf_7 ?_
  refine q_ishl (pc := 10) F dX2_mostOf_10 ?_
  refine q_cMv (wr := []) (pc := 11) F M (q_runV (As := [.int p0, .int (jshl (1 : Int32) h_lamps)]) (rest := []) (pc := 11) F (fun l sz => ct_X2_fillLongest D cI cZ a_K a_H a_K_longest a_K_ways a_K_griefs a_K_wins a_H_lampCell a_H_lampReach a_H_shine a_H_personCell a_H_wish a_H_side a_H_light a_H_leavers k_tablesKnown k_chosenPerson k_chosenLamp k_longest h_wide h_high h_walls h_doors h_law h_lamps h_people h_leavers p0 (jshl (1 : Int32) h_lamps) h l sz) mc_yX2_fillLongest im_yX2_fillLongest se_yX2_fillLongest mlX2_38 ⟨by decide, by decide⟩ ⟨by decide, by decide⟩ ⟨rfl, rfl⟩ [0, 1, 2, 3] rfl rfl rfl 0 rfl rfl rfl (Nat.le_of_ble_eq_true rfl) dX2_mostOf_11) [0, 1, 2, 3] [] rfl rfl rfl (by decide) (fun u11 h => ?_)
  obtain ⟨k_longest_11, rfl⟩ : ∃ z, z = u11 := ⟨_, rfl⟩
  refine q_cs (cs' := [(a_K, .inr (2, [.ref a_H, .ref a_K_longest, .ref a_K_ways, .ref a_K_griefs, .ref a_K_wins, .int k_tablesKnown, .int k_chosenPerson, .int k_chosenLamp])), (a_K_longest, .inl (cI, 128, .inl k_longest_11)), (a_H, .inr (0, [.int h_wide, .int h_high, .int h_walls, .int h_doors, .int h_law, .int h_lamps, .int h_people, .ref a_H_lampCell, .ref a_H_lampReach, .ref a_H_shine, .ref a_H_personCell, .ref a_H_wish, .ref a_H_side, .ref a_H_light, .ref a_H_leavers])), (a_H_leavers, .inl (cI, 128, .inl h_leavers))]) [0, 1, 2, 3] rfl rfl ?_
  refine q_aload_n (pc := 14) F 0 dX2_mostOf_14 rfl ?_
  refine q_get (pc := 15) F fgX2_9 0 rfl rfl dX2_mostOf_15 ?_
  refine q_iload_n (pc := 18) F 2 dX2_mostOf_18 rfl ?_
  obtain ⟨hi19, h⟩ := h
  refine q_iald (pc := 19) F 1 rfl hi19 dX2_mostOf_19 ?_
  exact q_iretM (pc := 20) F Z dX2_mostOf_20 k_longest_11 h rfl

def wp_X2_mostWithOneMore (p0 : Int32) (p1 : Int32) (k_longest : Nat → Int32) (h_lamps : Int32) (h_leavers : Nat → Int32) (post : Int32 → (Nat → Int32) → Prop) : Prop := (wp_X2_fillLongest p0 (jshl (2 : Int32) h_lamps) k_longest h_leavers (fun (k_longest_11 : Nat → Int32) => (vp_in (p1 ||| (jshl (1 : Int32) h_lamps)) 128 ∧ post (k_longest_11 (ix (p1 ||| (jshl (1 : Int32) h_lamps)))) k_longest_11)))
abbrev rm_X2_mostWithOneMore : Room := { frames := 2, cells := 0, slots := 0, locals := 46 }
set_option maxRecDepth 100000 in
set_option maxHeartbeats 4000000 in
theorem ct_X2_mostWithOneMore (D : va_G) (cI cZ : ClassId) (a_K a_H a_K_longest a_K_ways a_K_griefs a_K_wins a_H_lampCell a_H_lampReach a_H_shine a_H_personCell a_H_wish a_H_side a_H_light a_H_leavers : Nat) (k_tablesKnown : Int32) (k_chosenPerson : Int32) (k_chosenLamp : Int32) (k_longest : Nat → Int32) (h_wide : Int32) (h_high : Int32) (h_walls : Int32) (h_doors : Int32) (h_law : Int32) (h_lamps : Int32) (h_people : Int32) (h_leavers : Nat → Int32) (p0 : Int32) (p1 : Int32) {post : Int32 → (Nat → Int32) → Prop} (h : wp_X2_mostWithOneMore p0 p1 k_longest h_lamps h_leavers post) (l : Launch) (sz : Nat) : Met l yX2_mostWithOneMore (wsM yX2_mostWithOneMore cX2_mostWithOneMore 3 (some .int)) rm_X2_mostWithOneMore (va_Pc [.ref a_K, .int p0, .int p1] (gP D cI cZ [(a_K, .inr (2, [.ref a_H, .ref a_K_longest, .ref a_K_ways, .ref a_K_griefs, .ref a_K_wins, .int k_tablesKnown, .int k_chosenPerson, .int k_chosenLamp])), (a_K_longest, .inl (cI, 128, .inl k_longest)), (a_H, .inr (0, [.int h_wide, .int h_high, .int h_walls, .int h_doors, .int h_law, .int h_lamps, .int h_people, .ref a_H_lampCell, .ref a_H_lampReach, .ref a_H_shine, .ref a_H_personCell, .ref a_H_wish, .ref a_H_side, .ref a_H_light, .ref a_H_leavers])), (a_H_leavers, .inl (cI, 128, .inl h_leavers))] sz)) (gQi D (fun r (u : (Nat → Int32)) => post r u) (fun (u : (Nat → Int32)) => [(a_K, .inr (2, [.ref a_H, .ref a_K_longest, .ref a_K_ways, .ref a_K_griefs, .ref a_K_wins, .int k_tablesKnown, .int k_chosenPerson, .int k_chosenLamp])), (a_K_longest, .inl (cI, 128, .inl u)), (a_H, .inr (0, [.int h_wide, .int h_high, .int h_walls, .int h_doors, .int h_law, .int h_lamps, .int h_people, .ref a_H_lampCell, .ref a_H_lampReach, .ref a_H_shine, .ref a_H_personCell, .ref a_H_wish, .ref a_H_side, .ref a_H_light, .ref a_H_leavers])), (a_H_leavers, .inl (cI, 128, .inl h_leavers))]) [(a_K, .inr (2, [.ref a_H, .ref a_K_longest, .ref a_K_ways, .ref a_K_griefs, .ref a_K_wins, .int k_tablesKnown, .int k_chosenPerson, .int k_chosenLamp])), (a_K_longest, .inl (cI, 128, .inl k_longest)), (a_H, .inr (0, [.int h_wide, .int h_high, .int h_walls, .int h_doors, .int h_law, .int h_lamps, .int h_people, .ref a_H_lampCell, .ref a_H_lampReach, .ref a_H_shine, .ref a_H_personCell, .ref a_H_wish, .ref a_H_side, .ref a_H_light, .ref a_H_leavers])), (a_H_leavers, .inl (cI, 128, .inl h_leavers))] sz) 0 0 (va_A [(a_K, .inr (2, [.ref a_H, .ref a_K_longest, .ref a_K_ways, .ref a_K_griefs, .ref a_K_wins, .int k_tablesKnown, .int k_chosenPerson, .int k_chosenLamp])), (a_K_longest, .inl (cI, 128, .inl k_longest)), (a_H, .inr (0, [.int h_wide, .int h_high, .int h_walls, .int h_doors, .int h_law, .int h_lamps, .int h_people, .ref a_H_lampCell, .ref a_H_lampReach, .ref a_H_shine, .ref a_H_personCell, .ref a_H_wish, .ref a_H_side, .ref a_H_light, .ref a_H_leavers])), (a_H_leavers, .inl (cI, 128, .inl h_leavers))] sz) := by
  refine q_startM (own := RX2) (Qc := gQi D (fun r (u : (Nat → Int32)) => post r u) (fun (u : (Nat → Int32)) => [(a_K, .inr (2, [.ref a_H, .ref a_K_longest, .ref a_K_ways, .ref a_K_griefs, .ref a_K_wins, .int k_tablesKnown, .int k_chosenPerson, .int k_chosenLamp])), (a_K_longest, .inl (cI, 128, .inl u)), (a_H, .inr (0, [.int h_wide, .int h_high, .int h_walls, .int h_doors, .int h_law, .int h_lamps, .int h_people, .ref a_H_lampCell, .ref a_H_lampReach, .ref a_H_shine, .ref a_H_personCell, .ref a_H_wish, .ref a_H_side, .ref a_H_light, .ref a_H_leavers])), (a_H_leavers, .inl (cI, 128, .inl h_leavers))]) [(a_K, .inr (2, [.ref a_H, .ref a_K_longest, .ref a_K_ways, .ref a_K_griefs, .ref a_K_wins, .int k_tablesKnown, .int k_chosenPerson, .int k_chosenLamp])), (a_K_longest, .inl (cI, 128, .inl k_longest)), (a_H, .inr (0, [.int h_wide, .int h_high, .int h_walls, .int h_doors, .int h_law, .int h_lamps, .int h_people, .ref a_H_lampCell, .ref a_H_lampReach, .ref a_H_shine, .ref a_H_personCell, .ref a_H_wish, .ref a_H_side, .ref a_H_light, .ref a_H_leavers])), (a_H_leavers, .inl (cI, 128, .inl h_leavers))]) (by decide +kernel) rfl (Nat.le_of_ble_eq_true rfl) (fun E F Z M => ?_)
  show Wg E [(a_K, .inr (2, [.ref a_H, .ref a_K_longest, .ref a_K_ways, .ref a_K_griefs, .ref a_K_wins, .int k_tablesKnown, .int k_chosenPerson, .int k_chosenLamp])), (a_K_longest, .inl (cI, 128, .inl k_longest)), (a_H, .inr (0, [.int h_wide, .int h_high, .int h_walls, .int h_doors, .int h_law, .int h_lamps, .int h_people, .ref a_H_lampCell, .ref a_H_lampReach, .ref a_H_shine, .ref a_H_personCell, .ref a_H_wish, .ref a_H_side, .ref a_H_light, .ref a_H_leavers])), (a_H_leavers, .inl (cI, 128, .inl h_leavers))] 0 0 0 [(0, .ref a_K), (1, .int p0), (2, .int p1)] []
  unfold wp_X2_mostWithOneMore at h
  refine q_aload_n (pc := 0) F 0 dX2_mostWithOneMore_0 rfl ?_
  refine q_iload_n (pc := 1) F 1 dX2_mostWithOneMore_1 rfl ?_
  refine q_iconst (pc := 2) F (v := 2) dX2_mostWithOneMore_2 (by decide) ?_
  refine q_aload_n (pc := 3) F 0 dX2_mostWithOneMore_3 rfl ?_
  refine q_get (pc := 4) F fgX2_24 0 rfl rfl dX2_mostWithOneMore_4 ?_
  refine q_get (pc := 7) F fgX2_32 2 rfl rfl dX2_mostWithOneMore_7 ?_
  refine q_ishl (pc := 10) F dX2_mostWithOneMore_10 ?_
  refine q_cMv (wr := []) (pc := 11) F M (q_runV (As := [.int p0, .int (jshl (2 : Int32) h_lamps)]) (rest := []) (pc := 11) F (fun l sz => ct_X2_fillLongest D cI cZ a_K a_H a_K_longest a_K_ways a_K_griefs a_K_wins a_H_lampCell a_H_lampReach a_H_shine a_H_personCell a_H_wish a_H_side a_H_light a_H_leavers k_tablesKnown k_chosenPerson k_chosenLamp k_longest h_wide h_high h_walls h_doors h_law h_lamps h_people h_leavers p0 (jshl (2 : Int32) h_lamps) h l sz) mc_yX2_fillLongest im_yX2_fillLongest se_yX2_fillLongest mlX2_38 ⟨by decide, by decide⟩ ⟨by decide, by decide⟩ ⟨rfl, rfl⟩ [0, 1, 2, 3] rfl rfl rfl 0 rfl rfl rfl (Nat.le_of_ble_eq_true rfl) dX2_mostWithOneMore_11) [0, 1, 2, 3] [] rfl rfl rfl (by decide) (fun u11 h => ?_)
  obtain ⟨k_longest_11, rfl⟩ : ∃ z, z = u11 := ⟨_, rfl⟩
  refine q_cs (cs' := [(a_K, .inr (2, [.ref a_H, .ref a_K_longest, .ref a_K_ways, .ref a_K_griefs, .ref a_K_wins, .int k_tablesKnown, .int k_chosenPerson, .int k_chosenLamp])), (a_K_longest, .inl (cI, 128, .inl k_longest_11)), (a_H, .inr (0, [.int h_wide, .int h_high, .int h_walls, .int h_doors, .int h_law, .int h_lamps, .int h_people, .ref a_H_lampCell, .ref a_H_lampReach, .ref a_H_shine, .ref a_H_personCell, .ref a_H_wish, .ref a_H_side, .ref a_H_light, .ref a_H_leavers])), (a_H_leavers, .inl (cI, 128, .inl h_leavers))]) [0, 1, 2, 3] rfl rfl ?_
  refine q_aload_n (pc := 14) F 0 dX2_mostWithOneMore_14 rfl ?_
  refine q_get (pc := 15) F fgX2_9 0 rfl rfl dX2_mostWithOneMore_15 ?_
  refine q_iload_n (pc := 18) F 2 dX2_mostWithOneMore_18 rfl ?_
  refine q_iconst (pc := 19) F (v := 1) dX2_mostWithOneMore_19 (by decide) ?_
  refine q_aload_n (pc := 20) F 0 dX2_mostWithOneMore_20 rfl ?_
  refine q_get (pc := 21) F fgX2_24 0 rfl rfl dX2_mostWithOneMore_21 ?_
  refine q_get (pc := 24) F fgX2_32 2 rfl rfl dX2_mostWithOneMore_24 ?_
  refine q_ishl (pc := 27) F dX2_mostWithOneMore_27 ?_
  refine q_ior (pc := 28) F dX2_mostWithOneMore_28 ?_
  obtain ⟨hi29, h⟩ := h
  refine q_iald (pc := 29) F 1 rfl hi29 dX2_mostWithOneMore_29 ?_
  exact q_iretM (pc := 30) F Z dX2_mostWithOneMore_30 k_longest_11 h rfl

def wp_X2_barOf_L20 (x2 : Int32) (x3 : Int32) (k_longest : Nat → Int32) (post : Int32 → (Nat → Int32) → Prop) : Nat → Int32 → Int32 → Prop
  | 0, _, _ => False
  | n + 1, x4, x5 => ((x2 ≤ x5 → post x4 k_longest) ∧ (¬ x2 ≤ x5 → (jn (fun (K55 : Int32 → Prop) => (jn (fun (K54 : Prop) => (((x5 &&& (x2 ^^^ (-1 : Int32))) = (0 : Int32) → (vp_in (x2 &&& (x5 ^^^ (-1 : Int32))) 128 ∧ ((x3 ≤ (k_longest (ix (x2 &&& (x5 ^^^ (-1 : Int32))))) → K54) ∧ (¬ x3 ≤ (k_longest (ix (x2 &&& (x5 ^^^ (-1 : Int32))))) → K55 (1 : Int32))))) ∧ (¬ (x5 &&& (x2 ^^^ (-1 : Int32))) = (0 : Int32) → K54))) (K55 (0 : Int32)))) (fun (y55 : Int32) => (jn (fun (K79 : Int32 → Prop) => ((y55 = (0 : Int32) → K79 x4) ∧ (¬ y55 = (0 : Int32) → (wp_J6_bitCount_0f7a4 x5 (fun (r64 : Int32) => (wp_J6_bitCount_0f7a4 x4 (fun (r69 : Int32) => ((r69 ≤ r64 → K79 x4) ∧ (¬ r69 ≤ r64 → K79 x5))))))))) (fun (x4_79 : Int32) => wp_X2_barOf_L20 x2 x3 k_longest post n x4_79 (x5 + (1 : Int32))))))))
def wp_X2_barOf (p0 : Int32) (p1 : Int32) (k_longest : Nat → Int32) (h_lamps : Int32) (h_leavers : Nat → Int32) (post : Int32 → (Nat → Int32) → Prop) : Prop := (wp_X2_mostOf p0 p1 k_longest h_lamps h_leavers (fun (r3 : Int32) (k_longest_3 : Nat → Int32) => ((r3 = (0 : Int32) → post (-9 : Int32) k_longest_3) ∧ (¬ r3 = (0 : Int32) → (∃ n20 : Nat, wp_X2_barOf_L20 p1 r3 k_longest_3 post n20 p1 (1 : Int32))))))
abbrev rm_X2_barOf : Room := { frames := 3, cells := 0, slots := 0, locals := 68 }
set_option maxRecDepth 100000 in
set_option maxHeartbeats 4000000 in
theorem ct_X2_barOf (D : va_G) (cI cZ : ClassId) (a_K a_H a_K_longest a_K_ways a_K_griefs a_K_wins a_H_lampCell a_H_lampReach a_H_shine a_H_personCell a_H_wish a_H_side a_H_light a_H_leavers : Nat) (k_tablesKnown : Int32) (k_chosenPerson : Int32) (k_chosenLamp : Int32) (k_longest : Nat → Int32) (h_wide : Int32) (h_high : Int32) (h_walls : Int32) (h_doors : Int32) (h_law : Int32) (h_lamps : Int32) (h_people : Int32) (h_leavers : Nat → Int32) (p0 : Int32) (p1 : Int32) {post : Int32 → (Nat → Int32) → Prop} (h : wp_X2_barOf p0 p1 k_longest h_lamps h_leavers post) (l : Launch) (sz : Nat) : Met l yX2_barOf (wsM yX2_barOf cX2_barOf 7 (some .int)) rm_X2_barOf (va_Pc [.ref a_K, .int p0, .int p1] (gP D cI cZ [(a_K, .inr (2, [.ref a_H, .ref a_K_longest, .ref a_K_ways, .ref a_K_griefs, .ref a_K_wins, .int k_tablesKnown, .int k_chosenPerson, .int k_chosenLamp])), (a_K_longest, .inl (cI, 128, .inl k_longest)), (a_H, .inr (0, [.int h_wide, .int h_high, .int h_walls, .int h_doors, .int h_law, .int h_lamps, .int h_people, .ref a_H_lampCell, .ref a_H_lampReach, .ref a_H_shine, .ref a_H_personCell, .ref a_H_wish, .ref a_H_side, .ref a_H_light, .ref a_H_leavers])), (a_H_leavers, .inl (cI, 128, .inl h_leavers))] sz)) (gQi D (fun r (u : (Nat → Int32)) => post r u) (fun (u : (Nat → Int32)) => [(a_K, .inr (2, [.ref a_H, .ref a_K_longest, .ref a_K_ways, .ref a_K_griefs, .ref a_K_wins, .int k_tablesKnown, .int k_chosenPerson, .int k_chosenLamp])), (a_K_longest, .inl (cI, 128, .inl u)), (a_H, .inr (0, [.int h_wide, .int h_high, .int h_walls, .int h_doors, .int h_law, .int h_lamps, .int h_people, .ref a_H_lampCell, .ref a_H_lampReach, .ref a_H_shine, .ref a_H_personCell, .ref a_H_wish, .ref a_H_side, .ref a_H_light, .ref a_H_leavers])), (a_H_leavers, .inl (cI, 128, .inl h_leavers))]) [(a_K, .inr (2, [.ref a_H, .ref a_K_longest, .ref a_K_ways, .ref a_K_griefs, .ref a_K_wins, .int k_tablesKnown, .int k_chosenPerson, .int k_chosenLamp])), (a_K_longest, .inl (cI, 128, .inl k_longest)), (a_H, .inr (0, [.int h_wide, .int h_high, .int h_walls, .int h_doors, .int h_law, .int h_lamps, .int h_people, .ref a_H_lampCell, .ref a_H_lampReach, .ref a_H_shine, .ref a_H_personCell, .ref a_H_wish, .ref a_H_side, .ref a_H_light, .ref a_H_leavers])), (a_H_leavers, .inl (cI, 128, .inl h_leavers))] sz) 0 0 (va_A [(a_K, .inr (2, [.ref a_H, .ref a_K_longest, .ref a_K_ways, .ref a_K_griefs, .ref a_K_wins, .int k_tablesKnown, .int k_chosenPerson, .int k_chosenLamp])), (a_K_longest, .inl (cI, 128, .inl k_longest)), (a_H, .inr (0, [.int h_wide, .int h_high, .int h_walls, .int h_doors, .int h_law, .int h_lamps, .int h_people, .ref a_H_lampCell, .ref a_H_lampReach, .ref a_H_shine, .ref a_H_personCell, .ref a_H_wish, .ref a_H_side, .ref a_H_light, .ref a_H_leavers])), (a_H_leavers, .inl (cI, 128, .inl h_leavers))] sz) := by
  refine q_startM (own := RX2) (Qc := gQi D (fun r (u : (Nat → Int32)) => post r u) (fun (u : (Nat → Int32)) => [(a_K, .inr (2, [.ref a_H, .ref a_K_longest, .ref a_K_ways, .ref a_K_griefs, .ref a_K_wins, .int k_tablesKnown, .int k_chosenPerson, .int k_chosenLamp])), (a_K_longest, .inl (cI, 128, .inl u)), (a_H, .inr (0, [.int h_wide, .int h_high, .int h_walls, .int h_doors, .int h_law, .int h_lamps, .int h_people, .ref a_H_lampCell, .ref a_H_lampReach, .ref a_H_shine, .ref a_H_personCell, .ref a_H_wish, .ref a_H_side, .ref a_H_light, .ref a_H_leavers])), (a_H_leavers, .inl (cI, 128, .inl h_leavers))]) [(a_K, .inr (2, [.ref a_H, .ref a_K_longest, .ref a_K_ways, .ref a_K_griefs, .ref a_K_wins, .int k_tablesKnown, .int k_chosenPerson, .int k_chosenLamp])), (a_K_longest, .inl (cI, 128, .inl k_longest)), (a_H, .inr (0, [.int h_wide, .int h_high, .int h_walls, .int h_doors, .int h_law, .int h_lamps, .int h_people, .ref a_H_lampCell, .ref a_H_lampReach, .ref a_H_shine, .ref a_H_personCell, .ref a_H_wish, .ref a_H_side, .ref a_H_light, .ref a_H_leavers])), (a_H_leavers, .inl (cI, 128, .inl h_leavers))]) (by decide +kernel) rfl (Nat.le_of_ble_eq_true rfl) (fun E F Z M => ?_)
  show Wg E [(a_K, .inr (2, [.ref a_H, .ref a_K_longest, .ref a_K_ways, .ref a_K_griefs, .ref a_K_wins, .int k_tablesKnown, .int k_chosenPerson, .int k_chosenLamp])), (a_K_longest, .inl (cI, 128, .inl k_longest)), (a_H, .inr (0, [.int h_wide, .int h_high, .int h_walls, .int h_doors, .int h_law, .int h_lamps, .int h_people, .ref a_H_lampCell, .ref a_H_lampReach, .ref a_H_shine, .ref a_H_personCell, .ref a_H_wish, .ref a_H_side, .ref a_H_light, .ref a_H_leavers])), (a_H_leavers, .inl (cI, 128, .inl h_leavers))] 0 0 0 [(0, .ref a_K), (1, .int p0), (2, .int p1)] []
  unfold wp_X2_barOf at h
  refine q_aload_n (pc := 0) F 0 dX2_barOf_0 rfl ?_
  refine q_iload_n (pc := 1) F 1 dX2_barOf_1 rfl ?_
  refine q_iload_n (pc := 2) F 2 dX2_barOf_2 rfl ?_
  refine q_cMi (wr := []) (pc := 3) F M (q_runV (As := [.int p0, .int p1]) (rest := []) (pc := 3) F (fun l sz => ct_X2_mostOf D cI cZ a_K a_H a_K_longest a_K_ways a_K_griefs a_K_wins a_H_lampCell a_H_lampReach a_H_shine a_H_personCell a_H_wish a_H_side a_H_light a_H_leavers k_tablesKnown k_chosenPerson k_chosenLamp k_longest h_wide h_high h_walls h_doors h_law h_lamps h_people h_leavers p0 p1 h l sz) mc_yX2_mostOf im_yX2_mostOf se_yX2_mostOf mlX2_63 ⟨by decide, by decide⟩ ⟨by decide, by decide⟩ ⟨rfl, rfl⟩ [0, 1, 2, 3] rfl rfl rfl 0 rfl rfl rfl (Nat.le_of_ble_eq_true rfl) dX2_barOf_3) [0, 1, 2, 3] [] rfl rfl rfl (by decide) (fun r3 u3 h => ?_)
  obtain ⟨k_longest_3, rfl⟩ : ∃ z, z = u3 := ⟨_, rfl⟩
  refine q_cs (cs' := [(a_K, .inr (2, [.ref a_H, .ref a_K_longest, .ref a_K_ways, .ref a_K_griefs, .ref a_K_wins, .int k_tablesKnown, .int k_chosenPerson, .int k_chosenLamp])), (a_K_longest, .inl (cI, 128, .inl k_longest_3)), (a_H, .inr (0, [.int h_wide, .int h_high, .int h_walls, .int h_doors, .int h_law, .int h_lamps, .int h_people, .ref a_H_lampCell, .ref a_H_lampReach, .ref a_H_shine, .ref a_H_personCell, .ref a_H_wish, .ref a_H_side, .ref a_H_light, .ref a_H_leavers])), (a_H_leavers, .inl (cI, 128, .inl h_leavers))]) [0, 1, 2, 3] rfl rfl ?_
  refine q_istore_n (pc := 6) F (lv' := [(3, .int r3), (0, .ref a_K), (1, .int p0), (2, .int p1)]) dX2_barOf_6 (by decide) rfl ?_
  refine q_iload_n (pc := 7) F 0 dX2_barOf_7 rfl ?_
  refine q_if_ne (pc := 8) (tgt := 14) F dX2_barOf_8 (by decide) (fun c8 => ?_) (fun c8 => ?_)
  · have h := h.2 c8
    refine q_iload_n (pc := 14) F 3 dX2_barOf_14 rfl ?_
    refine q_istore (pc := 15) F (lv' := [(4, .int p1), (3, .int r3), (0, .ref a_K), (1, .int p0), (2, .int p1)]) dX2_barOf_15 (by decide) rfl ?_
    refine q_iconst (pc := 17) F (v := 1) dX2_barOf_17 (by decide) ?_
    refine q_istore (pc := 18) F (lv' := [(5, .int (1 : Int32)), (4, .int p1), (3, .int r3), (0, .ref a_K), (1, .int p0), (2, .int p1)]) dX2_barOf_18 (by decide) rfl ?_
    obtain ⟨n20, h⟩ := h
    have lp20 : ∀ (n : Nat) (x4_h20 : Int32) (x5_h20 : Int32), wp_X2_barOf_L20 p1 r3 k_longest_3 post n x4_h20 x5_h20 → Wg E [(a_K, .inr (2, [.ref a_H, .ref a_K_longest, .ref a_K_ways, .ref a_K_griefs, .ref a_K_wins, .int k_tablesKnown, .int k_chosenPerson, .int k_chosenLamp])), (a_K_longest, .inl (cI, 128, .inl k_longest_3)), (a_H, .inr (0, [.int h_wide, .int h_high, .int h_walls, .int h_doors, .int h_law, .int h_lamps, .int h_people, .ref a_H_lampCell, .ref a_H_lampReach, .ref a_H_shine, .ref a_H_personCell, .ref a_H_wish, .ref a_H_side, .ref a_H_light, .ref a_H_leavers])), (a_H_leavers, .inl (cI, 128, .inl h_leavers))] 0 0 20 [(0, .ref a_K), (2, .int p1), (3, .int r3), (4, .int x4_h20), (5, .int x5_h20)] [] := by
      intro n
      induction n with
      | zero => intro x4_h20 x5_h20 h; exact h.elim
      | succ n ih =>
        intro x4_h20 x5_h20 h
        unfold wp_X2_barOf_L20 at h
        refine q_iload (pc := 20) F 4 dX2_barOf_20 rfl ?_
        refine q_iload_n (pc := 22) F 1 dX2_barOf_22 rfl ?_
        refine q_icmp_ge (pc := 23) (tgt := 85) F dX2_barOf_23 (by decide) (fun c23 => ?_) (fun c23 => ?_)
        · have h := h.1 c23
          refine q_iload (pc := 85) F 3 dX2_barOf_85 rfl ?_
          exact q_iretM (pc := 87) F Z dX2_barOf_87 k_longest_3 h rfl
        · have h := h.2 c23
          refine q_iload (pc := 26) F 4 dX2_barOf_26 rfl ?_
          refine q_iload_n (pc := 28) F 1 dX2_barOf_28 rfl ?_
          refine q_iconst (pc := 29) F (v := -1) dX2_barOf_29 (by decide) ?_
          refine q_ixor (pc := 30) F dX2_barOf_30 ?_
          refine q_iand (pc := 31) F dX2_barOf_31 ?_
          refine jnW h (fun K => ∀ (y55 : Int32), K y55 → Wg E [(a_K, .inr (2, [.ref a_H, .ref a_K_longest, .ref a_K_ways, .ref a_K_griefs, .ref a_K_wins, .int k_tablesKnown, .int k_chosenPerson, .int k_chosenLamp])), (a_K_longest, .inl (cI, 128, .inl k_longest_3)), (a_H, .inr (0, [.int h_wide, .int h_high, .int h_walls, .int h_doors, .int h_law, .int h_lamps, .int h_people, .ref a_H_lampCell, .ref a_H_lampReach, .ref a_H_shine, .ref a_H_personCell, .ref a_H_wish, .ref a_H_side, .ref a_H_light, .ref a_H_leavers])), (a_H_leavers, .inl (cI, 128, .inl h_leavers))] 0 0 55 [(0, .ref a_K), (2, .int p1), (3, .int r3), (4, .int x4_h20), (5, .int x5_h20)] [.int y55]) ?_ ?_
          · intro y55 h
            refine q_istore (pc := 55) F (lv' := [(6, .int y55), (0, .ref a_K), (2, .int p1), (3, .int r3), (4, .int x4_h20), (5, .int x5_h20)]) dX2_barOf_55 (by decide) rfl ?_
            refine q_iload (pc := 57) F 0 dX2_barOf_57 rfl ?_
            refine jnW h (fun K => ∀ (x4_79 : Int32), K x4_79 → Wg E [(a_K, .inr (2, [.ref a_H, .ref a_K_longest, .ref a_K_ways, .ref a_K_griefs, .ref a_K_wins, .int k_tablesKnown, .int k_chosenPerson, .int k_chosenLamp])), (a_K_longest, .inl (cI, 128, .inl k_longest_3)), (a_H, .inr (0, [.int h_wide, .int h_high, .int h_walls, .int h_doors, .int h_law, .int h_lamps, .int h_people, .ref a_H_lampCell, .ref a_H_lampReach, .ref a_H_shine, .ref a_H_personCell, .ref a_H_wish, .ref a_H_side, .ref a_H_light, .ref a_H_leavers])), (a_H_leavers, .inl (cI, 128, .inl h_leavers))] 0 0 79 [(0, .ref a_K), (2, .int p1), (3, .int r3), (4, .int x4_79), (5, .int x5_h20)] []) ?_ ?_
            · intro x4_79 h
              refine q_iinc (pc := 79) F (v := x5_h20 + (1 : Int32)) (lv' := [(5, .int (x5_h20 + (1 : Int32))), (0, .ref a_K), (2, .int p1), (3, .int r3), (4, .int x4_79)]) 4 dX2_barOf_79 rfl rfl (by decide) rfl ?_
              refine q_goto (pc := 82) (tgt := 20) F dX2_barOf_82 (by decide) ?_
              refine q_lv (lv' := [(0, .ref a_K), (2, .int p1), (3, .int r3), (4, .int x4_79), (5, .int (x5_h20 + (1 : Int32)))]) [1, 2, 3, 4, 0] rfl ?_
              exact ih x4_79 (x5_h20 + (1 : Int32)) h
            · intro K79 J79 h
              refine q_if_eq (pc := 59) (tgt := 79) F dX2_barOf_59 (by decide) (fun c59 => ?_) (fun c59 => ?_)
              · have h := h.1 c59
                refine q_lv (lv' := [(0, .ref a_K), (2, .int p1), (3, .int r3), (4, .int x4_h20), (5, .int x5_h20)]) [1, 2, 3, 4, 5] rfl ?_
                exact J79 x4_h20 h
              · have h := h.2 c59
                refine q_iload (pc := 62) F 5 dX2_barOf_62 rfl ?_
                refine q_cR (q_runS (As := [.int x5_h20]) (rest := []) (pc := 64) F (fun l sz => ct_J6_bitCount_0f7a4 D cI cZ x5_h20 h l sz) mc_yJ6_bitCount_0f7a4 sm_yJ6_bitCount_0f7a4 mlX2_54 ⟨by decide, by decide⟩ ⟨by decide, by decide⟩ ⟨rfl, rfl⟩ [] rfl rfl rfl rfl (Nat.le_of_ble_eq_true rfl) dX2_barOf_64) (fun r64 h => ?_)
                refine q_iload (pc := 67) F 4 dX2_barOf_67 rfl ?_
                refine q_cR (q_runS (As := [.int x4_h20]) (rest := [.int r64]) (pc := 69) F (fun l sz => ct_J6_bitCount_0f7a4 D cI cZ x4_h20 h l sz) mc_yJ6_bitCount_0f7a4 sm_yJ6_bitCount_0f7a4 mlX2_54 ⟨by decide, by decide⟩ ⟨by decide, by decide⟩ ⟨rfl, rfl⟩ [] rfl rfl rfl rfl (Nat.le_of_ble_eq_true rfl) dX2_barOf_69) (fun r69 h => ?_)
                refine q_icmp_ge (pc := 72) (tgt := 79) F dX2_barOf_72 (by decide) (fun c72 => ?_) (fun c72 => ?_)
                · have h := h.1 c72
                  refine q_lv (lv' := [(0, .ref a_K), (2, .int p1), (3, .int r3), (4, .int x4_h20), (5, .int x5_h20)]) [1, 2, 3, 4, 5] rfl ?_
                  exact J79 x4_h20 h
                · have h := h.2 c72
                  refine q_iload (pc := 75) F 5 dX2_barOf_75 rfl ?_
                  refine q_istore (pc := 77) F (lv' := [(4, .int x5_h20), (6, .int y55), (0, .ref a_K), (2, .int p1), (3, .int r3), (5, .int x5_h20)]) dX2_barOf_77 (by decide) rfl ?_
                  refine q_lv (lv' := [(0, .ref a_K), (2, .int p1), (3, .int r3), (4, .int x5_h20), (5, .int x5_h20)]) [2, 3, 4, 0, 5] rfl ?_
                  exact J79 x5_h20 h
          · intro K55 J55 h
            refine jnW h (fun K => K → Wg E [(a_K, .inr (2, [.ref a_H, .ref a_K_longest, .ref a_K_ways, .ref a_K_griefs, .ref a_K_wins, .int k_tablesKnown, .int k_chosenPerson, .int k_chosenLamp])), (a_K_longest, .inl (cI, 128, .inl k_longest_3)), (a_H, .inr (0, [.int h_wide, .int h_high, .int h_walls, .int h_doors, .int h_law, .int h_lamps, .int h_people, .ref a_H_lampCell, .ref a_H_lampReach, .ref a_H_shine, .ref a_H_personCell, .ref a_H_wish, .ref a_H_side, .ref a_H_light, .ref a_H_leavers])), (a_H_leavers, .inl (cI, 128, .inl h_leavers))] 0 0 54 [(0, .ref a_K), (2, .int p1), (3, .int r3), (4, .int x4_h20), (5, .int x5_h20)] []) ?_ ?_
            · intro h
              refine q_iconst (pc := 54) F (v := 0) dX2_barOf_54 (by decide) ?_
              exact J55 (0 : Int32) h
            · intro K54 J54 h
              refine q_if_ne (pc := 32) (tgt := 54) F dX2_barOf_32 (by decide) (fun c32 => ?_) (fun c32 => ?_)
              · have h := h.2 c32
                exact J54 h
              · have h := h.1 c32
                refine q_aload_n (pc := 35) F 0 dX2_barOf_35 rfl ?_
                refine q_get (pc := 36) F fgX2_9 0 rfl rfl dX2_barOf_36 ?_
                refine q_iload_n (pc := 39) F 1 dX2_barOf_39 rfl ?_
                refine q_iload (pc := 40) F 4 dX2_barOf_40 rfl ?_
                refine q_iconst (pc := 42) F (v := -1) dX2_barOf_42 (by decide) ?_
                refine q_ixor (pc := 43) F dX2_barOf_43 ?_
                refine q_iand (pc := 44) F dX2_barOf_44 ?_
                obtain ⟨hi45, h⟩ := h
                refine q_iald (pc := 45) F 1 rfl hi45 dX2_barOf_45 ?_
                refine q_iload_n (pc := 46) F 2 dX2_barOf_46 rfl ?_
                refine q_icmp_ge (pc := 47) (tgt := 54) F dX2_barOf_47 (by decide) (fun c47 => ?_) (fun c47 => ?_)
                · have h := h.1 c47
                  exact J54 h
                · have h := h.2 c47
                  refine q_iconst (pc := 50) F (v := 1) dX2_barOf_50 (by decide) ?_
                  refine q_goto (pc := 51) (tgt := 55) F dX2_barOf_51 (by decide) ?_
                  exact J55 (1 : Int32) h
    refine q_lv (lv' := [(0, .ref a_K), (2, .int p1), (3, .int r3), (4, .int p1), (5, .int (1 : Int32))]) [3, 5, 2, 1, 0] rfl ?_
    exact lp20 n20 p1 (1 : Int32) h
  · have h := h.1 c8
    refine q_bipush (pc := 11) F (v := -9) dX2_barOf_11 (by decide) ?_
    exact q_iretM (pc := 13) F Z dX2_barOf_13 k_longest_3 h rfl

def wp_X2_choose_L61 (x2 : Int32) (x3 : Int32) (x4 : Int32) (k_longest : Nat → Int32) (h_lamps : Int32) (post : (Nat → Int32) → Int32 → Int32 → Prop) (K119 : Int32 → Int32 → Prop) : Nat → Int32 → Int32 → Int32 → Prop
  | 0, _, _, _ => False
  | n + 1, x5, k_chosenPerson, k_chosenLamp => ((h_lamps ≤ x5 → K119 k_chosenPerson k_chosenLamp) ∧ (¬ h_lamps ≤ x5 → (wp_X4_bitOf x2 x5 (fun (r76 : Int32) => (jn (fun (K113 : Prop) => ((r76 = (1 : Int32) → (vp_in (x2 &&& ((jshl (1 : Int32) x5) ^^^ (-1 : Int32))) 128 ∧ (((k_longest (ix (x2 &&& ((jshl (1 : Int32) x5) ^^^ (-1 : Int32))))) < x3 → K113) ∧ (¬ (k_longest (ix (x2 &&& ((jshl (1 : Int32) x5) ^^^ (-1 : Int32))))) < x3 → post k_longest x4 x5)))) ∧ (¬ r76 = (1 : Int32) → K113))) (wp_X2_choose_L61 x2 x3 x4 k_longest h_lamps post K119 n (x5 + (1 : Int32)) k_chosenPerson k_chosenLamp))))))
def wp_X2_choose_L3 (x1 : Int32) (x2 : Int32) (x3 : Int32) (h_lamps : Int32) (h_people : Int32) (h_leavers : Nat → Int32) (post : (Nat → Int32) → Int32 → Int32 → Prop) : Nat → Int32 → (Nat → Int32) → Int32 → Int32 → Prop
  | 0, _, _, _, _ => False
  | n + 1, x4, k_longest, k_chosenPerson, k_chosenLamp => ((h_people ≤ x4 → post k_longest k_chosenPerson k_chosenLamp) ∧ (¬ h_people ≤ x4 → (vp_in x2 128 ∧ (wp_X4_bitOf (x1 &&& (h_leavers (ix x2))) x4 (fun (r28 : Int32) => (jn (fun (K119 : (Nat → Int32) → Int32 → Int32 → Prop) => ((r28 = (0 : Int32) → K119 k_longest k_chosenPerson k_chosenLamp) ∧ (¬ r28 = (0 : Int32) → (wp_X2_fillLongest (x1 &&& ((jshl (1 : Int32) x4) ^^^ (-1 : Int32))) (jshl (1 : Int32) h_lamps) k_longest h_leavers (fun (k_longest_55 : Nat → Int32) => (jn (fun (K119 : Int32 → Int32 → Prop) => (∃ n61 : Nat, wp_X2_choose_L61 x2 x3 x4 k_longest_55 h_lamps post K119 n61 (0 : Int32) k_chosenPerson k_chosenLamp)) (fun (k_chosenPerson_119 : Int32) (k_chosenLamp_119 : Int32) => K119 k_longest_55 k_chosenPerson_119 k_chosenLamp_119))))))) (fun (k_longest_119 : Nat → Int32) (k_chosenPerson_119 : Int32) (k_chosenLamp_119 : Int32) => wp_X2_choose_L3 x1 x2 x3 h_lamps h_people h_leavers post n (x4 + (1 : Int32)) k_longest_119 k_chosenPerson_119 k_chosenLamp_119)))))))
def wp_X2_choose (p0 : Int32) (p1 : Int32) (p2 : Int32) (k_longest : Nat → Int32) (k_chosenPerson : Int32) (k_chosenLamp : Int32) (h_lamps : Int32) (h_people : Int32) (h_leavers : Nat → Int32) (post : (Nat → Int32) → Int32 → Int32 → Prop) : Prop := (∃ n3 : Nat, wp_X2_choose_L3 p0 p1 p2 h_lamps h_people h_leavers post n3 (0 : Int32) k_longest k_chosenPerson k_chosenLamp)
abbrev rm_X2_choose : Room := { frames := 2, cells := 0, slots := 0, locals := 46 }
set_option maxRecDepth 100000 in
set_option maxHeartbeats 4000000 in
theorem ct_X2_choose (D : va_G) (cI cZ : ClassId) (a_K a_H a_K_longest a_K_ways a_K_griefs a_K_wins a_H_lampCell a_H_lampReach a_H_shine a_H_personCell a_H_wish a_H_side a_H_light a_H_leavers : Nat) (k_tablesKnown : Int32) (k_chosenPerson : Int32) (k_chosenLamp : Int32) (k_longest : Nat → Int32) (h_wide : Int32) (h_high : Int32) (h_walls : Int32) (h_doors : Int32) (h_law : Int32) (h_lamps : Int32) (h_people : Int32) (h_leavers : Nat → Int32) (p0 : Int32) (p1 : Int32) (p2 : Int32) {post : (Nat → Int32) → Int32 → Int32 → Prop} (h : wp_X2_choose p0 p1 p2 k_longest k_chosenPerson k_chosenLamp h_lamps h_people h_leavers post) (l : Launch) (sz : Nat) : Met l yX2_choose (wsM yX2_choose cX2_choose 6 none) rm_X2_choose (va_Pc [.ref a_K, .int p0, .int p1, .int p2] (gP D cI cZ [(a_K, .inr (2, [.ref a_H, .ref a_K_longest, .ref a_K_ways, .ref a_K_griefs, .ref a_K_wins, .int k_tablesKnown, .int k_chosenPerson, .int k_chosenLamp])), (a_K_longest, .inl (cI, 128, .inl k_longest)), (a_H, .inr (0, [.int h_wide, .int h_high, .int h_walls, .int h_doors, .int h_law, .int h_lamps, .int h_people, .ref a_H_lampCell, .ref a_H_lampReach, .ref a_H_shine, .ref a_H_personCell, .ref a_H_wish, .ref a_H_side, .ref a_H_light, .ref a_H_leavers])), (a_H_leavers, .inl (cI, 128, .inl h_leavers))] sz)) (gQv D (fun (u : (Nat → Int32) × Int32 × Int32) => post u.1 u.2.1 u.2.2) (fun (u : (Nat → Int32) × Int32 × Int32) => [(a_K, .inr (2, [.ref a_H, .ref a_K_longest, .ref a_K_ways, .ref a_K_griefs, .ref a_K_wins, .int k_tablesKnown, .int u.2.1, .int u.2.2])), (a_K_longest, .inl (cI, 128, .inl u.1)), (a_H, .inr (0, [.int h_wide, .int h_high, .int h_walls, .int h_doors, .int h_law, .int h_lamps, .int h_people, .ref a_H_lampCell, .ref a_H_lampReach, .ref a_H_shine, .ref a_H_personCell, .ref a_H_wish, .ref a_H_side, .ref a_H_light, .ref a_H_leavers])), (a_H_leavers, .inl (cI, 128, .inl h_leavers))]) [(a_K, .inr (2, [.ref a_H, .ref a_K_longest, .ref a_K_ways, .ref a_K_griefs, .ref a_K_wins, .int k_tablesKnown, .int k_chosenPerson, .int k_chosenLamp])), (a_K_longest, .inl (cI, 128, .inl k_longest)), (a_H, .inr (0, [.int h_wide, .int h_high, .int h_walls, .int h_doors, .int h_law, .int h_lamps, .int h_people, .ref a_H_lampCell, .ref a_H_lampReach, .ref a_H_shine, .ref a_H_personCell, .ref a_H_wish, .ref a_H_side, .ref a_H_light, .ref a_H_leavers])), (a_H_leavers, .inl (cI, 128, .inl h_leavers))] sz) 0 0 (va_A [(a_K, .inr (2, [.ref a_H, .ref a_K_longest, .ref a_K_ways, .ref a_K_griefs, .ref a_K_wins, .int k_tablesKnown, .int k_chosenPerson, .int k_chosenLamp])), (a_K_longest, .inl (cI, 128, .inl k_longest)), (a_H, .inr (0, [.int h_wide, .int h_high, .int h_walls, .int h_doors, .int h_law, .int h_lamps, .int h_people, .ref a_H_lampCell, .ref a_H_lampReach, .ref a_H_shine, .ref a_H_personCell, .ref a_H_wish, .ref a_H_side, .ref a_H_light, .ref a_H_leavers])), (a_H_leavers, .inl (cI, 128, .inl h_leavers))] sz) := by
  refine q_startM (own := RX2) (Qc := gQv D (fun (u : (Nat → Int32) × Int32 × Int32) => post u.1 u.2.1 u.2.2) (fun (u : (Nat → Int32) × Int32 × Int32) => [(a_K, .inr (2, [.ref a_H, .ref a_K_longest, .ref a_K_ways, .ref a_K_griefs, .ref a_K_wins, .int k_tablesKnown, .int u.2.1, .int u.2.2])), (a_K_longest, .inl (cI, 128, .inl u.1)), (a_H, .inr (0, [.int h_wide, .int h_high, .int h_walls, .int h_doors, .int h_law, .int h_lamps, .int h_people, .ref a_H_lampCell, .ref a_H_lampReach, .ref a_H_shine, .ref a_H_personCell, .ref a_H_wish, .ref a_H_side, .ref a_H_light, .ref a_H_leavers])), (a_H_leavers, .inl (cI, 128, .inl h_leavers))]) [(a_K, .inr (2, [.ref a_H, .ref a_K_longest, .ref a_K_ways, .ref a_K_griefs, .ref a_K_wins, .int k_tablesKnown, .int k_chosenPerson, .int k_chosenLamp])), (a_K_longest, .inl (cI, 128, .inl k_longest)), (a_H, .inr (0, [.int h_wide, .int h_high, .int h_walls, .int h_doors, .int h_law, .int h_lamps, .int h_people, .ref a_H_lampCell, .ref a_H_lampReach, .ref a_H_shine, .ref a_H_personCell, .ref a_H_wish, .ref a_H_side, .ref a_H_light, .ref a_H_leavers])), (a_H_leavers, .inl (cI, 128, .inl h_leavers))]) (by decide +kernel) rfl (Nat.le_of_ble_eq_true rfl) (fun E F Z M => ?_)
  show Wg E [(a_K, .inr (2, [.ref a_H, .ref a_K_longest, .ref a_K_ways, .ref a_K_griefs, .ref a_K_wins, .int k_tablesKnown, .int k_chosenPerson, .int k_chosenLamp])), (a_K_longest, .inl (cI, 128, .inl k_longest)), (a_H, .inr (0, [.int h_wide, .int h_high, .int h_walls, .int h_doors, .int h_law, .int h_lamps, .int h_people, .ref a_H_lampCell, .ref a_H_lampReach, .ref a_H_shine, .ref a_H_personCell, .ref a_H_wish, .ref a_H_side, .ref a_H_light, .ref a_H_leavers])), (a_H_leavers, .inl (cI, 128, .inl h_leavers))] 0 0 0 [(0, .ref a_K), (1, .int p0), (2, .int p1), (3, .int p2)] []
  unfold wp_X2_choose at h
  refine q_iconst (pc := 0) F (v := 0) dX2_choose_0 (by decide) ?_
  refine q_istore (pc := 1) F (lv' := [(4, .int (0 : Int32)), (0, .ref a_K), (1, .int p0), (2, .int p1), (3, .int p2)]) dX2_choose_1 (by decide) rfl ?_
  obtain ⟨n3, h⟩ := h
  have lp3 : ∀ (n : Nat) (x4_h3 : Int32) (k_longest_h3 : Nat → Int32) (k_chosenPerson_h3 : Int32) (k_chosenLamp_h3 : Int32), wp_X2_choose_L3 p0 p1 p2 h_lamps h_people h_leavers post n x4_h3 k_longest_h3 k_chosenPerson_h3 k_chosenLamp_h3 → Wg E [(a_K, .inr (2, [.ref a_H, .ref a_K_longest, .ref a_K_ways, .ref a_K_griefs, .ref a_K_wins, .int k_tablesKnown, .int k_chosenPerson_h3, .int k_chosenLamp_h3])), (a_K_longest, .inl (cI, 128, .inl k_longest_h3)), (a_H, .inr (0, [.int h_wide, .int h_high, .int h_walls, .int h_doors, .int h_law, .int h_lamps, .int h_people, .ref a_H_lampCell, .ref a_H_lampReach, .ref a_H_shine, .ref a_H_personCell, .ref a_H_wish, .ref a_H_side, .ref a_H_light, .ref a_H_leavers])), (a_H_leavers, .inl (cI, 128, .inl h_leavers))] 0 0 3 [(0, .ref a_K), (1, .int p0), (2, .int p1), (3, .int p2), (4, .int x4_h3)] [] := by
    intro n
    induction n with
    | zero => intro x4_h3 k_longest_h3 k_chosenPerson_h3 k_chosenLamp_h3 h; exact h.elim
    | succ n ih =>
      intro x4_h3 k_longest_h3 k_chosenPerson_h3 k_chosenLamp_h3 h
      unfold wp_X2_choose_L3 at h
      refine q_iload (pc := 3) F 4 dX2_choose_3 rfl ?_
      refine q_aload_n (pc := 5) F 0 dX2_choose_5 rfl ?_
      refine q_get (pc := 6) F fgX2_24 0 rfl rfl dX2_choose_6 ?_
      refine q_get (pc := 9) F fgX2_76 2 rfl rfl dX2_choose_9 ?_
      refine q_icmp_ge (pc := 12) (tgt := 125) F dX2_choose_12 (by decide) (fun c12 => ?_) (fun c12 => ?_)
      · have h := h.1 c12
        exact q_vretM (pc := 125) F Z dX2_choose_125 (k_longest_h3, k_chosenPerson_h3, k_chosenLamp_h3) h rfl
      · have h := h.2 c12
        refine q_iload_n (pc := 15) F 1 dX2_choose_15 rfl ?_
        refine q_aload_n (pc := 16) F 0 dX2_choose_16 rfl ?_
        refine q_get (pc := 17) F fgX2_24 0 rfl rfl dX2_choose_17 ?_
        refine q_get (pc := 20) F fgX2_51 2 rfl rfl dX2_choose_20 ?_
        refine q_iload_n (pc := 23) F 2 dX2_choose_23 rfl ?_
        obtain ⟨hi24, h⟩ := h
        refine q_iald (pc := 24) F 3 rfl hi24 dX2_choose_24 ?_
        refine q_iand (pc := 25) F dX2_choose_25 ?_
        refine q_iload (pc := 26) F 4 dX2_choose_26 rfl ?_
        refine q_cR (q_runSN (As := [.int (p0 &&& (h_leavers (ix p1))), .int x4_h3]) (rest := []) (pc := 28) F (fun l sz => ct_X4_bitOf D cI cZ (p0 &&& (h_leavers (ix p1))) x4_h3 h l sz) mc_yX4_bitOf sm_yX4_bitOf (fun U h => h.2.2.2.2.2.1) ⟨by decide, by decide⟩ ⟨by decide, by decide⟩ ⟨rfl, rfl⟩ [] rfl rfl rfl rfl (Nat.le_of_ble_eq_true rfl) dX2_choose_28) (fun r28 h => ?_)
        refine jnW h (fun K => ∀ (k_longest_119 : Nat → Int32) (k_chosenPerson_119 : Int32) (k_chosenLamp_119 : Int32), K k_longest_119 k_chosenPerson_119 k_chosenLamp_119 → Wg E [(a_K, .inr (2, [.ref a_H, .ref a_K_longest, .ref a_K_ways, .ref a_K_griefs, .ref a_K_wins, .int k_tablesKnown, .int k_chosenPerson_119, .int k_chosenLamp_119])), (a_K_longest, .inl (cI, 128, .inl k_longest_119)), (a_H, .inr (0, [.int h_wide, .int h_high, .int h_walls, .int h_doors, .int h_law, .int h_lamps, .int h_people, .ref a_H_lampCell, .ref a_H_lampReach, .ref a_H_shine, .ref a_H_personCell, .ref a_H_wish, .ref a_H_side, .ref a_H_light, .ref a_H_leavers])), (a_H_leavers, .inl (cI, 128, .inl h_leavers))] 0 0 119 [(0, .ref a_K), (1, .int p0), (2, .int p1), (3, .int p2), (4, .int x4_h3)] []) ?_ ?_
        · intro k_longest_119 k_chosenPerson_119 k_chosenLamp_119 h
          refine q_iinc (pc := 119) F (v := x4_h3 + (1 : Int32)) (lv' := [(4, .int (x4_h3 + (1 : Int32))), (0, .ref a_K), (1, .int p0), (2, .int p1), (3, .int p2)]) 4 dX2_choose_119 rfl rfl (by decide) rfl ?_
          refine q_goto (pc := 122) (tgt := 3) F dX2_choose_122 (by decide) ?_
          refine q_lv (lv' := [(0, .ref a_K), (1, .int p0), (2, .int p1), (3, .int p2), (4, .int (x4_h3 + (1 : Int32)))]) [1, 2, 3, 4, 0] rfl ?_
          exact ih (x4_h3 + (1 : Int32)) k_longest_119 k_chosenPerson_119 k_chosenLamp_119 h
        · intro K119 J119 h
          refine q_if_ne (pc := 31) (tgt := 37) F dX2_choose_31 (by decide) (fun c31 => ?_) (fun c31 => ?_)
          · have h := h.2 c31
            refine q_aload_n (pc := 37) F 0 dX2_choose_37 rfl ?_
            refine q_iload_n (pc := 38) F 1 dX2_choose_38 rfl ?_
            refine q_iconst (pc := 39) F (v := 1) dX2_choose_39 (by decide) ?_
            refine q_iload (pc := 40) F 4 dX2_choose_40 rfl ?_
            refine q_ishl (pc := 42) F dX2_choose_42 ?_
            refine q_iconst (pc := 43) F (v := -1) dX2_choose_43 (by decide) ?_
            refine q_ixor (pc := 44) F dX2_choose_44 ?_
            refine q_iand (pc := 45) F dX2_choose_45 ?_
            refine q_iconst (pc := 46) F (v := 1) dX2_choose_46 (by decide) ?_
            refine q_aload_n (pc := 47) F 0 dX2_choose_47 rfl ?_
            refine q_get (pc := 48) F fgX2_24 0 rfl rfl dX2_choose_48 ?_
            refine q_get (pc := 51) F fgX2_32 2 rfl rfl dX2_choose_51 ?_
            refine q_ishl (pc := 54) F dX2_choose_54 ?_
            refine q_cMv (wr := []) (pc := 55) F M (q_runV (As := [.int (p0 &&& ((jshl (1 : Int32) x4_h3) ^^^ (-1 : Int32))), .int (jshl (1 : Int32) h_lamps)]) (rest := []) (pc := 55) F (fun l sz => ct_X2_fillLongest D cI cZ a_K a_H a_K_longest a_K_ways a_K_griefs a_K_wins a_H_lampCell a_H_lampReach a_H_shine a_H_personCell a_H_wish a_H_side a_H_light a_H_leavers k_tablesKnown k_chosenPerson_h3 k_chosenLamp_h3 k_longest_h3 h_wide h_high h_walls h_doors h_law h_lamps h_people h_leavers (p0 &&& ((jshl (1 : Int32) x4_h3) ^^^ (-1 : Int32))) (jshl (1 : Int32) h_lamps) h l sz) mc_yX2_fillLongest im_yX2_fillLongest se_yX2_fillLongest mlX2_38 ⟨by decide, by decide⟩ ⟨by decide, by decide⟩ ⟨rfl, rfl⟩ [0, 1, 2, 3] rfl rfl rfl 0 rfl rfl rfl (Nat.le_of_ble_eq_true rfl) dX2_choose_55) [0, 1, 2, 3] [] rfl rfl rfl (by decide) (fun u55 h => ?_)
            obtain ⟨k_longest_55, rfl⟩ : ∃ z, z = u55 := ⟨_, rfl⟩
            refine q_cs (cs' := [(a_K, .inr (2, [.ref a_H, .ref a_K_longest, .ref a_K_ways, .ref a_K_griefs, .ref a_K_wins, .int k_tablesKnown, .int k_chosenPerson_h3, .int k_chosenLamp_h3])), (a_K_longest, .inl (cI, 128, .inl k_longest_55)), (a_H, .inr (0, [.int h_wide, .int h_high, .int h_walls, .int h_doors, .int h_law, .int h_lamps, .int h_people, .ref a_H_lampCell, .ref a_H_lampReach, .ref a_H_shine, .ref a_H_personCell, .ref a_H_wish, .ref a_H_side, .ref a_H_light, .ref a_H_leavers])), (a_H_leavers, .inl (cI, 128, .inl h_leavers))]) [0, 1, 2, 3] rfl rfl ?_
            refine q_iconst (pc := 58) F (v := 0) dX2_choose_58 (by decide) ?_
            refine q_istore (pc := 59) F (lv' := [(5, .int (0 : Int32)), (0, .ref a_K), (1, .int p0), (2, .int p1), (3, .int p2), (4, .int x4_h3)]) dX2_choose_59 (by decide) rfl ?_
            refine jnW h (fun K => ∀ (k_chosenPerson_119 : Int32) (k_chosenLamp_119 : Int32), K k_chosenPerson_119 k_chosenLamp_119 → Wg E [(a_K, .inr (2, [.ref a_H, .ref a_K_longest, .ref a_K_ways, .ref a_K_griefs, .ref a_K_wins, .int k_tablesKnown, .int k_chosenPerson_119, .int k_chosenLamp_119])), (a_K_longest, .inl (cI, 128, .inl k_longest_55)), (a_H, .inr (0, [.int h_wide, .int h_high, .int h_walls, .int h_doors, .int h_law, .int h_lamps, .int h_people, .ref a_H_lampCell, .ref a_H_lampReach, .ref a_H_shine, .ref a_H_personCell, .ref a_H_wish, .ref a_H_side, .ref a_H_light, .ref a_H_leavers])), (a_H_leavers, .inl (cI, 128, .inl h_leavers))] 0 0 119 [(0, .ref a_K), (1, .int p0), (2, .int p1), (3, .int p2), (4, .int x4_h3)] []) ?_ ?_
            · intro k_chosenPerson_119 k_chosenLamp_119 h
              exact J119 k_longest_55 k_chosenPerson_119 k_chosenLamp_119 h
            · intro K119 J119 h
              obtain ⟨n61, h⟩ := h
              have lp61 : ∀ (n : Nat) (x5_h61 : Int32) (k_chosenPerson_h61 : Int32) (k_chosenLamp_h61 : Int32), wp_X2_choose_L61 p1 p2 x4_h3 k_longest_55 h_lamps post K119 n x5_h61 k_chosenPerson_h61 k_chosenLamp_h61 → Wg E [(a_K, .inr (2, [.ref a_H, .ref a_K_longest, .ref a_K_ways, .ref a_K_griefs, .ref a_K_wins, .int k_tablesKnown, .int k_chosenPerson_h61, .int k_chosenLamp_h61])), (a_K_longest, .inl (cI, 128, .inl k_longest_55)), (a_H, .inr (0, [.int h_wide, .int h_high, .int h_walls, .int h_doors, .int h_law, .int h_lamps, .int h_people, .ref a_H_lampCell, .ref a_H_lampReach, .ref a_H_shine, .ref a_H_personCell, .ref a_H_wish, .ref a_H_side, .ref a_H_light, .ref a_H_leavers])), (a_H_leavers, .inl (cI, 128, .inl h_leavers))] 0 0 61 [(0, .ref a_K), (1, .int p0), (2, .int p1), (3, .int p2), (4, .int x4_h3), (5, .int x5_h61)] [] := by
                intro n
                induction n with
                | zero => intro x5_h61 k_chosenPerson_h61 k_chosenLamp_h61 h; exact h.elim
                | succ n ih =>
                  intro x5_h61 k_chosenPerson_h61 k_chosenLamp_h61 h
                  unfold wp_X2_choose_L61 at h
                  refine q_iload (pc := 61) F 5 dX2_choose_61 rfl ?_
                  refine q_aload_n (pc := 63) F 0 dX2_choose_63 rfl ?_
                  refine q_get (pc := 64) F fgX2_24 0 rfl rfl dX2_choose_64 ?_
                  refine q_get (pc := 67) F fgX2_32 2 rfl rfl dX2_choose_67 ?_
                  refine q_icmp_ge (pc := 70) (tgt := 119) F dX2_choose_70 (by decide) (fun c70 => ?_) (fun c70 => ?_)
                  · have h := h.1 c70
                    refine q_lv (lv' := [(0, .ref a_K), (1, .int p0), (2, .int p1), (3, .int p2), (4, .int x4_h3)]) [0, 1, 2, 3, 4] rfl ?_
                    exact J119 k_chosenPerson_h61 k_chosenLamp_h61 h
                  · have h := h.2 c70
                    refine q_iload_n (pc := 73) F 2 dX2_choose_73 rfl ?_
                    refine q_iload (pc := 74) F 5 dX2_choose_74 rfl ?_
                    refine q_cR (q_runSN (As := [.int p1, .int x5_h61]) (rest := []) (pc := 76) F (fun l sz => ct_X4_bitOf D cI cZ p1 x5_h61 h l sz) mc_yX4_bitOf sm_yX4_bitOf (fun U h => h.2.2.2.2.2.1) ⟨by decide, by decide⟩ ⟨by decide, by decide⟩ ⟨rfl, rfl⟩ [] rfl rfl rfl rfl (Nat.le_of_ble_eq_true rfl) dX2_choose_76) (fun r76 h => ?_)
                    refine q_iconst (pc := 79) F (v := 1) dX2_choose_79 (by decide) ?_
                    refine jnW h (fun K => K → Wg E [(a_K, .inr (2, [.ref a_H, .ref a_K_longest, .ref a_K_ways, .ref a_K_griefs, .ref a_K_wins, .int k_tablesKnown, .int k_chosenPerson_h61, .int k_chosenLamp_h61])), (a_K_longest, .inl (cI, 128, .inl k_longest_55)), (a_H, .inr (0, [.int h_wide, .int h_high, .int h_walls, .int h_doors, .int h_law, .int h_lamps, .int h_people, .ref a_H_lampCell, .ref a_H_lampReach, .ref a_H_shine, .ref a_H_personCell, .ref a_H_wish, .ref a_H_side, .ref a_H_light, .ref a_H_leavers])), (a_H_leavers, .inl (cI, 128, .inl h_leavers))] 0 0 113 [(0, .ref a_K), (1, .int p0), (2, .int p1), (3, .int p2), (4, .int x4_h3), (5, .int x5_h61)] []) ?_ ?_
                    · intro h
                      refine q_iinc (pc := 113) F (v := x5_h61 + (1 : Int32)) (lv' := [(5, .int (x5_h61 + (1 : Int32))), (0, .ref a_K), (1, .int p0), (2, .int p1), (3, .int p2), (4, .int x4_h3)]) 5 dX2_choose_113 rfl rfl (by decide) rfl ?_
                      refine q_goto (pc := 116) (tgt := 61) F dX2_choose_116 (by decide) ?_
                      refine q_lv (lv' := [(0, .ref a_K), (1, .int p0), (2, .int p1), (3, .int p2), (4, .int x4_h3), (5, .int (x5_h61 + (1 : Int32)))]) [1, 2, 3, 4, 5, 0] rfl ?_
                      exact ih (x5_h61 + (1 : Int32)) k_chosenPerson_h61 k_chosenLamp_h61 h
                    · intro K113 J113 h
                      refine q_icmp_ne (pc := 80) (tgt := 113) F dX2_choose_80 (by decide) (fun c80 => ?_) (fun c80 => ?_)
                      · have h := h.2 c80
                        exact J113 h
                      · have h := h.1 c80
                        refine q_aload_n (pc := 83) F 0 dX2_choose_83 rfl ?_
                        refine q_get (pc := 84) F fgX2_9 0 rfl rfl dX2_choose_84 ?_
                        refine q_iload_n (pc := 87) F 2 dX2_choose_87 rfl ?_
                        refine q_iconst (pc := 88) F (v := 1) dX2_choose_88 (by decide) ?_
                        refine q_iload (pc := 89) F 5 dX2_choose_89 rfl ?_
                        refine q_ishl (pc := 91) F dX2_choose_91 ?_
                        refine q_iconst (pc := 92) F (v := -1) dX2_choose_92 (by decide) ?_
                        refine q_ixor (pc := 93) F dX2_choose_93 ?_
                        refine q_iand (pc := 94) F dX2_choose_94 ?_
                        obtain ⟨hi95, h⟩ := h
                        refine q_iald (pc := 95) F 1 rfl hi95 dX2_choose_95 ?_
                        refine q_iload_n (pc := 96) F 3 dX2_choose_96 rfl ?_
                        refine q_icmp_lt (pc := 97) (tgt := 113) F dX2_choose_97 (by decide) (fun c97 => ?_) (fun c97 => ?_)
                        · have h := h.1 c97
                          exact J113 h
                        · have h := h.2 c97
                          refine q_aload_n (pc := 100) F 0 dX2_choose_100 rfl ?_
                          refine q_iload (pc := 101) F 4 dX2_choose_101 rfl ?_
                          refine q_put (pc := 103) F M (cs' := [(a_K, .inr (2, [.ref a_H, .ref a_K_longest, .ref a_K_ways, .ref a_K_griefs, .ref a_K_wins, .int k_tablesKnown, .int x4_h3, .int k_chosenLamp_h61])), (a_K_longest, .inl (cI, 128, .inl k_longest_55)), (a_H, .inr (0, [.int h_wide, .int h_high, .int h_walls, .int h_doors, .int h_law, .int h_lamps, .int h_people, .ref a_H_lampCell, .ref a_H_lampReach, .ref a_H_shine, .ref a_H_personCell, .ref a_H_wish, .ref a_H_side, .ref a_H_light, .ref a_H_leavers])), (a_H_leavers, .inl (cI, 128, .inl h_leavers))]) fpX2_70 0 rfl rfl rfl (Nat.le_of_ble_eq_true rfl) rfl dX2_choose_103 ?_
                          refine q_aload_n (pc := 106) F 0 dX2_choose_106 rfl ?_
                          refine q_iload (pc := 107) F 5 dX2_choose_107 rfl ?_
                          refine q_put (pc := 109) F M (cs' := [(a_K, .inr (2, [.ref a_H, .ref a_K_longest, .ref a_K_ways, .ref a_K_griefs, .ref a_K_wins, .int k_tablesKnown, .int x4_h3, .int x5_h61])), (a_K_longest, .inl (cI, 128, .inl k_longest_55)), (a_H, .inr (0, [.int h_wide, .int h_high, .int h_walls, .int h_doors, .int h_law, .int h_lamps, .int h_people, .ref a_H_lampCell, .ref a_H_lampReach, .ref a_H_shine, .ref a_H_personCell, .ref a_H_wish, .ref a_H_side, .ref a_H_light, .ref a_H_leavers])), (a_H_leavers, .inl (cI, 128, .inl h_leavers))]) fpX2_73 0 rfl rfl rfl (Nat.le_of_ble_eq_true rfl) rfl dX2_choose_109 ?_
                          exact q_vretM (pc := 112) F Z dX2_choose_112 (k_longest_55, x4_h3, x5_h61) h rfl
              refine q_lv (lv' := [(0, .ref a_K), (1, .int p0), (2, .int p1), (3, .int p2), (4, .int x4_h3), (5, .int (0 : Int32))]) [1, 2, 3, 4, 5, 0] rfl ?_
              exact lp61 n61 (0 : Int32) k_chosenPerson_h3 k_chosenLamp_h3 h
          · have h := h.1 c31
            refine q_goto (pc := 34) (tgt := 119) F dX2_choose_34 (by decide) ?_
            exact J119 k_longest_h3 k_chosenPerson_h3 k_chosenLamp_h3 h
  refine q_lv (lv' := [(0, .ref a_K), (1, .int p0), (2, .int p1), (3, .int p2), (4, .int (0 : Int32))]) [1, 2, 3, 4, 0] rfl ?_
  exact lp3 n3 (0 : Int32) k_longest k_chosenPerson k_chosenLamp h

def wp_X2_follow_L17 (x3 : Int32) (x6 : Int32) (h_lamps : Int32) (h_people : Int32) (h_leavers : Nat → Int32) (post : (Nat → Int32) → Int32 → Int32 → Prop) : Nat → Int32 → Int32 → Int32 → (Nat → Int32) → Int32 → Int32 → Prop
  | 0, _, _, _, _, _, _ => False
  | n + 1, x4, x5, x7, k_longest, k_chosenPerson, k_chosenLamp => ((x3 < x7 → post k_longest k_chosenPerson k_chosenLamp) ∧ (¬ x3 < x7 → ((x6 ≤ x7 → post k_longest k_chosenPerson k_chosenLamp) ∧ (¬ x6 ≤ x7 → (wp_X2_choose x4 x5 ((x6 - x7) - (1 : Int32)) k_longest k_chosenPerson k_chosenLamp h_lamps h_people h_leavers (fun (k_longest_42 : Nat → Int32) (k_chosenPerson_42 : Int32) (k_chosenLamp_42 : Int32) => (∀ x4_56 : Int32, x4_56 = x4 &&& ((jshl (1 : Int32) k_chosenPerson_42) ^^^ (-1 : Int32)) → (∀ x5_69 : Int32, x5_69 = x5 &&& ((jshl (1 : Int32) k_chosenLamp_42) ^^^ (-1 : Int32)) → wp_X2_follow_L17 x3 x6 h_lamps h_people h_leavers post n x4_56 x5_69 (x7 + (1 : Int32)) k_longest_42 k_chosenPerson_42 k_chosenLamp_42))))))))
def wp_X2_follow (p0 : Int32) (p1 : Int32) (p2 : Int32) (k_longest : Nat → Int32) (k_chosenPerson : Int32) (k_chosenLamp : Int32) (h_lamps : Int32) (h_people : Int32) (h_leavers : Nat → Int32) (post : (Nat → Int32) → Int32 → Int32 → Prop) : Prop := (wp_X2_mostOf p0 p1 k_longest h_lamps h_leavers (fun (r9 : Int32) (k_longest_9 : Nat → Int32) => (∃ n17 : Nat, wp_X2_follow_L17 p2 r9 h_lamps h_people h_leavers post n17 p0 p1 (0 : Int32) k_longest_9 k_chosenPerson k_chosenLamp)))
abbrev rm_X2_follow : Room := { frames := 3, cells := 0, slots := 0, locals := 71 }
set_option maxRecDepth 100000 in
set_option maxHeartbeats 4000000 in
theorem ct_X2_follow (D : va_G) (cI cZ : ClassId) (a_K a_H a_K_longest a_K_ways a_K_griefs a_K_wins a_H_lampCell a_H_lampReach a_H_shine a_H_personCell a_H_wish a_H_side a_H_light a_H_leavers : Nat) (k_tablesKnown : Int32) (k_chosenPerson : Int32) (k_chosenLamp : Int32) (k_longest : Nat → Int32) (h_wide : Int32) (h_high : Int32) (h_walls : Int32) (h_doors : Int32) (h_law : Int32) (h_lamps : Int32) (h_people : Int32) (h_leavers : Nat → Int32) (p0 : Int32) (p1 : Int32) (p2 : Int32) {post : (Nat → Int32) → Int32 → Int32 → Prop} (h : wp_X2_follow p0 p1 p2 k_longest k_chosenPerson k_chosenLamp h_lamps h_people h_leavers post) (l : Launch) (sz : Nat) : Met l yX2_follow (wsM yX2_follow cX2_follow 8 none) rm_X2_follow (va_Pc [.ref a_K, .int p0, .int p1, .int p2] (gP D cI cZ [(a_K, .inr (2, [.ref a_H, .ref a_K_longest, .ref a_K_ways, .ref a_K_griefs, .ref a_K_wins, .int k_tablesKnown, .int k_chosenPerson, .int k_chosenLamp])), (a_K_longest, .inl (cI, 128, .inl k_longest)), (a_H, .inr (0, [.int h_wide, .int h_high, .int h_walls, .int h_doors, .int h_law, .int h_lamps, .int h_people, .ref a_H_lampCell, .ref a_H_lampReach, .ref a_H_shine, .ref a_H_personCell, .ref a_H_wish, .ref a_H_side, .ref a_H_light, .ref a_H_leavers])), (a_H_leavers, .inl (cI, 128, .inl h_leavers))] sz)) (gQv D (fun (u : (Nat → Int32) × Int32 × Int32) => post u.1 u.2.1 u.2.2) (fun (u : (Nat → Int32) × Int32 × Int32) => [(a_K, .inr (2, [.ref a_H, .ref a_K_longest, .ref a_K_ways, .ref a_K_griefs, .ref a_K_wins, .int k_tablesKnown, .int u.2.1, .int u.2.2])), (a_K_longest, .inl (cI, 128, .inl u.1)), (a_H, .inr (0, [.int h_wide, .int h_high, .int h_walls, .int h_doors, .int h_law, .int h_lamps, .int h_people, .ref a_H_lampCell, .ref a_H_lampReach, .ref a_H_shine, .ref a_H_personCell, .ref a_H_wish, .ref a_H_side, .ref a_H_light, .ref a_H_leavers])), (a_H_leavers, .inl (cI, 128, .inl h_leavers))]) [(a_K, .inr (2, [.ref a_H, .ref a_K_longest, .ref a_K_ways, .ref a_K_griefs, .ref a_K_wins, .int k_tablesKnown, .int k_chosenPerson, .int k_chosenLamp])), (a_K_longest, .inl (cI, 128, .inl k_longest)), (a_H, .inr (0, [.int h_wide, .int h_high, .int h_walls, .int h_doors, .int h_law, .int h_lamps, .int h_people, .ref a_H_lampCell, .ref a_H_lampReach, .ref a_H_shine, .ref a_H_personCell, .ref a_H_wish, .ref a_H_side, .ref a_H_light, .ref a_H_leavers])), (a_H_leavers, .inl (cI, 128, .inl h_leavers))] sz) 0 0 (va_A [(a_K, .inr (2, [.ref a_H, .ref a_K_longest, .ref a_K_ways, .ref a_K_griefs, .ref a_K_wins, .int k_tablesKnown, .int k_chosenPerson, .int k_chosenLamp])), (a_K_longest, .inl (cI, 128, .inl k_longest)), (a_H, .inr (0, [.int h_wide, .int h_high, .int h_walls, .int h_doors, .int h_law, .int h_lamps, .int h_people, .ref a_H_lampCell, .ref a_H_lampReach, .ref a_H_shine, .ref a_H_personCell, .ref a_H_wish, .ref a_H_side, .ref a_H_light, .ref a_H_leavers])), (a_H_leavers, .inl (cI, 128, .inl h_leavers))] sz) := by
  refine q_startM (own := RX2) (Qc := gQv D (fun (u : (Nat → Int32) × Int32 × Int32) => post u.1 u.2.1 u.2.2) (fun (u : (Nat → Int32) × Int32 × Int32) => [(a_K, .inr (2, [.ref a_H, .ref a_K_longest, .ref a_K_ways, .ref a_K_griefs, .ref a_K_wins, .int k_tablesKnown, .int u.2.1, .int u.2.2])), (a_K_longest, .inl (cI, 128, .inl u.1)), (a_H, .inr (0, [.int h_wide, .int h_high, .int h_walls, .int h_doors, .int h_law, .int h_lamps, .int h_people, .ref a_H_lampCell, .ref a_H_lampReach, .ref a_H_shine, .ref a_H_personCell, .ref a_H_wish, .ref a_H_side, .ref a_H_light, .ref a_H_leavers])), (a_H_leavers, .inl (cI, 128, .inl h_leavers))]) [(a_K, .inr (2, [.ref a_H, .ref a_K_longest, .ref a_K_ways, .ref a_K_griefs, .ref a_K_wins, .int k_tablesKnown, .int k_chosenPerson, .int k_chosenLamp])), (a_K_longest, .inl (cI, 128, .inl k_longest)), (a_H, .inr (0, [.int h_wide, .int h_high, .int h_walls, .int h_doors, .int h_law, .int h_lamps, .int h_people, .ref a_H_lampCell, .ref a_H_lampReach, .ref a_H_shine, .ref a_H_personCell, .ref a_H_wish, .ref a_H_side, .ref a_H_light, .ref a_H_leavers])), (a_H_leavers, .inl (cI, 128, .inl h_leavers))]) (by decide +kernel) rfl (Nat.le_of_ble_eq_true rfl) (fun E F Z M => ?_)
  show Wg E [(a_K, .inr (2, [.ref a_H, .ref a_K_longest, .ref a_K_ways, .ref a_K_griefs, .ref a_K_wins, .int k_tablesKnown, .int k_chosenPerson, .int k_chosenLamp])), (a_K_longest, .inl (cI, 128, .inl k_longest)), (a_H, .inr (0, [.int h_wide, .int h_high, .int h_walls, .int h_doors, .int h_law, .int h_lamps, .int h_people, .ref a_H_lampCell, .ref a_H_lampReach, .ref a_H_shine, .ref a_H_personCell, .ref a_H_wish, .ref a_H_side, .ref a_H_light, .ref a_H_leavers])), (a_H_leavers, .inl (cI, 128, .inl h_leavers))] 0 0 0 [(0, .ref a_K), (1, .int p0), (2, .int p1), (3, .int p2)] []
  unfold wp_X2_follow at h
  refine q_iload_n (pc := 0) F 1 dX2_follow_0 rfl ?_
  refine q_istore (pc := 1) F (lv' := [(4, .int p0), (0, .ref a_K), (1, .int p0), (2, .int p1), (3, .int p2)]) dX2_follow_1 (by decide) rfl ?_
  refine q_iload_n (pc := 3) F 3 dX2_follow_3 rfl ?_
  refine q_istore (pc := 4) F (lv' := [(5, .int p1), (4, .int p0), (0, .ref a_K), (1, .int p0), (2, .int p1), (3, .int p2)]) dX2_follow_4 (by decide) rfl ?_
  refine q_aload_n (pc := 6) F 2 dX2_follow_6 rfl ?_
  refine q_iload_n (pc := 7) F 3 dX2_follow_7 rfl ?_
  refine q_iload_n (pc := 8) F 4 dX2_follow_8 rfl ?_
  refine q_cMi (wr := []) (pc := 9) F M (q_runV (As := [.int p0, .int p1]) (rest := []) (pc := 9) F (fun l sz => ct_X2_mostOf D cI cZ a_K a_H a_K_longest a_K_ways a_K_griefs a_K_wins a_H_lampCell a_H_lampReach a_H_shine a_H_personCell a_H_wish a_H_side a_H_light a_H_leavers k_tablesKnown k_chosenPerson k_chosenLamp k_longest h_wide h_high h_walls h_doors h_law h_lamps h_people h_leavers p0 p1 h l sz) mc_yX2_mostOf im_yX2_mostOf se_yX2_mostOf mlX2_63 ⟨by decide, by decide⟩ ⟨by decide, by decide⟩ ⟨rfl, rfl⟩ [0, 1, 2, 3] rfl rfl rfl 0 rfl rfl rfl (Nat.le_of_ble_eq_true rfl) dX2_follow_9) [0, 1, 2, 3] [] rfl rfl rfl (by decide) (fun r9 u9 h => ?_)
  obtain ⟨k_longest_9, rfl⟩ : ∃ z, z = u9 := ⟨_, rfl⟩
  refine q_cs (cs' := [(a_K, .inr (2, [.ref a_H, .ref a_K_longest, .ref a_K_ways, .ref a_K_griefs, .ref a_K_wins, .int k_tablesKnown, .int k_chosenPerson, .int k_chosenLamp])), (a_K_longest, .inl (cI, 128, .inl k_longest_9)), (a_H, .inr (0, [.int h_wide, .int h_high, .int h_walls, .int h_doors, .int h_law, .int h_lamps, .int h_people, .ref a_H_lampCell, .ref a_H_lampReach, .ref a_H_shine, .ref a_H_personCell, .ref a_H_wish, .ref a_H_side, .ref a_H_light, .ref a_H_leavers])), (a_H_leavers, .inl (cI, 128, .inl h_leavers))]) [0, 1, 2, 3] rfl rfl ?_
  refine q_istore (pc := 12) F (lv' := [(6, .int r9), (5, .int p1), (4, .int p0), (0, .ref a_K), (1, .int p0), (2, .int p1), (3, .int p2)]) dX2_follow_12 (by decide) rfl ?_
  refine q_iconst (pc := 14) F (v := 0) dX2_follow_14 (by decide) ?_
  refine q_istore (pc := 15) F (lv' := [(7, .int (0 : Int32)), (6, .int r9), (5, .int p1), (4, .int p0), (0, .ref a_K), (1, .int p0), (2, .int p1), (3, .int p2)]) dX2_follow_15 (by decide) rfl ?_
  obtain ⟨n17, h⟩ := h
  have lp17 : ∀ (n : Nat) (x4_h17 : Int32) (x5_h17 : Int32) (x7_h17 : Int32) (k_longest_h17 : Nat → Int32) (k_chosenPerson_h17 : Int32) (k_chosenLamp_h17 : Int32), wp_X2_follow_L17 p2 r9 h_lamps h_people h_leavers post n x4_h17 x5_h17 x7_h17 k_longest_h17 k_chosenPerson_h17 k_chosenLamp_h17 → Wg E [(a_K, .inr (2, [.ref a_H, .ref a_K_longest, .ref a_K_ways, .ref a_K_griefs, .ref a_K_wins, .int k_tablesKnown, .int k_chosenPerson_h17, .int k_chosenLamp_h17])), (a_K_longest, .inl (cI, 128, .inl k_longest_h17)), (a_H, .inr (0, [.int h_wide, .int h_high, .int h_walls, .int h_doors, .int h_law, .int h_lamps, .int h_people, .ref a_H_lampCell, .ref a_H_lampReach, .ref a_H_shine, .ref a_H_personCell, .ref a_H_wish, .ref a_H_side, .ref a_H_light, .ref a_H_leavers])), (a_H_leavers, .inl (cI, 128, .inl h_leavers))] 0 0 17 [(0, .ref a_K), (3, .int p2), (4, .int x4_h17), (5, .int x5_h17), (6, .int r9), (7, .int x7_h17)] [] := by
    intro n
    induction n with
    | zero => intro x4_h17 x5_h17 x7_h17 k_longest_h17 k_chosenPerson_h17 k_chosenLamp_h17 h; exact h.elim
    | succ n ih =>
      intro x4_h17 x5_h17 x7_h17 k_longest_h17 k_chosenPerson_h17 k_chosenLamp_h17 h
      unfold wp_X2_follow_L17 at h
      refine q_iload (pc := 17) F 5 dX2_follow_17 rfl ?_
      refine q_iload_n (pc := 19) F 1 dX2_follow_19 rfl ?_
      refine q_icmp_gt (pc := 20) (tgt := 77) F dX2_follow_20 (by decide) (fun c20 => ?_) (fun c20 => ?_)
      · have h := h.1 c20
        exact q_vretM (pc := 77) F Z dX2_follow_77 (k_longest_h17, k_chosenPerson_h17, k_chosenLamp_h17) h rfl
      · have h := h.2 c20
        refine q_iload (pc := 23) F 5 dX2_follow_23 rfl ?_
        refine q_iload (pc := 25) F 4 dX2_follow_25 rfl ?_
        refine q_icmp_ge (pc := 27) (tgt := 77) F dX2_follow_27 (by decide) (fun c27 => ?_) (fun c27 => ?_)
        · have h := h.1 c27
          exact q_vretM (pc := 77) F Z dX2_follow_77 (k_longest_h17, k_chosenPerson_h17, k_chosenLamp_h17) h rfl
        · have h := h.2 c27
          refine q_aload_n (pc := 30) F 0 dX2_follow_30 rfl ?_
          refine q_iload (pc := 31) F 2 dX2_follow_31 rfl ?_
          refine q_iload (pc := 33) F 3 dX2_follow_33 rfl ?_
          refine q_iload (pc := 35) F 4 dX2_follow_35 rfl ?_
          refine q_iload (pc := 37) F 5 dX2_follow_37 rfl ?_
          refine q_isub (pc := 39) F dX2_follow_39 ?_
          refine q_iconst (pc := 40) F (v := 1) dX2_follow_40 (by decide) ?_
          refine q_isub (pc := 41) F dX2_follow_41 ?_
          refine q_cMv (wr := []) (pc := 42) F M (q_runV (As := [.int x4_h17, .int x5_h17, .int ((r9 - x7_h17) - (1 : Int32))]) (rest := []) (pc := 42) F (fun l sz => ct_X2_choose D cI cZ a_K a_H a_K_longest a_K_ways a_K_griefs a_K_wins a_H_lampCell a_H_lampReach a_H_shine a_H_personCell a_H_wish a_H_side a_H_light a_H_leavers k_tablesKnown k_chosenPerson_h17 k_chosenLamp_h17 k_longest_h17 h_wide h_high h_walls h_doors h_law h_lamps h_people h_leavers x4_h17 x5_h17 ((r9 - x7_h17) - (1 : Int32)) h l sz) mc_yX2_choose im_yX2_choose se_yX2_choose mlX2_66 ⟨by decide, by decide⟩ ⟨by decide, by decide⟩ ⟨rfl, rfl⟩ [0, 1, 2, 3] rfl rfl rfl 0 rfl rfl rfl (Nat.le_of_ble_eq_true rfl) dX2_follow_42) [0, 1, 2, 3] [] rfl rfl rfl (by decide) (fun u42 h => ?_)
          obtain ⟨k_longest_42, k_chosenPerson_42, k_chosenLamp_42⟩ := u42
          refine q_cs (cs' := [(a_K, .inr (2, [.ref a_H, .ref a_K_longest, .ref a_K_ways, .ref a_K_griefs, .ref a_K_wins, .int k_tablesKnown, .int k_chosenPerson_42, .int k_chosenLamp_42])), (a_K_longest, .inl (cI, 128, .inl k_longest_42)), (a_H, .inr (0, [.int h_wide, .int h_high, .int h_walls, .int h_doors, .int h_law, .int h_lamps, .int h_people, .ref a_H_lampCell, .ref a_H_lampReach, .ref a_H_shine, .ref a_H_personCell, .ref a_H_wish, .ref a_H_side, .ref a_H_light, .ref a_H_leavers])), (a_H_leavers, .inl (cI, 128, .inl h_leavers))]) [0, 1, 2, 3] rfl rfl ?_
          refine q_iload (pc := 45) F 2 dX2_follow_45 rfl ?_
          refine q_iconst (pc := 47) F (v := 1) dX2_follow_47 (by decide) ?_
          refine q_aload_n (pc := 48) F 0 dX2_follow_48 rfl ?_
          refine q_get (pc := 49) F fgX2_70 0 rfl rfl dX2_follow_49 ?_
          refine q_ishl (pc := 52) F dX2_follow_52 ?_
          refine q_iconst (pc := 53) F (v := -1) dX2_follow_53 (by decide) ?_
          refine q_ixor (pc := 54) F dX2_follow_54 ?_
          refine q_iand (pc := 55) F dX2_follow_55 ?_
          refine q_topi (fun x4_56 ex4_56 => ?_)
          have h := h x4_56 ex4_56
          refine q_istore (pc := 56) F (lv' := [(4, .int x4_56), (0, .ref a_K), (3, .int p2), (5, .int x5_h17), (6, .int r9), (7, .int x7_h17)]) dX2_follow_56 (by decide) rfl ?_
          refine q_iload (pc := 58) F 3 dX2_follow_58 rfl ?_
          refine q_iconst (pc := 60) F (v := 1) dX2_follow_60 (by decide) ?_
          refine q_aload_n (pc := 61) F 1 dX2_follow_61 rfl ?_
          refine q_get (pc := 62) F fgX2_73 0 rfl rfl dX2_follow_62 ?_
          refine q_ishl (pc := 65) F dX2_follow_65 ?_
          refine q_iconst (pc := 66) F (v := -1) dX2_follow_66 (by decide) ?_
          refine q_ixor (pc := 67) F dX2_follow_67 ?_
          refine q_iand (pc := 68) F dX2_follow_68 ?_
          refine q_topi (fun x5_69 ex5_69 => ?_)
          have h := h x5_69 ex5_69
          refine q_istore (pc := 69) F (lv' := [(5, .int x5_69), (4, .int x4_56), (0, .ref a_K), (3, .int p2), (6, .int r9), (7, .int x7_h17)]) dX2_follow_69 (by decide) rfl ?_
          refine q_iinc (pc := 71) F (v := x7_h17 + (1 : Int32)) (lv' := [(7, .int (x7_h17 + (1 : Int32))), (5, .int x5_69), (4, .int x4_56), (0, .ref a_K), (3, .int p2), (6, .int r9)]) 5 dX2_follow_71 rfl rfl (by decide) rfl ?_
          refine q_goto (pc := 74) (tgt := 17) F dX2_follow_74 (by decide) ?_
          refine q_lv (lv' := [(0, .ref a_K), (3, .int p2), (4, .int x4_56), (5, .int x5_69), (6, .int r9), (7, .int (x7_h17 + (1 : Int32)))]) [3, 4, 2, 1, 5, 0] rfl ?_
          exact ih x4_56 x5_69 (x7_h17 + (1 : Int32)) k_longest_42 k_chosenPerson_42 k_chosenLamp_42 h
  refine q_lv (lv' := [(0, .ref a_K), (3, .int p2), (4, .int p0), (5, .int p1), (6, .int r9), (7, .int (0 : Int32))]) [4, 7, 3, 2, 1, 0] rfl ?_
  exact lp17 n17 p0 p1 (0 : Int32) k_longest_9 k_chosenPerson k_chosenLamp h

def wp_X2_waysFrom_L83 (x2 : Int32) (x5 : Int32) (x8 : Int32) (k_ways : Nat → Int32) (h_lamps : Int32) (K140 : Int32 → Prop) : Nat → Int32 → Int32 → Prop
  | 0, _, _ => False
  | n + 1, x9, x10 => ((h_lamps ≤ x10 → K140 x9) ∧ (¬ h_lamps ≤ x10 → (∀ x11_101 : Int32, x11_101 = x2 &&& (jshl (1 : Int32) x10) → (jn (fun (K134 : Int32 → Prop) => ((x11_101 = (0 : Int32) → K134 x9) ∧ (¬ x11_101 = (0 : Int32) → ((x11_101 = x5 → K134 x9) ∧ (¬ x11_101 = x5 → (vp_in (x2 &&& (x11_101 ^^^ (-1 : Int32))) 64 ∧ (∀ x9_132 : Int32, x9_132 = x9 + (x8 * (k_ways (ix (x2 &&& (x11_101 ^^^ (-1 : Int32)))))) → K134 x9_132))))))) (fun (x9_134 : Int32) => wp_X2_waysFrom_L83 x2 x5 x8 k_ways h_lamps K140 n x9_134 (x10 + (1 : Int32)))))))
def wp_X2_waysFrom (p0 : Int32) (p1 : Int32) (p2 : Int32) (p3 : Int32) (p4 : Int32) (k_ways : Nat → Int32) (h_lamps : Int32) (h_leavers : Nat → Int32) (post : Int32 → Prop) : Prop := (jn (fun (K12 : Int32 → Prop) => (((p1 &&& p4) = (0 : Int32) → K12 (0 : Int32)) ∧ (¬ (p1 &&& p4) = (0 : Int32) → K12 (1 : Int32)))) (fun (y12 : Int32) => ((p2 = (0 : Int32) → ((y12 = (0 : Int32) → post (1 : Int32)) ∧ (¬ y12 = (0 : Int32) → post (0 : Int32)))) ∧ (¬ p2 = (0 : Int32) → (jn (fun (K43 : Int32 → Prop) => ((y12 = (0 : Int32) → K43 (p2 - (1 : Int32))) ∧ (¬ y12 = (0 : Int32) → K43 (p2 - (2 : Int32))))) (fun (y43 : Int32) => (vp_in p1 128 ∧ (wp_J6_bitCount_0f7a4 (((h_leavers (ix p1)) &&& p0) &&& (p3 ^^^ (-1 : Int32))) (fun (r62 : Int32) => (∀ x8_75 : Int32, x8_75 = jmax (0 : Int32) (r62 - (jmax (0 : Int32) y43)) → (jn (fun (K140 : Int32 → Prop) => (∃ n83 : Nat, wp_X2_waysFrom_L83 p1 p4 x8_75 k_ways h_lamps K140 n83 (0 : Int32) (0 : Int32))) (fun (x9_140 : Int32) => ((y12 = (0 : Int32) → post x9_140) ∧ (¬ y12 = (0 : Int32) → (vp_in p1 128 ∧ ((((h_leavers (ix p1)) &&& p3) = (0 : Int32) → post x9_140) ∧ (¬ ((h_leavers (ix p1)) &&& p3) = (0 : Int32) → (vp_in (p1 &&& (p4 ^^^ (-1 : Int32))) 64 ∧ (∀ x9_174 : Int32, x9_174 = x9_140 + (k_ways (ix (p1 &&& (p4 ^^^ (-1 : Int32))))) → post x9_174)))))))))))))))))))
abbrev rm_X2_waysFrom : Room := { frames := 1, cells := 0, slots := 0, locals := 21 }
set_option maxRecDepth 100000 in
set_option maxHeartbeats 4000000 in
theorem ct_X2_waysFrom (D : va_G) (cI cZ : ClassId) (a_K a_H a_K_longest a_K_ways a_K_griefs a_K_wins a_H_lampCell a_H_lampReach a_H_shine a_H_personCell a_H_wish a_H_side a_H_light a_H_leavers : Nat) (k_tablesKnown : Int32) (k_chosenPerson : Int32) (k_chosenLamp : Int32) (k_ways : Nat → Int32) (h_wide : Int32) (h_high : Int32) (h_walls : Int32) (h_doors : Int32) (h_law : Int32) (h_lamps : Int32) (h_people : Int32) (h_leavers : Nat → Int32) (p0 : Int32) (p1 : Int32) (p2 : Int32) (p3 : Int32) (p4 : Int32) {post : Int32 → Prop} (h : wp_X2_waysFrom p0 p1 p2 p3 p4 k_ways h_lamps h_leavers post) (l : Launch) (sz : Nat) : Met l yX2_waysFrom (wsM yX2_waysFrom cX2_waysFrom 12 (some .int)) rm_X2_waysFrom (va_Pc [.ref a_K, .int p0, .int p1, .int p2, .int p3, .int p4] (gP D cI cZ [(a_K, .inr (2, [.ref a_H, .ref a_K_longest, .ref a_K_ways, .ref a_K_griefs, .ref a_K_wins, .int k_tablesKnown, .int k_chosenPerson, .int k_chosenLamp])), (a_K_ways, .inl (cI, 64, .inl k_ways)), (a_H, .inr (0, [.int h_wide, .int h_high, .int h_walls, .int h_doors, .int h_law, .int h_lamps, .int h_people, .ref a_H_lampCell, .ref a_H_lampReach, .ref a_H_shine, .ref a_H_personCell, .ref a_H_wish, .ref a_H_side, .ref a_H_light, .ref a_H_leavers])), (a_H_leavers, .inl (cI, 128, .inl h_leavers))] sz)) (gR post) 0 0 (fun _ => False) := by
  refine q_startR (own := RX2) (by decide +kernel) rfl (Nat.le_of_ble_eq_true rfl) (fun E F Z => ?_)
  show Wg E [(a_K, .inr (2, [.ref a_H, .ref a_K_longest, .ref a_K_ways, .ref a_K_griefs, .ref a_K_wins, .int k_tablesKnown, .int k_chosenPerson, .int k_chosenLamp])), (a_K_ways, .inl (cI, 64, .inl k_ways)), (a_H, .inr (0, [.int h_wide, .int h_high, .int h_walls, .int h_doors, .int h_law, .int h_lamps, .int h_people, .ref a_H_lampCell, .ref a_H_lampReach, .ref a_H_shine, .ref a_H_personCell, .ref a_H_wish, .ref a_H_side, .ref a_H_light, .ref a_H_leavers])), (a_H_leavers, .inl (cI, 128, .inl h_leavers))] 0 0 0 [(0, .ref a_K), (1, .int p0), (2, .int p1), (3, .int p2), (4, .int p3), (5, .int p4)] []
  unfold wp_X2_waysFrom at h
  refine q_iload_n (pc := 0) F 2 dX2_waysFrom_0 rfl ?_
  refine q_iload (pc := 1) F 5 dX2_waysFrom_1 rfl ?_
  refine q_iand (pc := 3) F dX2_waysFrom_3 ?_
  refine jnW h (fun K => ∀ (y12 : Int32), K y12 → Wg E [(a_K, .inr (2, [.ref a_H, .ref a_K_longest, .ref a_K_ways, .ref a_K_griefs, .ref a_K_wins, .int k_tablesKnown, .int k_chosenPerson, .int k_chosenLamp])), (a_K_ways, .inl (cI, 64, .inl k_ways)), (a_H, .inr (0, [.int h_wide, .int h_high, .int h_walls, .int h_doors, .int h_law, .int h_lamps, .int h_people, .ref a_H_lampCell, .ref a_H_lampReach, .ref a_H_shine, .ref a_H_personCell, .ref a_H_wish, .ref a_H_side, .ref a_H_light, .ref a_H_leavers])), (a_H_leavers, .inl (cI, 128, .inl h_leavers))] 0 0 12 [(0, .ref a_K), (1, .int p0), (2, .int p1), (3, .int p2), (4, .int p3), (5, .int p4)] [.int y12]) ?_ ?_
  · intro y12 h
    refine q_istore (pc := 12) F (lv' := [(6, .int y12), (0, .ref a_K), (1, .int p0), (2, .int p1), (3, .int p2), (4, .int p3), (5, .int p4)]) dX2_waysFrom_12 (by decide) rfl ?_
    refine q_iload_n (pc := 14) F 4 dX2_waysFrom_14 rfl ?_
    refine q_if_ne (pc := 15) (tgt := 29) F dX2_waysFrom_15 (by decide) (fun c15 => ?_) (fun c15 => ?_)
    · have h := h.2 c15
      refine q_iload (pc := 29) F 0 dX2_waysFrom_29 rfl ?_
      refine jnW h (fun K => ∀ (y43 : Int32), K y43 → Wg E [(a_K, .inr (2, [.ref a_H, .ref a_K_longest, .ref a_K_ways, .ref a_K_griefs, .ref a_K_wins, .int k_tablesKnown, .int k_chosenPerson, .int k_chosenLamp])), (a_K_ways, .inl (cI, 64, .inl k_ways)), (a_H, .inr (0, [.int h_wide, .int h_high, .int h_walls, .int h_doors, .int h_law, .int h_lamps, .int h_people, .ref a_H_lampCell, .ref a_H_lampReach, .ref a_H_shine, .ref a_H_personCell, .ref a_H_wish, .ref a_H_side, .ref a_H_light, .ref a_H_leavers])), (a_H_leavers, .inl (cI, 128, .inl h_leavers))] 0 0 43 [(0, .ref a_K), (1, .int p0), (2, .int p1), (4, .int p3), (5, .int p4), (6, .int y12)] [.int y43]) ?_ ?_
      · intro y43 h
        refine q_istore (pc := 43) F (lv' := [(7, .int y43), (0, .ref a_K), (1, .int p0), (2, .int p1), (4, .int p3), (5, .int p4), (6, .int y12)]) dX2_waysFrom_43 (by decide) rfl ?_
        refine q_iconst (pc := 45) F (v := 0) dX2_waysFrom_45 (by decide) ?_
        refine q_aload_n (pc := 46) F 1 dX2_waysFrom_46 rfl ?_
        refine q_get (pc := 47) F fgX2_24 0 rfl rfl dX2_waysFrom_47 ?_
        refine q_get (pc := 50) F fgX2_51 2 rfl rfl dX2_waysFrom_50 ?_
        refine q_iload_n (pc := 53) F 3 dX2_waysFrom_53 rfl ?_
        obtain ⟨hi54, h⟩ := h
        refine q_iald (pc := 54) F 3 rfl hi54 dX2_waysFrom_54 ?_
        refine q_iload_n (pc := 55) F 2 dX2_waysFrom_55 rfl ?_
        refine q_iand (pc := 56) F dX2_waysFrom_56 ?_
        refine q_iload (pc := 57) F 4 dX2_waysFrom_57 rfl ?_
        refine q_iconst (pc := 59) F (v := -1) dX2_waysFrom_59 (by decide) ?_
        refine q_ixor (pc := 60) F dX2_waysFrom_60 ?_
        refine q_iand (pc := 61) F dX2_waysFrom_61 ?_
        refine q_cR (q_runS (As := [.int (((h_leavers (ix p1)) &&& p0) &&& (p3 ^^^ (-1 : Int32)))]) (rest := [.int (0 : Int32)]) (pc := 62) F (fun l sz => ct_J6_bitCount_0f7a4 D cI cZ (((h_leavers (ix p1)) &&& p0) &&& (p3 ^^^ (-1 : Int32))) h l sz) mc_yJ6_bitCount_0f7a4 sm_yJ6_bitCount_0f7a4 mlX2_54 ⟨by decide, by decide⟩ ⟨by decide, by decide⟩ ⟨rfl, rfl⟩ [] rfl rfl rfl rfl (Nat.le_of_ble_eq_true rfl) dX2_waysFrom_62) (fun r62 h => ?_)
        refine q_iconst (pc := 65) F (v := 0) dX2_waysFrom_65 (by decide) ?_
        refine q_iload (pc := 66) F 0 dX2_waysFrom_66 rfl ?_
        refine q_mmax (pc := 68) F mlX2_46 sm_Lib_Math_max_name in_J9 cd_Lib_Math_max_name (by decide) (Nat.le_of_ble_eq_true rfl) (by decide) (by decide) dX2_waysFrom_68 ?_
        refine q_isub (pc := 71) F dX2_waysFrom_71 ?_
        refine q_mmax (pc := 72) F mlX2_46 sm_Lib_Math_max_name in_J9 cd_Lib_Math_max_name (by decide) (Nat.le_of_ble_eq_true rfl) (by decide) (by decide) dX2_waysFrom_72 ?_
        refine q_topi (fun x8_75 ex8_75 => ?_)
        have h := h x8_75 ex8_75
        refine q_istore (pc := 75) F (lv' := [(8, .int x8_75), (7, .int y43), (0, .ref a_K), (1, .int p0), (2, .int p1), (4, .int p3), (5, .int p4), (6, .int y12)]) dX2_waysFrom_75 (by decide) rfl ?_
        refine q_iconst (pc := 77) F (v := 0) dX2_waysFrom_77 (by decide) ?_
        refine q_istore (pc := 78) F (lv' := [(9, .int (0 : Int32)), (8, .int x8_75), (7, .int y43), (0, .ref a_K), (1, .int p0), (2, .int p1), (4, .int p3), (5, .int p4), (6, .int y12)]) dX2_waysFrom_78 (by decide) rfl ?_
        refine q_iconst (pc := 80) F (v := 0) dX2_waysFrom_80 (by decide) ?_
        refine q_istore (pc := 81) F (lv' := [(10, .int (0 : Int32)), (9, .int (0 : Int32)), (8, .int x8_75), (7, .int y43), (0, .ref a_K), (1, .int p0), (2, .int p1), (4, .int p3), (5, .int p4), (6, .int y12)]) dX2_waysFrom_81 (by decide) rfl ?_
        refine jnW h (fun K => ∀ (x9_140 : Int32), K x9_140 → Wg E [(a_K, .inr (2, [.ref a_H, .ref a_K_longest, .ref a_K_ways, .ref a_K_griefs, .ref a_K_wins, .int k_tablesKnown, .int k_chosenPerson, .int k_chosenLamp])), (a_K_ways, .inl (cI, 64, .inl k_ways)), (a_H, .inr (0, [.int h_wide, .int h_high, .int h_walls, .int h_doors, .int h_law, .int h_lamps, .int h_people, .ref a_H_lampCell, .ref a_H_lampReach, .ref a_H_shine, .ref a_H_personCell, .ref a_H_wish, .ref a_H_side, .ref a_H_light, .ref a_H_leavers])), (a_H_leavers, .inl (cI, 128, .inl h_leavers))] 0 0 140 [(0, .ref a_K), (2, .int p1), (4, .int p3), (5, .int p4), (6, .int y12), (9, .int x9_140)] []) ?_ ?_
        · intro x9_140 h
          refine q_iload (pc := 140) F 4 dX2_waysFrom_140 rfl ?_
          refine q_if_eq (pc := 142) (tgt := 176) F dX2_waysFrom_142 (by decide) (fun c142 => ?_) (fun c142 => ?_)
          · have h := h.1 c142
            refine q_iload (pc := 176) F 5 dX2_waysFrom_176 rfl ?_
            exact q_iretR (pc := 178) F Z dX2_waysFrom_178 h
          · have h := h.2 c142
            refine q_aload_n (pc := 145) F 0 dX2_waysFrom_145 rfl ?_
            refine q_get (pc := 146) F fgX2_24 0 rfl rfl dX2_waysFrom_146 ?_
            refine q_get (pc := 149) F fgX2_51 2 rfl rfl dX2_waysFrom_149 ?_
            refine q_iload_n (pc := 152) F 1 dX2_waysFrom_152 rfl ?_
            obtain ⟨hi153, h⟩ := h
            refine q_iald (pc := 153) F 3 rfl hi153 dX2_waysFrom_153 ?_
            refine q_iload (pc := 154) F 2 dX2_waysFrom_154 rfl ?_
            refine q_iand (pc := 156) F dX2_waysFrom_156 ?_
            refine q_if_eq (pc := 157) (tgt := 176) F dX2_waysFrom_157 (by decide) (fun c157 => ?_) (fun c157 => ?_)
            · have h := h.1 c157
              refine q_iload (pc := 176) F 5 dX2_waysFrom_176 rfl ?_
              exact q_iretR (pc := 178) F Z dX2_waysFrom_178 h
            · have h := h.2 c157
              refine q_iload (pc := 160) F 5 dX2_waysFrom_160 rfl ?_
              refine q_aload_n (pc := 162) F 0 dX2_waysFrom_162 rfl ?_
              refine q_get (pc := 163) F fgX2_15 0 rfl rfl dX2_waysFrom_163 ?_
              refine q_iload_n (pc := 166) F 1 dX2_waysFrom_166 rfl ?_
              refine q_iload (pc := 167) F 3 dX2_waysFrom_167 rfl ?_
              refine q_iconst (pc := 169) F (v := -1) dX2_waysFrom_169 (by decide) ?_
              refine q_ixor (pc := 170) F dX2_waysFrom_170 ?_
              refine q_iand (pc := 171) F dX2_waysFrom_171 ?_
              obtain ⟨hi172, h⟩ := h
              refine q_iald (pc := 172) F 1 rfl hi172 dX2_waysFrom_172 ?_
              refine q_iadd (pc := 173) F dX2_waysFrom_173 ?_
              refine q_topi (fun x9_174 ex9_174 => ?_)
              have h := h x9_174 ex9_174
              refine q_istore (pc := 174) F (lv' := [(9, .int x9_174), (0, .ref a_K), (2, .int p1), (4, .int p3), (5, .int p4), (6, .int y12)]) dX2_waysFrom_174 (by decide) rfl ?_
              refine q_iload (pc := 176) F 0 dX2_waysFrom_176 rfl ?_
              exact q_iretR (pc := 178) F Z dX2_waysFrom_178 h
        · intro K140 J140 h
          obtain ⟨n83, h⟩ := h
          have lp83 : ∀ (n : Nat) (x9_h83 : Int32) (x10_h83 : Int32), wp_X2_waysFrom_L83 p1 p4 x8_75 k_ways h_lamps K140 n x9_h83 x10_h83 → Wg E [(a_K, .inr (2, [.ref a_H, .ref a_K_longest, .ref a_K_ways, .ref a_K_griefs, .ref a_K_wins, .int k_tablesKnown, .int k_chosenPerson, .int k_chosenLamp])), (a_K_ways, .inl (cI, 64, .inl k_ways)), (a_H, .inr (0, [.int h_wide, .int h_high, .int h_walls, .int h_doors, .int h_law, .int h_lamps, .int h_people, .ref a_H_lampCell, .ref a_H_lampReach, .ref a_H_shine, .ref a_H_personCell, .ref a_H_wish, .ref a_H_side, .ref a_H_light, .ref a_H_leavers])), (a_H_leavers, .inl (cI, 128, .inl h_leavers))] 0 0 83 [(0, .ref a_K), (2, .int p1), (4, .int p3), (5, .int p4), (6, .int y12), (8, .int x8_75), (9, .int x9_h83), (10, .int x10_h83)] [] := by
            intro n
            induction n with
            | zero => intro x9_h83 x10_h83 h; exact h.elim
            | succ n ih =>
              intro x9_h83 x10_h83 h
              unfold wp_X2_waysFrom_L83 at h
              refine q_iload (pc := 83) F 7 dX2_waysFrom_83 rfl ?_
              refine q_aload_n (pc := 85) F 0 dX2_waysFrom_85 rfl ?_
              refine q_get (pc := 86) F fgX2_24 0 rfl rfl dX2_waysFrom_86 ?_
              refine q_get (pc := 89) F fgX2_32 2 rfl rfl dX2_waysFrom_89 ?_
              refine q_icmp_ge (pc := 92) (tgt := 140) F dX2_waysFrom_92 (by decide) (fun c92 => ?_) (fun c92 => ?_)
              · have h := h.1 c92
                refine q_lv (lv' := [(0, .ref a_K), (2, .int p1), (4, .int p3), (5, .int p4), (6, .int y12), (9, .int x9_h83)]) [0, 1, 2, 3, 4, 6] rfl ?_
                exact J140 x9_h83 h
              · have h := h.2 c92
                refine q_iload_n (pc := 95) F 1 dX2_waysFrom_95 rfl ?_
                refine q_iconst (pc := 96) F (v := 1) dX2_waysFrom_96 (by decide) ?_
                refine q_iload (pc := 97) F 7 dX2_waysFrom_97 rfl ?_
                refine q_ishl (pc := 99) F dX2_waysFrom_99 ?_
                refine q_iand (pc := 100) F dX2_waysFrom_100 ?_
                refine q_topi (fun x11_101 ex11_101 => ?_)
                have h := h x11_101 ex11_101
                refine q_istore (pc := 101) F (lv' := [(11, .int x11_101), (0, .ref a_K), (2, .int p1), (4, .int p3), (5, .int p4), (6, .int y12), (8, .int x8_75), (9, .int x9_h83), (10, .int x10_h83)]) dX2_waysFrom_101 (by decide) rfl ?_
                refine q_iload (pc := 103) F 0 dX2_waysFrom_103 rfl ?_
                refine jnW h (fun K => ∀ (x9_134 : Int32), K x9_134 → Wg E [(a_K, .inr (2, [.ref a_H, .ref a_K_longest, .ref a_K_ways, .ref a_K_griefs, .ref a_K_wins, .int k_tablesKnown, .int k_chosenPerson, .int k_chosenLamp])), (a_K_ways, .inl (cI, 64, .inl k_ways)), (a_H, .inr (0, [.int h_wide, .int h_high, .int h_walls, .int h_doors, .int h_law, .int h_lamps, .int h_people, .ref a_H_lampCell, .ref a_H_lampReach, .ref a_H_shine, .ref a_H_personCell, .ref a_H_wish, .ref a_H_side, .ref a_H_light, .ref a_H_leavers])), (a_H_leavers, .inl (cI, 128, .inl h_leavers))] 0 0 134 [(0, .ref a_K), (2, .int p1), (4, .int p3), (5, .int p4), (6, .int y12), (8, .int x8_75), (9, .int x9_134), (10, .int x10_h83)] []) ?_ ?_
                · intro x9_134 h
                  refine q_iinc (pc := 134) F (v := x10_h83 + (1 : Int32)) (lv' := [(10, .int (x10_h83 + (1 : Int32))), (0, .ref a_K), (2, .int p1), (4, .int p3), (5, .int p4), (6, .int y12), (8, .int x8_75), (9, .int x9_134)]) 7 dX2_waysFrom_134 rfl rfl (by decide) rfl ?_
                  refine q_goto (pc := 137) (tgt := 83) F dX2_waysFrom_137 (by decide) ?_
                  refine q_lv (lv' := [(0, .ref a_K), (2, .int p1), (4, .int p3), (5, .int p4), (6, .int y12), (8, .int x8_75), (9, .int x9_134), (10, .int (x10_h83 + (1 : Int32)))]) [1, 2, 3, 4, 5, 6, 7, 0] rfl ?_
                  exact ih x9_134 (x10_h83 + (1 : Int32)) h
                · intro K134 J134 h
                  refine q_if_eq (pc := 105) (tgt := 134) F dX2_waysFrom_105 (by decide) (fun c105 => ?_) (fun c105 => ?_)
                  · have h := h.1 c105
                    refine q_lv (lv' := [(0, .ref a_K), (2, .int p1), (4, .int p3), (5, .int p4), (6, .int y12), (8, .int x8_75), (9, .int x9_h83), (10, .int x10_h83)]) [1, 2, 3, 4, 5, 6, 7, 8] rfl ?_
                    exact J134 x9_h83 h
                  · have h := h.2 c105
                    refine q_iload (pc := 108) F 0 dX2_waysFrom_108 rfl ?_
                    refine q_iload (pc := 110) F 4 dX2_waysFrom_110 rfl ?_
                    refine q_icmp_eq (pc := 112) (tgt := 134) F dX2_waysFrom_112 (by decide) (fun c112 => ?_) (fun c112 => ?_)
                    · have h := h.1 c112
                      refine q_lv (lv' := [(0, .ref a_K), (2, .int p1), (4, .int p3), (5, .int p4), (6, .int y12), (8, .int x8_75), (9, .int x9_h83), (10, .int x10_h83)]) [1, 2, 3, 4, 5, 6, 7, 8] rfl ?_
                      exact J134 x9_h83 h
                    · have h := h.2 c112
                      refine q_iload (pc := 115) F 7 dX2_waysFrom_115 rfl ?_
                      refine q_iload (pc := 117) F 6 dX2_waysFrom_117 rfl ?_
                      refine q_aload_n (pc := 119) F 1 dX2_waysFrom_119 rfl ?_
                      refine q_get (pc := 120) F fgX2_15 0 rfl rfl dX2_waysFrom_120 ?_
                      refine q_iload_n (pc := 123) F 2 dX2_waysFrom_123 rfl ?_
                      refine q_iload (pc := 124) F 0 dX2_waysFrom_124 rfl ?_
                      refine q_iconst (pc := 126) F (v := -1) dX2_waysFrom_126 (by decide) ?_
                      refine q_ixor (pc := 127) F dX2_waysFrom_127 ?_
                      refine q_iand (pc := 128) F dX2_waysFrom_128 ?_
                      obtain ⟨hi129, h⟩ := h
                      refine q_iald (pc := 129) F 1 rfl hi129 dX2_waysFrom_129 ?_
                      refine q_imul (pc := 130) F dX2_waysFrom_130 ?_
                      refine q_iadd (pc := 131) F dX2_waysFrom_131 ?_
                      refine q_topi (fun x9_132 ex9_132 => ?_)
                      have h := h x9_132 ex9_132
                      refine q_istore (pc := 132) F (lv' := [(9, .int x9_132), (11, .int x11_101), (0, .ref a_K), (2, .int p1), (4, .int p3), (5, .int p4), (6, .int y12), (8, .int x8_75), (10, .int x10_h83)]) dX2_waysFrom_132 (by decide) rfl ?_
                      refine q_lv (lv' := [(0, .ref a_K), (2, .int p1), (4, .int p3), (5, .int p4), (6, .int y12), (8, .int x8_75), (9, .int x9_132), (10, .int x10_h83)]) [2, 3, 4, 5, 6, 7, 0, 8] rfl ?_
                      exact J134 x9_132 h
          refine q_lv (lv' := [(0, .ref a_K), (2, .int p1), (4, .int p3), (5, .int p4), (6, .int y12), (8, .int x8_75), (9, .int (0 : Int32)), (10, .int (0 : Int32))]) [4, 6, 7, 8, 9, 2, 1, 0] rfl ?_
          exact lp83 n83 (0 : Int32) (0 : Int32) h
      · intro K43 J43 h
        refine q_if_eq (pc := 31) (tgt := 40) F dX2_waysFrom_31 (by decide) (fun c31 => ?_) (fun c31 => ?_)
        · have h := h.1 c31
          refine q_iload_n (pc := 40) F 4 dX2_waysFrom_40 rfl ?_
          refine q_iconst (pc := 41) F (v := 1) dX2_waysFrom_41 (by decide) ?_
          refine q_isub (pc := 42) F dX2_waysFrom_42 ?_
          refine q_lv (lv' := [(0, .ref a_K), (1, .int p0), (2, .int p1), (4, .int p3), (5, .int p4), (6, .int y12)]) [1, 2, 3, 5, 6, 0] rfl ?_
          exact J43 (p2 - (1 : Int32)) h
        · have h := h.2 c31
          refine q_iload_n (pc := 34) F 4 dX2_waysFrom_34 rfl ?_
          refine q_iconst (pc := 35) F (v := 2) dX2_waysFrom_35 (by decide) ?_
          refine q_isub (pc := 36) F dX2_waysFrom_36 ?_
          refine q_goto (pc := 37) (tgt := 43) F dX2_waysFrom_37 (by decide) ?_
          refine q_lv (lv' := [(0, .ref a_K), (1, .int p0), (2, .int p1), (4, .int p3), (5, .int p4), (6, .int y12)]) [1, 2, 3, 5, 6, 0] rfl ?_
          exact J43 (p2 - (2 : Int32)) h
    · have h := h.1 c15
      refine q_iload (pc := 18) F 0 dX2_waysFrom_18 rfl ?_
      refine q_if_eq (pc := 20) (tgt := 27) F dX2_waysFrom_20 (by decide) (fun c20 => ?_) (fun c20 => ?_)
      · have h := h.1 c20
        refine q_iconst (pc := 27) F (v := 1) dX2_waysFrom_27 (by decide) ?_
        exact q_iretR (pc := 28) F Z dX2_waysFrom_28 h
      · have h := h.2 c20
        refine q_iconst (pc := 23) F (v := 0) dX2_waysFrom_23 (by decide) ?_
        refine q_goto (pc := 24) (tgt := 28) F dX2_waysFrom_24 (by decide) ?_
        exact q_iretR (pc := 28) F Z dX2_waysFrom_28 h
  · intro K12 J12 h
    refine q_if_eq (pc := 4) (tgt := 11) F dX2_waysFrom_4 (by decide) (fun c4 => ?_) (fun c4 => ?_)
    · have h := h.1 c4
      refine q_iconst (pc := 11) F (v := 0) dX2_waysFrom_11 (by decide) ?_
      exact J12 (0 : Int32) h
    · have h := h.2 c4
      refine q_iconst (pc := 7) F (v := 1) dX2_waysFrom_7 (by decide) ?_
      refine q_goto (pc := 8) (tgt := 12) F dX2_waysFrom_8 (by decide) ?_
      exact J12 (1 : Int32) h

def wp_X2_countRows_n_L31 (x1 : Int32) (x2 : Int32) (x3 : Int32) (x4 : Int32) (x6 : Int32) (h_lamps : Int32) (h_leavers : Nat → Int32) (K141 : (Nat → Int32) → Prop) : Nat → Int32 → (Nat → Int32) → Prop
  | 0, _, _ => False
  | n + 1, x7, k_ways => ((x2 < x7 → K141 k_ways) ∧ (¬ x2 < x7 → (wp_J6_bitCount_0f7a4 x2 (fun (r38 : Int32) => (wp_J6_bitCount_0f7a4 x7 (fun (r43 : Int32) => (∀ x8_47 : Int32, x8_47 = r38 - r43 → (jn (fun (K70 : Int32 → Prop) => (jn (fun (K69 : Prop) => (((x7 &&& (x2 ^^^ (-1 : Int32))) = (0 : Int32) → ((x6 < x8_47 → K69) ∧ (¬ x6 < x8_47 → K70 (1 : Int32)))) ∧ (¬ (x7 &&& (x2 ^^^ (-1 : Int32))) = (0 : Int32) → K69))) (K70 (0 : Int32)))) (fun (y70 : Int32) => (jn (fun (K135 : (Nat → Int32) → Prop) => ((y70 = (0 : Int32) → (vp_in x7 64 ∧ K135 (upd k_ways (ix x7) (0 : Int32)))) ∧ (¬ y70 = (0 : Int32) → (wp_X2_waysFrom x1 x7 (x6 - x8_47) x3 x4 k_ways h_lamps h_leavers (fun (r120 : Int32) => (vp_in x7 64 ∧ K135 (upd k_ways (ix x7) r120))))))) (fun (k_ways_135 : Nat → Int32) => wp_X2_countRows_n_L31 x1 x2 x3 x4 x6 h_lamps h_leavers K141 n (x7 + (1 : Int32)) k_ways_135)))))))))))
def wp_X2_countRows_n (p0 : Int32) (p1 : Int32) (p2 : Int32) (p3 : Int32) (k_ways : Nat → Int32) (h_lamps : Int32) (h_leavers : Nat → Int32) (post : Int32 → (Nat → Int32) → Prop) : Prop := (wp_J6_bitCount_0f7a4 p0 (fun (r23 : Int32) => (jn (fun (K141 : (Nat → Int32) → Prop) => (∃ n31 : Nat, wp_X2_countRows_n_L31 p0 p1 p2 p3 r23 h_lamps h_leavers K141 n31 (0 : Int32) k_ways)) (fun (k_ways_141 : Nat → Int32) => (vp_in p1 64 ∧ post (k_ways_141 (ix p1)) k_ways_141)))))
abbrev rm_X2_countRows_n : Room := { frames := 2, cells := 0, slots := 0, locals := 52 }
set_option maxRecDepth 100000 in
set_option maxHeartbeats 4000000 in
theorem ct_X2_countRows_n (D : va_G) (cI cZ : ClassId) (a_K a_H a_K_longest a_K_ways a_K_griefs a_K_wins a_H_lampCell a_H_lampReach a_H_shine a_H_personCell a_H_wish a_H_side a_H_light a_H_leavers : Nat) (k_tablesKnown : Int32) (k_chosenPerson : Int32) (k_chosenLamp : Int32) (k_ways : Nat → Int32) (h_wide : Int32) (h_high : Int32) (h_walls : Int32) (h_doors : Int32) (h_law : Int32) (h_lamps : Int32) (h_people : Int32) (h_leavers : Nat → Int32) (p0 : Int32) (p1 : Int32) (p2 : Int32) (p3 : Int32) {post : Int32 → (Nat → Int32) → Prop} (h : wp_X2_countRows_n p0 p1 p2 p3 k_ways h_lamps h_leavers post) (l : Launch) (sz : Nat) : Met l yX2_countRows (wsM yX2_countRows cX2_countRows 10 (some .int)) rm_X2_countRows_n (va_Pc [.ref a_K, .int p0, .int p1, .int p2, .int p3, .null] (gP D cI cZ [(a_K, .inr (2, [.ref a_H, .ref a_K_longest, .ref a_K_ways, .ref a_K_griefs, .ref a_K_wins, .int k_tablesKnown, .int k_chosenPerson, .int k_chosenLamp])), (a_K_ways, .inl (cI, 64, .inl k_ways)), (a_H, .inr (0, [.int h_wide, .int h_high, .int h_walls, .int h_doors, .int h_law, .int h_lamps, .int h_people, .ref a_H_lampCell, .ref a_H_lampReach, .ref a_H_shine, .ref a_H_personCell, .ref a_H_wish, .ref a_H_side, .ref a_H_light, .ref a_H_leavers])), (a_H_leavers, .inl (cI, 128, .inl h_leavers))] sz)) (gQi D (fun r (u : (Nat → Int32)) => post r u) (fun (u : (Nat → Int32)) => [(a_K, .inr (2, [.ref a_H, .ref a_K_longest, .ref a_K_ways, .ref a_K_griefs, .ref a_K_wins, .int k_tablesKnown, .int k_chosenPerson, .int k_chosenLamp])), (a_K_ways, .inl (cI, 64, .inl u)), (a_H, .inr (0, [.int h_wide, .int h_high, .int h_walls, .int h_doors, .int h_law, .int h_lamps, .int h_people, .ref a_H_lampCell, .ref a_H_lampReach, .ref a_H_shine, .ref a_H_personCell, .ref a_H_wish, .ref a_H_side, .ref a_H_light, .ref a_H_leavers])), (a_H_leavers, .inl (cI, 128, .inl h_leavers))]) [(a_K, .inr (2, [.ref a_H, .ref a_K_longest, .ref a_K_ways, .ref a_K_griefs, .ref a_K_wins, .int k_tablesKnown, .int k_chosenPerson, .int k_chosenLamp])), (a_K_ways, .inl (cI, 64, .inl k_ways)), (a_H, .inr (0, [.int h_wide, .int h_high, .int h_walls, .int h_doors, .int h_law, .int h_lamps, .int h_people, .ref a_H_lampCell, .ref a_H_lampReach, .ref a_H_shine, .ref a_H_personCell, .ref a_H_wish, .ref a_H_side, .ref a_H_light, .ref a_H_leavers])), (a_H_leavers, .inl (cI, 128, .inl h_leavers))] sz) 0 0 (va_A [(a_K, .inr (2, [.ref a_H, .ref a_K_longest, .ref a_K_ways, .ref a_K_griefs, .ref a_K_wins, .int k_tablesKnown, .int k_chosenPerson, .int k_chosenLamp])), (a_K_ways, .inl (cI, 64, .inl k_ways)), (a_H, .inr (0, [.int h_wide, .int h_high, .int h_walls, .int h_doors, .int h_law, .int h_lamps, .int h_people, .ref a_H_lampCell, .ref a_H_lampReach, .ref a_H_shine, .ref a_H_personCell, .ref a_H_wish, .ref a_H_side, .ref a_H_light, .ref a_H_leavers])), (a_H_leavers, .inl (cI, 128, .inl h_leavers))] sz) := by
  refine q_startM (own := RX2) (Qc := gQi D (fun r (u : (Nat → Int32)) => post r u) (fun (u : (Nat → Int32)) => [(a_K, .inr (2, [.ref a_H, .ref a_K_longest, .ref a_K_ways, .ref a_K_griefs, .ref a_K_wins, .int k_tablesKnown, .int k_chosenPerson, .int k_chosenLamp])), (a_K_ways, .inl (cI, 64, .inl u)), (a_H, .inr (0, [.int h_wide, .int h_high, .int h_walls, .int h_doors, .int h_law, .int h_lamps, .int h_people, .ref a_H_lampCell, .ref a_H_lampReach, .ref a_H_shine, .ref a_H_personCell, .ref a_H_wish, .ref a_H_side, .ref a_H_light, .ref a_H_leavers])), (a_H_leavers, .inl (cI, 128, .inl h_leavers))]) [(a_K, .inr (2, [.ref a_H, .ref a_K_longest, .ref a_K_ways, .ref a_K_griefs, .ref a_K_wins, .int k_tablesKnown, .int k_chosenPerson, .int k_chosenLamp])), (a_K_ways, .inl (cI, 64, .inl k_ways)), (a_H, .inr (0, [.int h_wide, .int h_high, .int h_walls, .int h_doors, .int h_law, .int h_lamps, .int h_people, .ref a_H_lampCell, .ref a_H_lampReach, .ref a_H_shine, .ref a_H_personCell, .ref a_H_wish, .ref a_H_side, .ref a_H_light, .ref a_H_leavers])), (a_H_leavers, .inl (cI, 128, .inl h_leavers))]) (by decide +kernel) rfl (Nat.le_of_ble_eq_true rfl) (fun E F Z M => ?_)
  show Wg E [(a_K, .inr (2, [.ref a_H, .ref a_K_longest, .ref a_K_ways, .ref a_K_griefs, .ref a_K_wins, .int k_tablesKnown, .int k_chosenPerson, .int k_chosenLamp])), (a_K_ways, .inl (cI, 64, .inl k_ways)), (a_H, .inr (0, [.int h_wide, .int h_high, .int h_walls, .int h_doors, .int h_law, .int h_lamps, .int h_people, .ref a_H_lampCell, .ref a_H_lampReach, .ref a_H_shine, .ref a_H_personCell, .ref a_H_wish, .ref a_H_side, .ref a_H_light, .ref a_H_leavers])), (a_H_leavers, .inl (cI, 128, .inl h_leavers))] 0 0 0 [(0, .ref a_K), (1, .int p0), (2, .int p1), (3, .int p2), (4, .int p3), (5, .null)] []
  unfold wp_X2_countRows_n at h
  refine q_aloadN (pc := 0) F 5 dX2_countRows_0 rfl ?_
  refine q_ifnullN (pc := 2) (tgt := 22) F dX2_countRows_2 (by decide) ?_
  refine q_iload_n (pc := 22) F 1 dX2_countRows_22 rfl ?_
  refine q_cR (q_runS (As := [.int p0]) (rest := []) (pc := 23) F (fun l sz => ct_J6_bitCount_0f7a4 D cI cZ p0 h l sz) mc_yJ6_bitCount_0f7a4 sm_yJ6_bitCount_0f7a4 mlX2_54 ⟨by decide, by decide⟩ ⟨by decide, by decide⟩ ⟨rfl, rfl⟩ [] rfl rfl rfl rfl (Nat.le_of_ble_eq_true rfl) dX2_countRows_23) (fun r23 h => ?_)
  refine q_istore (pc := 26) F (lv' := [(6, .int r23), (0, .ref a_K), (1, .int p0), (2, .int p1), (3, .int p2), (4, .int p3), (5, .null)]) dX2_countRows_26 (by decide) rfl ?_
  refine q_iconst (pc := 28) F (v := 0) dX2_countRows_28 (by decide) ?_
  refine q_istore (pc := 29) F (lv' := [(7, .int (0 : Int32)), (6, .int r23), (0, .ref a_K), (1, .int p0), (2, .int p1), (3, .int p2), (4, .int p3), (5, .null)]) dX2_countRows_29 (by decide) rfl ?_
  refine jnW h (fun K => ∀ (k_ways_141 : Nat → Int32), K k_ways_141 → Wg E [(a_K, .inr (2, [.ref a_H, .ref a_K_longest, .ref a_K_ways, .ref a_K_griefs, .ref a_K_wins, .int k_tablesKnown, .int k_chosenPerson, .int k_chosenLamp])), (a_K_ways, .inl (cI, 64, .inl k_ways_141)), (a_H, .inr (0, [.int h_wide, .int h_high, .int h_walls, .int h_doors, .int h_law, .int h_lamps, .int h_people, .ref a_H_lampCell, .ref a_H_lampReach, .ref a_H_shine, .ref a_H_personCell, .ref a_H_wish, .ref a_H_side, .ref a_H_light, .ref a_H_leavers])), (a_H_leavers, .inl (cI, 128, .inl h_leavers))] 0 0 141 [(0, .ref a_K), (2, .int p1)] []) ?_ ?_
  · intro k_ways_141 h
    refine q_aload_n (pc := 141) F 0 dX2_countRows_141 rfl ?_
    refine q_get (pc := 142) F fgX2_15 0 rfl rfl dX2_countRows_142 ?_
    refine q_iload_n (pc := 145) F 1 dX2_countRows_145 rfl ?_
    obtain ⟨hi146, h⟩ := h
    refine q_iald (pc := 146) F 1 rfl hi146 dX2_countRows_146 ?_
    exact q_iretM (pc := 147) F Z dX2_countRows_147 k_ways_141 h rfl
  · intro K141 J141 h
    obtain ⟨n31, h⟩ := h
    have lp31 : ∀ (n : Nat) (x7_h31 : Int32) (k_ways_h31 : Nat → Int32), wp_X2_countRows_n_L31 p0 p1 p2 p3 r23 h_lamps h_leavers K141 n x7_h31 k_ways_h31 → Wg E [(a_K, .inr (2, [.ref a_H, .ref a_K_longest, .ref a_K_ways, .ref a_K_griefs, .ref a_K_wins, .int k_tablesKnown, .int k_chosenPerson, .int k_chosenLamp])), (a_K_ways, .inl (cI, 64, .inl k_ways_h31)), (a_H, .inr (0, [.int h_wide, .int h_high, .int h_walls, .int h_doors, .int h_law, .int h_lamps, .int h_people, .ref a_H_lampCell, .ref a_H_lampReach, .ref a_H_shine, .ref a_H_personCell, .ref a_H_wish, .ref a_H_side, .ref a_H_light, .ref a_H_leavers])), (a_H_leavers, .inl (cI, 128, .inl h_leavers))] 0 0 31 [(0, .ref a_K), (1, .int p0), (2, .int p1), (3, .int p2), (4, .int p3), (5, .null), (6, .int r23), (7, .int x7_h31)] [] := by
      intro n
      induction n with
      | zero => intro x7_h31 k_ways_h31 h; exact h.elim
      | succ n ih =>
        intro x7_h31 k_ways_h31 h
        unfold wp_X2_countRows_n_L31 at h
        refine q_iload (pc := 31) F 7 dX2_countRows_31 rfl ?_
        refine q_iload_n (pc := 33) F 2 dX2_countRows_33 rfl ?_
        refine q_icmp_gt (pc := 34) (tgt := 141) F dX2_countRows_34 (by decide) (fun c34 => ?_) (fun c34 => ?_)
        · have h := h.1 c34
          refine q_lv (lv' := [(0, .ref a_K), (2, .int p1)]) [0, 2] rfl ?_
          exact J141 k_ways_h31 h
        · have h := h.2 c34
          refine q_iload_n (pc := 37) F 2 dX2_countRows_37 rfl ?_
          refine q_cR (q_runS (As := [.int p1]) (rest := []) (pc := 38) F (fun l sz => ct_J6_bitCount_0f7a4 D cI cZ p1 h l sz) mc_yJ6_bitCount_0f7a4 sm_yJ6_bitCount_0f7a4 mlX2_54 ⟨by decide, by decide⟩ ⟨by decide, by decide⟩ ⟨rfl, rfl⟩ [] rfl rfl rfl rfl (Nat.le_of_ble_eq_true rfl) dX2_countRows_38) (fun r38 h => ?_)
          refine q_iload (pc := 41) F 7 dX2_countRows_41 rfl ?_
          refine q_cR (q_runS (As := [.int x7_h31]) (rest := [.int r38]) (pc := 43) F (fun l sz => ct_J6_bitCount_0f7a4 D cI cZ x7_h31 h l sz) mc_yJ6_bitCount_0f7a4 sm_yJ6_bitCount_0f7a4 mlX2_54 ⟨by decide, by decide⟩ ⟨by decide, by decide⟩ ⟨rfl, rfl⟩ [] rfl rfl rfl rfl (Nat.le_of_ble_eq_true rfl) dX2_countRows_43) (fun r43 h => ?_)
          refine q_isub (pc := 46) F dX2_countRows_46 ?_
          refine q_topi (fun x8_47 ex8_47 => ?_)
          have h := h x8_47 ex8_47
          refine q_istore (pc := 47) F (lv' := [(8, .int x8_47), (0, .ref a_K), (1, .int p0), (2, .int p1), (3, .int p2), (4, .int p3), (5, .null), (6, .int r23), (7, .int x7_h31)]) dX2_countRows_47 (by decide) rfl ?_
          refine q_iload (pc := 49) F 8 dX2_countRows_49 rfl ?_
          refine q_iload_n (pc := 51) F 3 dX2_countRows_51 rfl ?_
          refine q_iconst (pc := 52) F (v := -1) dX2_countRows_52 (by decide) ?_
          refine q_ixor (pc := 53) F dX2_countRows_53 ?_
          refine q_iand (pc := 54) F dX2_countRows_54 ?_
          refine jnW h (fun K => ∀ (y70 : Int32), K y70 → Wg E [(a_K, .inr (2, [.ref a_H, .ref a_K_longest, .ref a_K_ways, .ref a_K_griefs, .ref a_K_wins, .int k_tablesKnown, .int k_chosenPerson, .int k_chosenLamp])), (a_K_ways, .inl (cI, 64, .inl k_ways_h31)), (a_H, .inr (0, [.int h_wide, .int h_high, .int h_walls, .int h_doors, .int h_law, .int h_lamps, .int h_people, .ref a_H_lampCell, .ref a_H_lampReach, .ref a_H_shine, .ref a_H_personCell, .ref a_H_wish, .ref a_H_side, .ref a_H_light, .ref a_H_leavers])), (a_H_leavers, .inl (cI, 128, .inl h_leavers))] 0 0 70 [(0, .ref a_K), (1, .int p0), (2, .int p1), (3, .int p2), (4, .int p3), (5, .null), (6, .int r23), (7, .int x7_h31), (8, .int x8_47)] [.int y70]) ?_ ?_
          · intro y70 h
            refine q_istore (pc := 70) F (lv' := [(9, .int y70), (0, .ref a_K), (1, .int p0), (2, .int p1), (3, .int p2), (4, .int p3), (5, .null), (6, .int r23), (7, .int x7_h31), (8, .int x8_47)]) dX2_countRows_70 (by decide) rfl ?_
            refine q_iload (pc := 72) F 0 dX2_countRows_72 rfl ?_
            refine jnW h (fun K => ∀ (k_ways_135 : Nat → Int32), K k_ways_135 → Wg E [(a_K, .inr (2, [.ref a_H, .ref a_K_longest, .ref a_K_ways, .ref a_K_griefs, .ref a_K_wins, .int k_tablesKnown, .int k_chosenPerson, .int k_chosenLamp])), (a_K_ways, .inl (cI, 64, .inl k_ways_135)), (a_H, .inr (0, [.int h_wide, .int h_high, .int h_walls, .int h_doors, .int h_law, .int h_lamps, .int h_people, .ref a_H_lampCell, .ref a_H_lampReach, .ref a_H_shine, .ref a_H_personCell, .ref a_H_wish, .ref a_H_side, .ref a_H_light, .ref a_H_leavers])), (a_H_leavers, .inl (cI, 128, .inl h_leavers))] 0 0 135 [(0, .ref a_K), (1, .int p0), (2, .int p1), (3, .int p2), (4, .int p3), (5, .null), (6, .int r23), (7, .int x7_h31)] []) ?_ ?_
            · intro k_ways_135 h
              refine q_iinc (pc := 135) F (v := x7_h31 + (1 : Int32)) (lv' := [(7, .int (x7_h31 + (1 : Int32))), (0, .ref a_K), (1, .int p0), (2, .int p1), (3, .int p2), (4, .int p3), (5, .null), (6, .int r23)]) 7 dX2_countRows_135 rfl rfl (by decide) rfl ?_
              refine q_goto (pc := 138) (tgt := 31) F dX2_countRows_138 (by decide) ?_
              refine q_lv (lv' := [(0, .ref a_K), (1, .int p0), (2, .int p1), (3, .int p2), (4, .int p3), (5, .null), (6, .int r23), (7, .int (x7_h31 + (1 : Int32)))]) [1, 2, 3, 4, 5, 6, 7, 0] rfl ?_
              exact ih (x7_h31 + (1 : Int32)) k_ways_135 h
            · intro K135 J135 h
              refine q_if_eq (pc := 74) (tgt := 127) F dX2_countRows_74 (by decide) (fun c74 => ?_) (fun c74 => ?_)
              · have h := h.1 c74
                refine q_aload_n (pc := 127) F 1 dX2_countRows_127 rfl ?_
                refine q_get (pc := 128) F fgX2_15 0 rfl rfl dX2_countRows_128 ?_
                refine q_iload (pc := 131) F 8 dX2_countRows_131 rfl ?_
                refine q_iconst (pc := 133) F (v := 0) dX2_countRows_133 (by decide) ?_
                obtain ⟨hi134, h⟩ := h
                refine q_iast (pc := 134) F M (cs' := [(a_K, .inr (2, [.ref a_H, .ref a_K_longest, .ref a_K_ways, .ref a_K_griefs, .ref a_K_wins, .int k_tablesKnown, .int k_chosenPerson, .int k_chosenLamp])), (a_K_ways, .inl (cI, 64, .inl (upd k_ways_h31 (ix x7_h31) (0 : Int32)))), (a_H, .inr (0, [.int h_wide, .int h_high, .int h_walls, .int h_doors, .int h_law, .int h_lamps, .int h_people, .ref a_H_lampCell, .ref a_H_lampReach, .ref a_H_shine, .ref a_H_personCell, .ref a_H_wish, .ref a_H_side, .ref a_H_light, .ref a_H_leavers])), (a_H_leavers, .inl (cI, 128, .inl h_leavers))]) 1 rfl hi134 rfl dX2_countRows_134 ?_
                refine q_lv (lv' := [(0, .ref a_K), (1, .int p0), (2, .int p1), (3, .int p2), (4, .int p3), (5, .null), (6, .int r23), (7, .int x7_h31)]) [1, 2, 3, 4, 5, 6, 7, 8] rfl ?_
                exact J135 (upd k_ways_h31 (ix x7_h31) (0 : Int32)) h
              · have h := h.2 c74
                refine q_aloadN (pc := 77) F 6 dX2_countRows_77 rfl ?_
                refine q_ifnullN (pc := 79) (tgt := 102) F dX2_countRows_79 (by decide) ?_
                refine q_aload_n (pc := 102) F 1 dX2_countRows_102 rfl ?_
                refine q_get (pc := 103) F fgX2_15 0 rfl rfl dX2_countRows_103 ?_
                refine q_iload (pc := 106) F 8 dX2_countRows_106 rfl ?_
                refine q_aload_n (pc := 108) F 1 dX2_countRows_108 rfl ?_
                refine q_iload_n (pc := 109) F 2 dX2_countRows_109 rfl ?_
                refine q_iload (pc := 110) F 8 dX2_countRows_110 rfl ?_
                refine q_iload (pc := 112) F 7 dX2_countRows_112 rfl ?_
                refine q_iload (pc := 114) F 9 dX2_countRows_114 rfl ?_
                refine q_isub (pc := 116) F dX2_countRows_116 ?_
                refine q_iload_n (pc := 117) F 4 dX2_countRows_117 rfl ?_
                refine q_iload (pc := 118) F 5 dX2_countRows_118 rfl ?_
                refine q_cR (q_runV (As := [.int p0, .int x7_h31, .int (r23 - x8_47), .int p2, .int p3]) (rest := [.int x7_h31, .ref a_K_ways]) (pc := 120) F (fun l sz => ct_X2_waysFrom D cI cZ a_K a_H a_K_longest a_K_ways a_K_griefs a_K_wins a_H_lampCell a_H_lampReach a_H_shine a_H_personCell a_H_wish a_H_side a_H_light a_H_leavers k_tablesKnown k_chosenPerson k_chosenLamp k_ways_h31 h_wide h_high h_walls h_doors h_law h_lamps h_people h_leavers p0 x7_h31 (r23 - x8_47) p2 p3 h l sz) mc_yX2_waysFrom im_yX2_waysFrom se_yX2_waysFrom mlX2_92 ⟨by decide, by decide⟩ ⟨by decide, by decide⟩ ⟨rfl, rfl⟩ [0, 1, 2, 3] rfl rfl rfl 0 rfl rfl rfl (Nat.le_of_ble_eq_true rfl) dX2_countRows_120) (fun r120 h => ?_)
                obtain ⟨hi123, h⟩ := h
                refine q_iast (pc := 123) F M (cs' := [(a_K, .inr (2, [.ref a_H, .ref a_K_longest, .ref a_K_ways, .ref a_K_griefs, .ref a_K_wins, .int k_tablesKnown, .int k_chosenPerson, .int k_chosenLamp])), (a_K_ways, .inl (cI, 64, .inl (upd k_ways_h31 (ix x7_h31) r120))), (a_H, .inr (0, [.int h_wide, .int h_high, .int h_walls, .int h_doors, .int h_law, .int h_lamps, .int h_people, .ref a_H_lampCell, .ref a_H_lampReach, .ref a_H_shine, .ref a_H_personCell, .ref a_H_wish, .ref a_H_side, .ref a_H_light, .ref a_H_leavers])), (a_H_leavers, .inl (cI, 128, .inl h_leavers))]) 1 rfl hi123 rfl dX2_countRows_123 ?_
                refine q_goto (pc := 124) (tgt := 135) F dX2_countRows_124 (by decide) ?_
                refine q_lv (lv' := [(0, .ref a_K), (1, .int p0), (2, .int p1), (3, .int p2), (4, .int p3), (5, .null), (6, .int r23), (7, .int x7_h31)]) [1, 2, 3, 4, 5, 6, 7, 8] rfl ?_
                exact J135 (upd k_ways_h31 (ix x7_h31) r120) h
          · intro K70 J70 h
            refine jnW h (fun K => K → Wg E [(a_K, .inr (2, [.ref a_H, .ref a_K_longest, .ref a_K_ways, .ref a_K_griefs, .ref a_K_wins, .int k_tablesKnown, .int k_chosenPerson, .int k_chosenLamp])), (a_K_ways, .inl (cI, 64, .inl k_ways_h31)), (a_H, .inr (0, [.int h_wide, .int h_high, .int h_walls, .int h_doors, .int h_law, .int h_lamps, .int h_people, .ref a_H_lampCell, .ref a_H_lampReach, .ref a_H_shine, .ref a_H_personCell, .ref a_H_wish, .ref a_H_side, .ref a_H_light, .ref a_H_leavers])), (a_H_leavers, .inl (cI, 128, .inl h_leavers))] 0 0 69 [(0, .ref a_K), (1, .int p0), (2, .int p1), (3, .int p2), (4, .int p3), (5, .null), (6, .int r23), (7, .int x7_h31), (8, .int x8_47)] []) ?_ ?_
            · intro h
              refine q_iconst (pc := 69) F (v := 0) dX2_countRows_69 (by decide) ?_
              exact J70 (0 : Int32) h
            · intro K69 J69 h
              refine q_if_ne (pc := 55) (tgt := 69) F dX2_countRows_55 (by decide) (fun c55 => ?_) (fun c55 => ?_)
              · have h := h.2 c55
                refine q_lv (lv' := [(0, .ref a_K), (1, .int p0), (2, .int p1), (3, .int p2), (4, .int p3), (5, .null), (6, .int r23), (7, .int x7_h31), (8, .int x8_47)]) [1, 2, 3, 4, 5, 6, 7, 8, 0] rfl ?_
                exact J69 h
              · have h := h.1 c55
                refine q_iload (pc := 58) F 0 dX2_countRows_58 rfl ?_
                refine q_iload (pc := 60) F 7 dX2_countRows_60 rfl ?_
                refine q_icmp_gt (pc := 62) (tgt := 69) F dX2_countRows_62 (by decide) (fun c62 => ?_) (fun c62 => ?_)
                · have h := h.1 c62
                  refine q_lv (lv' := [(0, .ref a_K), (1, .int p0), (2, .int p1), (3, .int p2), (4, .int p3), (5, .null), (6, .int r23), (7, .int x7_h31), (8, .int x8_47)]) [1, 2, 3, 4, 5, 6, 7, 8, 0] rfl ?_
                  exact J69 h
                · have h := h.2 c62
                  refine q_iconst (pc := 65) F (v := 1) dX2_countRows_65 (by decide) ?_
                  refine q_goto (pc := 66) (tgt := 70) F dX2_countRows_66 (by decide) ?_
                  refine q_lv (lv' := [(0, .ref a_K), (1, .int p0), (2, .int p1), (3, .int p2), (4, .int p3), (5, .null), (6, .int r23), (7, .int x7_h31), (8, .int x8_47)]) [1, 2, 3, 4, 5, 6, 7, 8, 0] rfl ?_
                  exact J70 (1 : Int32) h
    refine q_lv (lv' := [(0, .ref a_K), (1, .int p0), (2, .int p1), (3, .int p2), (4, .int p3), (5, .null), (6, .int r23), (7, .int (0 : Int32))]) [2, 3, 4, 5, 6, 7, 1, 0] rfl ?_
    exact lp31 n31 (0 : Int32) k_ways h

def wp_X2_countRows_s_L31 (x1 : Int32) (x2 : Int32) (x3 : Int32) (x4 : Int32) (x6 : Int32) (n_seen : Int32) (n_seenAfter : Nat → Int32) (n_seenCell : Nat → Int32) (n_seenLight : Nat → Int32) (h_lamps : Int32) (h_light : Nat → Int32) (h_leavers : Nat → Int32) (K141 : (Nat → Int32) → Prop) : Nat → Int32 → (Nat → Int32) → Prop
  | 0, _, _ => False
  | n + 1, x7, k_ways => ((x2 < x7 → K141 k_ways) ∧ (¬ x2 < x7 → (wp_J6_bitCount_0f7a4 x2 (fun (r38 : Int32) => (wp_J6_bitCount_0f7a4 x7 (fun (r43 : Int32) => (∀ x8_47 : Int32, x8_47 = r38 - r43 → (jn (fun (K70 : Int32 → Prop) => (jn (fun (K69 : Prop) => (((x7 &&& (x2 ^^^ (-1 : Int32))) = (0 : Int32) → ((x6 < x8_47 → K69) ∧ (¬ x6 < x8_47 → K70 (1 : Int32)))) ∧ (¬ (x7 &&& (x2 ^^^ (-1 : Int32))) = (0 : Int32) → K69))) (K70 (0 : Int32)))) (fun (y70 : Int32) => (jn (fun (K135 : (Nat → Int32) → Prop) => (jn (fun (K127 : Prop) => ((y70 = (0 : Int32) → K127) ∧ (¬ y70 = (0 : Int32) → (vp_in x7 128 ∧ (wp_X1_agrees x8_47 (h_light (ix x7)) n_seen n_seenAfter n_seenCell n_seenLight (fun (r96 : Int32) => ((r96 = (0 : Int32) → K127) ∧ (¬ r96 = (0 : Int32) → (wp_X2_waysFrom x1 x7 (x6 - x8_47) x3 x4 k_ways h_lamps h_leavers (fun (r120 : Int32) => (vp_in x7 64 ∧ K135 (upd k_ways (ix x7) r120)))))))))))) ((vp_in x7 64 ∧ K135 (upd k_ways (ix x7) (0 : Int32)))))) (fun (k_ways_135 : Nat → Int32) => wp_X2_countRows_s_L31 x1 x2 x3 x4 x6 n_seen n_seenAfter n_seenCell n_seenLight h_lamps h_light h_leavers K141 n (x7 + (1 : Int32)) k_ways_135)))))))))))
def wp_X2_countRows_s (p0 : Int32) (p1 : Int32) (p2 : Int32) (p3 : Int32) (n_seen : Int32) (n_seenAfter : Nat → Int32) (n_seenCell : Nat → Int32) (n_seenLight : Nat → Int32) (k_ways : Nat → Int32) (h_lamps : Int32) (h_people : Int32) (h_light : Nat → Int32) (h_leavers : Nat → Int32) (post : Int32 → (Nat → Int32) → Prop) : Prop := (wp_X1_sawLaterThan h_people n_seen n_seenAfter (fun (r14 : Int32) => ((r14 = (0 : Int32) → (wp_J6_bitCount_0f7a4 p0 (fun (r23 : Int32) => (jn (fun (K141 : (Nat → Int32) → Prop) => (∃ n31 : Nat, wp_X2_countRows_s_L31 p0 p1 p2 p3 r23 n_seen n_seenAfter n_seenCell n_seenLight h_lamps h_light h_leavers K141 n31 (0 : Int32) k_ways)) (fun (k_ways_141 : Nat → Int32) => (vp_in p1 64 ∧ post (k_ways_141 (ix p1)) k_ways_141)))))) ∧ (¬ r14 = (0 : Int32) → post (0 : Int32) k_ways))))
abbrev rm_X2_countRows_s : Room := { frames := 2, cells := 0, slots := 0, locals := 52 }
set_option maxRecDepth 100000 in
set_option maxHeartbeats 4000000 in
theorem ct_X2_countRows_s (D : va_G) (cI cZ : ClassId) (a_N a_N_leaver a_N_putOut a_N_seenAfter a_N_seenCell a_N_seenLight a_K a_H a_K_longest a_K_ways a_K_griefs a_K_wins a_H_lampCell a_H_lampReach a_H_shine a_H_personCell a_H_wish a_H_side a_H_light a_H_leavers : Nat) (n_left : Int32) (n_gone : Int32) (n_dark : Int32) (n_seen : Int32) (n_seenAfter : Nat → Int32) (n_seenCell : Nat → Int32) (n_seenLight : Nat → Int32) (k_tablesKnown : Int32) (k_chosenPerson : Int32) (k_chosenLamp : Int32) (k_ways : Nat → Int32) (h_wide : Int32) (h_high : Int32) (h_walls : Int32) (h_doors : Int32) (h_law : Int32) (h_lamps : Int32) (h_people : Int32) (h_light : Nat → Int32) (h_leavers : Nat → Int32) (p0 : Int32) (p1 : Int32) (p2 : Int32) (p3 : Int32) {post : Int32 → (Nat → Int32) → Prop} (h : wp_X2_countRows_s p0 p1 p2 p3 n_seen n_seenAfter n_seenCell n_seenLight k_ways h_lamps h_people h_light h_leavers post) (l : Launch) (sz : Nat) : Met l yX2_countRows (wsM yX2_countRows cX2_countRows 10 (some .int)) rm_X2_countRows_s (va_Pc [.ref a_K, .int p0, .int p1, .int p2, .int p3, .ref a_N] (gP D cI cZ [(a_N, .inr (1, [.int n_left, .int n_gone, .int n_dark, .int n_seen, .ref a_N_leaver, .ref a_N_putOut, .ref a_N_seenAfter, .ref a_N_seenCell, .ref a_N_seenLight])), (a_N_seenAfter, .inl (cI, 8, .inl n_seenAfter)), (a_N_seenCell, .inl (cI, 8, .inl n_seenCell)), (a_N_seenLight, .inl (cI, 8, .inl n_seenLight)), (a_K, .inr (2, [.ref a_H, .ref a_K_longest, .ref a_K_ways, .ref a_K_griefs, .ref a_K_wins, .int k_tablesKnown, .int k_chosenPerson, .int k_chosenLamp])), (a_K_ways, .inl (cI, 64, .inl k_ways)), (a_H, .inr (0, [.int h_wide, .int h_high, .int h_walls, .int h_doors, .int h_law, .int h_lamps, .int h_people, .ref a_H_lampCell, .ref a_H_lampReach, .ref a_H_shine, .ref a_H_personCell, .ref a_H_wish, .ref a_H_side, .ref a_H_light, .ref a_H_leavers])), (a_H_light, .inl (cI, 128, .inl h_light)), (a_H_leavers, .inl (cI, 128, .inl h_leavers))] sz)) (gQi D (fun r (u : (Nat → Int32)) => post r u) (fun (u : (Nat → Int32)) => [(a_N, .inr (1, [.int n_left, .int n_gone, .int n_dark, .int n_seen, .ref a_N_leaver, .ref a_N_putOut, .ref a_N_seenAfter, .ref a_N_seenCell, .ref a_N_seenLight])), (a_N_seenAfter, .inl (cI, 8, .inl n_seenAfter)), (a_N_seenCell, .inl (cI, 8, .inl n_seenCell)), (a_N_seenLight, .inl (cI, 8, .inl n_seenLight)), (a_K, .inr (2, [.ref a_H, .ref a_K_longest, .ref a_K_ways, .ref a_K_griefs, .ref a_K_wins, .int k_tablesKnown, .int k_chosenPerson, .int k_chosenLamp])), (a_K_ways, .inl (cI, 64, .inl u)), (a_H, .inr (0, [.int h_wide, .int h_high, .int h_walls, .int h_doors, .int h_law, .int h_lamps, .int h_people, .ref a_H_lampCell, .ref a_H_lampReach, .ref a_H_shine, .ref a_H_personCell, .ref a_H_wish, .ref a_H_side, .ref a_H_light, .ref a_H_leavers])), (a_H_light, .inl (cI, 128, .inl h_light)), (a_H_leavers, .inl (cI, 128, .inl h_leavers))]) [(a_N, .inr (1, [.int n_left, .int n_gone, .int n_dark, .int n_seen, .ref a_N_leaver, .ref a_N_putOut, .ref a_N_seenAfter, .ref a_N_seenCell, .ref a_N_seenLight])), (a_N_seenAfter, .inl (cI, 8, .inl n_seenAfter)), (a_N_seenCell, .inl (cI, 8, .inl n_seenCell)), (a_N_seenLight, .inl (cI, 8, .inl n_seenLight)), (a_K, .inr (2, [.ref a_H, .ref a_K_longest, .ref a_K_ways, .ref a_K_griefs, .ref a_K_wins, .int k_tablesKnown, .int k_chosenPerson, .int k_chosenLamp])), (a_K_ways, .inl (cI, 64, .inl k_ways)), (a_H, .inr (0, [.int h_wide, .int h_high, .int h_walls, .int h_doors, .int h_law, .int h_lamps, .int h_people, .ref a_H_lampCell, .ref a_H_lampReach, .ref a_H_shine, .ref a_H_personCell, .ref a_H_wish, .ref a_H_side, .ref a_H_light, .ref a_H_leavers])), (a_H_light, .inl (cI, 128, .inl h_light)), (a_H_leavers, .inl (cI, 128, .inl h_leavers))] sz) 0 0 (va_A [(a_N, .inr (1, [.int n_left, .int n_gone, .int n_dark, .int n_seen, .ref a_N_leaver, .ref a_N_putOut, .ref a_N_seenAfter, .ref a_N_seenCell, .ref a_N_seenLight])), (a_N_seenAfter, .inl (cI, 8, .inl n_seenAfter)), (a_N_seenCell, .inl (cI, 8, .inl n_seenCell)), (a_N_seenLight, .inl (cI, 8, .inl n_seenLight)), (a_K, .inr (2, [.ref a_H, .ref a_K_longest, .ref a_K_ways, .ref a_K_griefs, .ref a_K_wins, .int k_tablesKnown, .int k_chosenPerson, .int k_chosenLamp])), (a_K_ways, .inl (cI, 64, .inl k_ways)), (a_H, .inr (0, [.int h_wide, .int h_high, .int h_walls, .int h_doors, .int h_law, .int h_lamps, .int h_people, .ref a_H_lampCell, .ref a_H_lampReach, .ref a_H_shine, .ref a_H_personCell, .ref a_H_wish, .ref a_H_side, .ref a_H_light, .ref a_H_leavers])), (a_H_light, .inl (cI, 128, .inl h_light)), (a_H_leavers, .inl (cI, 128, .inl h_leavers))] sz) := by
  refine q_startM (own := RX2) (Qc := gQi D (fun r (u : (Nat → Int32)) => post r u) (fun (u : (Nat → Int32)) => [(a_N, .inr (1, [.int n_left, .int n_gone, .int n_dark, .int n_seen, .ref a_N_leaver, .ref a_N_putOut, .ref a_N_seenAfter, .ref a_N_seenCell, .ref a_N_seenLight])), (a_N_seenAfter, .inl (cI, 8, .inl n_seenAfter)), (a_N_seenCell, .inl (cI, 8, .inl n_seenCell)), (a_N_seenLight, .inl (cI, 8, .inl n_seenLight)), (a_K, .inr (2, [.ref a_H, .ref a_K_longest, .ref a_K_ways, .ref a_K_griefs, .ref a_K_wins, .int k_tablesKnown, .int k_chosenPerson, .int k_chosenLamp])), (a_K_ways, .inl (cI, 64, .inl u)), (a_H, .inr (0, [.int h_wide, .int h_high, .int h_walls, .int h_doors, .int h_law, .int h_lamps, .int h_people, .ref a_H_lampCell, .ref a_H_lampReach, .ref a_H_shine, .ref a_H_personCell, .ref a_H_wish, .ref a_H_side, .ref a_H_light, .ref a_H_leavers])), (a_H_light, .inl (cI, 128, .inl h_light)), (a_H_leavers, .inl (cI, 128, .inl h_leavers))]) [(a_N, .inr (1, [.int n_left, .int n_gone, .int n_dark, .int n_seen, .ref a_N_leaver, .ref a_N_putOut, .ref a_N_seenAfter, .ref a_N_seenCell, .ref a_N_seenLight])), (a_N_seenAfter, .inl (cI, 8, .inl n_seenAfter)), (a_N_seenCell, .inl (cI, 8, .inl n_seenCell)), (a_N_seenLight, .inl (cI, 8, .inl n_seenLight)), (a_K, .inr (2, [.ref a_H, .ref a_K_longest, .ref a_K_ways, .ref a_K_griefs, .ref a_K_wins, .int k_tablesKnown, .int k_chosenPerson, .int k_chosenLamp])), (a_K_ways, .inl (cI, 64, .inl k_ways)), (a_H, .inr (0, [.int h_wide, .int h_high, .int h_walls, .int h_doors, .int h_law, .int h_lamps, .int h_people, .ref a_H_lampCell, .ref a_H_lampReach, .ref a_H_shine, .ref a_H_personCell, .ref a_H_wish, .ref a_H_side, .ref a_H_light, .ref a_H_leavers])), (a_H_light, .inl (cI, 128, .inl h_light)), (a_H_leavers, .inl (cI, 128, .inl h_leavers))]) (by decide +kernel) rfl (Nat.le_of_ble_eq_true rfl) (fun E F Z M => ?_)
  show Wg E [(a_N, .inr (1, [.int n_left, .int n_gone, .int n_dark, .int n_seen, .ref a_N_leaver, .ref a_N_putOut, .ref a_N_seenAfter, .ref a_N_seenCell, .ref a_N_seenLight])), (a_N_seenAfter, .inl (cI, 8, .inl n_seenAfter)), (a_N_seenCell, .inl (cI, 8, .inl n_seenCell)), (a_N_seenLight, .inl (cI, 8, .inl n_seenLight)), (a_K, .inr (2, [.ref a_H, .ref a_K_longest, .ref a_K_ways, .ref a_K_griefs, .ref a_K_wins, .int k_tablesKnown, .int k_chosenPerson, .int k_chosenLamp])), (a_K_ways, .inl (cI, 64, .inl k_ways)), (a_H, .inr (0, [.int h_wide, .int h_high, .int h_walls, .int h_doors, .int h_law, .int h_lamps, .int h_people, .ref a_H_lampCell, .ref a_H_lampReach, .ref a_H_shine, .ref a_H_personCell, .ref a_H_wish, .ref a_H_side, .ref a_H_light, .ref a_H_leavers])), (a_H_light, .inl (cI, 128, .inl h_light)), (a_H_leavers, .inl (cI, 128, .inl h_leavers))] 0 0 0 [(0, .ref a_K), (1, .int p0), (2, .int p1), (3, .int p2), (4, .int p3), (5, .ref a_N)] []
  unfold wp_X2_countRows_s at h
  refine q_aload (pc := 0) F 5 dX2_countRows_0 rfl ?_
  refine q_ifnullR (pc := 2) F dX2_countRows_2 ?_
  refine q_aload (pc := 5) F 5 dX2_countRows_5 rfl ?_
  refine q_aload_n (pc := 7) F 0 dX2_countRows_7 rfl ?_
  refine q_get (pc := 8) F fgX2_24 4 rfl rfl dX2_countRows_8 ?_
  refine q_get (pc := 11) F fgX2_76 6 rfl rfl dX2_countRows_11 ?_
  refine q_cR (q_runV (As := [.int h_people]) (rest := []) (pc := 14) F (fun l sz => ct_X1_sawLaterThan D cI cZ a_N a_N_leaver a_N_putOut a_N_seenAfter a_N_seenCell a_N_seenLight n_left n_gone n_dark n_seen n_seenAfter h_people h l sz) mc_yX1_sawLaterThan im_yX1_sawLaterThan se_yX1_sawLaterThan mlX2_79 ⟨by decide, by decide⟩ ⟨by decide, by decide⟩ ⟨rfl, rfl⟩ [0, 1] rfl rfl rfl 0 rfl rfl rfl (Nat.le_of_ble_eq_true rfl) dX2_countRows_14) (fun r14 h => ?_)
  obtain ⟨hb14, h⟩ := h
  refine q_if_eq (pc := 17) (tgt := 22) F dX2_countRows_17 (by decide) (fun c17 => ?_) (fun c17 => ?_)
  · have h := h.1 c17
    refine q_iload_n (pc := 22) F 1 dX2_countRows_22 rfl ?_
    refine q_cR (q_runS (As := [.int p0]) (rest := []) (pc := 23) F (fun l sz => ct_J6_bitCount_0f7a4 D cI cZ p0 h l sz) mc_yJ6_bitCount_0f7a4 sm_yJ6_bitCount_0f7a4 mlX2_54 ⟨by decide, by decide⟩ ⟨by decide, by decide⟩ ⟨rfl, rfl⟩ [] rfl rfl rfl rfl (Nat.le_of_ble_eq_true rfl) dX2_countRows_23) (fun r23 h => ?_)
    refine q_istore (pc := 26) F (lv' := [(6, .int r23), (0, .ref a_K), (1, .int p0), (2, .int p1), (3, .int p2), (4, .int p3), (5, .ref a_N)]) dX2_countRows_26 (by decide) rfl ?_
    refine q_iconst (pc := 28) F (v := 0) dX2_countRows_28 (by decide) ?_
    refine q_istore (pc := 29) F (lv' := [(7, .int (0 : Int32)), (6, .int r23), (0, .ref a_K), (1, .int p0), (2, .int p1), (3, .int p2), (4, .int p3), (5, .ref a_N)]) dX2_countRows_29 (by decide) rfl ?_
    refine jnW h (fun K => ∀ (k_ways_141 : Nat → Int32), K k_ways_141 → Wg E [(a_N, .inr (1, [.int n_left, .int n_gone, .int n_dark, .int n_seen, .ref a_N_leaver, .ref a_N_putOut, .ref a_N_seenAfter, .ref a_N_seenCell, .ref a_N_seenLight])), (a_N_seenAfter, .inl (cI, 8, .inl n_seenAfter)), (a_N_seenCell, .inl (cI, 8, .inl n_seenCell)), (a_N_seenLight, .inl (cI, 8, .inl n_seenLight)), (a_K, .inr (2, [.ref a_H, .ref a_K_longest, .ref a_K_ways, .ref a_K_griefs, .ref a_K_wins, .int k_tablesKnown, .int k_chosenPerson, .int k_chosenLamp])), (a_K_ways, .inl (cI, 64, .inl k_ways_141)), (a_H, .inr (0, [.int h_wide, .int h_high, .int h_walls, .int h_doors, .int h_law, .int h_lamps, .int h_people, .ref a_H_lampCell, .ref a_H_lampReach, .ref a_H_shine, .ref a_H_personCell, .ref a_H_wish, .ref a_H_side, .ref a_H_light, .ref a_H_leavers])), (a_H_light, .inl (cI, 128, .inl h_light)), (a_H_leavers, .inl (cI, 128, .inl h_leavers))] 0 0 141 [(0, .ref a_K), (2, .int p1)] []) ?_ ?_
    · intro k_ways_141 h
      refine q_aload_n (pc := 141) F 0 dX2_countRows_141 rfl ?_
      refine q_get (pc := 142) F fgX2_15 4 rfl rfl dX2_countRows_142 ?_
      refine q_iload_n (pc := 145) F 1 dX2_countRows_145 rfl ?_
      obtain ⟨hi146, h⟩ := h
      refine q_iald (pc := 146) F 5 rfl hi146 dX2_countRows_146 ?_
      exact q_iretM (pc := 147) F Z dX2_countRows_147 k_ways_141 h rfl
    · intro K141 J141 h
      obtain ⟨n31, h⟩ := h
      have lp31 : ∀ (n : Nat) (x7_h31 : Int32) (k_ways_h31 : Nat → Int32), wp_X2_countRows_s_L31 p0 p1 p2 p3 r23 n_seen n_seenAfter n_seenCell n_seenLight h_lamps h_light h_leavers K141 n x7_h31 k_ways_h31 → Wg E [(a_N, .inr (1, [.int n_left, .int n_gone, .int n_dark, .int n_seen, .ref a_N_leaver, .ref a_N_putOut, .ref a_N_seenAfter, .ref a_N_seenCell, .ref a_N_seenLight])), (a_N_seenAfter, .inl (cI, 8, .inl n_seenAfter)), (a_N_seenCell, .inl (cI, 8, .inl n_seenCell)), (a_N_seenLight, .inl (cI, 8, .inl n_seenLight)), (a_K, .inr (2, [.ref a_H, .ref a_K_longest, .ref a_K_ways, .ref a_K_griefs, .ref a_K_wins, .int k_tablesKnown, .int k_chosenPerson, .int k_chosenLamp])), (a_K_ways, .inl (cI, 64, .inl k_ways_h31)), (a_H, .inr (0, [.int h_wide, .int h_high, .int h_walls, .int h_doors, .int h_law, .int h_lamps, .int h_people, .ref a_H_lampCell, .ref a_H_lampReach, .ref a_H_shine, .ref a_H_personCell, .ref a_H_wish, .ref a_H_side, .ref a_H_light, .ref a_H_leavers])), (a_H_light, .inl (cI, 128, .inl h_light)), (a_H_leavers, .inl (cI, 128, .inl h_leavers))] 0 0 31 [(0, .ref a_K), (1, .int p0), (2, .int p1), (3, .int p2), (4, .int p3), (5, .ref a_N), (6, .int r23), (7, .int x7_h31)] [] := by
        intro n
        induction n with
        | zero => intro x7_h31 k_ways_h31 h; exact h.elim
        | succ n ih =>
          intro x7_h31 k_ways_h31 h
          unfold wp_X2_countRows_s_L31 at h
          refine q_iload (pc := 31) F 7 dX2_countRows_31 rfl ?_
          refine q_iload_n (pc := 33) F 2 dX2_countRows_33 rfl ?_
          refine q_icmp_gt (pc := 34) (tgt := 141) F dX2_countRows_34 (by decide) (fun c34 => ?_) (fun c34 => ?_)
          · have h := h.1 c34
            refine q_lv (lv' := [(0, .ref a_K), (2, .int p1)]) [0, 2] rfl ?_
            exact J141 k_ways_h31 h
          · have h := h.2 c34
            refine q_iload_n (pc := 37) F 2 dX2_countRows_37 rfl ?_
            refine q_cR (q_runS (As := [.int p1]) (rest := []) (pc := 38) F (fun l sz => ct_J6_bitCount_0f7a4 D cI cZ p1 h l sz) mc_yJ6_bitCount_0f7a4 sm_yJ6_bitCount_0f7a4 mlX2_54 ⟨by decide, by decide⟩ ⟨by decide, by decide⟩ ⟨rfl, rfl⟩ [] rfl rfl rfl rfl (Nat.le_of_ble_eq_true rfl) dX2_countRows_38) (fun r38 h => ?_)
            refine q_iload (pc := 41) F 7 dX2_countRows_41 rfl ?_
            refine q_cR (q_runS (As := [.int x7_h31]) (rest := [.int r38]) (pc := 43) F (fun l sz => ct_J6_bitCount_0f7a4 D cI cZ x7_h31 h l sz) mc_yJ6_bitCount_0f7a4 sm_yJ6_bitCount_0f7a4 mlX2_54 ⟨by decide, by decide⟩ ⟨by decide, by decide⟩ ⟨rfl, rfl⟩ [] rfl rfl rfl rfl (Nat.le_of_ble_eq_true rfl) dX2_countRows_43) (fun r43 h => ?_)
            refine q_isub (pc := 46) F dX2_countRows_46 ?_
            refine q_topi (fun x8_47 ex8_47 => ?_)
            have h := h x8_47 ex8_47
            refine q_istore (pc := 47) F (lv' := [(8, .int x8_47), (0, .ref a_K), (1, .int p0), (2, .int p1), (3, .int p2), (4, .int p3), (5, .ref a_N), (6, .int r23), (7, .int x7_h31)]) dX2_countRows_47 (by decide) rfl ?_
            refine q_iload (pc := 49) F 8 dX2_countRows_49 rfl ?_
            refine q_iload_n (pc := 51) F 3 dX2_countRows_51 rfl ?_
            refine q_iconst (pc := 52) F (v := -1) dX2_countRows_52 (by decide) ?_
            refine q_ixor (pc := 53) F dX2_countRows_53 ?_
            refine q_iand (pc := 54) F dX2_countRows_54 ?_
            refine jnW h (fun K => ∀ (y70 : Int32), K y70 → Wg E [(a_N, .inr (1, [.int n_left, .int n_gone, .int n_dark, .int n_seen, .ref a_N_leaver, .ref a_N_putOut, .ref a_N_seenAfter, .ref a_N_seenCell, .ref a_N_seenLight])), (a_N_seenAfter, .inl (cI, 8, .inl n_seenAfter)), (a_N_seenCell, .inl (cI, 8, .inl n_seenCell)), (a_N_seenLight, .inl (cI, 8, .inl n_seenLight)), (a_K, .inr (2, [.ref a_H, .ref a_K_longest, .ref a_K_ways, .ref a_K_griefs, .ref a_K_wins, .int k_tablesKnown, .int k_chosenPerson, .int k_chosenLamp])), (a_K_ways, .inl (cI, 64, .inl k_ways_h31)), (a_H, .inr (0, [.int h_wide, .int h_high, .int h_walls, .int h_doors, .int h_law, .int h_lamps, .int h_people, .ref a_H_lampCell, .ref a_H_lampReach, .ref a_H_shine, .ref a_H_personCell, .ref a_H_wish, .ref a_H_side, .ref a_H_light, .ref a_H_leavers])), (a_H_light, .inl (cI, 128, .inl h_light)), (a_H_leavers, .inl (cI, 128, .inl h_leavers))] 0 0 70 [(0, .ref a_K), (1, .int p0), (2, .int p1), (3, .int p2), (4, .int p3), (5, .ref a_N), (6, .int r23), (7, .int x7_h31), (8, .int x8_47)] [.int y70]) ?_ ?_
            · intro y70 h
              refine q_istore (pc := 70) F (lv' := [(9, .int y70), (0, .ref a_K), (1, .int p0), (2, .int p1), (3, .int p2), (4, .int p3), (5, .ref a_N), (6, .int r23), (7, .int x7_h31), (8, .int x8_47)]) dX2_countRows_70 (by decide) rfl ?_
              refine q_iload (pc := 72) F 0 dX2_countRows_72 rfl ?_
              refine jnW h (fun K => ∀ (k_ways_135 : Nat → Int32), K k_ways_135 → Wg E [(a_N, .inr (1, [.int n_left, .int n_gone, .int n_dark, .int n_seen, .ref a_N_leaver, .ref a_N_putOut, .ref a_N_seenAfter, .ref a_N_seenCell, .ref a_N_seenLight])), (a_N_seenAfter, .inl (cI, 8, .inl n_seenAfter)), (a_N_seenCell, .inl (cI, 8, .inl n_seenCell)), (a_N_seenLight, .inl (cI, 8, .inl n_seenLight)), (a_K, .inr (2, [.ref a_H, .ref a_K_longest, .ref a_K_ways, .ref a_K_griefs, .ref a_K_wins, .int k_tablesKnown, .int k_chosenPerson, .int k_chosenLamp])), (a_K_ways, .inl (cI, 64, .inl k_ways_135)), (a_H, .inr (0, [.int h_wide, .int h_high, .int h_walls, .int h_doors, .int h_law, .int h_lamps, .int h_people, .ref a_H_lampCell, .ref a_H_lampReach, .ref a_H_shine, .ref a_H_personCell, .ref a_H_wish, .ref a_H_side, .ref a_H_light, .ref a_H_leavers])), (a_H_light, .inl (cI, 128, .inl h_light)), (a_H_leavers, .inl (cI, 128, .inl h_leavers))] 0 0 135 [(0, .ref a_K), (1, .int p0), (2, .int p1), (3, .int p2), (4, .int p3), (5, .ref a_N), (6, .int r23), (7, .int x7_h31)] []) ?_ ?_
              · intro k_ways_135 h
                refine q_iinc (pc := 135) F (v := x7_h31 + (1 : Int32)) (lv' := [(7, .int (x7_h31 + (1 : Int32))), (0, .ref a_K), (1, .int p0), (2, .int p1), (3, .int p2), (4, .int p3), (5, .ref a_N), (6, .int r23)]) 7 dX2_countRows_135 rfl rfl (by decide) rfl ?_
                refine q_goto (pc := 138) (tgt := 31) F dX2_countRows_138 (by decide) ?_
                refine q_lv (lv' := [(0, .ref a_K), (1, .int p0), (2, .int p1), (3, .int p2), (4, .int p3), (5, .ref a_N), (6, .int r23), (7, .int (x7_h31 + (1 : Int32)))]) [1, 2, 3, 4, 5, 6, 7, 0] rfl ?_
                exact ih (x7_h31 + (1 : Int32)) k_ways_135 h
              · intro K135 J135 h
                refine jnW h (fun K => K → Wg E [(a_N, .inr (1, [.int n_left, .int n_gone, .int n_dark, .int n_seen, .ref a_N_leaver, .ref a_N_putOut, .ref a_N_seenAfter, .ref a_N_seenCell, .ref a_N_seenLight])), (a_N_seenAfter, .inl (cI, 8, .inl n_seenAfter)), (a_N_seenCell, .inl (cI, 8, .inl n_seenCell)), (a_N_seenLight, .inl (cI, 8, .inl n_seenLight)), (a_K, .inr (2, [.ref a_H, .ref a_K_longest, .ref a_K_ways, .ref a_K_griefs, .ref a_K_wins, .int k_tablesKnown, .int k_chosenPerson, .int k_chosenLamp])), (a_K_ways, .inl (cI, 64, .inl k_ways_h31)), (a_H, .inr (0, [.int h_wide, .int h_high, .int h_walls, .int h_doors, .int h_law, .int h_lamps, .int h_people, .ref a_H_lampCell, .ref a_H_lampReach, .ref a_H_shine, .ref a_H_personCell, .ref a_H_wish, .ref a_H_side, .ref a_H_light, .ref a_H_leavers])), (a_H_light, .inl (cI, 128, .inl h_light)), (a_H_leavers, .inl (cI, 128, .inl h_leavers))] 0 0 127 [(0, .ref a_K), (1, .int p0), (2, .int p1), (3, .int p2), (4, .int p3), (5, .ref a_N), (6, .int r23), (7, .int x7_h31)] []) ?_ ?_
                · intro h
                  refine q_aload_n (pc := 127) F 0 dX2_countRows_127 rfl ?_
                  refine q_get (pc := 128) F fgX2_15 4 rfl rfl dX2_countRows_128 ?_
                  refine q_iload (pc := 131) F 7 dX2_countRows_131 rfl ?_
                  refine q_iconst (pc := 133) F (v := 0) dX2_countRows_133 (by decide) ?_
                  obtain ⟨hi134, h⟩ := h
                  refine q_iast (pc := 134) F M (cs' := [(a_N, .inr (1, [.int n_left, .int n_gone, .int n_dark, .int n_seen, .ref a_N_leaver, .ref a_N_putOut, .ref a_N_seenAfter, .ref a_N_seenCell, .ref a_N_seenLight])), (a_N_seenAfter, .inl (cI, 8, .inl n_seenAfter)), (a_N_seenCell, .inl (cI, 8, .inl n_seenCell)), (a_N_seenLight, .inl (cI, 8, .inl n_seenLight)), (a_K, .inr (2, [.ref a_H, .ref a_K_longest, .ref a_K_ways, .ref a_K_griefs, .ref a_K_wins, .int k_tablesKnown, .int k_chosenPerson, .int k_chosenLamp])), (a_K_ways, .inl (cI, 64, .inl (upd k_ways_h31 (ix x7_h31) (0 : Int32)))), (a_H, .inr (0, [.int h_wide, .int h_high, .int h_walls, .int h_doors, .int h_law, .int h_lamps, .int h_people, .ref a_H_lampCell, .ref a_H_lampReach, .ref a_H_shine, .ref a_H_personCell, .ref a_H_wish, .ref a_H_side, .ref a_H_light, .ref a_H_leavers])), (a_H_light, .inl (cI, 128, .inl h_light)), (a_H_leavers, .inl (cI, 128, .inl h_leavers))]) 5 rfl hi134 rfl dX2_countRows_134 ?_
                  exact J135 (upd k_ways_h31 (ix x7_h31) (0 : Int32)) h
                · intro K127 J127 h
                  refine q_if_eq (pc := 74) (tgt := 127) F dX2_countRows_74 (by decide) (fun c74 => ?_) (fun c74 => ?_)
                  · have h := h.1 c74
                    refine q_lv (lv' := [(0, .ref a_K), (1, .int p0), (2, .int p1), (3, .int p2), (4, .int p3), (5, .ref a_N), (6, .int r23), (7, .int x7_h31)]) [1, 2, 3, 4, 5, 6, 7, 8] rfl ?_
                    exact J127 h
                  · have h := h.2 c74
                    refine q_aload (pc := 77) F 6 dX2_countRows_77 rfl ?_
                    refine q_ifnullR (pc := 79) F dX2_countRows_79 ?_
                    refine q_aload (pc := 82) F 6 dX2_countRows_82 rfl ?_
                    refine q_iload (pc := 84) F 9 dX2_countRows_84 rfl ?_
                    refine q_aload_n (pc := 86) F 1 dX2_countRows_86 rfl ?_
                    refine q_get (pc := 87) F fgX2_24 4 rfl rfl dX2_countRows_87 ?_
                    refine q_get (pc := 90) F fgX2_85 6 rfl rfl dX2_countRows_90 ?_
                    refine q_iload (pc := 93) F 8 dX2_countRows_93 rfl ?_
                    obtain ⟨hi95, h⟩ := h
                    refine q_iald (pc := 95) F 7 rfl hi95 dX2_countRows_95 ?_
                    refine q_cR (q_runV (As := [.int x8_47, .int (h_light (ix x7_h31))]) (rest := []) (pc := 96) F (fun l sz => ct_X1_agrees D cI cZ a_N a_N_leaver a_N_putOut a_N_seenAfter a_N_seenCell a_N_seenLight n_left n_gone n_dark n_seen n_seenAfter n_seenCell n_seenLight x8_47 (h_light (ix x7_h31)) h l sz) mc_yX1_agrees im_yX1_agrees se_yX1_agrees mlX2_88 ⟨by decide, by decide⟩ ⟨by decide, by decide⟩ ⟨rfl, rfl⟩ [0, 1, 2, 3] rfl rfl rfl 0 rfl rfl rfl (Nat.le_of_ble_eq_true rfl) dX2_countRows_96) (fun r96 h => ?_)
                    obtain ⟨hb96, h⟩ := h
                    refine q_if_eq (pc := 99) (tgt := 127) F dX2_countRows_99 (by decide) (fun c99 => ?_) (fun c99 => ?_)
                    · have h := h.1 c99
                      refine q_lv (lv' := [(0, .ref a_K), (1, .int p0), (2, .int p1), (3, .int p2), (4, .int p3), (5, .ref a_N), (6, .int r23), (7, .int x7_h31)]) [1, 2, 3, 4, 5, 6, 7, 8] rfl ?_
                      exact J127 h
                    · have h := h.2 c99
                      refine q_aload_n (pc := 102) F 1 dX2_countRows_102 rfl ?_
                      refine q_get (pc := 103) F fgX2_15 4 rfl rfl dX2_countRows_103 ?_
                      refine q_iload (pc := 106) F 8 dX2_countRows_106 rfl ?_
                      refine q_aload_n (pc := 108) F 1 dX2_countRows_108 rfl ?_
                      refine q_iload_n (pc := 109) F 2 dX2_countRows_109 rfl ?_
                      refine q_iload (pc := 110) F 8 dX2_countRows_110 rfl ?_
                      refine q_iload (pc := 112) F 7 dX2_countRows_112 rfl ?_
                      refine q_iload (pc := 114) F 9 dX2_countRows_114 rfl ?_
                      refine q_isub (pc := 116) F dX2_countRows_116 ?_
                      refine q_iload_n (pc := 117) F 4 dX2_countRows_117 rfl ?_
                      refine q_iload (pc := 118) F 5 dX2_countRows_118 rfl ?_
                      refine q_cR (q_runV (As := [.int p0, .int x7_h31, .int (r23 - x8_47), .int p2, .int p3]) (rest := [.int x7_h31, .ref a_K_ways]) (pc := 120) F (fun l sz => ct_X2_waysFrom D cI cZ a_K a_H a_K_longest a_K_ways a_K_griefs a_K_wins a_H_lampCell a_H_lampReach a_H_shine a_H_personCell a_H_wish a_H_side a_H_light a_H_leavers k_tablesKnown k_chosenPerson k_chosenLamp k_ways_h31 h_wide h_high h_walls h_doors h_law h_lamps h_people h_leavers p0 x7_h31 (r23 - x8_47) p2 p3 h l sz) mc_yX2_waysFrom im_yX2_waysFrom se_yX2_waysFrom mlX2_92 ⟨by decide, by decide⟩ ⟨by decide, by decide⟩ ⟨rfl, rfl⟩ [4, 5, 6, 8] rfl rfl rfl 4 rfl rfl rfl (Nat.le_of_ble_eq_true rfl) dX2_countRows_120) (fun r120 h => ?_)
                      obtain ⟨hi123, h⟩ := h
                      refine q_iast (pc := 123) F M (cs' := [(a_N, .inr (1, [.int n_left, .int n_gone, .int n_dark, .int n_seen, .ref a_N_leaver, .ref a_N_putOut, .ref a_N_seenAfter, .ref a_N_seenCell, .ref a_N_seenLight])), (a_N_seenAfter, .inl (cI, 8, .inl n_seenAfter)), (a_N_seenCell, .inl (cI, 8, .inl n_seenCell)), (a_N_seenLight, .inl (cI, 8, .inl n_seenLight)), (a_K, .inr (2, [.ref a_H, .ref a_K_longest, .ref a_K_ways, .ref a_K_griefs, .ref a_K_wins, .int k_tablesKnown, .int k_chosenPerson, .int k_chosenLamp])), (a_K_ways, .inl (cI, 64, .inl (upd k_ways_h31 (ix x7_h31) r120))), (a_H, .inr (0, [.int h_wide, .int h_high, .int h_walls, .int h_doors, .int h_law, .int h_lamps, .int h_people, .ref a_H_lampCell, .ref a_H_lampReach, .ref a_H_shine, .ref a_H_personCell, .ref a_H_wish, .ref a_H_side, .ref a_H_light, .ref a_H_leavers])), (a_H_light, .inl (cI, 128, .inl h_light)), (a_H_leavers, .inl (cI, 128, .inl h_leavers))]) 5 rfl hi123 rfl dX2_countRows_123 ?_
                      refine q_goto (pc := 124) (tgt := 135) F dX2_countRows_124 (by decide) ?_
                      refine q_lv (lv' := [(0, .ref a_K), (1, .int p0), (2, .int p1), (3, .int p2), (4, .int p3), (5, .ref a_N), (6, .int r23), (7, .int x7_h31)]) [1, 2, 3, 4, 5, 6, 7, 8] rfl ?_
                      exact J135 (upd k_ways_h31 (ix x7_h31) r120) h
            · intro K70 J70 h
              refine jnW h (fun K => K → Wg E [(a_N, .inr (1, [.int n_left, .int n_gone, .int n_dark, .int n_seen, .ref a_N_leaver, .ref a_N_putOut, .ref a_N_seenAfter, .ref a_N_seenCell, .ref a_N_seenLight])), (a_N_seenAfter, .inl (cI, 8, .inl n_seenAfter)), (a_N_seenCell, .inl (cI, 8, .inl n_seenCell)), (a_N_seenLight, .inl (cI, 8, .inl n_seenLight)), (a_K, .inr (2, [.ref a_H, .ref a_K_longest, .ref a_K_ways, .ref a_K_griefs, .ref a_K_wins, .int k_tablesKnown, .int k_chosenPerson, .int k_chosenLamp])), (a_K_ways, .inl (cI, 64, .inl k_ways_h31)), (a_H, .inr (0, [.int h_wide, .int h_high, .int h_walls, .int h_doors, .int h_law, .int h_lamps, .int h_people, .ref a_H_lampCell, .ref a_H_lampReach, .ref a_H_shine, .ref a_H_personCell, .ref a_H_wish, .ref a_H_side, .ref a_H_light, .ref a_H_leavers])), (a_H_light, .inl (cI, 128, .inl h_light)), (a_H_leavers, .inl (cI, 128, .inl h_leavers))] 0 0 69 [(0, .ref a_K), (1, .int p0), (2, .int p1), (3, .int p2), (4, .int p3), (5, .ref a_N), (6, .int r23), (7, .int x7_h31), (8, .int x8_47)] []) ?_ ?_
              · intro h
                refine q_iconst (pc := 69) F (v := 0) dX2_countRows_69 (by decide) ?_
                exact J70 (0 : Int32) h
              · intro K69 J69 h
                refine q_if_ne (pc := 55) (tgt := 69) F dX2_countRows_55 (by decide) (fun c55 => ?_) (fun c55 => ?_)
                · have h := h.2 c55
                  refine q_lv (lv' := [(0, .ref a_K), (1, .int p0), (2, .int p1), (3, .int p2), (4, .int p3), (5, .ref a_N), (6, .int r23), (7, .int x7_h31), (8, .int x8_47)]) [1, 2, 3, 4, 5, 6, 7, 8, 0] rfl ?_
                  exact J69 h
                · have h := h.1 c55
                  refine q_iload (pc := 58) F 0 dX2_countRows_58 rfl ?_
                  refine q_iload (pc := 60) F 7 dX2_countRows_60 rfl ?_
                  refine q_icmp_gt (pc := 62) (tgt := 69) F dX2_countRows_62 (by decide) (fun c62 => ?_) (fun c62 => ?_)
                  · have h := h.1 c62
                    refine q_lv (lv' := [(0, .ref a_K), (1, .int p0), (2, .int p1), (3, .int p2), (4, .int p3), (5, .ref a_N), (6, .int r23), (7, .int x7_h31), (8, .int x8_47)]) [1, 2, 3, 4, 5, 6, 7, 8, 0] rfl ?_
                    exact J69 h
                  · have h := h.2 c62
                    refine q_iconst (pc := 65) F (v := 1) dX2_countRows_65 (by decide) ?_
                    refine q_goto (pc := 66) (tgt := 70) F dX2_countRows_66 (by decide) ?_
                    refine q_lv (lv' := [(0, .ref a_K), (1, .int p0), (2, .int p1), (3, .int p2), (4, .int p3), (5, .ref a_N), (6, .int r23), (7, .int x7_h31), (8, .int x8_47)]) [1, 2, 3, 4, 5, 6, 7, 8, 0] rfl ?_
                    exact J70 (1 : Int32) h
      refine q_lv (lv' := [(0, .ref a_K), (1, .int p0), (2, .int p1), (3, .int p2), (4, .int p3), (5, .ref a_N), (6, .int r23), (7, .int (0 : Int32))]) [2, 3, 4, 5, 6, 7, 1, 0] rfl ?_
      exact lp31 n31 (0 : Int32) k_ways h
  · have h := h.2 c17
    refine q_iconst (pc := 20) F (v := 0) dX2_countRows_20 (by decide) ?_
    exact q_iretM (pc := 21) F Z dX2_countRows_21 k_ways h rfl

def wp_X2_placeIn (p0 : Int32) (p1 : Int32) (post : Int32 → Prop) : Prop := post ((p0 * (64 : Int32)) + p1)
abbrev rm_X2_placeIn : Room := { frames := 0, cells := 0, slots := 0, locals := 0 }
set_option maxRecDepth 100000 in
set_option maxHeartbeats 4000000 in
theorem ct_X2_placeIn (D : va_G) (cI cZ : ClassId) (p0 : Int32) (p1 : Int32) {post : Int32 → Prop} (h : wp_X2_placeIn p0 p1 post) (l : Launch) (sz : Nat) : Met l yX2_placeIn (wsM yX2_placeIn cX2_placeIn 2 (some .int)) rm_X2_placeIn (va_Pc [.int p0, .int p1] (gP D cI cZ [] sz)) (gR post) 0 0 (fun _ => False) := by
  refine q_startR (own := RX2) (by decide +kernel) rfl (Nat.le_of_ble_eq_true rfl) (fun E F Z => ?_)
  show Wg E [] 0 0 0 [(0, .int p0), (1, .int p1)] []
  unfold wp_X2_placeIn at h
  refine q_iload_n (pc := 0) F 0 dX2_placeIn_0 rfl ?_
  refine q_bipush (pc := 1) F (v := 64) dX2_placeIn_1 (by decide) ?_
  refine q_imul (pc := 3) F dX2_placeIn_3 ?_
  refine q_iload_n (pc := 4) F 1 dX2_placeIn_4 rfl ?_
  refine q_iadd (pc := 5) F dX2_placeIn_5 ?_
  exact q_iretR (pc := 6) F Z dX2_placeIn_6 h

def wp_X2_leastGriefBehind_L7 (x1 : Int32) (x2 : Int32) (k_griefs : Nat → Int32) (h_lamps : Int32) (post : Int32 → Prop) : Nat → Int32 → Int32 → Prop
  | 0, _, _ => False
  | n + 1, x3, x4 => ((h_lamps ≤ x4 → post x3) ∧ (¬ h_lamps ≤ x4 → (wp_X4_bitOf x2 x4 (fun (r22 : Int32) => (jn (fun (K51 : Int32 → Prop) => ((r22 = (1 : Int32) → (wp_X2_placeIn x1 (x2 &&& ((jshl (1 : Int32) x4) ^^^ (-1 : Int32))) (fun (r43 : Int32) => (vp_in r43 4096 ∧ (∀ x3_50 : Int32, x3_50 = jmin x3 (k_griefs (ix r43)) → K51 x3_50))))) ∧ (¬ r22 = (1 : Int32) → K51 x3))) (fun (x3_51 : Int32) => wp_X2_leastGriefBehind_L7 x1 x2 k_griefs h_lamps post n x3_51 (x4 + (1 : Int32))))))))
def wp_X2_leastGriefBehind (p0 : Int32) (p1 : Int32) (k_griefs : Nat → Int32) (h_lamps : Int32) (post : Int32 → Prop) : Prop := (∃ n7 : Nat, wp_X2_leastGriefBehind_L7 p0 p1 k_griefs h_lamps post n7 (1000 : Int32) (0 : Int32))
abbrev rm_X2_leastGriefBehind : Room := { frames := 1, cells := 0, slots := 0, locals := 21 }
set_option maxRecDepth 100000 in
set_option maxHeartbeats 4000000 in
theorem ct_X2_leastGriefBehind (D : va_G) (cI cZ : ClassId) (a_K a_H a_K_longest a_K_ways a_K_griefs a_K_wins a_H_lampCell a_H_lampReach a_H_shine a_H_personCell a_H_wish a_H_side a_H_light a_H_leavers : Nat) (k_tablesKnown : Int32) (k_chosenPerson : Int32) (k_chosenLamp : Int32) (k_griefs : Nat → Int32) (h_wide : Int32) (h_high : Int32) (h_walls : Int32) (h_doors : Int32) (h_law : Int32) (h_lamps : Int32) (h_people : Int32) (p0 : Int32) (p1 : Int32) {post : Int32 → Prop} (h : wp_X2_leastGriefBehind p0 p1 k_griefs h_lamps post) (l : Launch) (sz : Nat) : Met l yX2_leastGriefBehind (wsM yX2_leastGriefBehind cX2_leastGriefBehind 5 (some .int)) rm_X2_leastGriefBehind (va_Pc [.ref a_K, .int p0, .int p1] (gP D cI cZ [(a_K, .inr (2, [.ref a_H, .ref a_K_longest, .ref a_K_ways, .ref a_K_griefs, .ref a_K_wins, .int k_tablesKnown, .int k_chosenPerson, .int k_chosenLamp])), (a_K_griefs, .inl (cI, 4096, .inl k_griefs)), (a_H, .inr (0, [.int h_wide, .int h_high, .int h_walls, .int h_doors, .int h_law, .int h_lamps, .int h_people, .ref a_H_lampCell, .ref a_H_lampReach, .ref a_H_shine, .ref a_H_personCell, .ref a_H_wish, .ref a_H_side, .ref a_H_light, .ref a_H_leavers]))] sz)) (gR post) 0 0 (fun _ => False) := by
  refine q_startR (own := RX2) (by decide +kernel) rfl (Nat.le_of_ble_eq_true rfl) (fun E F Z => ?_)
  show Wg E [(a_K, .inr (2, [.ref a_H, .ref a_K_longest, .ref a_K_ways, .ref a_K_griefs, .ref a_K_wins, .int k_tablesKnown, .int k_chosenPerson, .int k_chosenLamp])), (a_K_griefs, .inl (cI, 4096, .inl k_griefs)), (a_H, .inr (0, [.int h_wide, .int h_high, .int h_walls, .int h_doors, .int h_law, .int h_lamps, .int h_people, .ref a_H_lampCell, .ref a_H_lampReach, .ref a_H_shine, .ref a_H_personCell, .ref a_H_wish, .ref a_H_side, .ref a_H_light, .ref a_H_leavers]))] 0 0 0 [(0, .ref a_K), (1, .int p0), (2, .int p1)] []
  unfold wp_X2_leastGriefBehind at h
  refine q_sipush (pc := 0) F (v := 1000) dX2_leastGriefBehind_0 (by decide) ?_
  refine q_istore_n (pc := 3) F (lv' := [(3, .int (1000 : Int32)), (0, .ref a_K), (1, .int p0), (2, .int p1)]) dX2_leastGriefBehind_3 (by decide) rfl ?_
  refine q_iconst (pc := 4) F (v := 0) dX2_leastGriefBehind_4 (by decide) ?_
  refine q_istore (pc := 5) F (lv' := [(4, .int (0 : Int32)), (3, .int (1000 : Int32)), (0, .ref a_K), (1, .int p0), (2, .int p1)]) dX2_leastGriefBehind_5 (by decide) rfl ?_
  obtain ⟨n7, h⟩ := h
  have lp7 : ∀ (n : Nat) (x3_h7 : Int32) (x4_h7 : Int32), wp_X2_leastGriefBehind_L7 p0 p1 k_griefs h_lamps post n x3_h7 x4_h7 → Wg E [(a_K, .inr (2, [.ref a_H, .ref a_K_longest, .ref a_K_ways, .ref a_K_griefs, .ref a_K_wins, .int k_tablesKnown, .int k_chosenPerson, .int k_chosenLamp])), (a_K_griefs, .inl (cI, 4096, .inl k_griefs)), (a_H, .inr (0, [.int h_wide, .int h_high, .int h_walls, .int h_doors, .int h_law, .int h_lamps, .int h_people, .ref a_H_lampCell, .ref a_H_lampReach, .ref a_H_shine, .ref a_H_personCell, .ref a_H_wish, .ref a_H_side, .ref a_H_light, .ref a_H_leavers]))] 0 0 7 [(0, .ref a_K), (1, .int p0), (2, .int p1), (3, .int x3_h7), (4, .int x4_h7)] [] := by
    intro n
    induction n with
    | zero => intro x3_h7 x4_h7 h; exact h.elim
    | succ n ih =>
      intro x3_h7 x4_h7 h
      unfold wp_X2_leastGriefBehind_L7 at h
      refine q_iload (pc := 7) F 4 dX2_leastGriefBehind_7 rfl ?_
      refine q_aload_n (pc := 9) F 0 dX2_leastGriefBehind_9 rfl ?_
      refine q_get (pc := 10) F fgX2_24 0 rfl rfl dX2_leastGriefBehind_10 ?_
      refine q_get (pc := 13) F fgX2_32 2 rfl rfl dX2_leastGriefBehind_13 ?_
      refine q_icmp_ge (pc := 16) (tgt := 57) F dX2_leastGriefBehind_16 (by decide) (fun c16 => ?_) (fun c16 => ?_)
      · have h := h.1 c16
        refine q_iload_n (pc := 57) F 3 dX2_leastGriefBehind_57 rfl ?_
        exact q_iretR (pc := 58) F Z dX2_leastGriefBehind_58 h
      · have h := h.2 c16
        refine q_iload_n (pc := 19) F 2 dX2_leastGriefBehind_19 rfl ?_
        refine q_iload (pc := 20) F 4 dX2_leastGriefBehind_20 rfl ?_
        refine q_cR (q_runSN (As := [.int p1, .int x4_h7]) (rest := []) (pc := 22) F (fun l sz => ct_X4_bitOf D cI cZ p1 x4_h7 h l sz) mc_yX4_bitOf sm_yX4_bitOf (fun U h => h.2.2.2.2.2.1) ⟨by decide, by decide⟩ ⟨by decide, by decide⟩ ⟨rfl, rfl⟩ [] rfl rfl rfl rfl (Nat.le_of_ble_eq_true rfl) dX2_leastGriefBehind_22) (fun r22 h => ?_)
        refine q_iconst (pc := 25) F (v := 1) dX2_leastGriefBehind_25 (by decide) ?_
        refine jnW h (fun K => ∀ (x3_51 : Int32), K x3_51 → Wg E [(a_K, .inr (2, [.ref a_H, .ref a_K_longest, .ref a_K_ways, .ref a_K_griefs, .ref a_K_wins, .int k_tablesKnown, .int k_chosenPerson, .int k_chosenLamp])), (a_K_griefs, .inl (cI, 4096, .inl k_griefs)), (a_H, .inr (0, [.int h_wide, .int h_high, .int h_walls, .int h_doors, .int h_law, .int h_lamps, .int h_people, .ref a_H_lampCell, .ref a_H_lampReach, .ref a_H_shine, .ref a_H_personCell, .ref a_H_wish, .ref a_H_side, .ref a_H_light, .ref a_H_leavers]))] 0 0 51 [(0, .ref a_K), (1, .int p0), (2, .int p1), (3, .int x3_51), (4, .int x4_h7)] []) ?_ ?_
        · intro x3_51 h
          refine q_iinc (pc := 51) F (v := x4_h7 + (1 : Int32)) (lv' := [(4, .int (x4_h7 + (1 : Int32))), (0, .ref a_K), (1, .int p0), (2, .int p1), (3, .int x3_51)]) 4 dX2_leastGriefBehind_51 rfl rfl (by decide) rfl ?_
          refine q_goto (pc := 54) (tgt := 7) F dX2_leastGriefBehind_54 (by decide) ?_
          refine q_lv (lv' := [(0, .ref a_K), (1, .int p0), (2, .int p1), (3, .int x3_51), (4, .int (x4_h7 + (1 : Int32)))]) [1, 2, 3, 4, 0] rfl ?_
          exact ih x3_51 (x4_h7 + (1 : Int32)) h
        · intro K51 J51 h
          refine q_icmp_ne (pc := 26) (tgt := 51) F dX2_leastGriefBehind_26 (by decide) (fun c26 => ?_) (fun c26 => ?_)
          · have h := h.2 c26
            exact J51 x3_h7 h
          · have h := h.1 c26
            refine q_iload_n (pc := 29) F 3 dX2_leastGriefBehind_29 rfl ?_
            refine q_aload_n (pc := 30) F 0 dX2_leastGriefBehind_30 rfl ?_
            refine q_get (pc := 31) F fgX2_18 0 rfl rfl dX2_leastGriefBehind_31 ?_
            refine q_iload_n (pc := 34) F 1 dX2_leastGriefBehind_34 rfl ?_
            refine q_iload_n (pc := 35) F 2 dX2_leastGriefBehind_35 rfl ?_
            refine q_iconst (pc := 36) F (v := 1) dX2_leastGriefBehind_36 (by decide) ?_
            refine q_iload (pc := 37) F 4 dX2_leastGriefBehind_37 rfl ?_
            refine q_ishl (pc := 39) F dX2_leastGriefBehind_39 ?_
            refine q_iconst (pc := 40) F (v := -1) dX2_leastGriefBehind_40 (by decide) ?_
            refine q_ixor (pc := 41) F dX2_leastGriefBehind_41 ?_
            refine q_iand (pc := 42) F dX2_leastGriefBehind_42 ?_
            refine q_cR (q_runS (As := [.int p0, .int (p1 &&& ((jshl (1 : Int32) x4_h7) ^^^ (-1 : Int32)))]) (rest := [.ref a_K_griefs, .int x3_h7]) (pc := 43) F (fun l sz => ct_X2_placeIn D cI cZ p0 (p1 &&& ((jshl (1 : Int32) x4_h7) ^^^ (-1 : Int32))) h l sz) mc_yX2_placeIn sm_yX2_placeIn mlX2_99 ⟨by decide, by decide⟩ ⟨by decide, by decide⟩ ⟨rfl, rfl⟩ [] rfl rfl rfl rfl (Nat.le_of_ble_eq_true rfl) dX2_leastGriefBehind_43) (fun r43 h => ?_)
            obtain ⟨hi46, h⟩ := h
            refine q_iald (pc := 46) F 1 rfl hi46 dX2_leastGriefBehind_46 ?_
            refine q_mmin (pc := 47) F mlX2_60 sm_Lib_Math_min_name in_J9 cd_Lib_Math_min_name (by decide) (Nat.le_of_ble_eq_true rfl) (by decide) (by decide) dX2_leastGriefBehind_47 ?_
            refine q_topi (fun x3_50 ex3_50 => ?_)
            have h := h x3_50 ex3_50
            refine q_istore_n (pc := 50) F (lv' := [(3, .int x3_50), (0, .ref a_K), (1, .int p0), (2, .int p1), (4, .int x4_h7)]) dX2_leastGriefBehind_50 (by decide) rfl ?_
            refine q_lv (lv' := [(0, .ref a_K), (1, .int p0), (2, .int p1), (3, .int x3_50), (4, .int x4_h7)]) [1, 2, 3, 0, 4] rfl ?_
            exact J51 x3_50 h
  refine q_lv (lv' := [(0, .ref a_K), (1, .int p0), (2, .int p1), (3, .int (1000 : Int32)), (4, .int (0 : Int32))]) [2, 3, 4, 1, 0] rfl ?_
  exact lp7 n7 (1000 : Int32) (0 : Int32) h

def wp_X2_leastGrief_L47 (x1 : Int32) (x2 : Int32) (x3 : Int32) (k_griefs : Nat → Int32) (h_lamps : Int32) (h_people : Int32) (h_wish : Nat → Int32) (post : Int32 → Prop) : Nat → Int32 → Int32 → Prop
  | 0, _, _ => False
  | n + 1, x4, x5 => ((h_people ≤ x5 → post x4) ∧ (¬ h_people ≤ x5 → (wp_X4_bitOf x1 x5 (fun (r62 : Int32) => (jn (fun (K109 : Int32 → Prop) => ((r62 = (1 : Int32) → (vp_in x5 6 ∧ (∀ x6_84 : Int32, x6_84 = jabs ((h_wish (ix x5)) - x3) → (wp_X2_leastGriefBehind (x1 &&& ((jshl (1 : Int32) x5) ^^^ (-1 : Int32))) x2 k_griefs h_lamps (fun (r100 : Int32) => (∀ x4_107 : Int32, x4_107 = jmin x4 (x6_84 + r100) → K109 x4_107)))))) ∧ (¬ r62 = (1 : Int32) → K109 x4))) (fun (x4_109 : Int32) => wp_X2_leastGrief_L47 x1 x2 x3 k_griefs h_lamps h_people h_wish post n x4_109 (x5 + (1 : Int32))))))))
def wp_X2_leastGrief (p0 : Int32) (p1 : Int32) (k_griefs : Nat → Int32) (h_lamps : Int32) (h_people : Int32) (h_wish : Nat → Int32) (h_leavers : Nat → Int32) (post : Int32 → Prop) : Prop := ((p0 = (0 : Int32) → post (0 : Int32)) ∧ (¬ p0 = (0 : Int32) → (vp_in p1 128 ∧ (((p0 &&& ((h_leavers (ix p1)) ^^^ (-1 : Int32))) = (0 : Int32) → (wp_J6_bitCount_0f7a4 p0 (fun (r34 : Int32) => (∀ x3_38 : Int32, x3_38 = h_people - r34 → (∃ n47 : Nat, wp_X2_leastGrief_L47 p0 p1 x3_38 k_griefs h_lamps h_people h_wish post n47 (1000 : Int32) (0 : Int32)))))) ∧ (¬ (p0 &&& ((h_leavers (ix p1)) ^^^ (-1 : Int32))) = (0 : Int32) → post (1000 : Int32))))))
abbrev rm_X2_leastGrief : Room := { frames := 2, cells := 0, slots := 0, locals := 45 }
set_option maxRecDepth 100000 in
set_option maxHeartbeats 4000000 in
theorem ct_X2_leastGrief (D : va_G) (cI cZ : ClassId) (a_K a_H a_K_longest a_K_ways a_K_griefs a_K_wins a_H_lampCell a_H_lampReach a_H_shine a_H_personCell a_H_wish a_H_side a_H_light a_H_leavers : Nat) (k_tablesKnown : Int32) (k_chosenPerson : Int32) (k_chosenLamp : Int32) (k_griefs : Nat → Int32) (h_wide : Int32) (h_high : Int32) (h_walls : Int32) (h_doors : Int32) (h_law : Int32) (h_lamps : Int32) (h_people : Int32) (h_wish : Nat → Int32) (h_leavers : Nat → Int32) (p0 : Int32) (p1 : Int32) {post : Int32 → Prop} (h : wp_X2_leastGrief p0 p1 k_griefs h_lamps h_people h_wish h_leavers post) (l : Launch) (sz : Nat) : Met l yX2_leastGrief (wsM yX2_leastGrief cX2_leastGrief 7 (some .int)) rm_X2_leastGrief (va_Pc [.ref a_K, .int p0, .int p1] (gP D cI cZ [(a_K, .inr (2, [.ref a_H, .ref a_K_longest, .ref a_K_ways, .ref a_K_griefs, .ref a_K_wins, .int k_tablesKnown, .int k_chosenPerson, .int k_chosenLamp])), (a_K_griefs, .inl (cI, 4096, .inl k_griefs)), (a_H, .inr (0, [.int h_wide, .int h_high, .int h_walls, .int h_doors, .int h_law, .int h_lamps, .int h_people, .ref a_H_lampCell, .ref a_H_lampReach, .ref a_H_shine, .ref a_H_personCell, .ref a_H_wish, .ref a_H_side, .ref a_H_light, .ref a_H_leavers])), (a_H_wish, .inl (cI, 6, .inl h_wish)), (a_H_leavers, .inl (cI, 128, .inl h_leavers))] sz)) (gR post) 0 0 (fun _ => False) := by
  refine q_startR (own := RX2) (by decide +kernel) rfl (Nat.le_of_ble_eq_true rfl) (fun E F Z => ?_)
  show Wg E [(a_K, .inr (2, [.ref a_H, .ref a_K_longest, .ref a_K_ways, .ref a_K_griefs, .ref a_K_wins, .int k_tablesKnown, .int k_chosenPerson, .int k_chosenLamp])), (a_K_griefs, .inl (cI, 4096, .inl k_griefs)), (a_H, .inr (0, [.int h_wide, .int h_high, .int h_walls, .int h_doors, .int h_law, .int h_lamps, .int h_people, .ref a_H_lampCell, .ref a_H_lampReach, .ref a_H_shine, .ref a_H_personCell, .ref a_H_wish, .ref a_H_side, .ref a_H_light, .ref a_H_leavers])), (a_H_wish, .inl (cI, 6, .inl h_wish)), (a_H_leavers, .inl (cI, 128, .inl h_leavers))] 0 0 0 [(0, .ref a_K), (1, .int p0), (2, .int p1)] []
  unfold wp_X2_leastGrief at h
  refine q_iload_n (pc := 0) F 1 dX2_leastGrief_0 rfl ?_
  refine q_if_ne (pc := 1) (tgt := 6) F dX2_leastGrief_1 (by decide) (fun c1 => ?_) (fun c1 => ?_)
  · have h := h.2 c1
    refine q_iload_n (pc := 6) F 1 dX2_leastGrief_6 rfl ?_
    refine q_aload_n (pc := 7) F 0 dX2_leastGrief_7 rfl ?_
    refine q_get (pc := 8) F fgX2_24 0 rfl rfl dX2_leastGrief_8 ?_
    refine q_get (pc := 11) F fgX2_51 2 rfl rfl dX2_leastGrief_11 ?_
    refine q_iload_n (pc := 14) F 2 dX2_leastGrief_14 rfl ?_
    obtain ⟨hi15, h⟩ := h
    refine q_iald (pc := 15) F 4 rfl hi15 dX2_leastGrief_15 ?_
    refine q_iconst (pc := 16) F (v := -1) dX2_leastGrief_16 (by decide) ?_
    refine q_ixor (pc := 17) F dX2_leastGrief_17 ?_
    refine q_iand (pc := 18) F dX2_leastGrief_18 ?_
    refine q_if_eq (pc := 19) (tgt := 26) F dX2_leastGrief_19 (by decide) (fun c19 => ?_) (fun c19 => ?_)
    · have h := h.1 c19
      refine q_aload_n (pc := 26) F 0 dX2_leastGrief_26 rfl ?_
      refine q_get (pc := 27) F fgX2_24 0 rfl rfl dX2_leastGrief_27 ?_
      refine q_get (pc := 30) F fgX2_76 2 rfl rfl dX2_leastGrief_30 ?_
      refine q_iload_n (pc := 33) F 1 dX2_leastGrief_33 rfl ?_
      refine q_cR (q_runS (As := [.int p0]) (rest := [.int h_people]) (pc := 34) F (fun l sz => ct_J6_bitCount_0f7a4 D cI cZ p0 h l sz) mc_yJ6_bitCount_0f7a4 sm_yJ6_bitCount_0f7a4 mlX2_54 ⟨by decide, by decide⟩ ⟨by decide, by decide⟩ ⟨rfl, rfl⟩ [] rfl rfl rfl rfl (Nat.le_of_ble_eq_true rfl) dX2_leastGrief_34) (fun r34 h => ?_)
      refine q_isub (pc := 37) F dX2_leastGrief_37 ?_
      refine q_topi (fun x3_38 ex3_38 => ?_)
      have h := h x3_38 ex3_38
      refine q_istore_n (pc := 38) F (lv' := [(3, .int x3_38), (0, .ref a_K), (1, .int p0), (2, .int p1)]) dX2_leastGrief_38 (by decide) rfl ?_
      refine q_sipush (pc := 39) F (v := 1000) dX2_leastGrief_39 (by decide) ?_
      refine q_istore (pc := 42) F (lv' := [(4, .int (1000 : Int32)), (3, .int x3_38), (0, .ref a_K), (1, .int p0), (2, .int p1)]) dX2_leastGrief_42 (by decide) rfl ?_
      refine q_iconst (pc := 44) F (v := 0) dX2_leastGrief_44 (by decide) ?_
      refine q_istore (pc := 45) F (lv' := [(5, .int (0 : Int32)), (4, .int (1000 : Int32)), (3, .int x3_38), (0, .ref a_K), (1, .int p0), (2, .int p1)]) dX2_leastGrief_45 (by decide) rfl ?_
      obtain ⟨n47, h⟩ := h
      have lp47 : ∀ (n : Nat) (x4_h47 : Int32) (x5_h47 : Int32), wp_X2_leastGrief_L47 p0 p1 x3_38 k_griefs h_lamps h_people h_wish post n x4_h47 x5_h47 → Wg E [(a_K, .inr (2, [.ref a_H, .ref a_K_longest, .ref a_K_ways, .ref a_K_griefs, .ref a_K_wins, .int k_tablesKnown, .int k_chosenPerson, .int k_chosenLamp])), (a_K_griefs, .inl (cI, 4096, .inl k_griefs)), (a_H, .inr (0, [.int h_wide, .int h_high, .int h_walls, .int h_doors, .int h_law, .int h_lamps, .int h_people, .ref a_H_lampCell, .ref a_H_lampReach, .ref a_H_shine, .ref a_H_personCell, .ref a_H_wish, .ref a_H_side, .ref a_H_light, .ref a_H_leavers])), (a_H_wish, .inl (cI, 6, .inl h_wish)), (a_H_leavers, .inl (cI, 128, .inl h_leavers))] 0 0 47 [(0, .ref a_K), (1, .int p0), (2, .int p1), (3, .int x3_38), (4, .int x4_h47), (5, .int x5_h47)] [] := by
        intro n
        induction n with
        | zero => intro x4_h47 x5_h47 h; exact h.elim
        | succ n ih =>
          intro x4_h47 x5_h47 h
          unfold wp_X2_leastGrief_L47 at h
          refine q_iload (pc := 47) F 5 dX2_leastGrief_47 rfl ?_
          refine q_aload_n (pc := 49) F 0 dX2_leastGrief_49 rfl ?_
          refine q_get (pc := 50) F fgX2_24 0 rfl rfl dX2_leastGrief_50 ?_
          refine q_get (pc := 53) F fgX2_76 2 rfl rfl dX2_leastGrief_53 ?_
          refine q_icmp_ge (pc := 56) (tgt := 115) F dX2_leastGrief_56 (by decide) (fun c56 => ?_) (fun c56 => ?_)
          · have h := h.1 c56
            refine q_iload (pc := 115) F 4 dX2_leastGrief_115 rfl ?_
            exact q_iretR (pc := 117) F Z dX2_leastGrief_117 h
          · have h := h.2 c56
            refine q_iload_n (pc := 59) F 1 dX2_leastGrief_59 rfl ?_
            refine q_iload (pc := 60) F 5 dX2_leastGrief_60 rfl ?_
            refine q_cR (q_runSN (As := [.int p0, .int x5_h47]) (rest := []) (pc := 62) F (fun l sz => ct_X4_bitOf D cI cZ p0 x5_h47 h l sz) mc_yX4_bitOf sm_yX4_bitOf (fun U h => h.2.2.2.2.2.1) ⟨by decide, by decide⟩ ⟨by decide, by decide⟩ ⟨rfl, rfl⟩ [] rfl rfl rfl rfl (Nat.le_of_ble_eq_true rfl) dX2_leastGrief_62) (fun r62 h => ?_)
            refine q_iconst (pc := 65) F (v := 1) dX2_leastGrief_65 (by decide) ?_
            refine jnW h (fun K => ∀ (x4_109 : Int32), K x4_109 → Wg E [(a_K, .inr (2, [.ref a_H, .ref a_K_longest, .ref a_K_ways, .ref a_K_griefs, .ref a_K_wins, .int k_tablesKnown, .int k_chosenPerson, .int k_chosenLamp])), (a_K_griefs, .inl (cI, 4096, .inl k_griefs)), (a_H, .inr (0, [.int h_wide, .int h_high, .int h_walls, .int h_doors, .int h_law, .int h_lamps, .int h_people, .ref a_H_lampCell, .ref a_H_lampReach, .ref a_H_shine, .ref a_H_personCell, .ref a_H_wish, .ref a_H_side, .ref a_H_light, .ref a_H_leavers])), (a_H_wish, .inl (cI, 6, .inl h_wish)), (a_H_leavers, .inl (cI, 128, .inl h_leavers))] 0 0 109 [(0, .ref a_K), (1, .int p0), (2, .int p1), (3, .int x3_38), (4, .int x4_109), (5, .int x5_h47)] []) ?_ ?_
            · intro x4_109 h
              refine q_iinc (pc := 109) F (v := x5_h47 + (1 : Int32)) (lv' := [(5, .int (x5_h47 + (1 : Int32))), (0, .ref a_K), (1, .int p0), (2, .int p1), (3, .int x3_38), (4, .int x4_109)]) 5 dX2_leastGrief_109 rfl rfl (by decide) rfl ?_
              refine q_goto (pc := 112) (tgt := 47) F dX2_leastGrief_112 (by decide) ?_
              refine q_lv (lv' := [(0, .ref a_K), (1, .int p0), (2, .int p1), (3, .int x3_38), (4, .int x4_109), (5, .int (x5_h47 + (1 : Int32)))]) [1, 2, 3, 4, 5, 0] rfl ?_
              exact ih x4_109 (x5_h47 + (1 : Int32)) h
            · intro K109 J109 h
              refine q_icmp_ne (pc := 66) (tgt := 109) F dX2_leastGrief_66 (by decide) (fun c66 => ?_) (fun c66 => ?_)
              · have h := h.2 c66
                exact J109 x4_h47 h
              · have h := h.1 c66
                refine q_aload_n (pc := 69) F 0 dX2_leastGrief_69 rfl ?_
                refine q_get (pc := 70) F fgX2_24 0 rfl rfl dX2_leastGrief_70 ?_
                refine q_get (pc := 73) F fgX2_115 2 rfl rfl dX2_leastGrief_73 ?_
                refine q_iload (pc := 76) F 5 dX2_leastGrief_76 rfl ?_
                obtain ⟨hi78, h⟩ := h
                refine q_iald (pc := 78) F 3 rfl hi78 dX2_leastGrief_78 ?_
                refine q_iload_n (pc := 79) F 3 dX2_leastGrief_79 rfl ?_
                refine q_isub (pc := 80) F dX2_leastGrief_80 ?_
                refine q_mabs (pc := 81) F mlX2_118 sm_Lib_Math_abs_name in_J9 cd_Lib_Math_abs_name (by decide) (Nat.le_of_ble_eq_true rfl) (by decide) (by decide) dX2_leastGrief_81 ?_
                refine q_topi (fun x6_84 ex6_84 => ?_)
                have h := h x6_84 ex6_84
                refine q_istore (pc := 84) F (lv' := [(6, .int x6_84), (0, .ref a_K), (1, .int p0), (2, .int p1), (3, .int x3_38), (4, .int x4_h47), (5, .int x5_h47)]) dX2_leastGrief_84 (by decide) rfl ?_
                refine q_iload (pc := 86) F 5 dX2_leastGrief_86 rfl ?_
                refine q_iload (pc := 88) F 0 dX2_leastGrief_88 rfl ?_
                refine q_aload_n (pc := 90) F 1 dX2_leastGrief_90 rfl ?_
                refine q_iload_n (pc := 91) F 2 dX2_leastGrief_91 rfl ?_
                refine q_iconst (pc := 92) F (v := 1) dX2_leastGrief_92 (by decide) ?_
                refine q_iload (pc := 93) F 6 dX2_leastGrief_93 rfl ?_
                refine q_ishl (pc := 95) F dX2_leastGrief_95 ?_
                refine q_iconst (pc := 96) F (v := -1) dX2_leastGrief_96 (by decide) ?_
                refine q_ixor (pc := 97) F dX2_leastGrief_97 ?_
                refine q_iand (pc := 98) F dX2_leastGrief_98 ?_
                refine q_iload_n (pc := 99) F 3 dX2_leastGrief_99 rfl ?_
                refine q_cR (q_runV (As := [.int (p0 &&& ((jshl (1 : Int32) x5_h47) ^^^ (-1 : Int32))), .int p1]) (rest := [.int x6_84, .int x4_h47]) (pc := 100) F (fun l sz => ct_X2_leastGriefBehind D cI cZ a_K a_H a_K_longest a_K_ways a_K_griefs a_K_wins a_H_lampCell a_H_lampReach a_H_shine a_H_personCell a_H_wish a_H_side a_H_light a_H_leavers k_tablesKnown k_chosenPerson k_chosenLamp k_griefs h_wide h_high h_walls h_doors h_law h_lamps h_people (p0 &&& ((jshl (1 : Int32) x5_h47) ^^^ (-1 : Int32))) p1 h l sz) mc_yX2_leastGriefBehind im_yX2_leastGriefBehind se_yX2_leastGriefBehind mlX2_121 ⟨by decide, by decide⟩ ⟨by decide, by decide⟩ ⟨rfl, rfl⟩ [0, 1, 2] rfl rfl rfl 0 rfl rfl rfl (Nat.le_of_ble_eq_true rfl) dX2_leastGrief_100) (fun r100 h => ?_)
                refine q_iadd (pc := 103) F dX2_leastGrief_103 ?_
                refine q_mmin (pc := 104) F mlX2_60 sm_Lib_Math_min_name in_J9 cd_Lib_Math_min_name (by decide) (Nat.le_of_ble_eq_true rfl) (by decide) (by decide) dX2_leastGrief_104 ?_
                refine q_topi (fun x4_107 ex4_107 => ?_)
                have h := h x4_107 ex4_107
                refine q_istore (pc := 107) F (lv' := [(4, .int x4_107), (6, .int x6_84), (0, .ref a_K), (1, .int p0), (2, .int p1), (3, .int x3_38), (5, .int x5_h47)]) dX2_leastGrief_107 (by decide) rfl ?_
                refine q_lv (lv' := [(0, .ref a_K), (1, .int p0), (2, .int p1), (3, .int x3_38), (4, .int x4_107), (5, .int x5_h47)]) [2, 3, 4, 5, 0, 6] rfl ?_
                exact J109 x4_107 h
      refine q_lv (lv' := [(0, .ref a_K), (1, .int p0), (2, .int p1), (3, .int x3_38), (4, .int (1000 : Int32)), (5, .int (0 : Int32))]) [3, 4, 5, 2, 1, 0] rfl ?_
      exact lp47 n47 (1000 : Int32) (0 : Int32) h
    · have h := h.2 c19
      refine q_sipush (pc := 22) F (v := 1000) dX2_leastGrief_22 (by decide) ?_
      exact q_iretR (pc := 25) F Z dX2_leastGrief_25 h
  · have h := h.1 c1
    refine q_iconst (pc := 4) F (v := 0) dX2_leastGrief_4 (by decide) ?_
    exact q_iretR (pc := 5) F Z dX2_leastGrief_5 h

def wp_X2_canBeat_L3 (x1 : Int32) (x2 : Int32) (x3 : Int32) (k_wins : Nat → Int32) (h_lamps : Int32) (post : Int32 → Prop) : Nat → Int32 → Prop
  | 0, _ => False
  | n + 1, x4 => ((h_lamps ≤ x4 → post (0 : Int32)) ∧ (¬ h_lamps ≤ x4 → (wp_X4_bitOf x3 x4 (fun (r18 : Int32) => (jn (fun (K51 : Prop) => ((r18 = (1 : Int32) → (wp_X2_placeIn x2 (x3 &&& ((jshl (1 : Int32) x4) ^^^ (-1 : Int32))) (fun (r38 : Int32) => (vp_in r38 4096 ∧ (wp_X4_bitOf (k_wins (ix r38)) x1 (fun (r43 : Int32) => ((r43 = (0 : Int32) → post (1 : Int32)) ∧ (¬ r43 = (0 : Int32) → K51)))))))) ∧ (¬ r18 = (1 : Int32) → K51))) (wp_X2_canBeat_L3 x1 x2 x3 k_wins h_lamps post n (x4 + (1 : Int32))))))))
def wp_X2_canBeat (p0 : Int32) (p1 : Int32) (p2 : Int32) (k_wins : Nat → Int32) (h_lamps : Int32) (post : Int32 → Prop) : Prop := (∃ n3 : Nat, wp_X2_canBeat_L3 p0 p1 p2 k_wins h_lamps post n3 (0 : Int32))
abbrev rm_X2_canBeat : Room := { frames := 1, cells := 0, slots := 0, locals := 21 }
set_option maxRecDepth 100000 in
set_option maxHeartbeats 4000000 in
theorem ct_X2_canBeat (D : va_G) (cI cZ : ClassId) (a_K a_H a_K_longest a_K_ways a_K_griefs a_K_wins a_H_lampCell a_H_lampReach a_H_shine a_H_personCell a_H_wish a_H_side a_H_light a_H_leavers : Nat) (k_tablesKnown : Int32) (k_chosenPerson : Int32) (k_chosenLamp : Int32) (k_wins : Nat → Int32) (h_wide : Int32) (h_high : Int32) (h_walls : Int32) (h_doors : Int32) (h_law : Int32) (h_lamps : Int32) (h_people : Int32) (p0 : Int32) (p1 : Int32) (p2 : Int32) {post : Int32 → Prop} (h : wp_X2_canBeat p0 p1 p2 k_wins h_lamps post) (l : Launch) (sz : Nat) : Met l yX2_canBeat (wsM yX2_canBeat cX2_canBeat 5 (some .boolean)) rm_X2_canBeat (va_Pc [.ref a_K, .int p0, .int p1, .int p2] (gP D cI cZ [(a_K, .inr (2, [.ref a_H, .ref a_K_longest, .ref a_K_ways, .ref a_K_griefs, .ref a_K_wins, .int k_tablesKnown, .int k_chosenPerson, .int k_chosenLamp])), (a_K_wins, .inl (cI, 4096, .inl k_wins)), (a_H, .inr (0, [.int h_wide, .int h_high, .int h_walls, .int h_doors, .int h_law, .int h_lamps, .int h_people, .ref a_H_lampCell, .ref a_H_lampReach, .ref a_H_shine, .ref a_H_personCell, .ref a_H_wish, .ref a_H_side, .ref a_H_light, .ref a_H_leavers]))] sz)) (gR (fun r => isB r ∧ post r)) 0 0 (fun _ => False) := by
  refine q_startR (own := RX2) (by decide +kernel) rfl (Nat.le_of_ble_eq_true rfl) (fun E F Z => ?_)
  show Wg E [(a_K, .inr (2, [.ref a_H, .ref a_K_longest, .ref a_K_ways, .ref a_K_griefs, .ref a_K_wins, .int k_tablesKnown, .int k_chosenPerson, .int k_chosenLamp])), (a_K_wins, .inl (cI, 4096, .inl k_wins)), (a_H, .inr (0, [.int h_wide, .int h_high, .int h_walls, .int h_doors, .int h_law, .int h_lamps, .int h_people, .ref a_H_lampCell, .ref a_H_lampReach, .ref a_H_shine, .ref a_H_personCell, .ref a_H_wish, .ref a_H_side, .ref a_H_light, .ref a_H_leavers]))] 0 0 0 [(0, .ref a_K), (1, .int p0), (2, .int p1), (3, .int p2)] []
  unfold wp_X2_canBeat at h
  refine q_iconst (pc := 0) F (v := 0) dX2_canBeat_0 (by decide) ?_
  refine q_istore (pc := 1) F (lv' := [(4, .int (0 : Int32)), (0, .ref a_K), (1, .int p0), (2, .int p1), (3, .int p2)]) dX2_canBeat_1 (by decide) rfl ?_
  obtain ⟨n3, h⟩ := h
  have lp3 : ∀ (n : Nat) (x4_h3 : Int32), wp_X2_canBeat_L3 p0 p1 p2 k_wins h_lamps post n x4_h3 → Wg E [(a_K, .inr (2, [.ref a_H, .ref a_K_longest, .ref a_K_ways, .ref a_K_griefs, .ref a_K_wins, .int k_tablesKnown, .int k_chosenPerson, .int k_chosenLamp])), (a_K_wins, .inl (cI, 4096, .inl k_wins)), (a_H, .inr (0, [.int h_wide, .int h_high, .int h_walls, .int h_doors, .int h_law, .int h_lamps, .int h_people, .ref a_H_lampCell, .ref a_H_lampReach, .ref a_H_shine, .ref a_H_personCell, .ref a_H_wish, .ref a_H_side, .ref a_H_light, .ref a_H_leavers]))] 0 0 3 [(0, .ref a_K), (1, .int p0), (2, .int p1), (3, .int p2), (4, .int x4_h3)] [] := by
    intro n
    induction n with
    | zero => intro x4_h3 h; exact h.elim
    | succ n ih =>
      intro x4_h3 h
      unfold wp_X2_canBeat_L3 at h
      refine q_iload (pc := 3) F 4 dX2_canBeat_3 rfl ?_
      refine q_aload_n (pc := 5) F 0 dX2_canBeat_5 rfl ?_
      refine q_get (pc := 6) F fgX2_24 0 rfl rfl dX2_canBeat_6 ?_
      refine q_get (pc := 9) F fgX2_32 2 rfl rfl dX2_canBeat_9 ?_
      refine q_icmp_ge (pc := 12) (tgt := 57) F dX2_canBeat_12 (by decide) (fun c12 => ?_) (fun c12 => ?_)
      · have h := h.1 c12
        refine q_iconst (pc := 57) F (v := 0) dX2_canBeat_57 (by decide) ?_
        exact q_zretR (pc := 58) F Z dX2_canBeat_58 (Or.inl rfl) h
      · have h := h.2 c12
        refine q_iload_n (pc := 15) F 3 dX2_canBeat_15 rfl ?_
        refine q_iload (pc := 16) F 4 dX2_canBeat_16 rfl ?_
        refine q_cR (q_runSN (As := [.int p2, .int x4_h3]) (rest := []) (pc := 18) F (fun l sz => ct_X4_bitOf D cI cZ p2 x4_h3 h l sz) mc_yX4_bitOf sm_yX4_bitOf (fun U h => h.2.2.2.2.2.1) ⟨by decide, by decide⟩ ⟨by decide, by decide⟩ ⟨rfl, rfl⟩ [] rfl rfl rfl rfl (Nat.le_of_ble_eq_true rfl) dX2_canBeat_18) (fun r18 h => ?_)
        refine q_iconst (pc := 21) F (v := 1) dX2_canBeat_21 (by decide) ?_
        refine jnW h (fun K => K → Wg E [(a_K, .inr (2, [.ref a_H, .ref a_K_longest, .ref a_K_ways, .ref a_K_griefs, .ref a_K_wins, .int k_tablesKnown, .int k_chosenPerson, .int k_chosenLamp])), (a_K_wins, .inl (cI, 4096, .inl k_wins)), (a_H, .inr (0, [.int h_wide, .int h_high, .int h_walls, .int h_doors, .int h_law, .int h_lamps, .int h_people, .ref a_H_lampCell, .ref a_H_lampReach, .ref a_H_shine, .ref a_H_personCell, .ref a_H_wish, .ref a_H_side, .ref a_H_light, .ref a_H_leavers]))] 0 0 51 [(0, .ref a_K), (1, .int p0), (2, .int p1), (3, .int p2), (4, .int x4_h3)] []) ?_ ?_
        · intro h
          refine q_iinc (pc := 51) F (v := x4_h3 + (1 : Int32)) (lv' := [(4, .int (x4_h3 + (1 : Int32))), (0, .ref a_K), (1, .int p0), (2, .int p1), (3, .int p2)]) 4 dX2_canBeat_51 rfl rfl (by decide) rfl ?_
          refine q_goto (pc := 54) (tgt := 3) F dX2_canBeat_54 (by decide) ?_
          refine q_lv (lv' := [(0, .ref a_K), (1, .int p0), (2, .int p1), (3, .int p2), (4, .int (x4_h3 + (1 : Int32)))]) [1, 2, 3, 4, 0] rfl ?_
          exact ih (x4_h3 + (1 : Int32)) h
        · intro K51 J51 h
          refine q_icmp_ne (pc := 22) (tgt := 51) F dX2_canBeat_22 (by decide) (fun c22 => ?_) (fun c22 => ?_)
          · have h := h.2 c22
            exact J51 h
          · have h := h.1 c22
            refine q_aload_n (pc := 25) F 0 dX2_canBeat_25 rfl ?_
            refine q_get (pc := 26) F fgX2_21 0 rfl rfl dX2_canBeat_26 ?_
            refine q_iload_n (pc := 29) F 2 dX2_canBeat_29 rfl ?_
            refine q_iload_n (pc := 30) F 3 dX2_canBeat_30 rfl ?_
            refine q_iconst (pc := 31) F (v := 1) dX2_canBeat_31 (by decide) ?_
            refine q_iload (pc := 32) F 4 dX2_canBeat_32 rfl ?_
            refine q_ishl (pc := 34) F dX2_canBeat_34 ?_
            refine q_iconst (pc := 35) F (v := -1) dX2_canBeat_35 (by decide) ?_
            refine q_ixor (pc := 36) F dX2_canBeat_36 ?_
            refine q_iand (pc := 37) F dX2_canBeat_37 ?_
            refine q_cR (q_runS (As := [.int p1, .int (p2 &&& ((jshl (1 : Int32) x4_h3) ^^^ (-1 : Int32)))]) (rest := [.ref a_K_wins]) (pc := 38) F (fun l sz => ct_X2_placeIn D cI cZ p1 (p2 &&& ((jshl (1 : Int32) x4_h3) ^^^ (-1 : Int32))) h l sz) mc_yX2_placeIn sm_yX2_placeIn mlX2_99 ⟨by decide, by decide⟩ ⟨by decide, by decide⟩ ⟨rfl, rfl⟩ [] rfl rfl rfl rfl (Nat.le_of_ble_eq_true rfl) dX2_canBeat_38) (fun r38 h => ?_)
            obtain ⟨hi41, h⟩ := h
            refine q_iald (pc := 41) F 1 rfl hi41 dX2_canBeat_41 ?_
            refine q_iload_n (pc := 42) F 1 dX2_canBeat_42 rfl ?_
            refine q_cR (q_runSN (As := [.int (k_wins (ix r38)), .int p0]) (rest := []) (pc := 43) F (fun l sz => ct_X4_bitOf D cI cZ (k_wins (ix r38)) p0 h l sz) mc_yX4_bitOf sm_yX4_bitOf (fun U h => h.2.2.2.2.2.1) ⟨by decide, by decide⟩ ⟨by decide, by decide⟩ ⟨rfl, rfl⟩ [] rfl rfl rfl rfl (Nat.le_of_ble_eq_true rfl) dX2_canBeat_43) (fun r43 h => ?_)
            refine q_if_ne (pc := 46) (tgt := 51) F dX2_canBeat_46 (by decide) (fun c46 => ?_) (fun c46 => ?_)
            · have h := h.2 c46
              exact J51 h
            · have h := h.1 c46
              refine q_iconst (pc := 49) F (v := 1) dX2_canBeat_49 (by decide) ?_
              exact q_zretR (pc := 50) F Z dX2_canBeat_50 (Or.inr rfl) h
  refine q_lv (lv' := [(0, .ref a_K), (1, .int p0), (2, .int p1), (3, .int p2), (4, .int (0 : Int32))]) [1, 2, 3, 4, 0] rfl ?_
  exact lp3 n3 (0 : Int32) h

def wp_X2_sidesThatWin_L5 (x1 : Int32) (x2 : Int32) (k_wins : Nat → Int32) (h_lamps : Int32) (h_people : Int32) (h_side : Nat → Int32) (h_leavers : Nat → Int32) (post : Int32 → Prop) : Nat → Int32 → Int32 → Prop
  | 0, _, _ => False
  | n + 1, x3, x4 => ((h_people ≤ x4 → post x3) ∧ (¬ h_people ≤ x4 → (vp_in x4 6 ∧ (vp_in x2 128 ∧ (wp_X4_bitOf (x1 &&& (h_leavers (ix x2))) x4 (fun (r42 : Int32) => (jn (fun (K63 : Int32 → Prop) => (jn (fun (K62 : Prop) => ((r42 = (1 : Int32) → (wp_X4_bitOf x3 (h_side (ix x4)) (fun (r52 : Int32) => ((r52 = (0 : Int32) → K63 (1 : Int32)) ∧ (¬ r52 = (0 : Int32) → K62))))) ∧ (¬ r42 = (1 : Int32) → K62))) (K63 (0 : Int32)))) (fun (y63 : Int32) => (jn (fun (K97 : Int32 → Prop) => ((y63 = (0 : Int32) → K97 x3) ∧ (¬ y63 = (0 : Int32) → (wp_X2_canBeat ((1 : Int32) - (h_side (ix x4))) (x1 &&& ((jshl (1 : Int32) x4) ^^^ (-1 : Int32))) x2 k_wins h_lamps (fun (r84 : Int32) => ((r84 = (0 : Int32) → K97 x3) ∧ (¬ r84 = (0 : Int32) → (∀ x3_96 : Int32, x3_96 = x3 ||| (jshl (1 : Int32) (h_side (ix x4))) → K97 x3_96)))))))) (fun (x3_97 : Int32) => wp_X2_sidesThatWin_L5 x1 x2 k_wins h_lamps h_people h_side h_leavers post n x3_97 (x4 + (1 : Int32))))))))))))
def wp_X2_sidesThatWin (p0 : Int32) (p1 : Int32) (k_wins : Nat → Int32) (h_lamps : Int32) (h_people : Int32) (h_side : Nat → Int32) (h_leavers : Nat → Int32) (post : Int32 → Prop) : Prop := (∃ n5 : Nat, wp_X2_sidesThatWin_L5 p0 p1 k_wins h_lamps h_people h_side h_leavers post n5 (0 : Int32) (0 : Int32))
abbrev rm_X2_sidesThatWin : Room := { frames := 2, cells := 0, slots := 0, locals := 45 }
set_option maxRecDepth 100000 in
set_option maxHeartbeats 4000000 in
theorem ct_X2_sidesThatWin (D : va_G) (cI cZ : ClassId) (a_K a_H a_K_longest a_K_ways a_K_griefs a_K_wins a_H_lampCell a_H_lampReach a_H_shine a_H_personCell a_H_wish a_H_side a_H_light a_H_leavers : Nat) (k_tablesKnown : Int32) (k_chosenPerson : Int32) (k_chosenLamp : Int32) (k_wins : Nat → Int32) (h_wide : Int32) (h_high : Int32) (h_walls : Int32) (h_doors : Int32) (h_law : Int32) (h_lamps : Int32) (h_people : Int32) (h_side : Nat → Int32) (h_leavers : Nat → Int32) (p0 : Int32) (p1 : Int32) {post : Int32 → Prop} (h : wp_X2_sidesThatWin p0 p1 k_wins h_lamps h_people h_side h_leavers post) (l : Launch) (sz : Nat) : Met l yX2_sidesThatWin (wsM yX2_sidesThatWin cX2_sidesThatWin 7 (some .int)) rm_X2_sidesThatWin (va_Pc [.ref a_K, .int p0, .int p1] (gP D cI cZ [(a_K, .inr (2, [.ref a_H, .ref a_K_longest, .ref a_K_ways, .ref a_K_griefs, .ref a_K_wins, .int k_tablesKnown, .int k_chosenPerson, .int k_chosenLamp])), (a_K_wins, .inl (cI, 4096, .inl k_wins)), (a_H, .inr (0, [.int h_wide, .int h_high, .int h_walls, .int h_doors, .int h_law, .int h_lamps, .int h_people, .ref a_H_lampCell, .ref a_H_lampReach, .ref a_H_shine, .ref a_H_personCell, .ref a_H_wish, .ref a_H_side, .ref a_H_light, .ref a_H_leavers])), (a_H_side, .inl (cI, 6, .inl h_side)), (a_H_leavers, .inl (cI, 128, .inl h_leavers))] sz)) (gR post) 0 0 (fun _ => False) := by
  refine q_startR (own := RX2) (by decide +kernel) rfl (Nat.le_of_ble_eq_true rfl) (fun E F Z => ?_)
  show Wg E [(a_K, .inr (2, [.ref a_H, .ref a_K_longest, .ref a_K_ways, .ref a_K_griefs, .ref a_K_wins, .int k_tablesKnown, .int k_chosenPerson, .int k_chosenLamp])), (a_K_wins, .inl (cI, 4096, .inl k_wins)), (a_H, .inr (0, [.int h_wide, .int h_high, .int h_walls, .int h_doors, .int h_law, .int h_lamps, .int h_people, .ref a_H_lampCell, .ref a_H_lampReach, .ref a_H_shine, .ref a_H_personCell, .ref a_H_wish, .ref a_H_side, .ref a_H_light, .ref a_H_leavers])), (a_H_side, .inl (cI, 6, .inl h_side)), (a_H_leavers, .inl (cI, 128, .inl h_leavers))] 0 0 0 [(0, .ref a_K), (1, .int p0), (2, .int p1)] []
  unfold wp_X2_sidesThatWin at h
  refine q_iconst (pc := 0) F (v := 0) dX2_sidesThatWin_0 (by decide) ?_
  refine q_istore_n (pc := 1) F (lv' := [(3, .int (0 : Int32)), (0, .ref a_K), (1, .int p0), (2, .int p1)]) dX2_sidesThatWin_1 (by decide) rfl ?_
  refine q_iconst (pc := 2) F (v := 0) dX2_sidesThatWin_2 (by decide) ?_
  refine q_istore (pc := 3) F (lv' := [(4, .int (0 : Int32)), (3, .int (0 : Int32)), (0, .ref a_K), (1, .int p0), (2, .int p1)]) dX2_sidesThatWin_3 (by decide) rfl ?_
  obtain ⟨n5, h⟩ := h
  have lp5 : ∀ (n : Nat) (x3_h5 : Int32) (x4_h5 : Int32), wp_X2_sidesThatWin_L5 p0 p1 k_wins h_lamps h_people h_side h_leavers post n x3_h5 x4_h5 → Wg E [(a_K, .inr (2, [.ref a_H, .ref a_K_longest, .ref a_K_ways, .ref a_K_griefs, .ref a_K_wins, .int k_tablesKnown, .int k_chosenPerson, .int k_chosenLamp])), (a_K_wins, .inl (cI, 4096, .inl k_wins)), (a_H, .inr (0, [.int h_wide, .int h_high, .int h_walls, .int h_doors, .int h_law, .int h_lamps, .int h_people, .ref a_H_lampCell, .ref a_H_lampReach, .ref a_H_shine, .ref a_H_personCell, .ref a_H_wish, .ref a_H_side, .ref a_H_light, .ref a_H_leavers])), (a_H_side, .inl (cI, 6, .inl h_side)), (a_H_leavers, .inl (cI, 128, .inl h_leavers))] 0 0 5 [(0, .ref a_K), (1, .int p0), (2, .int p1), (3, .int x3_h5), (4, .int x4_h5)] [] := by
    intro n
    induction n with
    | zero => intro x3_h5 x4_h5 h; exact h.elim
    | succ n ih =>
      intro x3_h5 x4_h5 h
      unfold wp_X2_sidesThatWin_L5 at h
      refine q_iload (pc := 5) F 4 dX2_sidesThatWin_5 rfl ?_
      refine q_aload_n (pc := 7) F 0 dX2_sidesThatWin_7 rfl ?_
      refine q_get (pc := 8) F fgX2_24 0 rfl rfl dX2_sidesThatWin_8 ?_
      refine q_get (pc := 11) F fgX2_76 2 rfl rfl dX2_sidesThatWin_11 ?_
      refine q_icmp_ge (pc := 14) (tgt := 103) F dX2_sidesThatWin_14 (by decide) (fun c14 => ?_) (fun c14 => ?_)
      · have h := h.1 c14
        refine q_iload_n (pc := 103) F 3 dX2_sidesThatWin_103 rfl ?_
        exact q_iretR (pc := 104) F Z dX2_sidesThatWin_104 h
      · have h := h.2 c14
        refine q_aload_n (pc := 17) F 0 dX2_sidesThatWin_17 rfl ?_
        refine q_get (pc := 18) F fgX2_24 0 rfl rfl dX2_sidesThatWin_18 ?_
        refine q_get (pc := 21) F fgX2_124 2 rfl rfl dX2_sidesThatWin_21 ?_
        refine q_iload (pc := 24) F 4 dX2_sidesThatWin_24 rfl ?_
        obtain ⟨hi26, h⟩ := h
        refine q_iald (pc := 26) F 3 rfl hi26 dX2_sidesThatWin_26 ?_
        refine q_istore (pc := 27) F (lv' := [(5, .int (h_side (ix x4_h5))), (0, .ref a_K), (1, .int p0), (2, .int p1), (3, .int x3_h5), (4, .int x4_h5)]) dX2_sidesThatWin_27 (by decide) rfl ?_
        refine q_iload_n (pc := 29) F 2 dX2_sidesThatWin_29 rfl ?_
        refine q_aload_n (pc := 30) F 1 dX2_sidesThatWin_30 rfl ?_
        refine q_get (pc := 31) F fgX2_24 0 rfl rfl dX2_sidesThatWin_31 ?_
        refine q_get (pc := 34) F fgX2_51 2 rfl rfl dX2_sidesThatWin_34 ?_
        refine q_iload_n (pc := 37) F 3 dX2_sidesThatWin_37 rfl ?_
        obtain ⟨hi38, h⟩ := h
        refine q_iald (pc := 38) F 4 rfl hi38 dX2_sidesThatWin_38 ?_
        refine q_iand (pc := 39) F dX2_sidesThatWin_39 ?_
        refine q_iload (pc := 40) F 5 dX2_sidesThatWin_40 rfl ?_
        refine q_cR (q_runSN (As := [.int (p0 &&& (h_leavers (ix p1))), .int x4_h5]) (rest := []) (pc := 42) F (fun l sz => ct_X4_bitOf D cI cZ (p0 &&& (h_leavers (ix p1))) x4_h5 h l sz) mc_yX4_bitOf sm_yX4_bitOf (fun U h => h.2.2.2.2.2.1) ⟨by decide, by decide⟩ ⟨by decide, by decide⟩ ⟨rfl, rfl⟩ [] rfl rfl rfl rfl (Nat.le_of_ble_eq_true rfl) dX2_sidesThatWin_42) (fun r42 h => ?_)
        refine q_iconst (pc := 45) F (v := 1) dX2_sidesThatWin_45 (by decide) ?_
        refine jnW h (fun K => ∀ (y63 : Int32), K y63 → Wg E [(a_K, .inr (2, [.ref a_H, .ref a_K_longest, .ref a_K_ways, .ref a_K_griefs, .ref a_K_wins, .int k_tablesKnown, .int k_chosenPerson, .int k_chosenLamp])), (a_K_wins, .inl (cI, 4096, .inl k_wins)), (a_H, .inr (0, [.int h_wide, .int h_high, .int h_walls, .int h_doors, .int h_law, .int h_lamps, .int h_people, .ref a_H_lampCell, .ref a_H_lampReach, .ref a_H_shine, .ref a_H_personCell, .ref a_H_wish, .ref a_H_side, .ref a_H_light, .ref a_H_leavers])), (a_H_side, .inl (cI, 6, .inl h_side)), (a_H_leavers, .inl (cI, 128, .inl h_leavers))] 0 0 63 [(0, .ref a_K), (1, .int p0), (2, .int p1), (3, .int x3_h5), (4, .int x4_h5), (5, .int (h_side (ix x4_h5)))] [.int y63]) ?_ ?_
        · intro y63 h
          refine q_istore (pc := 63) F (lv' := [(6, .int y63), (0, .ref a_K), (1, .int p0), (2, .int p1), (3, .int x3_h5), (4, .int x4_h5), (5, .int (h_side (ix x4_h5)))]) dX2_sidesThatWin_63 (by decide) rfl ?_
          refine q_iload (pc := 65) F 0 dX2_sidesThatWin_65 rfl ?_
          refine jnW h (fun K => ∀ (x3_97 : Int32), K x3_97 → Wg E [(a_K, .inr (2, [.ref a_H, .ref a_K_longest, .ref a_K_ways, .ref a_K_griefs, .ref a_K_wins, .int k_tablesKnown, .int k_chosenPerson, .int k_chosenLamp])), (a_K_wins, .inl (cI, 4096, .inl k_wins)), (a_H, .inr (0, [.int h_wide, .int h_high, .int h_walls, .int h_doors, .int h_law, .int h_lamps, .int h_people, .ref a_H_lampCell, .ref a_H_lampReach, .ref a_H_shine, .ref a_H_personCell, .ref a_H_wish, .ref a_H_side, .ref a_H_light, .ref a_H_leavers])), (a_H_side, .inl (cI, 6, .inl h_side)), (a_H_leavers, .inl (cI, 128, .inl h_leavers))] 0 0 97 [(0, .ref a_K), (1, .int p0), (2, .int p1), (3, .int x3_97), (4, .int x4_h5)] []) ?_ ?_
          · intro x3_97 h
            refine q_iinc (pc := 97) F (v := x4_h5 + (1 : Int32)) (lv' := [(4, .int (x4_h5 + (1 : Int32))), (0, .ref a_K), (1, .int p0), (2, .int p1), (3, .int x3_97)]) 4 dX2_sidesThatWin_97 rfl rfl (by decide) rfl ?_
            refine q_goto (pc := 100) (tgt := 5) F dX2_sidesThatWin_100 (by decide) ?_
            refine q_lv (lv' := [(0, .ref a_K), (1, .int p0), (2, .int p1), (3, .int x3_97), (4, .int (x4_h5 + (1 : Int32)))]) [1, 2, 3, 4, 0] rfl ?_
            exact ih x3_97 (x4_h5 + (1 : Int32)) h
          · intro K97 J97 h
            refine q_if_eq (pc := 67) (tgt := 97) F dX2_sidesThatWin_67 (by decide) (fun c67 => ?_) (fun c67 => ?_)
            · have h := h.1 c67
              refine q_lv (lv' := [(0, .ref a_K), (1, .int p0), (2, .int p1), (3, .int x3_h5), (4, .int x4_h5)]) [1, 2, 3, 4, 5] rfl ?_
              exact J97 x3_h5 h
            · have h := h.2 c67
              refine q_aload_n (pc := 70) F 1 dX2_sidesThatWin_70 rfl ?_
              refine q_iconst (pc := 71) F (v := 1) dX2_sidesThatWin_71 (by decide) ?_
              refine q_iload (pc := 72) F 6 dX2_sidesThatWin_72 rfl ?_
              refine q_isub (pc := 74) F dX2_sidesThatWin_74 ?_
              refine q_iload_n (pc := 75) F 2 dX2_sidesThatWin_75 rfl ?_
              refine q_iconst (pc := 76) F (v := 1) dX2_sidesThatWin_76 (by decide) ?_
              refine q_iload (pc := 77) F 5 dX2_sidesThatWin_77 rfl ?_
              refine q_ishl (pc := 79) F dX2_sidesThatWin_79 ?_
              refine q_iconst (pc := 80) F (v := -1) dX2_sidesThatWin_80 (by decide) ?_
              refine q_ixor (pc := 81) F dX2_sidesThatWin_81 ?_
              refine q_iand (pc := 82) F dX2_sidesThatWin_82 ?_
              refine q_iload_n (pc := 83) F 3 dX2_sidesThatWin_83 rfl ?_
              refine q_cR (q_runV (As := [.int ((1 : Int32) - (h_side (ix x4_h5))), .int (p0 &&& ((jshl (1 : Int32) x4_h5) ^^^ (-1 : Int32))), .int p1]) (rest := []) (pc := 84) F (fun l sz => ct_X2_canBeat D cI cZ a_K a_H a_K_longest a_K_ways a_K_griefs a_K_wins a_H_lampCell a_H_lampReach a_H_shine a_H_personCell a_H_wish a_H_side a_H_light a_H_leavers k_tablesKnown k_chosenPerson k_chosenLamp k_wins h_wide h_high h_walls h_doors h_law h_lamps h_people ((1 : Int32) - (h_side (ix x4_h5))) (p0 &&& ((jshl (1 : Int32) x4_h5) ^^^ (-1 : Int32))) p1 h l sz) mc_yX2_canBeat im_yX2_canBeat se_yX2_canBeat mlX2_127 ⟨by decide, by decide⟩ ⟨by decide, by decide⟩ ⟨rfl, rfl⟩ [0, 1, 2] rfl rfl rfl 0 rfl rfl rfl (Nat.le_of_ble_eq_true rfl) dX2_sidesThatWin_84) (fun r84 h => ?_)
              obtain ⟨hb84, h⟩ := h
              refine q_if_eq (pc := 87) (tgt := 97) F dX2_sidesThatWin_87 (by decide) (fun c87 => ?_) (fun c87 => ?_)
              · have h := h.1 c87
                refine q_lv (lv' := [(0, .ref a_K), (1, .int p0), (2, .int p1), (3, .int x3_h5), (4, .int x4_h5)]) [1, 2, 3, 4, 5] rfl ?_
                exact J97 x3_h5 h
              · have h := h.2 c87
                refine q_iload_n (pc := 90) F 4 dX2_sidesThatWin_90 rfl ?_
                refine q_iconst (pc := 91) F (v := 1) dX2_sidesThatWin_91 (by decide) ?_
                refine q_iload (pc := 92) F 6 dX2_sidesThatWin_92 rfl ?_
                refine q_ishl (pc := 94) F dX2_sidesThatWin_94 ?_
                refine q_ior (pc := 95) F dX2_sidesThatWin_95 ?_
                refine q_topi (fun x3_96 ex3_96 => ?_)
                have h := h x3_96 ex3_96
                refine q_istore_n (pc := 96) F (lv' := [(3, .int x3_96), (6, .int y63), (0, .ref a_K), (1, .int p0), (2, .int p1), (4, .int x4_h5), (5, .int (h_side (ix x4_h5)))]) dX2_sidesThatWin_96 (by decide) rfl ?_
                refine q_lv (lv' := [(0, .ref a_K), (1, .int p0), (2, .int p1), (3, .int x3_96), (4, .int x4_h5)]) [2, 3, 4, 0, 5] rfl ?_
                exact J97 x3_96 h
        · intro K63 J63 h
          refine jnW h (fun K => K → Wg E [(a_K, .inr (2, [.ref a_H, .ref a_K_longest, .ref a_K_ways, .ref a_K_griefs, .ref a_K_wins, .int k_tablesKnown, .int k_chosenPerson, .int k_chosenLamp])), (a_K_wins, .inl (cI, 4096, .inl k_wins)), (a_H, .inr (0, [.int h_wide, .int h_high, .int h_walls, .int h_doors, .int h_law, .int h_lamps, .int h_people, .ref a_H_lampCell, .ref a_H_lampReach, .ref a_H_shine, .ref a_H_personCell, .ref a_H_wish, .ref a_H_side, .ref a_H_light, .ref a_H_leavers])), (a_H_side, .inl (cI, 6, .inl h_side)), (a_H_leavers, .inl (cI, 128, .inl h_leavers))] 0 0 62 [(0, .ref a_K), (1, .int p0), (2, .int p1), (3, .int x3_h5), (4, .int x4_h5), (5, .int (h_side (ix x4_h5)))] []) ?_ ?_
          · intro h
            refine q_iconst (pc := 62) F (v := 0) dX2_sidesThatWin_62 (by decide) ?_
            exact J63 (0 : Int32) h
          · intro K62 J62 h
            refine q_icmp_ne (pc := 46) (tgt := 62) F dX2_sidesThatWin_46 (by decide) (fun c46 => ?_) (fun c46 => ?_)
            · have h := h.2 c46
              refine q_lv (lv' := [(0, .ref a_K), (1, .int p0), (2, .int p1), (3, .int x3_h5), (4, .int x4_h5), (5, .int (h_side (ix x4_h5)))]) [1, 2, 3, 4, 5, 0] rfl ?_
              exact J62 h
            · have h := h.1 c46
              refine q_iload_n (pc := 49) F 4 dX2_sidesThatWin_49 rfl ?_
              refine q_iload (pc := 50) F 0 dX2_sidesThatWin_50 rfl ?_
              refine q_cR (q_runSN (As := [.int x3_h5, .int (h_side (ix x4_h5))]) (rest := []) (pc := 52) F (fun l sz => ct_X4_bitOf D cI cZ x3_h5 (h_side (ix x4_h5)) h l sz) mc_yX4_bitOf sm_yX4_bitOf (fun U h => h.2.2.2.2.2.1) ⟨by decide, by decide⟩ ⟨by decide, by decide⟩ ⟨rfl, rfl⟩ [] rfl rfl rfl rfl (Nat.le_of_ble_eq_true rfl) dX2_sidesThatWin_52) (fun r52 h => ?_)
              refine q_if_ne (pc := 55) (tgt := 62) F dX2_sidesThatWin_55 (by decide) (fun c55 => ?_) (fun c55 => ?_)
              · have h := h.2 c55
                refine q_lv (lv' := [(0, .ref a_K), (1, .int p0), (2, .int p1), (3, .int x3_h5), (4, .int x4_h5), (5, .int (h_side (ix x4_h5)))]) [1, 2, 3, 4, 5, 0] rfl ?_
                exact J62 h
              · have h := h.1 c55
                refine q_iconst (pc := 58) F (v := 1) dX2_sidesThatWin_58 (by decide) ?_
                refine q_goto (pc := 59) (tgt := 63) F dX2_sidesThatWin_59 (by decide) ?_
                refine q_lv (lv' := [(0, .ref a_K), (1, .int p0), (2, .int p1), (3, .int x3_h5), (4, .int x4_h5), (5, .int (h_side (ix x4_h5)))]) [1, 2, 3, 4, 5, 0] rfl ?_
                exact J63 (1 : Int32) h
  refine q_lv (lv' := [(0, .ref a_K), (1, .int p0), (2, .int p1), (3, .int (0 : Int32)), (4, .int (0 : Int32))]) [2, 3, 4, 1, 0] rfl ?_
  exact lp5 n5 (0 : Int32) (0 : Int32) h

def wp_X2_fillTables_L49 (x1 : Int32) (x2 : Int32) (h_lamps : Int32) (h_people : Int32) (h_wish : Nat → Int32) (h_side : Nat → Int32) (h_leavers : Nat → Int32) (K106 : (Nat → Int32) → (Nat → Int32) → Prop) : Nat → Int32 → (Nat → Int32) → (Nat → Int32) → Prop
  | 0, _, _, _ => False
  | n + 1, x3, k_griefs, k_wins => (wp_X0_allLamps h_lamps (fun (r54 : Int32) => ((r54 < x3 → K106 k_griefs k_wins) ∧ (¬ r54 < x3 → (wp_J6_bitCount_0f7a4 x3 (fun (r61 : Int32) => (jn (fun (K100 : (Nat → Int32) → (Nat → Int32) → Prop) => ((r61 = x2 → (wp_X2_placeIn x1 x3 (fun (r74 : Int32) => (wp_X2_leastGrief x1 x3 k_griefs h_lamps h_people h_wish h_leavers (fun (r80 : Int32) => (vp_in r74 4096 ∧ (wp_X2_placeIn x1 x3 (fun (r90 : Int32) => (wp_X2_sidesThatWin x1 x3 k_wins h_lamps h_people h_side h_leavers (fun (r96 : Int32) => (vp_in r90 4096 ∧ K100 (upd k_griefs (ix r74) r80) (upd k_wins (ix r90) r96)))))))))))) ∧ (¬ r61 = x2 → K100 k_griefs k_wins))) (fun (k_griefs_100 : Nat → Int32) (k_wins_100 : Nat → Int32) => wp_X2_fillTables_L49 x1 x2 h_lamps h_people h_wish h_side h_leavers K106 n (x3 + (1 : Int32)) k_griefs_100 k_wins_100))))))))
def wp_X2_fillTables_L15 (k_tablesKnown : Int32) (h_lamps : Int32) (h_people : Int32) (h_wish : Nat → Int32) (h_side : Nat → Int32) (h_leavers : Nat → Int32) (post : (Nat → Int32) → (Nat → Int32) → Int32 → Prop) : Nat → Int32 → (Nat → Int32) → (Nat → Int32) → Prop
  | 0, _, _, _ => False
  | n + 1, x1, k_griefs, k_wins => (wp_X0_allPeople h_people (fun (r20 : Int32) => ((r20 < x1 → post k_griefs k_wins k_tablesKnown) ∧ (¬ r20 < x1 → (wp_J6_bitCount_0f7a4 x1 (fun (r42 : Int32) => (∀ x2_46 : Int32, x2_46 = (h_lamps - h_people) + r42 → (jn (fun (K106 : (Nat → Int32) → (Nat → Int32) → Prop) => (∃ n49 : Nat, wp_X2_fillTables_L49 x1 x2_46 h_lamps h_people h_wish h_side h_leavers K106 n49 (0 : Int32) k_griefs k_wins)) (fun (k_griefs_106 : Nat → Int32) (k_wins_106 : Nat → Int32) => wp_X2_fillTables_L15 k_tablesKnown h_lamps h_people h_wish h_side h_leavers post n (x1 + (1 : Int32)) k_griefs_106 k_wins_106)))))))))
def wp_X2_fillTables (k_griefs : Nat → Int32) (k_wins : Nat → Int32) (k_tablesKnown : Int32) (h_lamps : Int32) (h_people : Int32) (h_wish : Nat → Int32) (h_side : Nat → Int32) (h_leavers : Nat → Int32) (post : (Nat → Int32) → (Nat → Int32) → Int32 → Prop) : Prop := ((k_tablesKnown = (0 : Int32) → (∃ n15 : Nat, wp_X2_fillTables_L15 (1 : Int32) h_lamps h_people h_wish h_side h_leavers post n15 (0 : Int32) k_griefs k_wins)) ∧ (¬ k_tablesKnown = (0 : Int32) → post k_griefs k_wins k_tablesKnown))
abbrev rm_X2_fillTables : Room := { frames := 3, cells := 0, slots := 0, locals := 71 }
set_option maxRecDepth 100000 in
set_option maxHeartbeats 4000000 in
theorem ct_X2_fillTables (D : va_G) (cI cZ : ClassId) (a_K a_H a_K_longest a_K_ways a_K_griefs a_K_wins a_H_lampCell a_H_lampReach a_H_shine a_H_personCell a_H_wish a_H_side a_H_light a_H_leavers : Nat) (k_tablesKnown : Int32) (k_chosenPerson : Int32) (k_chosenLamp : Int32) (k_griefs : Nat → Int32) (k_wins : Nat → Int32) (h_wide : Int32) (h_high : Int32) (h_walls : Int32) (h_doors : Int32) (h_law : Int32) (h_lamps : Int32) (h_people : Int32) (h_wish : Nat → Int32) (h_side : Nat → Int32) (h_leavers : Nat → Int32) {post : (Nat → Int32) → (Nat → Int32) → Int32 → Prop} (h : wp_X2_fillTables k_griefs k_wins k_tablesKnown h_lamps h_people h_wish h_side h_leavers post) (l : Launch) (sz : Nat) : Met l yX2_fillTables (wsM yX2_fillTables cX2_fillTables 4 none) rm_X2_fillTables (va_Pc [.ref a_K] (gP D cI cZ [(a_K, .inr (2, [.ref a_H, .ref a_K_longest, .ref a_K_ways, .ref a_K_griefs, .ref a_K_wins, .int k_tablesKnown, .int k_chosenPerson, .int k_chosenLamp])), (a_K_griefs, .inl (cI, 4096, .inl k_griefs)), (a_K_wins, .inl (cI, 4096, .inl k_wins)), (a_H, .inr (0, [.int h_wide, .int h_high, .int h_walls, .int h_doors, .int h_law, .int h_lamps, .int h_people, .ref a_H_lampCell, .ref a_H_lampReach, .ref a_H_shine, .ref a_H_personCell, .ref a_H_wish, .ref a_H_side, .ref a_H_light, .ref a_H_leavers])), (a_H_wish, .inl (cI, 6, .inl h_wish)), (a_H_side, .inl (cI, 6, .inl h_side)), (a_H_leavers, .inl (cI, 128, .inl h_leavers))] sz)) (gQv D (fun (u : (Nat → Int32) × (Nat → Int32) × Int32) => post u.1 u.2.1 u.2.2) (fun (u : (Nat → Int32) × (Nat → Int32) × Int32) => [(a_K, .inr (2, [.ref a_H, .ref a_K_longest, .ref a_K_ways, .ref a_K_griefs, .ref a_K_wins, .int u.2.2, .int k_chosenPerson, .int k_chosenLamp])), (a_K_griefs, .inl (cI, 4096, .inl u.1)), (a_K_wins, .inl (cI, 4096, .inl u.2.1)), (a_H, .inr (0, [.int h_wide, .int h_high, .int h_walls, .int h_doors, .int h_law, .int h_lamps, .int h_people, .ref a_H_lampCell, .ref a_H_lampReach, .ref a_H_shine, .ref a_H_personCell, .ref a_H_wish, .ref a_H_side, .ref a_H_light, .ref a_H_leavers])), (a_H_wish, .inl (cI, 6, .inl h_wish)), (a_H_side, .inl (cI, 6, .inl h_side)), (a_H_leavers, .inl (cI, 128, .inl h_leavers))]) [(a_K, .inr (2, [.ref a_H, .ref a_K_longest, .ref a_K_ways, .ref a_K_griefs, .ref a_K_wins, .int k_tablesKnown, .int k_chosenPerson, .int k_chosenLamp])), (a_K_griefs, .inl (cI, 4096, .inl k_griefs)), (a_K_wins, .inl (cI, 4096, .inl k_wins)), (a_H, .inr (0, [.int h_wide, .int h_high, .int h_walls, .int h_doors, .int h_law, .int h_lamps, .int h_people, .ref a_H_lampCell, .ref a_H_lampReach, .ref a_H_shine, .ref a_H_personCell, .ref a_H_wish, .ref a_H_side, .ref a_H_light, .ref a_H_leavers])), (a_H_wish, .inl (cI, 6, .inl h_wish)), (a_H_side, .inl (cI, 6, .inl h_side)), (a_H_leavers, .inl (cI, 128, .inl h_leavers))] sz) 0 0 (va_A [(a_K, .inr (2, [.ref a_H, .ref a_K_longest, .ref a_K_ways, .ref a_K_griefs, .ref a_K_wins, .int k_tablesKnown, .int k_chosenPerson, .int k_chosenLamp])), (a_K_griefs, .inl (cI, 4096, .inl k_griefs)), (a_K_wins, .inl (cI, 4096, .inl k_wins)), (a_H, .inr (0, [.int h_wide, .int h_high, .int h_walls, .int h_doors, .int h_law, .int h_lamps, .int h_people, .ref a_H_lampCell, .ref a_H_lampReach, .ref a_H_shine, .ref a_H_personCell, .ref a_H_wish, .ref a_H_side, .ref a_H_light, .ref a_H_leavers])), (a_H_wish, .inl (cI, 6, .inl h_wish)), (a_H_side, .inl (cI, 6, .inl h_side)), (a_H_leavers, .inl (cI, 128, .inl h_leavers))] sz) := by
  refine q_startM (own := RX2) (Qc := gQv D (fun (u : (Nat → Int32) × (Nat → Int32) × Int32) => post u.1 u.2.1 u.2.2) (fun (u : (Nat → Int32) × (Nat → Int32) × Int32) => [(a_K, .inr (2, [.ref a_H, .ref a_K_longest, .ref a_K_ways, .ref a_K_griefs, .ref a_K_wins, .int u.2.2, .int k_chosenPerson, .int k_chosenLamp])), (a_K_griefs, .inl (cI, 4096, .inl u.1)), (a_K_wins, .inl (cI, 4096, .inl u.2.1)), (a_H, .inr (0, [.int h_wide, .int h_high, .int h_walls, .int h_doors, .int h_law, .int h_lamps, .int h_people, .ref a_H_lampCell, .ref a_H_lampReach, .ref a_H_shine, .ref a_H_personCell, .ref a_H_wish, .ref a_H_side, .ref a_H_light, .ref a_H_leavers])), (a_H_wish, .inl (cI, 6, .inl h_wish)), (a_H_side, .inl (cI, 6, .inl h_side)), (a_H_leavers, .inl (cI, 128, .inl h_leavers))]) [(a_K, .inr (2, [.ref a_H, .ref a_K_longest, .ref a_K_ways, .ref a_K_griefs, .ref a_K_wins, .int k_tablesKnown, .int k_chosenPerson, .int k_chosenLamp])), (a_K_griefs, .inl (cI, 4096, .inl k_griefs)), (a_K_wins, .inl (cI, 4096, .inl k_wins)), (a_H, .inr (0, [.int h_wide, .int h_high, .int h_walls, .int h_doors, .int h_law, .int h_lamps, .int h_people, .ref a_H_lampCell, .ref a_H_lampReach, .ref a_H_shine, .ref a_H_personCell, .ref a_H_wish, .ref a_H_side, .ref a_H_light, .ref a_H_leavers])), (a_H_wish, .inl (cI, 6, .inl h_wish)), (a_H_side, .inl (cI, 6, .inl h_side)), (a_H_leavers, .inl (cI, 128, .inl h_leavers))]) (by decide +kernel) rfl (Nat.le_of_ble_eq_true rfl) (fun E F Z M => ?_)
  show Wg E [(a_K, .inr (2, [.ref a_H, .ref a_K_longest, .ref a_K_ways, .ref a_K_griefs, .ref a_K_wins, .int k_tablesKnown, .int k_chosenPerson, .int k_chosenLamp])), (a_K_griefs, .inl (cI, 4096, .inl k_griefs)), (a_K_wins, .inl (cI, 4096, .inl k_wins)), (a_H, .inr (0, [.int h_wide, .int h_high, .int h_walls, .int h_doors, .int h_law, .int h_lamps, .int h_people, .ref a_H_lampCell, .ref a_H_lampReach, .ref a_H_shine, .ref a_H_personCell, .ref a_H_wish, .ref a_H_side, .ref a_H_light, .ref a_H_leavers])), (a_H_wish, .inl (cI, 6, .inl h_wish)), (a_H_side, .inl (cI, 6, .inl h_side)), (a_H_leavers, .inl (cI, 128, .inl h_leavers))] 0 0 0 [(0, .ref a_K)] []
  unfold wp_X2_fillTables at h
  refine q_aload_n (pc := 0) F 0 dX2_fillTables_0 rfl ?_
  refine q_get (pc := 1) F fgX2_28 0 rfl rfl dX2_fillTables_1 ?_
  refine q_if_eq (pc := 4) (tgt := 8) F dX2_fillTables_4 (by decide) (fun c4 => ?_) (fun c4 => ?_)
  · have h := h.1 c4
    refine q_aload_n (pc := 8) F 0 dX2_fillTables_8 rfl ?_
    refine q_iconst (pc := 9) F (v := 1) dX2_fillTables_9 (by decide) ?_
    refine q_put (pc := 10) F M (cs' := [(a_K, .inr (2, [.ref a_H, .ref a_K_longest, .ref a_K_ways, .ref a_K_griefs, .ref a_K_wins, .int (1 : Int32), .int k_chosenPerson, .int k_chosenLamp])), (a_K_griefs, .inl (cI, 4096, .inl k_griefs)), (a_K_wins, .inl (cI, 4096, .inl k_wins)), (a_H, .inr (0, [.int h_wide, .int h_high, .int h_walls, .int h_doors, .int h_law, .int h_lamps, .int h_people, .ref a_H_lampCell, .ref a_H_lampReach, .ref a_H_shine, .ref a_H_personCell, .ref a_H_wish, .ref a_H_side, .ref a_H_light, .ref a_H_leavers])), (a_H_wish, .inl (cI, 6, .inl h_wish)), (a_H_side, .inl (cI, 6, .inl h_side)), (a_H_leavers, .inl (cI, 128, .inl h_leavers))]) fpX2_28 0 rfl rfl rfl (Nat.le_of_ble_eq_true rfl) rfl dX2_fillTables_10 ?_
    refine q_iconst (pc := 13) F (v := 0) dX2_fillTables_13 (by decide) ?_
    refine q_istore_n (pc := 14) F (lv' := [(1, .int (0 : Int32)), (0, .ref a_K)]) dX2_fillTables_14 (by decide) rfl ?_
    obtain ⟨n15, h⟩ := h
    have lp15 : ∀ (n : Nat) (x1_h15 : Int32) (k_griefs_h15 : Nat → Int32) (k_wins_h15 : Nat → Int32), wp_X2_fillTables_L15 (1 : Int32) h_lamps h_people h_wish h_side h_leavers post n x1_h15 k_griefs_h15 k_wins_h15 → Wg E [(a_K, .inr (2, [.ref a_H, .ref a_K_longest, .ref a_K_ways, .ref a_K_griefs, .ref a_K_wins, .int (1 : Int32), .int k_chosenPerson, .int k_chosenLamp])), (a_K_griefs, .inl (cI, 4096, .inl k_griefs_h15)), (a_K_wins, .inl (cI, 4096, .inl k_wins_h15)), (a_H, .inr (0, [.int h_wide, .int h_high, .int h_walls, .int h_doors, .int h_law, .int h_lamps, .int h_people, .ref a_H_lampCell, .ref a_H_lampReach, .ref a_H_shine, .ref a_H_personCell, .ref a_H_wish, .ref a_H_side, .ref a_H_light, .ref a_H_leavers])), (a_H_wish, .inl (cI, 6, .inl h_wish)), (a_H_side, .inl (cI, 6, .inl h_side)), (a_H_leavers, .inl (cI, 128, .inl h_leavers))] 0 0 15 [(0, .ref a_K), (1, .int x1_h15)] [] := by
      intro n
      induction n with
      | zero => intro x1_h15 k_griefs_h15 k_wins_h15 h; exact h.elim
      | succ n ih =>
        intro x1_h15 k_griefs_h15 k_wins_h15 h
        unfold wp_X2_fillTables_L15 at h
        refine q_iload_n (pc := 15) F 1 dX2_fillTables_15 rfl ?_
        refine q_aload_n (pc := 16) F 0 dX2_fillTables_16 rfl ?_
        refine q_get (pc := 17) F fgX2_24 0 rfl rfl dX2_fillTables_17 ?_
        refine q_cR (q_runV (As := []) (rest := [.int x1_h15]) (pc := 20) F (fun l sz => ct_X0_allPeople D cI cZ a_H a_H_lampCell a_H_lampReach a_H_shine a_H_personCell a_H_wish a_H_side a_H_light a_H_leavers h_wide h_high h_walls h_doors h_law h_lamps h_people h l sz) mc_yX0_allPeople im_yX0_allPeople se_yX0_allPeople mlX2_102 ⟨by decide, by decide⟩ ⟨by decide, by decide⟩ ⟨rfl, rfl⟩ [3] rfl rfl rfl 3 rfl rfl rfl (Nat.le_of_ble_eq_true rfl) dX2_fillTables_20) (fun r20 h => ?_)
        refine q_icmp_gt (pc := 23) (tgt := 112) F dX2_fillTables_23 (by decide) (fun c23 => ?_) (fun c23 => ?_)
        · have h := h.1 c23
          exact q_vretM (pc := 112) F Z dX2_fillTables_112 (k_griefs_h15, k_wins_h15, (1 : Int32)) h rfl
        · have h := h.2 c23
          refine q_aload_n (pc := 26) F 0 dX2_fillTables_26 rfl ?_
          refine q_get (pc := 27) F fgX2_24 0 rfl rfl dX2_fillTables_27 ?_
          refine q_get (pc := 30) F fgX2_32 3 rfl rfl dX2_fillTables_30 ?_
          refine q_aload_n (pc := 33) F 0 dX2_fillTables_33 rfl ?_
          refine q_get (pc := 34) F fgX2_24 0 rfl rfl dX2_fillTables_34 ?_
          refine q_get (pc := 37) F fgX2_76 3 rfl rfl dX2_fillTables_37 ?_
          refine q_isub (pc := 40) F dX2_fillTables_40 ?_
          refine q_iload_n (pc := 41) F 1 dX2_fillTables_41 rfl ?_
          refine q_cR (q_runS (As := [.int x1_h15]) (rest := [.int (h_lamps - h_people)]) (pc := 42) F (fun l sz => ct_J6_bitCount_0f7a4 D cI cZ x1_h15 h l sz) mc_yJ6_bitCount_0f7a4 sm_yJ6_bitCount_0f7a4 mlX2_54 ⟨by decide, by decide⟩ ⟨by decide, by decide⟩ ⟨rfl, rfl⟩ [] rfl rfl rfl rfl (Nat.le_of_ble_eq_true rfl) dX2_fillTables_42) (fun r42 h => ?_)
          refine q_iadd (pc := 45) F dX2_fillTables_45 ?_
          refine q_topi (fun x2_46 ex2_46 => ?_)
          have h := h x2_46 ex2_46
          refine q_istore_n (pc := 46) F (lv' := [(2, .int x2_46), (0, .ref a_K), (1, .int x1_h15)]) dX2_fillTables_46 (by decide) rfl ?_
          refine q_iconst (pc := 47) F (v := 0) dX2_fillTables_47 (by decide) ?_
          refine q_istore_n (pc := 48) F (lv' := [(3, .int (0 : Int32)), (2, .int x2_46), (0, .ref a_K), (1, .int x1_h15)]) dX2_fillTables_48 (by decide) rfl ?_
          refine jnW h (fun K => ∀ (k_griefs_106 : Nat → Int32) (k_wins_106 : Nat → Int32), K k_griefs_106 k_wins_106 → Wg E [(a_K, .inr (2, [.ref a_H, .ref a_K_longest, .ref a_K_ways, .ref a_K_griefs, .ref a_K_wins, .int (1 : Int32), .int k_chosenPerson, .int k_chosenLamp])), (a_K_griefs, .inl (cI, 4096, .inl k_griefs_106)), (a_K_wins, .inl (cI, 4096, .inl k_wins_106)), (a_H, .inr (0, [.int h_wide, .int h_high, .int h_walls, .int h_doors, .int h_law, .int h_lamps, .int h_people, .ref a_H_lampCell, .ref a_H_lampReach, .ref a_H_shine, .ref a_H_personCell, .ref a_H_wish, .ref a_H_side, .ref a_H_light, .ref a_H_leavers])), (a_H_wish, .inl (cI, 6, .inl h_wish)), (a_H_side, .inl (cI, 6, .inl h_side)), (a_H_leavers, .inl (cI, 128, .inl h_leavers))] 0 0 106 [(0, .ref a_K), (1, .int x1_h15)] []) ?_ ?_
          · intro k_griefs_106 k_wins_106 h
            refine q_iinc (pc := 106) F (v := x1_h15 + (1 : Int32)) (lv' := [(1, .int (x1_h15 + (1 : Int32))), (0, .ref a_K)]) 1 dX2_fillTables_106 rfl rfl (by decide) rfl ?_
            refine q_goto (pc := 109) (tgt := 15) F dX2_fillTables_109 (by decide) ?_
            refine q_lv (lv' := [(0, .ref a_K), (1, .int (x1_h15 + (1 : Int32)))]) [1, 0] rfl ?_
            exact ih (x1_h15 + (1 : Int32)) k_griefs_106 k_wins_106 h
          · intro K106 J106 h
            obtain ⟨n49, h⟩ := h
            have lp49 : ∀ (n : Nat) (x3_h49 : Int32) (k_griefs_h49 : Nat → Int32) (k_wins_h49 : Nat → Int32), wp_X2_fillTables_L49 x1_h15 x2_46 h_lamps h_people h_wish h_side h_leavers K106 n x3_h49 k_griefs_h49 k_wins_h49 → Wg E [(a_K, .inr (2, [.ref a_H, .ref a_K_longest, .ref a_K_ways, .ref a_K_griefs, .ref a_K_wins, .int (1 : Int32), .int k_chosenPerson, .int k_chosenLamp])), (a_K_griefs, .inl (cI, 4096, .inl k_griefs_h49)), (a_K_wins, .inl (cI, 4096, .inl k_wins_h49)), (a_H, .inr (0, [.int h_wide, .int h_high, .int h_walls, .int h_doors, .int h_law, .int h_lamps, .int h_people, .ref a_H_lampCell, .ref a_H_lampReach, .ref a_H_shine, .ref a_H_personCell, .ref a_H_wish, .ref a_H_side, .ref a_H_light, .ref a_H_leavers])), (a_H_wish, .inl (cI, 6, .inl h_wish)), (a_H_side, .inl (cI, 6, .inl h_side)), (a_H_leavers, .inl (cI, 128, .inl h_leavers))] 0 0 49 [(0, .ref a_K), (1, .int x1_h15), (2, .int x2_46), (3, .int x3_h49)] [] := by
              intro n
              induction n with
              | zero => intro x3_h49 k_griefs_h49 k_wins_h49 h; exact h.elim
              | succ n ih =>
                intro x3_h49 k_griefs_h49 k_wins_h49 h
                unfold wp_X2_fillTables_L49 at h
                refine q_iload_n (pc := 49) F 3 dX2_fillTables_49 rfl ?_
                refine q_aload_n (pc := 50) F 0 dX2_fillTables_50 rfl ?_
                refine q_get (pc := 51) F fgX2_24 0 rfl rfl dX2_fillTables_51 ?_
                refine q_cR (q_runV (As := []) (rest := [.int x3_h49]) (pc := 54) F (fun l sz => ct_X0_allLamps D cI cZ a_H a_H_lampCell a_H_lampReach a_H_shine a_H_personCell a_H_wish a_H_side a_H_light a_H_leavers h_wide h_high h_walls h_doors h_law h_lamps h_people h l sz) mc_yX0_allLamps im_yX0_allLamps se_yX0_allLamps mlX2_106 ⟨by decide, by decide⟩ ⟨by decide, by decide⟩ ⟨rfl, rfl⟩ [3] rfl rfl rfl 3 rfl rfl rfl (Nat.le_of_ble_eq_true rfl) dX2_fillTables_54) (fun r54 h => ?_)
                refine q_icmp_gt (pc := 57) (tgt := 106) F dX2_fillTables_57 (by decide) (fun c57 => ?_) (fun c57 => ?_)
                · have h := h.1 c57
                  refine q_lv (lv' := [(0, .ref a_K), (1, .int x1_h15)]) [0, 1] rfl ?_
                  exact J106 k_griefs_h49 k_wins_h49 h
                · have h := h.2 c57
                  refine q_iload_n (pc := 60) F 3 dX2_fillTables_60 rfl ?_
                  refine q_cR (q_runS (As := [.int x3_h49]) (rest := []) (pc := 61) F (fun l sz => ct_J6_bitCount_0f7a4 D cI cZ x3_h49 h l sz) mc_yJ6_bitCount_0f7a4 sm_yJ6_bitCount_0f7a4 mlX2_54 ⟨by decide, by decide⟩ ⟨by decide, by decide⟩ ⟨rfl, rfl⟩ [] rfl rfl rfl rfl (Nat.le_of_ble_eq_true rfl) dX2_fillTables_61) (fun r61 h => ?_)
                  refine q_iload_n (pc := 64) F 2 dX2_fillTables_64 rfl ?_
                  refine jnW h (fun K => ∀ (k_griefs_100 : Nat → Int32) (k_wins_100 : Nat → Int32), K k_griefs_100 k_wins_100 → Wg E [(a_K, .inr (2, [.ref a_H, .ref a_K_longest, .ref a_K_ways, .ref a_K_griefs, .ref a_K_wins, .int (1 : Int32), .int k_chosenPerson, .int k_chosenLamp])), (a_K_griefs, .inl (cI, 4096, .inl k_griefs_100)), (a_K_wins, .inl (cI, 4096, .inl k_wins_100)), (a_H, .inr (0, [.int h_wide, .int h_high, .int h_walls, .int h_doors, .int h_law, .int h_lamps, .int h_people, .ref a_H_lampCell, .ref a_H_lampReach, .ref a_H_shine, .ref a_H_personCell, .ref a_H_wish, .ref a_H_side, .ref a_H_light, .ref a_H_leavers])), (a_H_wish, .inl (cI, 6, .inl h_wish)), (a_H_side, .inl (cI, 6, .inl h_side)), (a_H_leavers, .inl (cI, 128, .inl h_leavers))] 0 0 100 [(0, .ref a_K), (1, .int x1_h15), (2, .int x2_46), (3, .int x3_h49)] []) ?_ ?_
                  · intro k_griefs_100 k_wins_100 h
                    refine q_iinc (pc := 100) F (v := x3_h49 + (1 : Int32)) (lv' := [(3, .int (x3_h49 + (1 : Int32))), (0, .ref a_K), (1, .int x1_h15), (2, .int x2_46)]) 3 dX2_fillTables_100 rfl rfl (by decide) rfl ?_
                    refine q_goto (pc := 103) (tgt := 49) F dX2_fillTables_103 (by decide) ?_
                    refine q_lv (lv' := [(0, .ref a_K), (1, .int x1_h15), (2, .int x2_46), (3, .int (x3_h49 + (1 : Int32)))]) [1, 2, 3, 0] rfl ?_
                    exact ih (x3_h49 + (1 : Int32)) k_griefs_100 k_wins_100 h
                  · intro K100 J100 h
                    refine q_icmp_ne (pc := 65) (tgt := 100) F dX2_fillTables_65 (by decide) (fun c65 => ?_) (fun c65 => ?_)
                    · have h := h.2 c65
                      exact J100 k_griefs_h49 k_wins_h49 h
                    · have h := h.1 c65
                      refine q_aload_n (pc := 68) F 0 dX2_fillTables_68 rfl ?_
                      refine q_get (pc := 69) F fgX2_18 0 rfl rfl dX2_fillTables_69 ?_
                      refine q_iload_n (pc := 72) F 1 dX2_fillTables_72 rfl ?_
                      refine q_iload_n (pc := 73) F 3 dX2_fillTables_73 rfl ?_
                      refine q_cR (q_runS (As := [.int x1_h15, .int x3_h49]) (rest := [.ref a_K_griefs]) (pc := 74) F (fun l sz => ct_X2_placeIn D cI cZ x1_h15 x3_h49 h l sz) mc_yX2_placeIn sm_yX2_placeIn mlX2_99 ⟨by decide, by decide⟩ ⟨by decide, by decide⟩ ⟨rfl, rfl⟩ [] rfl rfl rfl rfl (Nat.le_of_ble_eq_true rfl) dX2_fillTables_74) (fun r74 h => ?_)
                      refine q_aload_n (pc := 77) F 0 dX2_fillTables_77 rfl ?_
                      refine q_iload_n (pc := 78) F 1 dX2_fillTables_78 rfl ?_
                      refine q_iload_n (pc := 79) F 3 dX2_fillTables_79 rfl ?_
                      refine q_cR (q_runV (As := [.int x1_h15, .int x3_h49]) (rest := [.int r74, .ref a_K_griefs]) (pc := 80) F (fun l sz => ct_X2_leastGrief D cI cZ a_K a_H a_K_longest a_K_ways a_K_griefs a_K_wins a_H_lampCell a_H_lampReach a_H_shine a_H_personCell a_H_wish a_H_side a_H_light a_H_leavers (1 : Int32) k_chosenPerson k_chosenLamp k_griefs_h49 h_wide h_high h_walls h_doors h_law h_lamps h_people h_wish h_leavers x1_h15 x3_h49 h l sz) mc_yX2_leastGrief im_yX2_leastGrief se_yX2_leastGrief mlX2_109 ⟨by decide, by decide⟩ ⟨by decide, by decide⟩ ⟨rfl, rfl⟩ [0, 1, 3, 4, 6] rfl rfl rfl 0 rfl rfl rfl (Nat.le_of_ble_eq_true rfl) dX2_fillTables_80) (fun r80 h => ?_)
                      obtain ⟨hi83, h⟩ := h
                      refine q_iast (pc := 83) F M (cs' := [(a_K, .inr (2, [.ref a_H, .ref a_K_longest, .ref a_K_ways, .ref a_K_griefs, .ref a_K_wins, .int (1 : Int32), .int k_chosenPerson, .int k_chosenLamp])), (a_K_griefs, .inl (cI, 4096, .inl (upd k_griefs_h49 (ix r74) r80))), (a_K_wins, .inl (cI, 4096, .inl k_wins_h49)), (a_H, .inr (0, [.int h_wide, .int h_high, .int h_walls, .int h_doors, .int h_law, .int h_lamps, .int h_people, .ref a_H_lampCell, .ref a_H_lampReach, .ref a_H_shine, .ref a_H_personCell, .ref a_H_wish, .ref a_H_side, .ref a_H_light, .ref a_H_leavers])), (a_H_wish, .inl (cI, 6, .inl h_wish)), (a_H_side, .inl (cI, 6, .inl h_side)), (a_H_leavers, .inl (cI, 128, .inl h_leavers))]) 1 rfl hi83 rfl dX2_fillTables_83 ?_
                      refine q_aload_n (pc := 84) F 0 dX2_fillTables_84 rfl ?_
                      refine q_get (pc := 85) F fgX2_21 0 rfl rfl dX2_fillTables_85 ?_
                      refine q_iload_n (pc := 88) F 1 dX2_fillTables_88 rfl ?_
                      refine q_iload_n (pc := 89) F 3 dX2_fillTables_89 rfl ?_
                      refine q_cR (q_runS (As := [.int x1_h15, .int x3_h49]) (rest := [.ref a_K_wins]) (pc := 90) F (fun l sz => ct_X2_placeIn D cI cZ x1_h15 x3_h49 h l sz) mc_yX2_placeIn sm_yX2_placeIn mlX2_99 ⟨by decide, by decide⟩ ⟨by decide, by decide⟩ ⟨rfl, rfl⟩ [] rfl rfl rfl rfl (Nat.le_of_ble_eq_true rfl) dX2_fillTables_90) (fun r90 h => ?_)
                      refine q_aload_n (pc := 93) F 0 dX2_fillTables_93 rfl ?_
                      refine q_iload_n (pc := 94) F 1 dX2_fillTables_94 rfl ?_
                      refine q_iload_n (pc := 95) F 3 dX2_fillTables_95 rfl ?_
                      refine q_cR (q_runV (As := [.int x1_h15, .int x3_h49]) (rest := [.int r90, .ref a_K_wins]) (pc := 96) F (fun l sz => ct_X2_sidesThatWin D cI cZ a_K a_H a_K_longest a_K_ways a_K_griefs a_K_wins a_H_lampCell a_H_lampReach a_H_shine a_H_personCell a_H_wish a_H_side a_H_light a_H_leavers (1 : Int32) k_chosenPerson k_chosenLamp k_wins_h49 h_wide h_high h_walls h_doors h_law h_lamps h_people h_side h_leavers x1_h15 x3_h49 h l sz) mc_yX2_sidesThatWin im_yX2_sidesThatWin se_yX2_sidesThatWin mlX2_112 ⟨by decide, by decide⟩ ⟨by decide, by decide⟩ ⟨rfl, rfl⟩ [0, 2, 3, 5, 6] rfl rfl rfl 0 rfl rfl rfl (Nat.le_of_ble_eq_true rfl) dX2_fillTables_96) (fun r96 h => ?_)
                      obtain ⟨hi99, h⟩ := h
                      refine q_iast (pc := 99) F M (cs' := [(a_K, .inr (2, [.ref a_H, .ref a_K_longest, .ref a_K_ways, .ref a_K_griefs, .ref a_K_wins, .int (1 : Int32), .int k_chosenPerson, .int k_chosenLamp])), (a_K_griefs, .inl (cI, 4096, .inl (upd k_griefs_h49 (ix r74) r80))), (a_K_wins, .inl (cI, 4096, .inl (upd k_wins_h49 (ix r90) r96))), (a_H, .inr (0, [.int h_wide, .int h_high, .int h_walls, .int h_doors, .int h_law, .int h_lamps, .int h_people, .ref a_H_lampCell, .ref a_H_lampReach, .ref a_H_shine, .ref a_H_personCell, .ref a_H_wish, .ref a_H_side, .ref a_H_light, .ref a_H_leavers])), (a_H_wish, .inl (cI, 6, .inl h_wish)), (a_H_side, .inl (cI, 6, .inl h_side)), (a_H_leavers, .inl (cI, 128, .inl h_leavers))]) 2 rfl hi99 rfl dX2_fillTables_99 ?_
                      exact J100 (upd k_griefs_h49 (ix r74) r80) (upd k_wins_h49 (ix r90) r96) h
            refine q_lv (lv' := [(0, .ref a_K), (1, .int x1_h15), (2, .int x2_46), (3, .int (0 : Int32))]) [2, 3, 1, 0] rfl ?_
            exact lp49 n49 (0 : Int32) k_griefs_h15 k_wins_h15 h
    refine q_lv (lv' := [(0, .ref a_K), (1, .int (0 : Int32))]) [1, 0] rfl ?_
    exact lp15 n15 (0 : Int32) k_griefs k_wins h
  · have h := h.2 c4
    exact q_vretM (pc := 7) F Z dX2_fillTables_7 (k_griefs, k_wins, k_tablesKnown) h rfl

def wp_X2_griefOf (p0 : Int32) (p1 : Int32) (k_griefs : Nat → Int32) (k_wins : Nat → Int32) (k_tablesKnown : Int32) (h_lamps : Int32) (h_people : Int32) (h_wish : Nat → Int32) (h_side : Nat → Int32) (h_leavers : Nat → Int32) (post : Int32 → (Nat → Int32) → (Nat → Int32) → Int32 → Prop) : Prop := (wp_X2_fillTables k_griefs k_wins k_tablesKnown h_lamps h_people h_wish h_side h_leavers (fun (k_griefs_1 : Nat → Int32) (k_wins_1 : Nat → Int32) (k_tablesKnown_1 : Int32) => (wp_X2_placeIn p0 p1 (fun (r10 : Int32) => (vp_in r10 4096 ∧ (((k_griefs_1 (ix r10)) < (1000 : Int32) → post (k_griefs_1 (ix r10)) k_griefs_1 k_wins_1 k_tablesKnown_1) ∧ (¬ (k_griefs_1 (ix r10)) < (1000 : Int32) → post (-9 : Int32) k_griefs_1 k_wins_1 k_tablesKnown_1)))))))
abbrev rm_X2_griefOf : Room := { frames := 4, cells := 0, slots := 0, locals := 94 }
set_option maxRecDepth 100000 in
set_option maxHeartbeats 4000000 in
theorem ct_X2_griefOf (D : va_G) (cI cZ : ClassId) (a_K a_H a_K_longest a_K_ways a_K_griefs a_K_wins a_H_lampCell a_H_lampReach a_H_shine a_H_personCell a_H_wish a_H_side a_H_light a_H_leavers : Nat) (k_tablesKnown : Int32) (k_chosenPerson : Int32) (k_chosenLamp : Int32) (k_griefs : Nat → Int32) (k_wins : Nat → Int32) (h_wide : Int32) (h_high : Int32) (h_walls : Int32) (h_doors : Int32) (h_law : Int32) (h_lamps : Int32) (h_people : Int32) (h_wish : Nat → Int32) (h_side : Nat → Int32) (h_leavers : Nat → Int32) (p0 : Int32) (p1 : Int32) {post : Int32 → (Nat → Int32) → (Nat → Int32) → Int32 → Prop} (h : wp_X2_griefOf p0 p1 k_griefs k_wins k_tablesKnown h_lamps h_people h_wish h_side h_leavers post) (l : Launch) (sz : Nat) : Met l yX2_griefOf (wsM yX2_griefOf cX2_griefOf 4 (some .int)) rm_X2_griefOf (va_Pc [.ref a_K, .int p0, .int p1] (gP D cI cZ [(a_K, .inr (2, [.ref a_H, .ref a_K_longest, .ref a_K_ways, .ref a_K_griefs, .ref a_K_wins, .int k_tablesKnown, .int k_chosenPerson, .int k_chosenLamp])), (a_K_griefs, .inl (cI, 4096, .inl k_griefs)), (a_K_wins, .inl (cI, 4096, .inl k_wins)), (a_H, .inr (0, [.int h_wide, .int h_high, .int h_walls, .int h_doors, .int h_law, .int h_lamps, .int h_people, .ref a_H_lampCell, .ref a_H_lampReach, .ref a_H_shine, .ref a_H_personCell, .ref a_H_wish, .ref a_H_side, .ref a_H_light, .ref a_H_leavers])), (a_H_wish, .inl (cI, 6, .inl h_wish)), (a_H_side, .inl (cI, 6, .inl h_side)), (a_H_leavers, .inl (cI, 128, .inl h_leavers))] sz)) (gQi D (fun r (u : (Nat → Int32) × (Nat → Int32) × Int32) => post r u.1 u.2.1 u.2.2) (fun (u : (Nat → Int32) × (Nat → Int32) × Int32) => [(a_K, .inr (2, [.ref a_H, .ref a_K_longest, .ref a_K_ways, .ref a_K_griefs, .ref a_K_wins, .int u.2.2, .int k_chosenPerson, .int k_chosenLamp])), (a_K_griefs, .inl (cI, 4096, .inl u.1)), (a_K_wins, .inl (cI, 4096, .inl u.2.1)), (a_H, .inr (0, [.int h_wide, .int h_high, .int h_walls, .int h_doors, .int h_law, .int h_lamps, .int h_people, .ref a_H_lampCell, .ref a_H_lampReach, .ref a_H_shine, .ref a_H_personCell, .ref a_H_wish, .ref a_H_side, .ref a_H_light, .ref a_H_leavers])), (a_H_wish, .inl (cI, 6, .inl h_wish)), (a_H_side, .inl (cI, 6, .inl h_side)), (a_H_leavers, .inl (cI, 128, .inl h_leavers))]) [(a_K, .inr (2, [.ref a_H, .ref a_K_longest, .ref a_K_ways, .ref a_K_griefs, .ref a_K_wins, .int k_tablesKnown, .int k_chosenPerson, .int k_chosenLamp])), (a_K_griefs, .inl (cI, 4096, .inl k_griefs)), (a_K_wins, .inl (cI, 4096, .inl k_wins)), (a_H, .inr (0, [.int h_wide, .int h_high, .int h_walls, .int h_doors, .int h_law, .int h_lamps, .int h_people, .ref a_H_lampCell, .ref a_H_lampReach, .ref a_H_shine, .ref a_H_personCell, .ref a_H_wish, .ref a_H_side, .ref a_H_light, .ref a_H_leavers])), (a_H_wish, .inl (cI, 6, .inl h_wish)), (a_H_side, .inl (cI, 6, .inl h_side)), (a_H_leavers, .inl (cI, 128, .inl h_leavers))] sz) 0 0 (va_A [(a_K, .inr (2, [.ref a_H, .ref a_K_longest, .ref a_K_ways, .ref a_K_griefs, .ref a_K_wins, .int k_tablesKnown, .int k_chosenPerson, .int k_chosenLamp])), (a_K_griefs, .inl (cI, 4096, .inl k_griefs)), (a_K_wins, .inl (cI, 4096, .inl k_wins)), (a_H, .inr (0, [.int h_wide, .int h_high, .int h_walls, .int h_doors, .int h_law, .int h_lamps, .int h_people, .ref a_H_lampCell, .ref a_H_lampReach, .ref a_H_shine, .ref a_H_personCell, .ref a_H_wish, .ref a_H_side, .ref a_H_light, .ref a_H_leavers])), (a_H_wish, .inl (cI, 6, .inl h_wish)), (a_H_side, .inl (cI, 6, .inl h_side)), (a_H_leavers, .inl (cI, 128, .inl h_leavers))] sz) := by
  refine q_startM (own := RX2) (Qc := gQi D (fun r (u : (Nat → Int32) × (Nat → Int32) × Int32) => post r u.1 u.2.1 u.2.2) (fun (u : (Nat → Int32) × (Nat → Int32) × Int32) => [(a_K, .inr (2, [.ref a_H, .ref a_K_longest, .ref a_K_ways, .ref a_K_griefs, .ref a_K_wins, .int u.2.2, .int k_chosenPerson, .int k_chosenLamp])), (a_K_griefs, .inl (cI, 4096, .inl u.1)), (a_K_wins, .inl (cI, 4096, .inl u.2.1)), (a_H, .inr (0, [.int h_wide, .int h_high, .int h_walls, .int h_doors, .int h_law, .int h_lamps, .int h_people, .ref a_H_lampCell, .ref a_H_lampReach, .ref a_H_shine, .ref a_H_personCell, .ref a_H_wish, .ref a_H_side, .ref a_H_light, .ref a_H_leavers])), (a_H_wish, .inl (cI, 6, .inl h_wish)), (a_H_side, .inl (cI, 6, .inl h_side)), (a_H_leavers, .inl (cI, 128, .inl h_leavers))]) [(a_K, .inr (2, [.ref a_H, .ref a_K_longest, .ref a_K_ways, .ref a_K_griefs, .ref a_K_wins, .int k_tablesKnown, .int k_chosenPerson, .int k_chosenLamp])), (a_K_griefs, .inl (cI, 4096, .inl k_griefs)), (a_K_wins, .inl (cI, 4096, .inl k_wins)), (a_H, .inr (0, [.int h_wide, .int h_high, .int h_walls, .int h_doors, .int h_law, .int h_lamps, .int h_people, .ref a_H_lampCell, .ref a_H_lampReach, .ref a_H_shine, .ref a_H_personCell, .ref a_H_wish, .ref a_H_side, .ref a_H_light, .ref a_H_leavers])), (a_H_wish, .inl (cI, 6, .inl h_wish)), (a_H_side, .inl (cI, 6, .inl h_side)), (a_H_leavers, .inl (cI, 128, .inl h_leavers))]) (by decide +kernel) rfl (Nat.le_of_ble_eq_true rfl) (fun E F Z M => ?_)
  show Wg E [(a_K, .inr (2, [.ref a_H, .ref a_K_longest, .ref a_K_ways, .ref a_K_griefs, .ref a_K_wins, .int k_tablesKnown, .int k_chosenPerson, .int k_chosenLamp])), (a_K_griefs, .inl (cI, 4096, .inl k_griefs)), (a_K_wins, .inl (cI, 4096, .inl k_wins)), (a_H, .inr (0, [.int h_wide, .int h_high, .int h_walls, .int h_doors, .int h_law, .int h_lamps, .int h_people, .ref a_H_lampCell, .ref a_H_lampReach, .ref a_H_shine, .ref a_H_personCell, .ref a_H_wish, .ref a_H_side, .ref a_H_light, .ref a_H_leavers])), (a_H_wish, .inl (cI, 6, .inl h_wish)), (a_H_side, .inl (cI, 6, .inl h_side)), (a_H_leavers, .inl (cI, 128, .inl h_leavers))] 0 0 0 [(0, .ref a_K), (1, .int p0), (2, .int p1)] []
  unfold wp_X2_griefOf at h
  refine q_aload_n (pc := 0) F 0 dX2_griefOf_0 rfl ?_
  refine q_cMv (wr := []) (pc := 1) F M (q_runV (As := []) (rest := []) (pc := 1) F (fun l sz => ct_X2_fillTables D cI cZ a_K a_H a_K_longest a_K_ways a_K_griefs a_K_wins a_H_lampCell a_H_lampReach a_H_shine a_H_personCell a_H_wish a_H_side a_H_light a_H_leavers k_tablesKnown k_chosenPerson k_chosenLamp k_griefs k_wins h_wide h_high h_walls h_doors h_law h_lamps h_people h_wish h_side h_leavers h l sz) mc_yX2_fillTables im_yX2_fillTables se_yX2_fillTables mlX2_96 ⟨by decide, by decide⟩ ⟨by decide, by decide⟩ ⟨rfl, rfl⟩ [0, 1, 2, 3, 4, 5, 6] rfl rfl rfl 0 rfl rfl rfl (Nat.le_of_ble_eq_true rfl) dX2_griefOf_1) [0, 1, 2, 3, 4, 5, 6] [] rfl rfl rfl (by decide) (fun u1 h => ?_)
  obtain ⟨k_griefs_1, k_wins_1, k_tablesKnown_1⟩ := u1
  refine q_cs (cs' := [(a_K, .inr (2, [.ref a_H, .ref a_K_longest, .ref a_K_ways, .ref a_K_griefs, .ref a_K_wins, .int k_tablesKnown_1, .int k_chosenPerson, .int k_chosenLamp])), (a_K_griefs, .inl (cI, 4096, .inl k_griefs_1)), (a_K_wins, .inl (cI, 4096, .inl k_wins_1)), (a_H, .inr (0, [.int h_wide, .int h_high, .int h_walls, .int h_doors, .int h_law, .int h_lamps, .int h_people, .ref a_H_lampCell, .ref a_H_lampReach, .ref a_H_shine, .ref a_H_personCell, .ref a_H_wish, .ref a_H_side, .ref a_H_light, .ref a_H_leavers])), (a_H_wish, .inl (cI, 6, .inl h_wish)), (a_H_side, .inl (cI, 6, .inl h_side)), (a_H_leavers, .inl (cI, 128, .inl h_leavers))]) [0, 1, 2, 3, 4, 5, 6] rfl rfl ?_
  refine q_aload_n (pc := 4) F 0 dX2_griefOf_4 rfl ?_
  refine q_get (pc := 5) F fgX2_18 0 rfl rfl dX2_griefOf_5 ?_
  refine q_iload_n (pc := 8) F 1 dX2_griefOf_8 rfl ?_
  refine q_iload_n (pc := 9) F 2 dX2_griefOf_9 rfl ?_
  refine q_cR (q_runS (As := [.int p0, .int p1]) (rest := [.ref a_K_griefs]) (pc := 10) F (fun l sz => ct_X2_placeIn D cI cZ p0 p1 h l sz) mc_yX2_placeIn sm_yX2_placeIn mlX2_99 ⟨by decide, by decide⟩ ⟨by decide, by decide⟩ ⟨rfl, rfl⟩ [] rfl rfl rfl rfl (Nat.le_of_ble_eq_true rfl) dX2_griefOf_10) (fun r10 h => ?_)
  obtain ⟨hi13, h⟩ := h
  refine q_iald (pc := 13) F 1 rfl hi13 dX2_griefOf_13 ?_
  refine q_istore_n (pc := 14) F (lv' := [(3, .int (k_griefs_1 (ix r10))), (0, .ref a_K), (1, .int p0), (2, .int p1)]) dX2_griefOf_14 (by decide) rfl ?_
  refine q_iload_n (pc := 15) F 0 dX2_griefOf_15 rfl ?_
  refine q_sipush (pc := 16) F (v := 1000) dX2_griefOf_16 (by decide) ?_
  refine q_icmp_lt (pc := 19) (tgt := 27) F dX2_griefOf_19 (by decide) (fun c19 => ?_) (fun c19 => ?_)
  · have h := h.1 c19
    refine q_iload_n (pc := 27) F 0 dX2_griefOf_27 rfl ?_
    exact q_iretM (pc := 28) F Z dX2_griefOf_28 (k_griefs_1, k_wins_1, k_tablesKnown_1) h rfl
  · have h := h.2 c19
    refine q_bipush (pc := 22) F (v := -9) dX2_griefOf_22 (by decide) ?_
    refine q_goto (pc := 24) (tgt := 28) F dX2_griefOf_24 (by decide) ?_
    exact q_iretM (pc := 28) F Z dX2_griefOf_28 (k_griefs_1, k_wins_1, k_tablesKnown_1) h rfl

def wp_X2_winnerOf (p0 : Int32) (p1 : Int32) (k_griefs : Nat → Int32) (k_wins : Nat → Int32) (k_tablesKnown : Int32) (h_lamps : Int32) (h_people : Int32) (h_wish : Nat → Int32) (h_side : Nat → Int32) (h_leavers : Nat → Int32) (post : Int32 → (Nat → Int32) → (Nat → Int32) → Int32 → Prop) : Prop := (wp_X2_fillTables k_griefs k_wins k_tablesKnown h_lamps h_people h_wish h_side h_leavers (fun (k_griefs_1 : Nat → Int32) (k_wins_1 : Nat → Int32) (k_tablesKnown_1 : Int32) => (wp_X2_placeIn p0 p1 (fun (r10 : Int32) => (vp_in r10 4096 ∧ (wp_X4_bitOf (k_wins_1 (ix r10)) (0 : Int32) (fun (r15 : Int32) => ((r15 = (1 : Int32) → post (0 : Int32) k_griefs_1 k_wins_1 k_tablesKnown_1) ∧ (¬ r15 = (1 : Int32) → post (1 : Int32) k_griefs_1 k_wins_1 k_tablesKnown_1)))))))))
abbrev rm_X2_winnerOf : Room := { frames := 4, cells := 0, slots := 0, locals := 94 }
set_option maxRecDepth 100000 in
set_option maxHeartbeats 4000000 in
theorem ct_X2_winnerOf (D : va_G) (cI cZ : ClassId) (a_K a_H a_K_longest a_K_ways a_K_griefs a_K_wins a_H_lampCell a_H_lampReach a_H_shine a_H_personCell a_H_wish a_H_side a_H_light a_H_leavers : Nat) (k_tablesKnown : Int32) (k_chosenPerson : Int32) (k_chosenLamp : Int32) (k_griefs : Nat → Int32) (k_wins : Nat → Int32) (h_wide : Int32) (h_high : Int32) (h_walls : Int32) (h_doors : Int32) (h_law : Int32) (h_lamps : Int32) (h_people : Int32) (h_wish : Nat → Int32) (h_side : Nat → Int32) (h_leavers : Nat → Int32) (p0 : Int32) (p1 : Int32) {post : Int32 → (Nat → Int32) → (Nat → Int32) → Int32 → Prop} (h : wp_X2_winnerOf p0 p1 k_griefs k_wins k_tablesKnown h_lamps h_people h_wish h_side h_leavers post) (l : Launch) (sz : Nat) : Met l yX2_winnerOf (wsM yX2_winnerOf cX2_winnerOf 3 (some .int)) rm_X2_winnerOf (va_Pc [.ref a_K, .int p0, .int p1] (gP D cI cZ [(a_K, .inr (2, [.ref a_H, .ref a_K_longest, .ref a_K_ways, .ref a_K_griefs, .ref a_K_wins, .int k_tablesKnown, .int k_chosenPerson, .int k_chosenLamp])), (a_K_griefs, .inl (cI, 4096, .inl k_griefs)), (a_K_wins, .inl (cI, 4096, .inl k_wins)), (a_H, .inr (0, [.int h_wide, .int h_high, .int h_walls, .int h_doors, .int h_law, .int h_lamps, .int h_people, .ref a_H_lampCell, .ref a_H_lampReach, .ref a_H_shine, .ref a_H_personCell, .ref a_H_wish, .ref a_H_side, .ref a_H_light, .ref a_H_leavers])), (a_H_wish, .inl (cI, 6, .inl h_wish)), (a_H_side, .inl (cI, 6, .inl h_side)), (a_H_leavers, .inl (cI, 128, .inl h_leavers))] sz)) (gQi D (fun r (u : (Nat → Int32) × (Nat → Int32) × Int32) => post r u.1 u.2.1 u.2.2) (fun (u : (Nat → Int32) × (Nat → Int32) × Int32) => [(a_K, .inr (2, [.ref a_H, .ref a_K_longest, .ref a_K_ways, .ref a_K_griefs, .ref a_K_wins, .int u.2.2, .int k_chosenPerson, .int k_chosenLamp])), (a_K_griefs, .inl (cI, 4096, .inl u.1)), (a_K_wins, .inl (cI, 4096, .inl u.2.1)), (a_H, .inr (0, [.int h_wide, .int h_high, .int h_walls, .int h_doors, .int h_law, .int h_lamps, .int h_people, .ref a_H_lampCell, .ref a_H_lampReach, .ref a_H_shine, .ref a_H_personCell, .ref a_H_wish, .ref a_H_side, .ref a_H_light, .ref a_H_leavers])), (a_H_wish, .inl (cI, 6, .inl h_wish)), (a_H_side, .inl (cI, 6, .inl h_side)), (a_H_leavers, .inl (cI, 128, .inl h_leavers))]) [(a_K, .inr (2, [.ref a_H, .ref a_K_longest, .ref a_K_ways, .ref a_K_griefs, .ref a_K_wins, .int k_tablesKnown, .int k_chosenPerson, .int k_chosenLamp])), (a_K_griefs, .inl (cI, 4096, .inl k_griefs)), (a_K_wins, .inl (cI, 4096, .inl k_wins)), (a_H, .inr (0, [.int h_wide, .int h_high, .int h_walls, .int h_doors, .int h_law, .int h_lamps, .int h_people, .ref a_H_lampCell, .ref a_H_lampReach, .ref a_H_shine, .ref a_H_personCell, .ref a_H_wish, .ref a_H_side, .ref a_H_light, .ref a_H_leavers])), (a_H_wish, .inl (cI, 6, .inl h_wish)), (a_H_side, .inl (cI, 6, .inl h_side)), (a_H_leavers, .inl (cI, 128, .inl h_leavers))] sz) 0 0 (va_A [(a_K, .inr (2, [.ref a_H, .ref a_K_longest, .ref a_K_ways, .ref a_K_griefs, .ref a_K_wins, .int k_tablesKnown, .int k_chosenPerson, .int k_chosenLamp])), (a_K_griefs, .inl (cI, 4096, .inl k_griefs)), (a_K_wins, .inl (cI, 4096, .inl k_wins)), (a_H, .inr (0, [.int h_wide, .int h_high, .int h_walls, .int h_doors, .int h_law, .int h_lamps, .int h_people, .ref a_H_lampCell, .ref a_H_lampReach, .ref a_H_shine, .ref a_H_personCell, .ref a_H_wish, .ref a_H_side, .ref a_H_light, .ref a_H_leavers])), (a_H_wish, .inl (cI, 6, .inl h_wish)), (a_H_side, .inl (cI, 6, .inl h_side)), (a_H_leavers, .inl (cI, 128, .inl h_leavers))] sz) := by
  refine q_startM (own := RX2) (Qc := gQi D (fun r (u : (Nat → Int32) × (Nat → Int32) × Int32) => post r u.1 u.2.1 u.2.2) (fun (u : (Nat → Int32) × (Nat → Int32) × Int32) => [(a_K, .inr (2, [.ref a_H, .ref a_K_longest, .ref a_K_ways, .ref a_K_griefs, .ref a_K_wins, .int u.2.2, .int k_chosenPerson, .int k_chosenLamp])), (a_K_griefs, .inl (cI, 4096, .inl u.1)), (a_K_wins, .inl (cI, 4096, .inl u.2.1)), (a_H, .inr (0, [.int h_wide, .int h_high, .int h_walls, .int h_doors, .int h_law, .int h_lamps, .int h_people, .ref a_H_lampCell, .ref a_H_lampReach, .ref a_H_shine, .ref a_H_personCell, .ref a_H_wish, .ref a_H_side, .ref a_H_light, .ref a_H_leavers])), (a_H_wish, .inl (cI, 6, .inl h_wish)), (a_H_side, .inl (cI, 6, .inl h_side)), (a_H_leavers, .inl (cI, 128, .inl h_leavers))]) [(a_K, .inr (2, [.ref a_H, .ref a_K_longest, .ref a_K_ways, .ref a_K_griefs, .ref a_K_wins, .int k_tablesKnown, .int k_chosenPerson, .int k_chosenLamp])), (a_K_griefs, .inl (cI, 4096, .inl k_griefs)), (a_K_wins, .inl (cI, 4096, .inl k_wins)), (a_H, .inr (0, [.int h_wide, .int h_high, .int h_walls, .int h_doors, .int h_law, .int h_lamps, .int h_people, .ref a_H_lampCell, .ref a_H_lampReach, .ref a_H_shine, .ref a_H_personCell, .ref a_H_wish, .ref a_H_side, .ref a_H_light, .ref a_H_leavers])), (a_H_wish, .inl (cI, 6, .inl h_wish)), (a_H_side, .inl (cI, 6, .inl h_side)), (a_H_leavers, .inl (cI, 128, .inl h_leavers))]) (by decide +kernel) rfl (Nat.le_of_ble_eq_true rfl) (fun E F Z M => ?_)
  show Wg E [(a_K, .inr (2, [.ref a_H, .ref a_K_longest, .ref a_K_ways, .ref a_K_griefs, .ref a_K_wins, .int k_tablesKnown, .int k_chosenPerson, .int k_chosenLamp])), (a_K_griefs, .inl (cI, 4096, .inl k_griefs)), (a_K_wins, .inl (cI, 4096, .inl k_wins)), (a_H, .inr (0, [.int h_wide, .int h_high, .int h_walls, .int h_doors, .int h_law, .int h_lamps, .int h_people, .ref a_H_lampCell, .ref a_H_lampReach, .ref a_H_shine, .ref a_H_personCell, .ref a_H_wish, .ref a_H_side, .ref a_H_light, .ref a_H_leavers])), (a_H_wish, .inl (cI, 6, .inl h_wish)), (a_H_side, .inl (cI, 6, .inl h_side)), (a_H_leavers, .inl (cI, 128, .inl h_leavers))] 0 0 0 [(0, .ref a_K), (1, .int p0), (2, .int p1)] []
  unfold wp_X2_winnerOf at h
  refine q_aload_n (pc := 0) F 0 dX2_winnerOf_0 rfl ?_
  refine q_cMv (wr := []) (pc := 1) F M (q_runV (As := []) (rest := []) (pc := 1) F (fun l sz => ct_X2_fillTables D cI cZ a_K a_H a_K_longest a_K_ways a_K_griefs a_K_wins a_H_lampCell a_H_lampReach a_H_shine a_H_personCell a_H_wish a_H_side a_H_light a_H_leavers k_tablesKnown k_chosenPerson k_chosenLamp k_griefs k_wins h_wide h_high h_walls h_doors h_law h_lamps h_people h_wish h_side h_leavers h l sz) mc_yX2_fillTables im_yX2_fillTables se_yX2_fillTables mlX2_96 ⟨by decide, by decide⟩ ⟨by decide, by decide⟩ ⟨rfl, rfl⟩ [0, 1, 2, 3, 4, 5, 6] rfl rfl rfl 0 rfl rfl rfl (Nat.le_of_ble_eq_true rfl) dX2_winnerOf_1) [0, 1, 2, 3, 4, 5, 6] [] rfl rfl rfl (by decide) (fun u1 h => ?_)
  obtain ⟨k_griefs_1, k_wins_1, k_tablesKnown_1⟩ := u1
  refine q_cs (cs' := [(a_K, .inr (2, [.ref a_H, .ref a_K_longest, .ref a_K_ways, .ref a_K_griefs, .ref a_K_wins, .int k_tablesKnown_1, .int k_chosenPerson, .int k_chosenLamp])), (a_K_griefs, .inl (cI, 4096, .inl k_griefs_1)), (a_K_wins, .inl (cI, 4096, .inl k_wins_1)), (a_H, .inr (0, [.int h_wide, .int h_high, .int h_walls, .int h_doors, .int h_law, .int h_lamps, .int h_people, .ref a_H_lampCell, .ref a_H_lampReach, .ref a_H_shine, .ref a_H_personCell, .ref a_H_wish, .ref a_H_side, .ref a_H_light, .ref a_H_leavers])), (a_H_wish, .inl (cI, 6, .inl h_wish)), (a_H_side, .inl (cI, 6, .inl h_side)), (a_H_leavers, .inl (cI, 128, .inl h_leavers))]) [0, 1, 2, 3, 4, 5, 6] rfl rfl ?_
  refine q_aload_n (pc := 4) F 0 dX2_winnerOf_4 rfl ?_
  refine q_get (pc := 5) F fgX2_21 0 rfl rfl dX2_winnerOf_5 ?_
  refine q_iload_n (pc := 8) F 1 dX2_winnerOf_8 rfl ?_
  refine q_iload_n (pc := 9) F 2 dX2_winnerOf_9 rfl ?_
  refine q_cR (q_runS (As := [.int p0, .int p1]) (rest := [.ref a_K_wins]) (pc := 10) F (fun l sz => ct_X2_placeIn D cI cZ p0 p1 h l sz) mc_yX2_placeIn sm_yX2_placeIn mlX2_99 ⟨by decide, by decide⟩ ⟨by decide, by decide⟩ ⟨rfl, rfl⟩ [] rfl rfl rfl rfl (Nat.le_of_ble_eq_true rfl) dX2_winnerOf_10) (fun r10 h => ?_)
  obtain ⟨hi13, h⟩ := h
  refine q_iald (pc := 13) F 2 rfl hi13 dX2_winnerOf_13 ?_
  refine q_iconst (pc := 14) F (v := 0) dX2_winnerOf_14 (by decide) ?_
  refine q_cR (q_runSN (As := [.int (k_wins_1 (ix r10)), .int (0 : Int32)]) (rest := []) (pc := 15) F (fun l sz => ct_X4_bitOf D cI cZ (k_wins_1 (ix r10)) (0 : Int32) h l sz) mc_yX4_bitOf sm_yX4_bitOf (fun U h => h.2.2.2.2.2.1) ⟨by decide, by decide⟩ ⟨by decide, by decide⟩ ⟨rfl, rfl⟩ [] rfl rfl rfl rfl (Nat.le_of_ble_eq_true rfl) dX2_winnerOf_15) (fun r15 h => ?_)
  refine q_iconst (pc := 18) F (v := 1) dX2_winnerOf_18 (by decide) ?_
  refine q_icmp_ne (pc := 19) (tgt := 26) F dX2_winnerOf_19 (by decide) (fun c19 => ?_) (fun c19 => ?_)
  · have h := h.2 c19
    refine q_iconst (pc := 26) F (v := 1) dX2_winnerOf_26 (by decide) ?_
    exact q_iretM (pc := 27) F Z dX2_winnerOf_27 (k_griefs_1, k_wins_1, k_tablesKnown_1) h rfl
  · have h := h.1 c19
    refine q_iconst (pc := 22) F (v := 0) dX2_winnerOf_22 (by decide) ?_
    refine q_goto (pc := 23) (tgt := 27) F dX2_winnerOf_23 (by decide) ?_
    exact q_iretM (pc := 27) F Z dX2_winnerOf_27 (k_griefs_1, k_wins_1, k_tablesKnown_1) h rfl
