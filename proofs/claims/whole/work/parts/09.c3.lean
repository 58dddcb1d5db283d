def wp_X3_add (p0 : Int32) (t_bytes : Nat → Int32) (t_length : Int32) (post : (Nat → Int32) → Int32 → Prop) : Prop := (((300 : Int32) ≤ t_length → post t_bytes t_length) ∧ (¬ (300 : Int32) ≤ t_length → (vp_in t_length 300 ∧ post (upd t_bytes (ix t_length) p0) (t_length + (1 : Int32)))))
abbrev rm_X3_add : Room := { frames := 0, cells := 0, slots := 0, locals := 0 }
set_option maxRecDepth 100000 in
set_option maxHeartbeats 4000000 in
theorem ct_X3_add (D : va_G) (cI cZ : ClassId) (a_T a_T_bytes a_T_numbers : Nat) (t_length : Int32) (t_next : Int32) (t_start : Int32) (t_kind : Int32) (t_value : Int32) (t_item : Int32) (t_numbersTold : Int32) (t_items : Int32) (t_lawTold : Int32) (t_bytes : Nat → Int32) (p0 : Int32) {post : (Nat → Int32) → Int32 → Prop} (h : wp_X3_add p0 t_bytes t_length post) (l : Launch) (sz : Nat) : Met l yX3_add (wsM yX3_add cX3_add 2 none) rm_X3_add (va_Pc [.ref a_T, .int p0] (gP D cI cZ [(a_T, .inr (3, [.ref a_T_bytes, .int t_length, .int t_next, .int t_start, .int t_kind, .int t_value, .int t_item, .int t_numbersTold, .int t_items, .ref a_T_numbers, .int t_lawTold])), (a_T_bytes, .inl (cI, 300, .inl t_bytes))] sz)) (gQv D (fun (u : (Nat → Int32) × Int32) => post u.1 u.2) (fun (u : (Nat → Int32) × Int32) => [(a_T, .inr (3, [.ref a_T_bytes, .int u.2, .int t_next, .int t_start, .int t_kind, .int t_value, .int t_item, .int t_numbersTold, .int t_items, .ref a_T_numbers, .int t_lawTold])), (a_T_bytes, .inl (cI, 300, .inl u.1))]) [(a_T, .inr (3, [.ref a_T_bytes, .int t_length, .int t_next, .int t_start, .int t_kind, .int t_value, .int t_item, .int t_numbersTold, .int t_items, .ref a_T_numbers, .int t_lawTold])), (a_T_bytes, .inl (cI, 300, .inl t_bytes))] sz) 0 0 (va_A [(a_T, .inr (3, [.ref a_T_bytes, .int t_length, .int t_next, .int t_start, .int t_kind, .int t_value, .int t_item, .int t_numbersTold, .int t_items, .ref a_T_numbers, .int t_lawTold])), (a_T_bytes, .inl (cI, 300, .inl t_bytes))] sz) := by
  refine q_startM (own := RX3) (Qc := gQv D (fun (u : (Nat → Int32) × Int32) => post u.1 u.2) (fun (u : (Nat → Int32) × Int32) => [(a_T, .inr (3, [.ref a_T_bytes, .int u.2, .int t_next, .int t_start, .int t_kind, .int t_value, .int t_item, .int t_numbersTold, .int t_items, .ref a_T_numbers, .int t_lawTold])), (a_T_bytes, .inl (cI, 300, .inl u.1))]) [(a_T, .inr (3, [.ref a_T_bytes, .int t_length, .int t_next, .int t_start, .int t_kind, .int t_value, .int t_item, .int t_numbersTold, .int t_items, .ref a_T_numbers, .int t_lawTold])), (a_T_bytes, .inl (cI, 300, .inl t_bytes))]) (by decide +kernel) rfl (Nat.le_of_ble_eq_true rfl) (fun E F Z M => ?_)
  show Wg E [(a_T, .inr (3, [.ref a_T_bytes, .int t_length, .int t_next, .int t_start, .int t_kind, .int t_value, .int t_item, .int t_numbersTold, .int t_items, .ref a_T_numbers, .int t_lawTold])), (a_T_bytes, .inl (cI, 300, .inl t_bytes))] 0 0 0 [(0, .ref a_T), (1, .int p0)] []
  unfold wp_X3_add at h
  refine q_aload_n (pc := 0) F 0 dX3_add_0 rfl ?_
  refine q_get (pc := 1) F fgX3_15 0 rfl rfl dX3_add_1 ?_
  refine q_sipush (pc := 4) F (v := 300) dX3_add_4 (by decide) ?_
  refine q_icmp_ge (pc := 7) (tgt := 30) F dX3_add_7 (by decide) (fun c7 => ?_) (fun c7 => ?_)
  · have h := h.1 c7
    exact q_vretM (pc := 30) F Z dX3_add_30 (t_bytes, t_length) h rfl
  · have h := h.2 c7
    refine q_aload_n (pc := 10) F 0 dX3_add_10 rfl ?_
    refine q_get (pc := 11) F fgX3_9 0 rfl rfl dX3_add_11 ?_
    refine q_aload_n (pc := 14) F 0 dX3_add_14 rfl ?_
    refine q_get (pc := 15) F fgX3_15 0 rfl rfl dX3_add_15 ?_
    refine q_iload_n (pc := 18) F 1 dX3_add_18 rfl ?_
    obtain ⟨hi19, h⟩ := h
    refine q_iast (pc := 19) F M (cs' := [(a_T, .inr (3, [.ref a_T_bytes, .int t_length, .int t_next, .int t_start, .int t_kind, .int t_value, .int t_item, .int t_numbersTold, .int t_items, .ref a_T_numbers, .int t_lawTold])), (a_T_bytes, .inl (cI, 300, .inl (upd t_bytes (ix t_length) p0)))]) 1 rfl hi19 rfl dX3_add_19 ?_
    refine q_aload_n (pc := 20) F 0 dX3_add_20 rfl ?_
    refine q_dup (pc := 21) F dX3_add_21 rfl ?_
    refine q_get (pc := 22) F fgX3_15 0 rfl rfl dX3_add_22 ?_
    refine q_iconst (pc := 25) F (v := 1) dX3_add_25 (by decide) ?_
    refine q_iadd (pc := 26) F dX3_add_26 ?_
    refine q_put (pc := 27) F M (cs' := [(a_T, .inr (3, [.ref a_T_bytes, .int (t_length + (1 : Int32)), .int t_next, .int t_start, .int t_kind, .int t_value, .int t_item, .int t_numbersTold, .int t_items, .ref a_T_numbers, .int t_lawTold])), (a_T_bytes, .inl (cI, 300, .inl (upd t_bytes (ix t_length) p0)))]) fpX3_15 0 rfl rfl rfl (Nat.le_of_ble_eq_true rfl) rfl dX3_add_27 ?_
    exact q_vretM (pc := 30) F Z dX3_add_30 (upd t_bytes (ix t_length) p0, t_length + (1 : Int32)) h rfl

def wp_X3_isLetter (p0 : Int32) (post : Int32 → Prop) : Prop := (jn (fun (K16 : Prop) => ((p0 < (97 : Int32) → K16) ∧ (¬ p0 < (97 : Int32) → (((122 : Int32) < p0 → K16) ∧ (¬ (122 : Int32) < p0 → post (1 : Int32)))))) (post (0 : Int32)))
abbrev rm_X3_isLetter : Room := { frames := 0, cells := 0, slots := 0, locals := 0 }
set_option maxRecDepth 100000 in
set_option maxHeartbeats 4000000 in
theorem ct_X3_isLetter (D : va_G) (cI cZ : ClassId) (p0 : Int32) {post : Int32 → Prop} (h : wp_X3_isLetter p0 post) (l : Launch) (sz : Nat) : Met l yX3_isLetter (wsM yX3_isLetter cX3_isLetter 1 (some .boolean)) rm_X3_isLetter (va_Pc [.int p0] (gP D cI cZ [] sz)) (gR (fun r => isB r ∧ post r)) 0 0 (fun _ => False) := by
  refine q_startR (own := RX3) (by decide +kernel) rfl (Nat.le_of_ble_eq_true rfl) (fun E F Z => ?_)
  show Wg E [] 0 0 0 [(0, .int p0)] []
  unfold wp_X3_isLetter at h
  refine q_iload_n (pc := 0) F 0 dX3_isLetter_0 rfl ?_
  refine q_bipush (pc := 1) F (v := 97) dX3_isLetter_1 (by decide) ?_
  refine jnW h (fun K => K → Wg E [] 0 0 16 [] []) ?_ ?_
  · intro h
    refine q_iconst (pc := 16) F (v := 0) dX3_isLetter_16 (by decide) ?_
    exact q_zretR (pc := 17) F Z dX3_isLetter_17 (Or.inl rfl) h
  · intro K16 J16 h
    refine q_icmp_lt (pc := 3) (tgt := 16) F dX3_isLetter_3 (by decide) (fun c3 => ?_) (fun c3 => ?_)
    · have h := h.1 c3
      refine q_lv (lv' := []) [] rfl ?_
      exact J16 h
    · have h := h.2 c3
      refine q_iload_n (pc := 6) F 0 dX3_isLetter_6 rfl ?_
      refine q_bipush (pc := 7) F (v := 122) dX3_isLetter_7 (by decide) ?_
      refine q_icmp_gt (pc := 9) (tgt := 16) F dX3_isLetter_9 (by decide) (fun c9 => ?_) (fun c9 => ?_)
      · have h := h.1 c9
        refine q_lv (lv' := []) [] rfl ?_
        exact J16 h
      · have h := h.2 c9
        refine q_iconst (pc := 12) F (v := 1) dX3_isLetter_12 (by decide) ?_
        refine q_goto (pc := 13) (tgt := 17) F dX3_isLetter_13 (by decide) ?_
        exact q_zretR (pc := 17) F Z dX3_isLetter_17 (Or.inr rfl) h

def wp_X3_isDigit (p0 : Int32) (post : Int32 → Prop) : Prop := (jn (fun (K16 : Prop) => ((p0 < (48 : Int32) → K16) ∧ (¬ p0 < (48 : Int32) → (((57 : Int32) < p0 → K16) ∧ (¬ (57 : Int32) < p0 → post (1 : Int32)))))) (post (0 : Int32)))
abbrev rm_X3_isDigit : Room := { frames := 0, cells := 0, slots := 0, locals := 0 }
set_option maxRecDepth 100000 in
set_option maxHeartbeats 4000000 in
theorem ct_X3_isDigit (D : va_G) (cI cZ : ClassId) (p0 : Int32) {post : Int32 → Prop} (h : wp_X3_isDigit p0 post) (l : Launch) (sz : Nat) : Met l yX3_isDigit (wsM yX3_isDigit cX3_isDigit 1 (some .boolean)) rm_X3_isDigit (va_Pc [.int p0] (gP D cI cZ [] sz)) (gR (fun r => isB r ∧ post r)) 0 0 (fun _ => False) := by
  refine q_startR (own := RX3) (by decide +kernel) rfl (Nat.le_of_ble_eq_true rfl) (fun E F Z => ?_)
  show Wg E [] 0 0 0 [(0, .int p0)] []
  unfold wp_X3_isDigit at h
  refine q_iload_n (pc := 0) F 0 dX3_isDigit_0 rfl ?_
  refine q_bipush (pc := 1) F (v := 48) dX3_isDigit_1 (by decide) ?_
  refine jnW h (fun K => K → Wg E [] 0 0 16 [] []) ?_ ?_
  · intro h
    refine q_iconst (pc := 16) F (v := 0) dX3_isDigit_16 (by decide) ?_
    exact q_zretR (pc := 17) F Z dX3_isDigit_17 (Or.inl rfl) h
  · intro K16 J16 h
    refine q_icmp_lt (pc := 3) (tgt := 16) F dX3_isDigit_3 (by decide) (fun c3 => ?_) (fun c3 => ?_)
    · have h := h.1 c3
      refine q_lv (lv' := []) [] rfl ?_
      exact J16 h
    · have h := h.2 c3
      refine q_iload_n (pc := 6) F 0 dX3_isDigit_6 rfl ?_
      refine q_bipush (pc := 7) F (v := 57) dX3_isDigit_7 (by decide) ?_
      refine q_icmp_gt (pc := 9) (tgt := 16) F dX3_isDigit_9 (by decide) (fun c9 => ?_) (fun c9 => ?_)
      · have h := h.1 c9
        refine q_lv (lv' := []) [] rfl ?_
        exact J16 h
      · have h := h.2 c9
        refine q_iconst (pc := 12) F (v := 1) dX3_isDigit_12 (by decide) ?_
        refine q_goto (pc := 13) (tgt := 17) F dX3_isDigit_13 (by decide) ?_
        exact q_zretR (pc := 17) F Z dX3_isDigit_17 (Or.inr rfl) h

def wp_X3_wordIs_L20 (si : Nat) (t_bytes : Nat → Int32) (t_start : Int32) (post : Int32 → Prop) : Nat → Int32 → Prop
  | 0, _ => False
  | n + 1, x2 => (wp_J0_length si (fun (r22 : Int32) => ((r22 ≤ x2 → post (1 : Int32)) ∧ (¬ r22 ≤ x2 → (vp_in (t_start + x2) 300 ∧ (wp_J0_charAt si x2 (fun (r41 : Int32) => (((t_bytes (ix (t_start + x2))) = r41 → wp_X3_wordIs_L20 si t_bytes t_start post n (x2 + (1 : Int32))) ∧ (¬ (t_bytes (ix (t_start + x2))) = r41 → post (0 : Int32))))))))))
def wp_X3_wordIs (si : Nat) (t_bytes : Nat → Int32) (t_next : Int32) (t_start : Int32) (post : Int32 → Prop) : Prop := (wp_J0_length si (fun (r10 : Int32) => (((t_next - t_start) = r10 → (∃ n20 : Nat, wp_X3_wordIs_L20 si t_bytes t_start post n20 (0 : Int32))) ∧ (¬ (t_next - t_start) = r10 → post (0 : Int32)))))
abbrev rm_X3_wordIs : Room := { frames := 4, cells := 0, slots := 0, locals := 85 }
set_option maxRecDepth 100000 in
set_option maxHeartbeats 4000000 in
theorem ct_X3_wordIs (D : va_G) (cI cZ : ClassId) (adK adV : Nat → Nat) (a_T a_T_bytes a_T_numbers : Nat) (t_length : Int32) (t_next : Int32) (t_start : Int32) (t_kind : Int32) (t_value : Int32) (t_item : Int32) (t_numbersTold : Int32) (t_items : Int32) (t_lawTold : Int32) (t_bytes : Nat → Int32) (si : Nat) {post : Int32 → Prop} (h : wp_X3_wordIs si t_bytes t_next t_start post) (l : Launch) (sz : Nat) : Met l yX3_wordIs (wsM yX3_wordIs cX3_wordIs 3 (some .boolean)) rm_X3_wordIs (va_Pc [.ref a_T, .ref (adK si)] (gPX D cI cZ [(a_T, .inr (3, [.ref a_T_bytes, .int t_length, .int t_next, .int t_start, .int t_kind, .int t_value, .int t_item, .int t_numbersTold, .int t_items, .ref a_T_numbers, .int t_lawTold])), (a_T_bytes, .inl (cI, 300, .inl t_bytes))] (STR adK adV) sz)) (gR (fun r => isB r ∧ post r)) 0 0 (fun _ => False) := by
  refine q_startRX (own := RX3) (by decide +kernel) rfl (Nat.le_of_ble_eq_true rfl) (fun E F Z X => ?_)
  show Wg E [(a_T, .inr (3, [.ref a_T_bytes, .int t_length, .int t_next, .int t_start, .int t_kind, .int t_value, .int t_item, .int t_numbersTold, .int t_items, .ref a_T_numbers, .int t_lawTold])), (a_T_bytes, .inl (cI, 300, .inl t_bytes))] 0 0 0 [(0, .ref a_T), (1, .ref (adK si))] []
  unfold wp_X3_wordIs at h
  refine q_aload_n (pc := 0) F 0 dX3_wordIs_0 rfl ?_
  refine q_get (pc := 1) F fgX3_27 0 rfl rfl dX3_wordIs_1 ?_
  refine q_aload_n (pc := 4) F 0 dX3_wordIs_4 rfl ?_
  refine q_get (pc := 5) F fgX3_50 0 rfl rfl dX3_wordIs_5 ?_
  refine q_isub (pc := 8) F dX3_wordIs_8 ?_
  refine q_aload_n (pc := 9) F 1 dX3_wordIs_9 rfl ?_
  refine q_cR (q_runVO (As := []) (rest := [.int (t_next - t_start)]) (pc := 10) (i := si) h.1 F X (fun l sz => ct_J0_length D cI cZ adK adV si h l sz) mc_yJ0_length_8abf5 im_yJ0_length_8abf5 se_yJ0_length_8abf5 mlX3_141 ⟨by decide, by decide⟩ ⟨by decide, by decide⟩ ⟨rfl, rfl⟩ rfl rfl (Nat.le_of_ble_eq_true rfl) dX3_wordIs_10) (fun r10 h => ?_)
  refine q_icmp_eq (pc := 13) (tgt := 18) F dX3_wordIs_13 (by decide) (fun c13 => ?_) (fun c13 => ?_)
  · have h := h.1 c13
    refine q_iconst (pc := 18) F (v := 0) dX3_wordIs_18 (by decide) ?_
    refine q_istore_n (pc := 19) F (lv' := [(2, .int (0 : Int32)), (0, .ref a_T), (1, .ref (adK si))]) dX3_wordIs_19 (by decide) rfl ?_
    obtain ⟨n20, h⟩ := h
    have lp20 : ∀ (n : Nat) (x2_h20 : Int32), wp_X3_wordIs_L20 si t_bytes t_start post n x2_h20 → Wg E [(a_T, .inr (3, [.ref a_T_bytes, .int t_length, .int t_next, .int t_start, .int t_kind, .int t_value, .int t_item, .int t_numbersTold, .int t_items, .ref a_T_numbers, .int t_lawTold])), (a_T_bytes, .inl (cI, 300, .inl t_bytes))] 0 0 20 [(0, .ref a_T), (1, .ref (adK si)), (2, .int x2_h20)] [] := by
      intro n
      induction n with
      | zero => intro x2_h20 h; exact h.elim
      | succ n ih =>
        intro x2_h20 h
        unfold wp_X3_wordIs_L20 at h
        refine q_iload_n (pc := 20) F 2 dX3_wordIs_20 rfl ?_
        refine q_aload_n (pc := 21) F 1 dX3_wordIs_21 rfl ?_
        refine q_cR (q_runVO (As := []) (rest := [.int x2_h20]) (pc := 22) (i := si) h.1 F X (fun l sz => ct_J0_length D cI cZ adK adV si h l sz) mc_yJ0_length_8abf5 im_yJ0_length_8abf5 se_yJ0_length_8abf5 mlX3_141 ⟨by decide, by decide⟩ ⟨by decide, by decide⟩ ⟨rfl, rfl⟩ rfl rfl (Nat.le_of_ble_eq_true rfl) dX3_wordIs_22) (fun r22 h => ?_)
        refine q_icmp_ge (pc := 25) (tgt := 55) F dX3_wordIs_25 (by decide) (fun c25 => ?_) (fun c25 => ?_)
        · have h := h.1 c25
          refine q_iconst (pc := 55) F (v := 1) dX3_wordIs_55 (by decide) ?_
          exact q_zretR (pc := 56) F Z dX3_wordIs_56 (Or.inr rfl) h
        · have h := h.2 c25
          refine q_aload_n (pc := 28) F 0 dX3_wordIs_28 rfl ?_
          refine q_get (pc := 29) F fgX3_9 0 rfl rfl dX3_wordIs_29 ?_
          refine q_aload_n (pc := 32) F 0 dX3_wordIs_32 rfl ?_
          refine q_get (pc := 33) F fgX3_50 0 rfl rfl dX3_wordIs_33 ?_
          refine q_iload_n (pc := 36) F 2 dX3_wordIs_36 rfl ?_
          refine q_iadd (pc := 37) F dX3_wordIs_37 ?_
          obtain ⟨hi38, h⟩ := h
          refine q_iald (pc := 38) F 1 rfl hi38 dX3_wordIs_38 ?_
          refine q_aload_n (pc := 39) F 1 dX3_wordIs_39 rfl ?_
          refine q_iload_n (pc := 40) F 2 dX3_wordIs_40 rfl ?_
          refine q_cR (q_runVO (As := [.int x2_h20]) (rest := [.int (t_bytes (ix (t_start + x2_h20)))]) (pc := 41) (i := si) h.1 F X (fun l sz => ct_J0_charAt D cI cZ adK adV si x2_h20 h l sz) mc_yJ0_charAt_5068e im_yJ0_charAt_5068e se_yJ0_charAt_5068e mlX3_146 ⟨by decide, by decide⟩ ⟨by decide, by decide⟩ ⟨rfl, rfl⟩ rfl rfl (Nat.le_of_ble_eq_true rfl) dX3_wordIs_41) (fun r41 h => ?_)
          refine q_icmp_eq (pc := 44) (tgt := 49) F dX3_wordIs_44 (by decide) (fun c44 => ?_) (fun c44 => ?_)
          · have h := h.1 c44
            refine q_iinc (pc := 49) F (v := x2_h20 + (1 : Int32)) (lv' := [(2, .int (x2_h20 + (1 : Int32))), (0, .ref a_T), (1, .ref (adK si))]) 2 dX3_wordIs_49 rfl rfl (by decide) rfl ?_
            refine q_goto (pc := 52) (tgt := 20) F dX3_wordIs_52 (by decide) ?_
            refine q_lv (lv' := [(0, .ref a_T), (1, .ref (adK si)), (2, .int (x2_h20 + (1 : Int32)))]) [1, 2, 0] rfl ?_
            exact ih (x2_h20 + (1 : Int32)) h
          · have h := h.2 c44
            refine q_iconst (pc := 47) F (v := 0) dX3_wordIs_47 (by decide) ?_
            exact q_zretR (pc := 48) F Z dX3_wordIs_48 (Or.inl rfl) h
    refine q_lv (lv' := [(0, .ref a_T), (1, .ref (adK si)), (2, .int (0 : Int32))]) [1, 2, 0] rfl ?_
    exact lp20 n20 (0 : Int32) h
  · have h := h.2 c13
    refine q_iconst (pc := 16) F (v := 0) dX3_wordIs_16 (by decide) ?_
    exact q_zretR (pc := 17) F Z dX3_wordIs_17 (Or.inl rfl) h

def wp_X3_takeWord_L0 (t_bytes : Nat → Int32) (t_length : Int32) (K39 : Int32 → Prop) : Nat → Int32 → Prop
  | 0, _ => False
  | n + 1, t_next => ((t_length ≤ t_next → K39 t_next) ∧ (¬ t_length ≤ t_next → (vp_in t_next 300 ∧ (wp_X3_isLetter (t_bytes (ix t_next)) (fun (r20 : Int32) => ((r20 = (0 : Int32) → K39 t_next) ∧ (¬ r20 = (0 : Int32) → wp_X3_takeWord_L0 t_bytes t_length K39 n (t_next + (1 : Int32)))))))))
def wp_X3_takeWord (t_bytes : Nat → Int32) (t_length : Int32) (t_next : Int32) (t_start : Int32) (t_kind : Int32) (post : Int32 → Int32 → Prop) : Prop := (jn (fun (K39 : Int32 → Prop) => (∃ n0 : Nat, wp_X3_takeWord_L0 t_bytes t_length K39 n0 t_next)) (fun (t_next_39 : Int32) => (wp_X3_wordIs 0 t_bytes t_next_39 t_start (fun (r42 : Int32) => ((r42 = (0 : Int32) → (wp_X3_wordIs 1 t_bytes t_next_39 t_start (fun (r59 : Int32) => ((r59 = (0 : Int32) → (wp_X3_wordIs 2 t_bytes t_next_39 t_start (fun (r76 : Int32) => ((r76 = (0 : Int32) → (wp_X3_wordIs 3 t_bytes t_next_39 t_start (fun (r94 : Int32) => ((r94 = (0 : Int32) → (wp_X3_wordIs 4 t_bytes t_next_39 t_start (fun (r112 : Int32) => ((r112 = (0 : Int32) → (wp_X3_wordIs 5 t_bytes t_next_39 t_start (fun (r131 : Int32) => (jn (fun (K143 : Int32 → Prop) => ((r131 = (0 : Int32) → K143 (3 : Int32)) ∧ (¬ r131 = (0 : Int32) → K143 (9 : Int32)))) (fun (y143 : Int32) => post t_next_39 y143))))) ∧ (¬ r112 = (0 : Int32) → post t_next_39 (8 : Int32)))))) ∧ (¬ r94 = (0 : Int32) → post t_next_39 (7 : Int32)))))) ∧ (¬ r76 = (0 : Int32) → post t_next_39 (6 : Int32)))))) ∧ (¬ r59 = (0 : Int32) → post t_next_39 (5 : Int32)))))) ∧ (¬ r42 = (0 : Int32) → post t_next_39 (4 : Int32)))))))
abbrev rm_X3_takeWord : Room := { frames := 5, cells := 0, slots := 0, locals := 107 }
set_option maxRecDepth 100000 in
set_option maxHeartbeats 4000000 in
theorem ct_X3_takeWord (D : va_G) (cI cZ : ClassId) (adK adV : Nat → Nat) (a_T a_T_bytes a_T_numbers : Nat) (t_length : Int32) (t_next : Int32) (t_start : Int32) (t_kind : Int32) (t_value : Int32) (t_item : Int32) (t_numbersTold : Int32) (t_items : Int32) (t_lawTold : Int32) (t_bytes : Nat → Int32) {post : Int32 → Int32 → Prop} (h : wp_X3_takeWord t_bytes t_length t_next t_start t_kind post) (l : Launch) (sz : Nat) : Met l yX3_takeWord (wsM yX3_takeWord cX3_takeWord 1 none) rm_X3_takeWord (va_Pc [.ref a_T] (gPX D cI cZ [(a_T, .inr (3, [.ref a_T_bytes, .int t_length, .int t_next, .int t_start, .int t_kind, .int t_value, .int t_item, .int t_numbersTold, .int t_items, .ref a_T_numbers, .int t_lawTold])), (a_T_bytes, .inl (cI, 300, .inl t_bytes))] (STR adK adV) sz)) (gQv D (fun (u : Int32 × Int32) => post u.1 u.2) (fun (u : Int32 × Int32) => [(a_T, .inr (3, [.ref a_T_bytes, .int t_length, .int u.1, .int t_start, .int u.2, .int t_value, .int t_item, .int t_numbersTold, .int t_items, .ref a_T_numbers, .int t_lawTold])), (a_T_bytes, .inl (cI, 300, .inl t_bytes))]) [(a_T, .inr (3, [.ref a_T_bytes, .int t_length, .int t_next, .int t_start, .int t_kind, .int t_value, .int t_item, .int t_numbersTold, .int t_items, .ref a_T_numbers, .int t_lawTold])), (a_T_bytes, .inl (cI, 300, .inl t_bytes))] sz) 0 0 (va_A [(a_T, .inr (3, [.ref a_T_bytes, .int t_length, .int t_next, .int t_start, .int t_kind, .int t_value, .int t_item, .int t_numbersTold, .int t_items, .ref a_T_numbers, .int t_lawTold])), (a_T_bytes, .inl (cI, 300, .inl t_bytes))] sz) := by
  refine q_startMX (own := RX3) (Qc := gQv D (fun (u : Int32 × Int32) => post u.1 u.2) (fun (u : Int32 × Int32) => [(a_T, .inr (3, [.ref a_T_bytes, .int t_length, .int u.1, .int t_start, .int u.2, .int t_value, .int t_item, .int t_numbersTold, .int t_items, .ref a_T_numbers, .int t_lawTold])), (a_T_bytes, .inl (cI, 300, .inl t_bytes))]) [(a_T, .inr (3, [.ref a_T_bytes, .int t_length, .int t_next, .int t_start, .int t_kind, .int t_value, .int t_item, .int t_numbersTold, .int t_items, .ref a_T_numbers, .int t_lawTold])), (a_T_bytes, .inl (cI, 300, .inl t_bytes))]) (by decide +kernel) rfl (Nat.le_of_ble_eq_true rfl) (fun E F Z M X => ?_)
  show Wg E [(a_T, .inr (3, [.ref a_T_bytes, .int t_length, .int t_next, .int t_start, .int t_kind, .int t_value, .int t_item, .int t_numbersTold, .int t_items, .ref a_T_numbers, .int t_lawTold])), (a_T_bytes, .inl (cI, 300, .inl t_bytes))] 0 0 0 [(0, .ref a_T)] []
  unfold wp_X3_takeWord at h
  refine jnW h (fun K => ∀ (t_next_39 : Int32), K t_next_39 → Wg E [(a_T, .inr (3, [.ref a_T_bytes, .int t_length, .int t_next_39, .int t_start, .int t_kind, .int t_value, .int t_item, .int t_numbersTold, .int t_items, .ref a_T_numbers, .int t_lawTold])), (a_T_bytes, .inl (cI, 300, .inl t_bytes))] 0 0 39 [(0, .ref a_T)] []) ?_ ?_
  · intro t_next_39 h
    refine q_aload_n (pc := 39) F 0 dX3_takeWord_39 rfl ?_
    refine q_ldcS (pc := 40) F X (i := 0) (fun A U h => h.2.1.1) dX3_takeWord_40 ?_
    refine q_cR (q_runVX (As := [.ref (adK 0)]) (rest := []) (pc := 42) F X (STR_stab adK adV) (fun l sz => ct_X3_wordIs D cI cZ adK adV a_T a_T_bytes a_T_numbers t_length t_next_39 t_start t_kind t_value t_item t_numbersTold t_items t_lawTold t_bytes 0 h l sz) mc_yX3_wordIs im_yX3_wordIs se_yX3_wordIs mlX3_128 ⟨by decide, by decide⟩ ⟨by decide, by decide⟩ ⟨rfl, rfl⟩ [0, 1] rfl rfl rfl 0 rfl rfl rfl (Nat.le_of_ble_eq_true rfl) dX3_takeWord_42) (fun r42 h => ?_)
    obtain ⟨hb42, h⟩ := h
    refine q_if_eq (pc := 45) (tgt := 56) F dX3_takeWord_45 (by decide) (fun c45 => ?_) (fun c45 => ?_)
    · have h := h.1 c45
      refine q_aload_n (pc := 56) F 0 dX3_takeWord_56 rfl ?_
      refine q_ldcS (pc := 57) F X (i := 1) (fun A U h => h.2.1.2.1) dX3_takeWord_57 ?_
      refine q_cR (q_runVX (As := [.ref (adK 1)]) (rest := []) (pc := 59) F X (STR_stab adK adV) (fun l sz => ct_X3_wordIs D cI cZ adK adV a_T a_T_bytes a_T_numbers t_length t_next_39 t_start t_kind t_value t_item t_numbersTold t_items t_lawTold t_bytes 1 h l sz) mc_yX3_wordIs im_yX3_wordIs se_yX3_wordIs mlX3_128 ⟨by decide, by decide⟩ ⟨by decide, by decide⟩ ⟨rfl, rfl⟩ [0, 1] rfl rfl rfl 0 rfl rfl rfl (Nat.le_of_ble_eq_true rfl) dX3_takeWord_59) (fun r59 h => ?_)
      obtain ⟨hb59, h⟩ := h
      refine q_if_eq (pc := 62) (tgt := 73) F dX3_takeWord_62 (by decide) (fun c62 => ?_) (fun c62 => ?_)
      · have h := h.1 c62
        refine q_aload_n (pc := 73) F 0 dX3_takeWord_73 rfl ?_
        refine q_ldcS (pc := 74) F X (i := 2) (fun A U h => h.2.1.2.2.1) dX3_takeWord_74 ?_
        refine q_cR (q_runVX (As := [.ref (adK 2)]) (rest := []) (pc := 76) F X (STR_stab adK adV) (fun l sz => ct_X3_wordIs D cI cZ adK adV a_T a_T_bytes a_T_numbers t_length t_next_39 t_start t_kind t_value t_item t_numbersTold t_items t_lawTold t_bytes 2 h l sz) mc_yX3_wordIs im_yX3_wordIs se_yX3_wordIs mlX3_128 ⟨by decide, by decide⟩ ⟨by decide, by decide⟩ ⟨rfl, rfl⟩ [0, 1] rfl rfl rfl 0 rfl rfl rfl (Nat.le_of_ble_eq_true rfl) dX3_takeWord_76) (fun r76 h => ?_)
        obtain ⟨hb76, h⟩ := h
        refine q_if_eq (pc := 79) (tgt := 91) F dX3_takeWord_79 (by decide) (fun c79 => ?_) (fun c79 => ?_)
        · have h := h.1 c79
          refine q_aload_n (pc := 91) F 0 dX3_takeWord_91 rfl ?_
          refine q_ldcS (pc := 92) F X (i := 3) (fun A U h => h.2.1.2.2.2.1) dX3_takeWord_92 ?_
          refine q_cR (q_runVX (As := [.ref (adK 3)]) (rest := []) (pc := 94) F X (STR_stab adK adV) (fun l sz => ct_X3_wordIs D cI cZ adK adV a_T a_T_bytes a_T_numbers t_length t_next_39 t_start t_kind t_value t_item t_numbersTold t_items t_lawTold t_bytes 3 h l sz) mc_yX3_wordIs im_yX3_wordIs se_yX3_wordIs mlX3_128 ⟨by decide, by decide⟩ ⟨by decide, by decide⟩ ⟨rfl, rfl⟩ [0, 1] rfl rfl rfl 0 rfl rfl rfl (Nat.le_of_ble_eq_true rfl) dX3_takeWord_94) (fun r94 h => ?_)
          obtain ⟨hb94, h⟩ := h
          refine q_if_eq (pc := 97) (tgt := 109) F dX3_takeWord_97 (by decide) (fun c97 => ?_) (fun c97 => ?_)
          · have h := h.1 c97
            refine q_aload_n (pc := 109) F 0 dX3_takeWord_109 rfl ?_
            refine q_ldcS (pc := 110) F X (i := 4) (fun A U h => h.2.1.2.2.2.2.1) dX3_takeWord_110 ?_
            refine q_cR (q_runVX (As := [.ref (adK 4)]) (rest := []) (pc := 112) F X (STR_stab adK adV) (fun l sz => ct_X3_wordIs D cI cZ adK adV a_T a_T_bytes a_T_numbers t_length t_next_39 t_start t_kind t_value t_item t_numbersTold t_items t_lawTold t_bytes 4 h l sz) mc_yX3_wordIs im_yX3_wordIs se_yX3_wordIs mlX3_128 ⟨by decide, by decide⟩ ⟨by decide, by decide⟩ ⟨rfl, rfl⟩ [0, 1] rfl rfl rfl 0 rfl rfl rfl (Nat.le_of_ble_eq_true rfl) dX3_takeWord_112) (fun r112 h => ?_)
            obtain ⟨hb112, h⟩ := h
            refine q_if_eq (pc := 115) (tgt := 127) F dX3_takeWord_115 (by decide) (fun c115 => ?_) (fun c115 => ?_)
            · have h := h.1 c115
              refine q_aload_n (pc := 127) F 0 dX3_takeWord_127 rfl ?_
              refine q_aload_n (pc := 128) F 0 dX3_takeWord_128 rfl ?_
              refine q_ldcS (pc := 129) F X (i := 5) (fun A U h => h.2.1.2.2.2.2.2) dX3_takeWord_129 ?_
              refine q_cR (q_runVX (As := [.ref (adK 5)]) (rest := [.ref a_T]) (pc := 131) F X (STR_stab adK adV) (fun l sz => ct_X3_wordIs D cI cZ adK adV a_T a_T_bytes a_T_numbers t_length t_next_39 t_start t_kind t_value t_item t_numbersTold t_items t_lawTold t_bytes 5 h l sz) mc_yX3_wordIs im_yX3_wordIs se_yX3_wordIs mlX3_128 ⟨by decide, by decide⟩ ⟨by decide, by decide⟩ ⟨rfl, rfl⟩ [0, 1] rfl rfl rfl 0 rfl rfl rfl (Nat.le_of_ble_eq_true rfl) dX3_takeWord_131) (fun r131 h => ?_)
              obtain ⟨hb131, h⟩ := h
              refine jnW h (fun K => ∀ (y143 : Int32), K y143 → Wg E [(a_T, .inr (3, [.ref a_T_bytes, .int t_length, .int t_next_39, .int t_start, .int t_kind, .int t_value, .int t_item, .int t_numbersTold, .int t_items, .ref a_T_numbers, .int t_lawTold])), (a_T_bytes, .inl (cI, 300, .inl t_bytes))] 0 0 143 [] [.int y143, .ref a_T]) ?_ ?_
              · intro y143 h
                refine q_put (pc := 143) F M (cs' := [(a_T, .inr (3, [.ref a_T_bytes, .int t_length, .int t_next_39, .int t_start, .int y143, .int t_value, .int t_item, .int t_numbersTold, .int t_items, .ref a_T_numbers, .int t_lawTold])), (a_T_bytes, .inl (cI, 300, .inl t_bytes))]) fpX3_43 0 rfl rfl rfl (Nat.le_of_ble_eq_true rfl) rfl dX3_takeWord_143 ?_
                exact q_vretM (pc := 146) F Z dX3_takeWord_146 (t_next_39, y143) h rfl
              · intro K143 J143 h
                refine q_if_eq (pc := 134) (tgt := 142) F dX3_takeWord_134 (by decide) (fun c134 => ?_) (fun c134 => ?_)
                · have h := h.1 c134
                  refine q_iconst (pc := 142) F (v := 3) dX3_takeWord_142 (by decide) ?_
                  refine q_lv (lv' := []) [] rfl ?_
                  exact J143 (3 : Int32) h
                · have h := h.2 c134
                  refine q_bipush (pc := 137) F (v := 9) dX3_takeWord_137 (by decide) ?_
                  refine q_goto (pc := 139) (tgt := 143) F dX3_takeWord_139 (by decide) ?_
                  refine q_lv (lv' := []) [] rfl ?_
                  exact J143 (9 : Int32) h
            · have h := h.2 c115
              refine q_aload_n (pc := 118) F 0 dX3_takeWord_118 rfl ?_
              refine q_bipush (pc := 119) F (v := 8) dX3_takeWord_119 (by decide) ?_
              refine q_put (pc := 121) F M (cs' := [(a_T, .inr (3, [.ref a_T_bytes, .int t_length, .int t_next_39, .int t_start, .int (8 : Int32), .int t_value, .int t_item, .int t_numbersTold, .int t_items, .ref a_T_numbers, .int t_lawTold])), (a_T_bytes, .inl (cI, 300, .inl t_bytes))]) fpX3_43 0 rfl rfl rfl (Nat.le_of_ble_eq_true rfl) rfl dX3_takeWord_121 ?_
              refine q_goto (pc := 124) (tgt := 146) F dX3_takeWord_124 (by decide) ?_
              exact q_vretM (pc := 146) F Z dX3_takeWord_146 (t_next_39, (8 : Int32)) h rfl
          · have h := h.2 c97
            refine q_aload_n (pc := 100) F 0 dX3_takeWord_100 rfl ?_
            refine q_bipush (pc := 101) F (v := 7) dX3_takeWord_101 (by decide) ?_
            refine q_put (pc := 103) F M (cs' := [(a_T, .inr (3, [.ref a_T_bytes, .int t_length, .int t_next_39, .int t_start, .int (7 : Int32), .int t_value, .int t_item, .int t_numbersTold, .int t_items, .ref a_T_numbers, .int t_lawTold])), (a_T_bytes, .inl (cI, 300, .inl t_bytes))]) fpX3_43 0 rfl rfl rfl (Nat.le_of_ble_eq_true rfl) rfl dX3_takeWord_103 ?_
            refine q_goto (pc := 106) (tgt := 146) F dX3_takeWord_106 (by decide) ?_
            exact q_vretM (pc := 146) F Z dX3_takeWord_146 (t_next_39, (7 : Int32)) h rfl
        · have h := h.2 c79
          refine q_aload_n (pc := 82) F 0 dX3_takeWord_82 rfl ?_
          refine q_bipush (pc := 83) F (v := 6) dX3_takeWord_83 (by decide) ?_
          refine q_put (pc := 85) F M (cs' := [(a_T, .inr (3, [.ref a_T_bytes, .int t_length, .int t_next_39, .int t_start, .int (6 : Int32), .int t_value, .int t_item, .int t_numbersTold, .int t_items, .ref a_T_numbers, .int t_lawTold])), (a_T_bytes, .inl (cI, 300, .inl t_bytes))]) fpX3_43 0 rfl rfl rfl (Nat.le_of_ble_eq_true rfl) rfl dX3_takeWord_85 ?_
          refine q_goto (pc := 88) (tgt := 146) F dX3_takeWord_88 (by decide) ?_
          exact q_vretM (pc := 146) F Z dX3_takeWord_146 (t_next_39, (6 : Int32)) h rfl
      · have h := h.2 c62
        refine q_aload_n (pc := 65) F 0 dX3_takeWord_65 rfl ?_
        refine q_iconst (pc := 66) F (v := 5) dX3_takeWord_66 (by decide) ?_
        refine q_put (pc := 67) F M (cs' := [(a_T, .inr (3, [.ref a_T_bytes, .int t_length, .int t_next_39, .int t_start, .int (5 : Int32), .int t_value, .int t_item, .int t_numbersTold, .int t_items, .ref a_T_numbers, .int t_lawTold])), (a_T_bytes, .inl (cI, 300, .inl t_bytes))]) fpX3_43 0 rfl rfl rfl (Nat.le_of_ble_eq_true rfl) rfl dX3_takeWord_67 ?_
        refine q_goto (pc := 70) (tgt := 146) F dX3_takeWord_70 (by decide) ?_
        exact q_vretM (pc := 146) F Z dX3_takeWord_146 (t_next_39, (5 : Int32)) h rfl
    · have h := h.2 c45
      refine q_aload_n (pc := 48) F 0 dX3_takeWord_48 rfl ?_
      refine q_iconst (pc := 49) F (v := 4) dX3_takeWord_49 (by decide) ?_
      refine q_put (pc := 50) F M (cs' := [(a_T, .inr (3, [.ref a_T_bytes, .int t_length, .int t_next_39, .int t_start, .int (4 : Int32), .int t_value, .int t_item, .int t_numbersTold, .int t_items, .ref a_T_numbers, .int t_lawTold])), (a_T_bytes, .inl (cI, 300, .inl t_bytes))]) fpX3_43 0 rfl rfl rfl (Nat.le_of_ble_eq_true rfl) rfl dX3_takeWord_50 ?_
      refine q_goto (pc := 53) (tgt := 146) F dX3_takeWord_53 (by decide) ?_
      exact q_vretM (pc := 146) F Z dX3_takeWord_146 (t_next_39, (4 : Int32)) h rfl
  · intro K39 J39 h
    obtain ⟨n0, h⟩ := h
    have lp0 : ∀ (n : Nat) (t_next_h0 : Int32), wp_X3_takeWord_L0 t_bytes t_length K39 n t_next_h0 → Wg E [(a_T, .inr (3, [.ref a_T_bytes, .int t_length, .int t_next_h0, .int t_start, .int t_kind, .int t_value, .int t_item, .int t_numbersTold, .int t_items, .ref a_T_numbers, .int t_lawTold])), (a_T_bytes, .inl (cI, 300, .inl t_bytes))] 0 0 0 [(0, .ref a_T)] [] := by
      intro n
      induction n with
      | zero => intro t_next_h0 h; exact h.elim
      | succ n ih =>
        intro t_next_h0 h
        unfold wp_X3_takeWord_L0 at h
        refine q_aload_n (pc := 0) F 0 dX3_takeWord_0 rfl ?_
        refine q_get (pc := 1) F fgX3_27 0 rfl rfl dX3_takeWord_1 ?_
        refine q_aload_n (pc := 4) F 0 dX3_takeWord_4 rfl ?_
        refine q_get (pc := 5) F fgX3_15 0 rfl rfl dX3_takeWord_5 ?_
        refine q_icmp_ge (pc := 8) (tgt := 39) F dX3_takeWord_8 (by decide) (fun c8 => ?_) (fun c8 => ?_)
        · have h := h.1 c8
          exact J39 t_next_h0 h
        · have h := h.2 c8
          refine q_aload_n (pc := 11) F 0 dX3_takeWord_11 rfl ?_
          refine q_get (pc := 12) F fgX3_9 0 rfl rfl dX3_takeWord_12 ?_
          refine q_aload_n (pc := 15) F 0 dX3_takeWord_15 rfl ?_
          refine q_get (pc := 16) F fgX3_27 0 rfl rfl dX3_takeWord_16 ?_
          obtain ⟨hi19, h⟩ := h
          refine q_iald (pc := 19) F 1 rfl hi19 dX3_takeWord_19 ?_
          refine q_cR (q_runS (As := [.int (t_bytes (ix t_next_h0))]) (rest := []) (pc := 20) F (fun l sz => ct_X3_isLetter D cI cZ (t_bytes (ix t_next_h0)) h l sz) mc_yX3_isLetter sm_yX3_isLetter mlX3_113 ⟨by decide, by decide⟩ ⟨by decide, by decide⟩ ⟨rfl, rfl⟩ [] rfl rfl rfl rfl (Nat.le_of_ble_eq_true rfl) dX3_takeWord_20) (fun r20 h => ?_)
          obtain ⟨hb20, h⟩ := h
          refine q_if_eq (pc := 23) (tgt := 39) F dX3_takeWord_23 (by decide) (fun c23 => ?_) (fun c23 => ?_)
          · have h := h.1 c23
            exact J39 t_next_h0 h
          · have h := h.2 c23
            refine q_aload_n (pc := 26) F 0 dX3_takeWord_26 rfl ?_
            refine q_dup (pc := 27) F dX3_takeWord_27 rfl ?_
            refine q_get (pc := 28) F fgX3_27 0 rfl rfl dX3_takeWord_28 ?_
            refine q_iconst (pc := 31) F (v := 1) dX3_takeWord_31 (by decide) ?_
            refine q_iadd (pc := 32) F dX3_takeWord_32 ?_
            refine q_put (pc := 33) F M (cs' := [(a_T, .inr (3, [.ref a_T_bytes, .int t_length, .int (t_next_h0 + (1 : Int32)), .int t_start, .int t_kind, .int t_value, .int t_item, .int t_numbersTold, .int t_items, .ref a_T_numbers, .int t_lawTold])), (a_T_bytes, .inl (cI, 300, .inl t_bytes))]) fpX3_27 0 rfl rfl rfl (Nat.le_of_ble_eq_true rfl) rfl dX3_takeWord_33 ?_
            refine q_goto (pc := 36) (tgt := 0) F dX3_takeWord_36 (by decide) ?_
            exact ih (t_next_h0 + (1 : Int32)) h
    exact lp0 n0 t_next h

def wp_X3_takeNumber_L5 (t_bytes : Nat → Int32) (t_length : Int32) (K73 : Int32 → Int32 → Prop) : Nat → Int32 → Int32 → Prop
  | 0, _, _ => False
  | n + 1, t_next, t_value => ((t_length ≤ t_next → K73 t_next t_value) ∧ (¬ t_length ≤ t_next → (vp_in t_next 300 ∧ (wp_X3_isDigit (t_bytes (ix t_next)) (fun (r25 : Int32) => ((r25 = (0 : Int32) → K73 t_next t_value) ∧ (¬ r25 = (0 : Int32) → (vp_in t_next 300 ∧ wp_X3_takeNumber_L5 t_bytes t_length K73 n (t_next + (1 : Int32)) (jmin (((t_value * (10 : Int32)) + (t_bytes (ix t_next))) - (48 : Int32)) (100 : Int32))))))))))
def wp_X3_takeNumber (t_bytes : Nat → Int32) (t_length : Int32) (t_next : Int32) (t_start : Int32) (t_kind : Int32) (t_value : Int32) (post : Int32 → Int32 → Int32 → Prop) : Prop := (jn (fun (K73 : Int32 → Int32 → Prop) => (∃ n5 : Nat, wp_X3_takeNumber_L5 t_bytes t_length K73 n5 t_next (0 : Int32))) (fun (t_next_73 : Int32) (t_value_73 : Int32) => (vp_in t_start 300 ∧ (jn (fun (K105 : Int32 → Prop) => (jn (fun (K104 : Prop) => (((t_bytes (ix t_start)) = (48 : Int32) → (((t_next_73 - t_start) ≤ (1 : Int32) → K104) ∧ (¬ (t_next_73 - t_start) ≤ (1 : Int32) → K105 (1 : Int32)))) ∧ (¬ (t_bytes (ix t_start)) = (48 : Int32) → K104))) (K105 (0 : Int32)))) (fun (y105 : Int32) => (jn (fun (K125 : Int32 → Prop) => (jn (fun (K120 : Prop) => ((y105 = (0 : Int32) → ((t_value_73 ≤ (99 : Int32) → K125 (2 : Int32)) ∧ (¬ t_value_73 ≤ (99 : Int32) → K120))) ∧ (¬ y105 = (0 : Int32) → K120))) (K125 (3 : Int32)))) (fun (y125 : Int32) => post t_next_73 y125 t_value_73)))))))
abbrev rm_X3_takeNumber : Room := { frames := 1, cells := 0, slots := 0, locals := 21 }
set_option maxRecDepth 100000 in
set_option maxHeartbeats 4000000 in
theorem ct_X3_takeNumber (D : va_G) (cI cZ : ClassId) (a_T a_T_bytes a_T_numbers : Nat) (t_length : Int32) (t_next : Int32) (t_start : Int32) (t_kind : Int32) (t_value : Int32) (t_item : Int32) (t_numbersTold : Int32) (t_items : Int32) (t_lawTold : Int32) (t_bytes : Nat → Int32) {post : Int32 → Int32 → Int32 → Prop} (h : wp_X3_takeNumber t_bytes t_length t_next t_start t_kind t_value post) (l : Launch) (sz : Nat) : Met l yX3_takeNumber (wsM yX3_takeNumber cX3_takeNumber 2 none) rm_X3_takeNumber (va_Pc [.ref a_T] (gP D cI cZ [(a_T, .inr (3, [.ref a_T_bytes, .int t_length, .int t_next, .int t_start, .int t_kind, .int t_value, .int t_item, .int t_numbersTold, .int t_items, .ref a_T_numbers, .int t_lawTold])), (a_T_bytes, .inl (cI, 300, .inl t_bytes))] sz)) (gQv D (fun (u : Int32 × Int32 × Int32) => post u.1 u.2.1 u.2.2) (fun (u : Int32 × Int32 × Int32) => [(a_T, .inr (3, [.ref a_T_bytes, .int t_length, .int u.1, .int t_start, .int u.2.1, .int u.2.2, .int t_item, .int t_numbersTold, .int t_items, .ref a_T_numbers, .int t_lawTold])), (a_T_bytes, .inl (cI, 300, .inl t_bytes))]) [(a_T, .inr (3, [.ref a_T_bytes, .int t_length, .int t_next, .int t_start, .int t_kind, .int t_value, .int t_item, .int t_numbersTold, .int t_items, .ref a_T_numbers, .int t_lawTold])), (a_T_bytes, .inl (cI, 300, .inl t_bytes))] sz) 0 0 (va_A [(a_T, .inr (3, [.ref a_T_bytes, .int t_length, .int t_next, .int t_start, .int t_kind, .int t_value, .int t_item, .int t_numbersTold, .int t_items, .ref a_T_numbers, .int t_lawTold])), (a_T_bytes, .inl (cI, 300, .inl t_bytes))] sz) := by
  refine q_startM (own := RX3) (Qc := gQv D (fun (u : Int32 × Int32 × Int32) => post u.1 u.2.1 u.2.2) (fun (u : Int32 × Int32 × Int32) => [(a_T, .inr (3, [.ref a_T_bytes, .int t_length, .int u.1, .int t_start, .int u.2.1, .int u.2.2, .int t_item, .int t_numbersTold, .int t_items, .ref a_T_numbers, .int t_lawTold])), (a_T_bytes, .inl (cI, 300, .inl t_bytes))]) [(a_T, .inr (3, [.ref a_T_bytes, .int t_length, .int t_next, .int t_start, .int t_kind, .int t_value, .int t_item, .int t_numbersTold, .int t_items, .ref a_T_numbers, .int t_lawTold])), (a_T_bytes, .inl (cI, 300, .inl t_bytes))]) (by decide +kernel) rfl (Nat.le_of_ble_eq_true rfl) (fun E F Z M => ?_)
  show Wg E [(a_T, .inr (3, [.ref a_T_bytes, .int t_length, .int t_next, .int t_start, .int t_kind, .int t_value, .int t_item, .int t_numbersTold, .int t_items, .ref a_T_numbers, .int t_lawTold])), (a_T_bytes, .inl (cI, 300, .inl t_bytes))] 0 0 0 [(0, .ref a_T)] []
  unfold wp_X3_takeNumber at h
  refine q_aload_n (pc := 0) F 0 dX3_takeNumber_0 rfl ?_
  refine q_iconst (pc := 1) F (v := 0) dX3_takeNumber_1 (by decide) ?_
  refine q_put (pc := 2) F M (cs' := [(a_T, .inr (3, [.ref a_T_bytes, .int t_length, .int t_next, .int t_start, .int t_kind, .int (0 : Int32), .int t_item, .int t_numbersTold, .int t_items, .ref a_T_numbers, .int t_lawTold])), (a_T_bytes, .inl (cI, 300, .inl t_bytes))]) fpX3_79 0 rfl rfl rfl (Nat.le_of_ble_eq_true rfl) rfl dX3_takeNumber_2 ?_
  refine jnW h (fun K => ∀ (t_next_73 : Int32) (t_value_73 : Int32), K t_next_73 t_value_73 → Wg E [(a_T, .inr (3, [.ref a_T_bytes, .int t_length, .int t_next_73, .int t_start, .int t_kind, .int t_value_73, .int t_item, .int t_numbersTold, .int t_items, .ref a_T_numbers, .int t_lawTold])), (a_T_bytes, .inl (cI, 300, .inl t_bytes))] 0 0 73 [(0, .ref a_T)] []) ?_ ?_
  · intro t_next_73 t_value_73 h
    refine q_aload_n (pc := 73) F 0 dX3_takeNumber_73 rfl ?_
    refine q_get (pc := 74) F fgX3_9 0 rfl rfl dX3_takeNumber_74 ?_
    refine q_aload_n (pc := 77) F 0 dX3_takeNumber_77 rfl ?_
    refine q_get (pc := 78) F fgX3_50 0 rfl rfl dX3_takeNumber_78 ?_
    obtain ⟨hi81, h⟩ := h
    refine q_iald (pc := 81) F 1 rfl hi81 dX3_takeNumber_81 ?_
    refine q_bipush (pc := 82) F (v := 48) dX3_takeNumber_82 (by decide) ?_
    refine jnW h (fun K => ∀ (y105 : Int32), K y105 → Wg E [(a_T, .inr (3, [.ref a_T_bytes, .int t_length, .int t_next_73, .int t_start, .int t_kind, .int t_value_73, .int t_item, .int t_numbersTold, .int t_items, .ref a_T_numbers, .int t_lawTold])), (a_T_bytes, .inl (cI, 300, .inl t_bytes))] 0 0 105 [(0, .ref a_T)] [.int y105]) ?_ ?_
    · intro y105 h
      refine q_istore_n (pc := 105) F (lv' := [(1, .int y105), (0, .ref a_T)]) dX3_takeNumber_105 (by decide) rfl ?_
      refine q_aload_n (pc := 106) F 1 dX3_takeNumber_106 rfl ?_
      refine q_iload_n (pc := 107) F 0 dX3_takeNumber_107 rfl ?_
      refine jnW h (fun K => ∀ (y125 : Int32), K y125 → Wg E [(a_T, .inr (3, [.ref a_T_bytes, .int t_length, .int t_next_73, .int t_start, .int t_kind, .int t_value_73, .int t_item, .int t_numbersTold, .int t_items, .ref a_T_numbers, .int t_lawTold])), (a_T_bytes, .inl (cI, 300, .inl t_bytes))] 0 0 125 [] [.int y125, .ref a_T]) ?_ ?_
      · intro y125 h
        refine q_put (pc := 125) F M (cs' := [(a_T, .inr (3, [.ref a_T_bytes, .int t_length, .int t_next_73, .int t_start, .int y125, .int t_value_73, .int t_item, .int t_numbersTold, .int t_items, .ref a_T_numbers, .int t_lawTold])), (a_T_bytes, .inl (cI, 300, .inl t_bytes))]) fpX3_43 0 rfl rfl rfl (Nat.le_of_ble_eq_true rfl) rfl dX3_takeNumber_125 ?_
        exact q_vretM (pc := 128) F Z dX3_takeNumber_128 (t_next_73, y125, t_value_73) h rfl
      · intro K125 J125 h
        refine jnW h (fun K => K → Wg E [(a_T, .inr (3, [.ref a_T_bytes, .int t_length, .int t_next_73, .int t_start, .int t_kind, .int t_value_73, .int t_item, .int t_numbersTold, .int t_items, .ref a_T_numbers, .int t_lawTold])), (a_T_bytes, .inl (cI, 300, .inl t_bytes))] 0 0 120 [] [.ref a_T]) ?_ ?_
        · intro h
          refine q_iconst (pc := 120) F (v := 3) dX3_takeNumber_120 (by decide) ?_
          refine q_goto (pc := 121) (tgt := 125) F dX3_takeNumber_121 (by decide) ?_
          exact J125 (3 : Int32) h
        · intro K120 J120 h
          refine q_if_ne (pc := 108) (tgt := 120) F dX3_takeNumber_108 (by decide) (fun c108 => ?_) (fun c108 => ?_)
          · have h := h.2 c108
            refine q_lv (lv' := []) [] rfl ?_
            exact J120 h
          · have h := h.1 c108
            refine q_aload_n (pc := 111) F 1 dX3_takeNumber_111 rfl ?_
            refine q_get (pc := 112) F fgX3_79 0 rfl rfl dX3_takeNumber_112 ?_
            refine q_bipush (pc := 115) F (v := 99) dX3_takeNumber_115 (by decide) ?_
            refine q_icmp_le (pc := 117) (tgt := 124) F dX3_takeNumber_117 (by decide) (fun c117 => ?_) (fun c117 => ?_)
            · have h := h.1 c117
              refine q_iconst (pc := 124) F (v := 2) dX3_takeNumber_124 (by decide) ?_
              refine q_lv (lv' := []) [] rfl ?_
              exact J125 (2 : Int32) h
            · have h := h.2 c117
              refine q_lv (lv' := []) [] rfl ?_
              exact J120 h
    · intro K105 J105 h
      refine jnW h (fun K => K → Wg E [(a_T, .inr (3, [.ref a_T_bytes, .int t_length, .int t_next_73, .int t_start, .int t_kind, .int t_value_73, .int t_item, .int t_numbersTold, .int t_items, .ref a_T_numbers, .int t_lawTold])), (a_T_bytes, .inl (cI, 300, .inl t_bytes))] 0 0 104 [(0, .ref a_T)] []) ?_ ?_
      · intro h
        refine q_iconst (pc := 104) F (v := 0) dX3_takeNumber_104 (by decide) ?_
        exact J105 (0 : Int32) h
      · intro K104 J104 h
        refine q_icmp_ne (pc := 84) (tgt := 104) F dX3_takeNumber_84 (by decide) (fun c84 => ?_) (fun c84 => ?_)
        · have h := h.2 c84
          exact J104 h
        · have h := h.1 c84
          refine q_aload_n (pc := 87) F 0 dX3_takeNumber_87 rfl ?_
          refine q_get (pc := 88) F fgX3_27 0 rfl rfl dX3_takeNumber_88 ?_
          refine q_aload_n (pc := 91) F 0 dX3_takeNumber_91 rfl ?_
          refine q_get (pc := 92) F fgX3_50 0 rfl rfl dX3_takeNumber_92 ?_
          refine q_isub (pc := 95) F dX3_takeNumber_95 ?_
          refine q_iconst (pc := 96) F (v := 1) dX3_takeNumber_96 (by decide) ?_
          refine q_icmp_le (pc := 97) (tgt := 104) F dX3_takeNumber_97 (by decide) (fun c97 => ?_) (fun c97 => ?_)
          · have h := h.1 c97
            exact J104 h
          · have h := h.2 c97
            refine q_iconst (pc := 100) F (v := 1) dX3_takeNumber_100 (by decide) ?_
            refine q_goto (pc := 101) (tgt := 105) F dX3_takeNumber_101 (by decide) ?_
            exact J105 (1 : Int32) h
  · intro K73 J73 h
    obtain ⟨n5, h⟩ := h
    have lp5 : ∀ (n : Nat) (t_next_h5 : Int32) (t_value_h5 : Int32), wp_X3_takeNumber_L5 t_bytes t_length K73 n t_next_h5 t_value_h5 → Wg E [(a_T, .inr (3, [.ref a_T_bytes, .int t_length, .int t_next_h5, .int t_start, .int t_kind, .int t_value_h5, .int t_item, .int t_numbersTold, .int t_items, .ref a_T_numbers, .int t_lawTold])), (a_T_bytes, .inl (cI, 300, .inl t_bytes))] 0 0 5 [(0, .ref a_T)] [] := by
      intro n
      induction n with
      | zero => intro t_next_h5 t_value_h5 h; exact h.elim
      | succ n ih =>
        intro t_next_h5 t_value_h5 h
        unfold wp_X3_takeNumber_L5 at h
        refine q_aload_n (pc := 5) F 0 dX3_takeNumber_5 rfl ?_
        refine q_get (pc := 6) F fgX3_27 0 rfl rfl dX3_takeNumber_6 ?_
        refine q_aload_n (pc := 9) F 0 dX3_takeNumber_9 rfl ?_
        refine q_get (pc := 10) F fgX3_15 0 rfl rfl dX3_takeNumber_10 ?_
        refine q_icmp_ge (pc := 13) (tgt := 73) F dX3_takeNumber_13 (by decide) (fun c13 => ?_) (fun c13 => ?_)
        · have h := h.1 c13
          exact J73 t_next_h5 t_value_h5 h
        · have h := h.2 c13
          refine q_aload_n (pc := 16) F 0 dX3_takeNumber_16 rfl ?_
          refine q_get (pc := 17) F fgX3_9 0 rfl rfl dX3_takeNumber_17 ?_
          refine q_aload_n (pc := 20) F 0 dX3_takeNumber_20 rfl ?_
          refine q_get (pc := 21) F fgX3_27 0 rfl rfl dX3_takeNumber_21 ?_
          obtain ⟨hi24, h⟩ := h
          refine q_iald (pc := 24) F 1 rfl hi24 dX3_takeNumber_24 ?_
          refine q_cR (q_runS (As := [.int (t_bytes (ix t_next_h5))]) (rest := []) (pc := 25) F (fun l sz => ct_X3_isDigit D cI cZ (t_bytes (ix t_next_h5)) h l sz) mc_yX3_isDigit sm_yX3_isDigit mlX3_120 ⟨by decide, by decide⟩ ⟨by decide, by decide⟩ ⟨rfl, rfl⟩ [] rfl rfl rfl rfl (Nat.le_of_ble_eq_true rfl) dX3_takeNumber_25) (fun r25 h => ?_)
          obtain ⟨hb25, h⟩ := h
          refine q_if_eq (pc := 28) (tgt := 73) F dX3_takeNumber_28 (by decide) (fun c28 => ?_) (fun c28 => ?_)
          · have h := h.1 c28
            exact J73 t_next_h5 t_value_h5 h
          · have h := h.2 c28
            refine q_aload_n (pc := 31) F 0 dX3_takeNumber_31 rfl ?_
            refine q_aload_n (pc := 32) F 0 dX3_takeNumber_32 rfl ?_
            refine q_get (pc := 33) F fgX3_79 0 rfl rfl dX3_takeNumber_33 ?_
            refine q_bipush (pc := 36) F (v := 10) dX3_takeNumber_36 (by decide) ?_
            refine q_imul (pc := 38) F dX3_takeNumber_38 ?_
            refine q_aload_n (pc := 39) F 0 dX3_takeNumber_39 rfl ?_
            refine q_get (pc := 40) F fgX3_9 0 rfl rfl dX3_takeNumber_40 ?_
            refine q_aload_n (pc := 43) F 0 dX3_takeNumber_43 rfl ?_
            refine q_get (pc := 44) F fgX3_27 0 rfl rfl dX3_takeNumber_44 ?_
            obtain ⟨hi47, h⟩ := h
            refine q_iald (pc := 47) F 1 rfl hi47 dX3_takeNumber_47 ?_
            refine q_iadd (pc := 48) F dX3_takeNumber_48 ?_
            refine q_bipush (pc := 49) F (v := 48) dX3_takeNumber_49 (by decide) ?_
            refine q_isub (pc := 51) F dX3_takeNumber_51 ?_
            refine q_bipush (pc := 52) F (v := 100) dX3_takeNumber_52 (by decide) ?_
            refine q_mmin (pc := 54) F mlX3_150 sm_Lib_Math_min_name in_J9 cd_Lib_Math_min_name (by decide) (Nat.le_of_ble_eq_true rfl) (by decide) (by decide) dX3_takeNumber_54 ?_
            refine q_put (pc := 57) F M (cs' := [(a_T, .inr (3, [.ref a_T_bytes, .int t_length, .int t_next_h5, .int t_start, .int t_kind, .int (jmin (((t_value_h5 * (10 : Int32)) + (t_bytes (ix t_next_h5))) - (48 : Int32)) (100 : Int32)), .int t_item, .int t_numbersTold, .int t_items, .ref a_T_numbers, .int t_lawTold])), (a_T_bytes, .inl (cI, 300, .inl t_bytes))]) fpX3_79 0 rfl rfl rfl (Nat.le_of_ble_eq_true rfl) rfl dX3_takeNumber_57 ?_
            refine q_aload_n (pc := 60) F 0 dX3_takeNumber_60 rfl ?_
            refine q_dup (pc := 61) F dX3_takeNumber_61 rfl ?_
            refine q_get (pc := 62) F fgX3_27 0 rfl rfl dX3_takeNumber_62 ?_
            refine q_iconst (pc := 65) F (v := 1) dX3_takeNumber_65 (by decide) ?_
            refine q_iadd (pc := 66) F dX3_takeNumber_66 ?_
            refine q_put (pc := 67) F M (cs' := [(a_T, .inr (3, [.ref a_T_bytes, .int t_length, .int (t_next_h5 + (1 : Int32)), .int t_start, .int t_kind, .int (jmin (((t_value_h5 * (10 : Int32)) + (t_bytes (ix t_next_h5))) - (48 : Int32)) (100 : Int32)), .int t_item, .int t_numbersTold, .int t_items, .ref a_T_numbers, .int t_lawTold])), (a_T_bytes, .inl (cI, 300, .inl t_bytes))]) fpX3_27 0 rfl rfl rfl (Nat.le_of_ble_eq_true rfl) rfl dX3_takeNumber_67 ?_
            refine q_goto (pc := 70) (tgt := 5) F dX3_takeNumber_70 (by decide) ?_
            exact ih (t_next_h5 + (1 : Int32)) (jmin (((t_value_h5 * (10 : Int32)) + (t_bytes (ix t_next_h5))) - (48 : Int32)) (100 : Int32)) h
    exact lp5 n5 t_next (0 : Int32) h

def wp_X3_readToken_L0 (t_bytes : Nat → Int32) (t_length : Int32) (K38 : Int32 → Prop) : Nat → Int32 → Prop
  | 0, _ => False
  | n + 1, t_next => ((t_length ≤ t_next → K38 t_next) ∧ (¬ t_length ≤ t_next → (vp_in t_next 300 ∧ (((t_bytes (ix t_next)) = (32 : Int32) → wp_X3_readToken_L0 t_bytes t_length K38 n (t_next + (1 : Int32))) ∧ (¬ (t_bytes (ix t_next)) = (32 : Int32) → K38 t_next)))))
def wp_X3_readToken (t_bytes : Nat → Int32) (t_length : Int32) (t_next : Int32) (t_start : Int32) (t_kind : Int32) (t_value : Int32) (post : Int32 → Int32 → Int32 → Int32 → Prop) : Prop := (jn (fun (K38 : Int32 → Prop) => (∃ n0 : Nat, wp_X3_readToken_L0 t_bytes t_length K38 n0 t_next)) (fun (t_next_38 : Int32) => ((t_next_38 < t_length → (vp_in t_next_38 300 ∧ (wp_X3_isLetter (t_bytes (ix t_next_38)) (fun (r74 : Int32) => ((r74 = (0 : Int32) → (vp_in t_next_38 300 ∧ (wp_X3_isDigit (t_bytes (ix t_next_38)) (fun (r96 : Int32) => ((r96 = (0 : Int32) → (vp_in t_next_38 300 ∧ (jn (fun (K129 : Int32 → Prop) => (((t_bytes (ix t_next_38)) = (59 : Int32) → K129 (1 : Int32)) ∧ (¬ (t_bytes (ix t_next_38)) = (59 : Int32) → K129 (3 : Int32)))) (fun (y129 : Int32) => post (t_next_38 + (1 : Int32)) t_next_38 y129 t_value)))) ∧ (¬ r96 = (0 : Int32) → (wp_X3_takeNumber t_bytes t_length t_next_38 t_next_38 t_kind t_value (fun (t_next_103 : Int32) (t_kind_103 : Int32) (t_value_103 : Int32) => post t_next_103 t_next_38 t_kind_103 t_value_103)))))))) ∧ (¬ r74 = (0 : Int32) → (wp_X3_takeWord t_bytes t_length t_next_38 t_next_38 t_kind (fun (t_next_81 : Int32) (t_kind_81 : Int32) => post t_next_81 t_next_38 t_kind_81 t_value)))))))) ∧ (¬ t_next_38 < t_length → post t_next_38 t_next_38 (0 : Int32) t_value))))
abbrev rm_X3_readToken : Room := { frames := 6, cells := 0, slots := 0, locals := 127 }
set_option maxRecDepth 100000 in
set_option maxHeartbeats 4000000 in
theorem ct_X3_readToken (D : va_G) (cI cZ : ClassId) (adK adV : Nat → Nat) (a_T a_T_bytes a_T_numbers : Nat) (t_length : Int32) (t_next : Int32) (t_start : Int32) (t_kind : Int32) (t_value : Int32) (t_item : Int32) (t_numbersTold : Int32) (t_items : Int32) (t_lawTold : Int32) (t_bytes : Nat → Int32) {post : Int32 → Int32 → Int32 → Int32 → Prop} (h : wp_X3_readToken t_bytes t_length t_next t_start t_kind t_value post) (l : Launch) (sz : Nat) : Met l yX3_readToken (wsM yX3_readToken cX3_readToken 1 none) rm_X3_readToken (va_Pc [.ref a_T] (gPX D cI cZ [(a_T, .inr (3, [.ref a_T_bytes, .int t_length, .int t_next, .int t_start, .int t_kind, .int t_value, .int t_item, .int t_numbersTold, .int t_items, .ref a_T_numbers, .int t_lawTold])), (a_T_bytes, .inl (cI, 300, .inl t_bytes))] (STR adK adV) sz)) (gQv D (fun (u : Int32 × Int32 × Int32 × Int32) => post u.1 u.2.1 u.2.2.1 u.2.2.2) (fun (u : Int32 × Int32 × Int32 × Int32) => [(a_T, .inr (3, [.ref a_T_bytes, .int t_length, .int u.1, .int u.2.1, .int u.2.2.1, .int u.2.2.2, .int t_item, .int t_numbersTold, .int t_items, .ref a_T_numbers, .int t_lawTold])), (a_T_bytes, .inl (cI, 300, .inl t_bytes))]) [(a_T, .inr (3, [.ref a_T_bytes, .int t_length, .int t_next, .int t_start, .int t_kind, .int t_value, .int t_item, .int t_numbersTold, .int t_items, .ref a_T_numbers, .int t_lawTold])), (a_T_bytes, .inl (cI, 300, .inl t_bytes))] sz) 0 0 (va_A [(a_T, .inr (3, [.ref a_T_bytes, .int t_length, .int t_next, .int t_start, .int t_kind, .int t_value, .int t_item, .int t_numbersTold, .int t_items, .ref a_T_numbers, .int t_lawTold])), (a_T_bytes, .inl (cI, 300, .inl t_bytes))] sz) := by
  refine q_startMX (own := RX3) (Qc := gQv D (fun (u : Int32 × Int32 × Int32 × Int32) => post u.1 u.2.1 u.2.2.1 u.2.2.2) (fun (u : Int32 × Int32 × Int32 × Int32) => [(a_T, .inr (3, [.ref a_T_bytes, .int t_length, .int u.1, .int u.2.1, .int u.2.2.1, .int u.2.2.2, .int t_item, .int t_numbersTold, .int t_items, .ref a_T_numbers, .int t_lawTold])), (a_T_bytes, .inl (cI, 300, .inl t_bytes))]) [(a_T, .inr (3, [.ref a_T_bytes, .int t_length, .int t_next, .int t_start, .int t_kind, .int t_value, .int t_item, .int t_numbersTold, .int t_items, .ref a_T_numbers, .int t_lawTold])), (a_T_bytes, .inl (cI, 300, .inl t_bytes))]) (by decide +kernel) rfl (Nat.le_of_ble_eq_true rfl) (fun E F Z M X => ?_)
  show Wg E [(a_T, .inr (3, [.ref a_T_bytes, .int t_length, .int t_next, .int t_start, .int t_kind, .int t_value, .int t_item, .int t_numbersTold, .int t_items, .ref a_T_numbers, .int t_lawTold])), (a_T_bytes, .inl (cI, 300, .inl t_bytes))] 0 0 0 [(0, .ref a_T)] []
  unfold wp_X3_readToken at h
  refine jnW h (fun K => ∀ (t_next_38 : Int32), K t_next_38 → Wg E [(a_T, .inr (3, [.ref a_T_bytes, .int t_length, .int t_next_38, .int t_start, .int t_kind, .int t_value, .int t_item, .int t_numbersTold, .int t_items, .ref a_T_numbers, .int t_lawTold])), (a_T_bytes, .inl (cI, 300, .inl t_bytes))] 0 0 38 [(0, .ref a_T)] []) ?_ ?_
  · intro t_next_38 h
    refine q_aload_n (pc := 38) F 0 dX3_readToken_38 rfl ?_
    refine q_aload_n (pc := 39) F 0 dX3_readToken_39 rfl ?_
    refine q_get (pc := 40) F fgX3_27 0 rfl rfl dX3_readToken_40 ?_
    refine q_put (pc := 43) F M (cs' := [(a_T, .inr (3, [.ref a_T_bytes, .int t_length, .int t_next_38, .int t_next_38, .int t_kind, .int t_value, .int t_item, .int t_numbersTold, .int t_items, .ref a_T_numbers, .int t_lawTold])), (a_T_bytes, .inl (cI, 300, .inl t_bytes))]) fpX3_50 0 rfl rfl rfl (Nat.le_of_ble_eq_true rfl) rfl dX3_readToken_43 ?_
    refine q_aload_n (pc := 46) F 0 dX3_readToken_46 rfl ?_
    refine q_get (pc := 47) F fgX3_27 0 rfl rfl dX3_readToken_47 ?_
    refine q_aload_n (pc := 50) F 0 dX3_readToken_50 rfl ?_
    refine q_get (pc := 51) F fgX3_15 0 rfl rfl dX3_readToken_51 ?_
    refine q_icmp_lt (pc := 54) (tgt := 65) F dX3_readToken_54 (by decide) (fun c54 => ?_) (fun c54 => ?_)
    · have h := h.1 c54
      refine q_aload_n (pc := 65) F 0 dX3_readToken_65 rfl ?_
      refine q_get (pc := 66) F fgX3_9 0 rfl rfl dX3_readToken_66 ?_
      refine q_aload_n (pc := 69) F 0 dX3_readToken_69 rfl ?_
      refine q_get (pc := 70) F fgX3_27 0 rfl rfl dX3_readToken_70 ?_
      obtain ⟨hi73, h⟩ := h
      refine q_iald (pc := 73) F 1 rfl hi73 dX3_readToken_73 ?_
      refine q_cR (q_runS (As := [.int (t_bytes (ix t_next_38))]) (rest := []) (pc := 74) F (fun l sz => ct_X3_isLetter D cI cZ (t_bytes (ix t_next_38)) h l sz) mc_yX3_isLetter sm_yX3_isLetter mlX3_113 ⟨by decide, by decide⟩ ⟨by decide, by decide⟩ ⟨rfl, rfl⟩ [] rfl rfl rfl rfl (Nat.le_of_ble_eq_true rfl) dX3_readToken_74) (fun r74 h => ?_)
      obtain ⟨hb74, h⟩ := h
      refine q_if_eq (pc := 77) (tgt := 87) F dX3_readToken_77 (by decide) (fun c77 => ?_) (fun c77 => ?_)
      · have h := h.1 c77
        refine q_aload_n (pc := 87) F 0 dX3_readToken_87 rfl ?_
        refine q_get (pc := 88) F fgX3_9 0 rfl rfl dX3_readToken_88 ?_
        refine q_aload_n (pc := 91) F 0 dX3_readToken_91 rfl ?_
        refine q_get (pc := 92) F fgX3_27 0 rfl rfl dX3_readToken_92 ?_
        obtain ⟨hi95, h⟩ := h
        refine q_iald (pc := 95) F 1 rfl hi95 dX3_readToken_95 ?_
        refine q_cR (q_runS (As := [.int (t_bytes (ix t_next_38))]) (rest := []) (pc := 96) F (fun l sz => ct_X3_isDigit D cI cZ (t_bytes (ix t_next_38)) h l sz) mc_yX3_isDigit sm_yX3_isDigit mlX3_120 ⟨by decide, by decide⟩ ⟨by decide, by decide⟩ ⟨rfl, rfl⟩ [] rfl rfl rfl rfl (Nat.le_of_ble_eq_true rfl) dX3_readToken_96) (fun r96 h => ?_)
        obtain ⟨hb96, h⟩ := h
        refine q_if_eq (pc := 99) (tgt := 109) F dX3_readToken_99 (by decide) (fun c99 => ?_) (fun c99 => ?_)
        · have h := h.1 c99
          refine q_aload_n (pc := 109) F 0 dX3_readToken_109 rfl ?_
          refine q_aload_n (pc := 110) F 0 dX3_readToken_110 rfl ?_
          refine q_get (pc := 111) F fgX3_9 0 rfl rfl dX3_readToken_111 ?_
          refine q_aload_n (pc := 114) F 0 dX3_readToken_114 rfl ?_
          refine q_get (pc := 115) F fgX3_27 0 rfl rfl dX3_readToken_115 ?_
          obtain ⟨hi118, h⟩ := h
          refine q_iald (pc := 118) F 1 rfl hi118 dX3_readToken_118 ?_
          refine q_bipush (pc := 119) F (v := 59) dX3_readToken_119 (by decide) ?_
          refine jnW h (fun K => ∀ (y129 : Int32), K y129 → Wg E [(a_T, .inr (3, [.ref a_T_bytes, .int t_length, .int t_next_38, .int t_next_38, .int t_kind, .int t_value, .int t_item, .int t_numbersTold, .int t_items, .ref a_T_numbers, .int t_lawTold])), (a_T_bytes, .inl (cI, 300, .inl t_bytes))] 0 0 129 [(0, .ref a_T)] [.int y129, .ref a_T]) ?_ ?_
          · intro y129 h
            refine q_put (pc := 129) F M (cs' := [(a_T, .inr (3, [.ref a_T_bytes, .int t_length, .int t_next_38, .int t_next_38, .int y129, .int t_value, .int t_item, .int t_numbersTold, .int t_items, .ref a_T_numbers, .int t_lawTold])), (a_T_bytes, .inl (cI, 300, .inl t_bytes))]) fpX3_43 0 rfl rfl rfl (Nat.le_of_ble_eq_true rfl) rfl dX3_readToken_129 ?_
            refine q_aload_n (pc := 132) F 0 dX3_readToken_132 rfl ?_
            refine q_dup (pc := 133) F dX3_readToken_133 rfl ?_
            refine q_get (pc := 134) F fgX3_27 0 rfl rfl dX3_readToken_134 ?_
            refine q_iconst (pc := 137) F (v := 1) dX3_readToken_137 (by decide) ?_
            refine q_iadd (pc := 138) F dX3_readToken_138 ?_
            refine q_put (pc := 139) F M (cs' := [(a_T, .inr (3, [.ref a_T_bytes, .int t_length, .int (t_next_38 + (1 : Int32)), .int t_next_38, .int y129, .int t_value, .int t_item, .int t_numbersTold, .int t_items, .ref a_T_numbers, .int t_lawTold])), (a_T_bytes, .inl (cI, 300, .inl t_bytes))]) fpX3_27 0 rfl rfl rfl (Nat.le_of_ble_eq_true rfl) rfl dX3_readToken_139 ?_
            exact q_vretM (pc := 142) F Z dX3_readToken_142 (t_next_38 + (1 : Int32), t_next_38, y129, t_value) h rfl
          · intro K129 J129 h
            refine q_icmp_ne (pc := 121) (tgt := 128) F dX3_readToken_121 (by decide) (fun c121 => ?_) (fun c121 => ?_)
            · have h := h.2 c121
              refine q_iconst (pc := 128) F (v := 3) dX3_readToken_128 (by decide) ?_
              exact J129 (3 : Int32) h
            · have h := h.1 c121
              refine q_iconst (pc := 124) F (v := 1) dX3_readToken_124 (by decide) ?_
              refine q_goto (pc := 125) (tgt := 129) F dX3_readToken_125 (by decide) ?_
              exact J129 (1 : Int32) h
        · have h := h.2 c99
          refine q_aload_n (pc := 102) F 0 dX3_readToken_102 rfl ?_
          refine q_cMv (wr := []) (pc := 103) F M (q_runV (As := []) (rest := []) (pc := 103) F (fun l sz => ct_X3_takeNumber D cI cZ a_T a_T_bytes a_T_numbers t_length t_next_38 t_next_38 t_kind t_value t_item t_numbersTold t_items t_lawTold t_bytes h l sz) mc_yX3_takeNumber im_yX3_takeNumber se_yX3_takeNumber mlX3_123 ⟨by decide, by decide⟩ ⟨by decide, by decide⟩ ⟨rfl, rfl⟩ [0, 1] rfl rfl rfl 0 rfl rfl rfl (Nat.le_of_ble_eq_true rfl) dX3_readToken_103) [0, 1] [] rfl rfl rfl (by decide) (fun u103 h => ?_)
          obtain ⟨t_next_103, t_kind_103, t_value_103⟩ := u103
          refine q_cs (cs' := [(a_T, .inr (3, [.ref a_T_bytes, .int t_length, .int t_next_103, .int t_next_38, .int t_kind_103, .int t_value_103, .int t_item, .int t_numbersTold, .int t_items, .ref a_T_numbers, .int t_lawTold])), (a_T_bytes, .inl (cI, 300, .inl t_bytes))]) [0, 1] rfl rfl ?_
          refine q_goto (pc := 106) (tgt := 142) F dX3_readToken_106 (by decide) ?_
          exact q_vretM (pc := 142) F Z dX3_readToken_142 (t_next_103, t_next_38, t_kind_103, t_value_103) h rfl
      · have h := h.2 c77
        refine q_aload_n (pc := 80) F 0 dX3_readToken_80 rfl ?_
        refine q_cMv (wr := []) (pc := 81) F M (q_runVX (As := []) (rest := []) (pc := 81) F X (STR_stab adK adV) (fun l sz => ct_X3_takeWord D cI cZ adK adV a_T a_T_bytes a_T_numbers t_length t_next_38 t_next_38 t_kind t_value t_item t_numbersTold t_items t_lawTold t_bytes h l sz) mc_yX3_takeWord im_yX3_takeWord se_yX3_takeWord mlX3_117 ⟨by decide, by decide⟩ ⟨by decide, by decide⟩ ⟨rfl, rfl⟩ [0, 1] rfl rfl rfl 0 rfl rfl rfl (Nat.le_of_ble_eq_true rfl) dX3_readToken_81) [0, 1] [] rfl rfl rfl (by decide) (fun u81 h => ?_)
        obtain ⟨t_next_81, t_kind_81⟩ := u81
        refine q_cs (cs' := [(a_T, .inr (3, [.ref a_T_bytes, .int t_length, .int t_next_81, .int t_next_38, .int t_kind_81, .int t_value, .int t_item, .int t_numbersTold, .int t_items, .ref a_T_numbers, .int t_lawTold])), (a_T_bytes, .inl (cI, 300, .inl t_bytes))]) [0, 1] rfl rfl ?_
        refine q_goto (pc := 84) (tgt := 142) F dX3_readToken_84 (by decide) ?_
        exact q_vretM (pc := 142) F Z dX3_readToken_142 (t_next_81, t_next_38, t_kind_81, t_value) h rfl
    · have h := h.2 c54
      refine q_aload_n (pc := 57) F 0 dX3_readToken_57 rfl ?_
      refine q_iconst (pc := 58) F (v := 0) dX3_readToken_58 (by decide) ?_
      refine q_put (pc := 59) F M (cs' := [(a_T, .inr (3, [.ref a_T_bytes, .int t_length, .int t_next_38, .int t_next_38, .int (0 : Int32), .int t_value, .int t_item, .int t_numbersTold, .int t_items, .ref a_T_numbers, .int t_lawTold])), (a_T_bytes, .inl (cI, 300, .inl t_bytes))]) fpX3_43 0 rfl rfl rfl (Nat.le_of_ble_eq_true rfl) rfl dX3_readToken_59 ?_
      refine q_goto (pc := 62) (tgt := 142) F dX3_readToken_62 (by decide) ?_
      exact q_vretM (pc := 142) F Z dX3_readToken_142 (t_next_38, t_next_38, (0 : Int32), t_value) h rfl
  · intro K38 J38 h
    obtain ⟨n0, h⟩ := h
    have lp0 : ∀ (n : Nat) (t_next_h0 : Int32), wp_X3_readToken_L0 t_bytes t_length K38 n t_next_h0 → Wg E [(a_T, .inr (3, [.ref a_T_bytes, .int t_length, .int t_next_h0, .int t_start, .int t_kind, .int t_value, .int t_item, .int t_numbersTold, .int t_items, .ref a_T_numbers, .int t_lawTold])), (a_T_bytes, .inl (cI, 300, .inl t_bytes))] 0 0 0 [(0, .ref a_T)] [] := by
      intro n
      induction n with
      | zero => intro t_next_h0 h; exact h.elim
      | succ n ih =>
        intro t_next_h0 h
        unfold wp_X3_readToken_L0 at h
        refine q_aload_n (pc := 0) F 0 dX3_readToken_0 rfl ?_
        refine q_get (pc := 1) F fgX3_27 0 rfl rfl dX3_readToken_1 ?_
        refine q_aload_n (pc := 4) F 0 dX3_readToken_4 rfl ?_
        refine q_get (pc := 5) F fgX3_15 0 rfl rfl dX3_readToken_5 ?_
        refine q_icmp_ge (pc := 8) (tgt := 38) F dX3_readToken_8 (by decide) (fun c8 => ?_) (fun c8 => ?_)
        · have h := h.1 c8
          exact J38 t_next_h0 h
        · have h := h.2 c8
          refine q_aload_n (pc := 11) F 0 dX3_readToken_11 rfl ?_
          refine q_get (pc := 12) F fgX3_9 0 rfl rfl dX3_readToken_12 ?_
          refine q_aload_n (pc := 15) F 0 dX3_readToken_15 rfl ?_
          refine q_get (pc := 16) F fgX3_27 0 rfl rfl dX3_readToken_16 ?_
          obtain ⟨hi19, h⟩ := h
          refine q_iald (pc := 19) F 1 rfl hi19 dX3_readToken_19 ?_
          refine q_bipush (pc := 20) F (v := 32) dX3_readToken_20 (by decide) ?_
          refine q_icmp_ne (pc := 22) (tgt := 38) F dX3_readToken_22 (by decide) (fun c22 => ?_) (fun c22 => ?_)
          · have h := h.2 c22
            exact J38 t_next_h0 h
          · have h := h.1 c22
            refine q_aload_n (pc := 25) F 0 dX3_readToken_25 rfl ?_
            refine q_dup (pc := 26) F dX3_readToken_26 rfl ?_
            refine q_get (pc := 27) F fgX3_27 0 rfl rfl dX3_readToken_27 ?_
            refine q_iconst (pc := 30) F (v := 1) dX3_readToken_30 (by decide) ?_
            refine q_iadd (pc := 31) F dX3_readToken_31 ?_
            refine q_put (pc := 32) F M (cs' := [(a_T, .inr (3, [.ref a_T_bytes, .int t_length, .int (t_next_h0 + (1 : Int32)), .int t_start, .int t_kind, .int t_value, .int t_item, .int t_numbersTold, .int t_items, .ref a_T_numbers, .int t_lawTold])), (a_T_bytes, .inl (cI, 300, .inl t_bytes))]) fpX3_27 0 rfl rfl rfl (Nat.le_of_ble_eq_true rfl) rfl dX3_readToken_32 ?_
            refine q_goto (pc := 35) (tgt := 0) F dX3_readToken_35 (by decide) ?_
            exact ih (t_next_h0 + (1 : Int32)) h
    exact lp0 n0 t_next h

def wp_X3_numbersOf (p0 : Int32) (post : Int32 → Prop) : Prop := ((p0 = (7 : Int32) → post (3 : Int32)) ∧ (¬ p0 = (7 : Int32) → ((p0 = (8 : Int32) → post (4 : Int32)) ∧ (¬ p0 = (8 : Int32) → ((p0 = (9 : Int32) → post (1 : Int32)) ∧ (¬ p0 = (9 : Int32) → post (2 : Int32)))))))
abbrev rm_X3_numbersOf : Room := { frames := 0, cells := 0, slots := 0, locals := 0 }
set_option maxRecDepth 100000 in
set_option maxHeartbeats 4000000 in
theorem ct_X3_numbersOf (D : va_G) (cI cZ : ClassId) (p0 : Int32) {post : Int32 → Prop} (h : wp_X3_numbersOf p0 post) (l : Launch) (sz : Nat) : Met l yX3_numbersOf (wsM yX3_numbersOf cX3_numbersOf 1 (some .int)) rm_X3_numbersOf (va_Pc [.int p0] (gP D cI cZ [] sz)) (gR post) 0 0 (fun _ => False) := by
  refine q_startR (own := RX3) (by decide +kernel) rfl (Nat.le_of_ble_eq_true rfl) (fun E F Z => ?_)
  show Wg E [] 0 0 0 [(0, .int p0)] []
  unfold wp_X3_numbersOf at h
  refine q_iload_n (pc := 0) F 0 dX3_numbersOf_0 rfl ?_
  rcases Classical.em (p0 = (7 : Int32)) with c1_0 | c1_0
  · have h := h.1 c1_0
    refine q_tabIn (pc := 1) (v := 7) (tgt := 30) F dX3_numbersOf_1 c1_0 (by decide) (by decide) rfl (by decide) ?_
    refine q_iconst (pc := 30) F (v := 3) dX3_numbersOf_30 (by decide) ?_
    exact q_iretR (pc := 31) F Z dX3_numbersOf_31 h
  · have h := h.2 c1_0
    rcases Classical.em (p0 = (8 : Int32)) with c1_1 | c1_1
    · have h := h.1 c1_1
      refine q_tabIn (pc := 1) (v := 8) (tgt := 32) F dX3_numbersOf_1 c1_1 (by decide) (by decide) rfl (by decide) ?_
      refine q_iconst (pc := 32) F (v := 4) dX3_numbersOf_32 (by decide) ?_
      exact q_iretR (pc := 33) F Z dX3_numbersOf_33 h
    · have h := h.2 c1_1
      rcases Classical.em (p0 = (9 : Int32)) with c1_2 | c1_2
      · have h := h.1 c1_2
        refine q_tabIn (pc := 1) (v := 9) (tgt := 28) F dX3_numbersOf_1 c1_2 (by decide) (by decide) rfl (by decide) ?_
        refine q_iconst (pc := 28) F (v := 1) dX3_numbersOf_28 (by decide) ?_
        exact q_iretR (pc := 29) F Z dX3_numbersOf_29 h
      · have h := h.2 c1_2
        refine q_tabOut (pc := 1) (tgt := 34) F dX3_numbersOf_1 (tab_out (fun k h1 h2 => ?_)) (by decide) ?_
        · rcases (show k = 7 ∨ k = 8 ∨ k = 9 by omega) with rfl | rfl | rfl
          · exact c1_0
          · exact c1_1
          · exact c1_2
        refine q_iconst (pc := 34) F (v := 2) dX3_numbersOf_34 (by decide) ?_
        exact q_iretR (pc := 35) F Z dX3_numbersOf_35 h

def wp_X3_beginItem (t_kind : Int32) (t_item : Int32) (t_numbersTold : Int32) (t_items : Int32) (t_lawTold : Int32) (h_doors : Int32) (h_lamps : Int32) (h_people : Int32) (post : Int32 → Int32 → Int32 → Prop) : Prop := ((t_kind = (4 : Int32) → ((t_items = (0 : Int32) → post (1 : Int32) t_kind (0 : Int32)) ∧ (¬ t_items = (0 : Int32) → post (0 : Int32) t_kind (0 : Int32)))) ∧ (¬ t_kind = (4 : Int32) → ((t_kind = (5 : Int32) → (jn (fun (K94 : Prop) => ((h_doors = (0 : Int32) → ((h_lamps = (0 : Int32) → ((h_people = (0 : Int32) → post (1 : Int32) t_kind (0 : Int32)) ∧ (¬ h_people = (0 : Int32) → K94))) ∧ (¬ h_lamps = (0 : Int32) → K94))) ∧ (¬ h_doors = (0 : Int32) → K94))) (post (0 : Int32) t_kind (0 : Int32)))) ∧ (¬ t_kind = (5 : Int32) → ((t_kind = (6 : Int32) → post (1 : Int32) t_kind (0 : Int32)) ∧ (¬ t_kind = (6 : Int32) → ((t_kind = (7 : Int32) → (((6 : Int32) ≤ h_lamps → post (0 : Int32) t_kind (0 : Int32)) ∧ (¬ (6 : Int32) ≤ h_lamps → post (1 : Int32) t_kind (0 : Int32)))) ∧ (¬ t_kind = (7 : Int32) → ((t_kind = (8 : Int32) → (((6 : Int32) ≤ h_people → post (0 : Int32) t_kind (0 : Int32)) ∧ (¬ (6 : Int32) ≤ h_people → post (1 : Int32) t_kind (0 : Int32)))) ∧ (¬ t_kind = (8 : Int32) → ((t_kind = (9 : Int32) → ((t_lawTold = (0 : Int32) → post (1 : Int32) t_kind (0 : Int32)) ∧ (¬ t_lawTold = (0 : Int32) → post (0 : Int32) t_kind (0 : Int32)))) ∧ (¬ t_kind = (9 : Int32) → post (0 : Int32) t_kind (0 : Int32)))))))))))))
abbrev rm_X3_beginItem : Room := { frames := 0, cells := 0, slots := 0, locals := 0 }
set_option maxRecDepth 100000 in
set_option maxHeartbeats 4000000 in
theorem ct_X3_beginItem (D : va_G) (cI cZ : ClassId) (a_T a_T_bytes a_T_numbers a_H a_H_lampCell a_H_lampReach a_H_shine a_H_personCell a_H_wish a_H_side a_H_light a_H_leavers : Nat) (t_length : Int32) (t_next : Int32) (t_start : Int32) (t_kind : Int32) (t_value : Int32) (t_item : Int32) (t_numbersTold : Int32) (t_items : Int32) (t_lawTold : Int32) (h_wide : Int32) (h_high : Int32) (h_walls : Int32) (h_doors : Int32) (h_law : Int32) (h_lamps : Int32) (h_people : Int32) {post : Int32 → Int32 → Int32 → Prop} (h : wp_X3_beginItem t_kind t_item t_numbersTold t_items t_lawTold h_doors h_lamps h_people post) (l : Launch) (sz : Nat) : Met l yX3_beginItem (wsM yX3_beginItem cX3_beginItem 2 (some .boolean)) rm_X3_beginItem (va_Pc [.ref a_T, .ref a_H] (gP D cI cZ [(a_T, .inr (3, [.ref a_T_bytes, .int t_length, .int t_next, .int t_start, .int t_kind, .int t_value, .int t_item, .int t_numbersTold, .int t_items, .ref a_T_numbers, .int t_lawTold])), (a_H, .inr (0, [.int h_wide, .int h_high, .int h_walls, .int h_doors, .int h_law, .int h_lamps, .int h_people, .ref a_H_lampCell, .ref a_H_lampReach, .ref a_H_shine, .ref a_H_personCell, .ref a_H_wish, .ref a_H_side, .ref a_H_light, .ref a_H_leavers]))] sz)) (gQi D (fun r (u : Int32 × Int32) => isB r ∧ post r u.1 u.2) (fun (u : Int32 × Int32) => [(a_T, .inr (3, [.ref a_T_bytes, .int t_length, .int t_next, .int t_start, .int t_kind, .int t_value, .int u.1, .int u.2, .int t_items, .ref a_T_numbers, .int t_lawTold])), (a_H, .inr (0, [.int h_wide, .int h_high, .int h_walls, .int h_doors, .int h_law, .int h_lamps, .int h_people, .ref a_H_lampCell, .ref a_H_lampReach, .ref a_H_shine, .ref a_H_personCell, .ref a_H_wish, .ref a_H_side, .ref a_H_light, .ref a_H_leavers]))]) [(a_T, .inr (3, [.ref a_T_bytes, .int t_length, .int t_next, .int t_start, .int t_kind, .int t_value, .int t_item, .int t_numbersTold, .int t_items, .ref a_T_numbers, .int t_lawTold])), (a_H, .inr (0, [.int h_wide, .int h_high, .int h_walls, .int h_doors, .int h_law, .int h_lamps, .int h_people, .ref a_H_lampCell, .ref a_H_lampReach, .ref a_H_shine, .ref a_H_personCell, .ref a_H_wish, .ref a_H_side, .ref a_H_light, .ref a_H_leavers]))] sz) 0 0 (va_A [(a_T, .inr (3, [.ref a_T_bytes, .int t_length, .int t_next, .int t_start, .int t_kind, .int t_value, .int t_item, .int t_numbersTold, .int t_items, .ref a_T_numbers, .int t_lawTold])), (a_H, .inr (0, [.int h_wide, .int h_high, .int h_walls, .int h_doors, .int h_law, .int h_lamps, .int h_people, .ref a_H_lampCell, .ref a_H_lampReach, .ref a_H_shine, .ref a_H_personCell, .ref a_H_wish, .ref a_H_side, .ref a_H_light, .ref a_H_leavers]))] sz) := by
  refine q_startM (own := RX3) (Qc := gQi D (fun r (u : Int32 × Int32) => isB r ∧ post r u.1 u.2) (fun (u : Int32 × Int32) => [(a_T, .inr (3, [.ref a_T_bytes, .int t_length, .int t_next, .int t_start, .int t_kind, .int t_value, .int u.1, .int u.2, .int t_items, .ref a_T_numbers, .int t_lawTold])), (a_H, .inr (0, [.int h_wide, .int h_high, .int h_walls, .int h_doors, .int h_law, .int h_lamps, .int h_people, .ref a_H_lampCell, .ref a_H_lampReach, .ref a_H_shine, .ref a_H_personCell, .ref a_H_wish, .ref a_H_side, .ref a_H_light, .ref a_H_leavers]))]) [(a_T, .inr (3, [.ref a_T_bytes, .int t_length, .int t_next, .int t_start, .int t_kind, .int t_value, .int t_item, .int t_numbersTold, .int t_items, .ref a_T_numbers, .int t_lawTold])), (a_H, .inr (0, [.int h_wide, .int h_high, .int h_walls, .int h_doors, .int h_law, .int h_lamps, .int h_people, .ref a_H_lampCell, .ref a_H_lampReach, .ref a_H_shine, .ref a_H_personCell, .ref a_H_wish, .ref a_H_side, .ref a_H_light, .ref a_H_leavers]))]) (by decide +kernel) rfl (Nat.le_of_ble_eq_true rfl) (fun E F Z M => ?_)
  show Wg E [(a_T, .inr (3, [.ref a_T_bytes, .int t_length, .int t_next, .int t_start, .int t_kind, .int t_value, .int t_item, .int t_numbersTold, .int t_items, .ref a_T_numbers, .int t_lawTold])), (a_H, .inr (0, [.int h_wide, .int h_high, .int h_walls, .int h_doors, .int h_law, .int h_lamps, .int h_people, .ref a_H_lampCell, .ref a_H_lampReach, .ref a_H_shine, .ref a_H_personCell, .ref a_H_wish, .ref a_H_side, .ref a_H_light, .ref a_H_leavers]))] 0 0 0 [(0, .ref a_T), (1, .ref a_H)] []
  unfold wp_X3_beginItem at h
  refine q_aload_n (pc := 0) F 0 dX3_beginItem_0 rfl ?_
  refine q_aload_n (pc := 1) F 0 dX3_beginItem_1 rfl ?_
  refine q_get (pc := 2) F fgX3_43 0 rfl rfl dX3_beginItem_2 ?_
  refine q_put (pc := 5) F M (cs' := [(a_T, .inr (3, [.ref a_T_bytes, .int t_length, .int t_next, .int t_start, .int t_kind, .int t_value, .int t_kind, .int t_numbersTold, .int t_items, .ref a_T_numbers, .int t_lawTold])), (a_H, .inr (0, [.int h_wide, .int h_high, .int h_walls, .int h_doors, .int h_law, .int h_lamps, .int h_people, .ref a_H_lampCell, .ref a_H_lampReach, .ref a_H_shine, .ref a_H_personCell, .ref a_H_wish, .ref a_H_side, .ref a_H_light, .ref a_H_leavers]))]) fpX3_30 0 rfl rfl rfl (Nat.le_of_ble_eq_true rfl) rfl dX3_beginItem_5 ?_
  refine q_aload_n (pc := 8) F 0 dX3_beginItem_8 rfl ?_
  refine q_iconst (pc := 9) F (v := 0) dX3_beginItem_9 (by decide) ?_
  refine q_put (pc := 10) F M (cs' := [(a_T, .inr (3, [.ref a_T_bytes, .int t_length, .int t_next, .int t_start, .int t_kind, .int t_value, .int t_kind, .int (0 : Int32), .int t_items, .ref a_T_numbers, .int t_lawTold])), (a_H, .inr (0, [.int h_wide, .int h_high, .int h_walls, .int h_doors, .int h_law, .int h_lamps, .int h_people, .ref a_H_lampCell, .ref a_H_lampReach, .ref a_H_shine, .ref a_H_personCell, .ref a_H_wish, .ref a_H_side, .ref a_H_light, .ref a_H_leavers]))]) fpX3_56 0 rfl rfl rfl (Nat.le_of_ble_eq_true rfl) rfl dX3_beginItem_10 ?_
  refine q_aload_n (pc := 13) F 0 dX3_beginItem_13 rfl ?_
  refine q_get (pc := 14) F fgX3_43 0 rfl rfl dX3_beginItem_14 ?_
  rcases Classical.em (t_kind = (4 : Int32)) with c17_0 | c17_0
  · have h := h.1 c17_0
    refine q_tabIn (pc := 17) (v := 4) (tgt := 56) F dX3_beginItem_17 c17_0 (by decide) (by decide) rfl (by decide) ?_
    refine q_aload_n (pc := 56) F 0 dX3_beginItem_56 rfl ?_
    refine q_get (pc := 57) F fgX3_33 0 rfl rfl dX3_beginItem_57 ?_
    refine q_if_ne (pc := 60) (tgt := 67) F dX3_beginItem_60 (by decide) (fun c60 => ?_) (fun c60 => ?_)
    · have h := h.2 c60
      refine q_iconst (pc := 67) F (v := 0) dX3_beginItem_67 (by decide) ?_
      exact q_zretM (pc := 68) F Z dX3_beginItem_68 (Or.inl rfl) (t_kind, (0 : Int32)) h rfl
    · have h := h.1 c60
      refine q_iconst (pc := 63) F (v := 1) dX3_beginItem_63 (by decide) ?_
      refine q_goto (pc := 64) (tgt := 68) F dX3_beginItem_64 (by decide) ?_
      exact q_zretM (pc := 68) F Z dX3_beginItem_68 (Or.inr rfl) (t_kind, (0 : Int32)) h rfl
  · have h := h.2 c17_0
    rcases Classical.em (t_kind = (5 : Int32)) with c17_1 | c17_1
    · have h := h.1 c17_1
      refine q_tabIn (pc := 17) (v := 5) (tgt := 69) F dX3_beginItem_17 c17_1 (by decide) (by decide) rfl (by decide) ?_
      refine q_aload_n (pc := 69) F 1 dX3_beginItem_69 rfl ?_
      refine q_get (pc := 70) F fgX3_70 1 rfl rfl dX3_beginItem_70 ?_
      refine jnW h (fun K => K → Wg E [(a_T, .inr (3, [.ref a_T_bytes, .int t_length, .int t_next, .int t_start, .int t_kind, .int t_value, .int t_kind, .int (0 : Int32), .int t_items, .ref a_T_numbers, .int t_lawTold])), (a_H, .inr (0, [.int h_wide, .int h_high, .int h_walls, .int h_doors, .int h_law, .int h_lamps, .int h_people, .ref a_H_lampCell, .ref a_H_lampReach, .ref a_H_shine, .ref a_H_personCell, .ref a_H_wish, .ref a_H_side, .ref a_H_light, .ref a_H_leavers]))] 0 0 94 [] []) ?_ ?_
      · intro h
        refine q_iconst (pc := 94) F (v := 0) dX3_beginItem_94 (by decide) ?_
        exact q_zretM (pc := 95) F Z dX3_beginItem_95 (Or.inl rfl) (t_kind, (0 : Int32)) h rfl
      · intro K94 J94 h
        refine q_if_ne (pc := 73) (tgt := 94) F dX3_beginItem_73 (by decide) (fun c73 => ?_) (fun c73 => ?_)
        · have h := h.2 c73
          refine q_lv (lv' := []) [] rfl ?_
          exact J94 h
        · have h := h.1 c73
          refine q_aload_n (pc := 76) F 1 dX3_beginItem_76 rfl ?_
          refine q_get (pc := 77) F fgX3_73 1 rfl rfl dX3_beginItem_77 ?_
          refine q_if_ne (pc := 80) (tgt := 94) F dX3_beginItem_80 (by decide) (fun c80 => ?_) (fun c80 => ?_)
          · have h := h.2 c80
            refine q_lv (lv' := []) [] rfl ?_
            exact J94 h
          · have h := h.1 c80
            refine q_aload_n (pc := 83) F 1 dX3_beginItem_83 rfl ?_
            refine q_get (pc := 84) F fgX3_76 1 rfl rfl dX3_beginItem_84 ?_
            refine q_if_ne (pc := 87) (tgt := 94) F dX3_beginItem_87 (by decide) (fun c87 => ?_) (fun c87 => ?_)
            · have h := h.2 c87
              refine q_lv (lv' := []) [] rfl ?_
              exact J94 h
            · have h := h.1 c87
              refine q_iconst (pc := 90) F (v := 1) dX3_beginItem_90 (by decide) ?_
              refine q_goto (pc := 91) (tgt := 95) F dX3_beginItem_91 (by decide) ?_
              exact q_zretM (pc := 95) F Z dX3_beginItem_95 (Or.inr rfl) (t_kind, (0 : Int32)) h rfl
    · have h := h.2 c17_1
      rcases Classical.em (t_kind = (6 : Int32)) with c17_2 | c17_2
      · have h := h.1 c17_2
        refine q_tabIn (pc := 17) (v := 6) (tgt := 96) F dX3_beginItem_17 c17_2 (by decide) (by decide) rfl (by decide) ?_
        refine q_iconst (pc := 96) F (v := 1) dX3_beginItem_96 (by decide) ?_
        exact q_zretM (pc := 97) F Z dX3_beginItem_97 (Or.inr rfl) (t_kind, (0 : Int32)) h rfl
      · have h := h.2 c17_2
        rcases Classical.em (t_kind = (7 : Int32)) with c17_3 | c17_3
        · have h := h.1 c17_3
          refine q_tabIn (pc := 17) (v := 7) (tgt := 98) F dX3_beginItem_17 c17_3 (by decide) (by decide) rfl (by decide) ?_
          refine q_aload_n (pc := 98) F 1 dX3_beginItem_98 rfl ?_
          refine q_get (pc := 99) F fgX3_73 1 rfl rfl dX3_beginItem_99 ?_
          refine q_bipush (pc := 102) F (v := 6) dX3_beginItem_102 (by decide) ?_
          refine q_icmp_ge (pc := 104) (tgt := 111) F dX3_beginItem_104 (by decide) (fun c104 => ?_) (fun c104 => ?_)
          · have h := h.1 c104
            refine q_iconst (pc := 111) F (v := 0) dX3_beginItem_111 (by decide) ?_
            exact q_zretM (pc := 112) F Z dX3_beginItem_112 (Or.inl rfl) (t_kind, (0 : Int32)) h rfl
          · have h := h.2 c104
            refine q_iconst (pc := 107) F (v := 1) dX3_beginItem_107 (by decide) ?_
            refine q_goto (pc := 108) (tgt := 112) F dX3_beginItem_108 (by decide) ?_
            exact q_zretM (pc := 112) F Z dX3_beginItem_112 (Or.inr rfl) (t_kind, (0 : Int32)) h rfl
        · have h := h.2 c17_3
          rcases Classical.em (t_kind = (8 : Int32)) with c17_4 | c17_4
          · have h := h.1 c17_4
            refine q_tabIn (pc := 17) (v := 8) (tgt := 113) F dX3_beginItem_17 c17_4 (by decide) (by decide) rfl (by decide) ?_
            refine q_aload_n (pc := 113) F 1 dX3_beginItem_113 rfl ?_
            refine q_get (pc := 114) F fgX3_76 1 rfl rfl dX3_beginItem_114 ?_
            refine q_bipush (pc := 117) F (v := 6) dX3_beginItem_117 (by decide) ?_
            refine q_icmp_ge (pc := 119) (tgt := 126) F dX3_beginItem_119 (by decide) (fun c119 => ?_) (fun c119 => ?_)
            · have h := h.1 c119
              refine q_iconst (pc := 126) F (v := 0) dX3_beginItem_126 (by decide) ?_
              exact q_zretM (pc := 127) F Z dX3_beginItem_127 (Or.inl rfl) (t_kind, (0 : Int32)) h rfl
            · have h := h.2 c119
              refine q_iconst (pc := 122) F (v := 1) dX3_beginItem_122 (by decide) ?_
              refine q_goto (pc := 123) (tgt := 127) F dX3_beginItem_123 (by decide) ?_
              exact q_zretM (pc := 127) F Z dX3_beginItem_127 (Or.inr rfl) (t_kind, (0 : Int32)) h rfl
          · have h := h.2 c17_4
            rcases Classical.em (t_kind = (9 : Int32)) with c17_5 | c17_5
            · have h := h.1 c17_5
              refine q_tabIn (pc := 17) (v := 9) (tgt := 128) F dX3_beginItem_17 c17_5 (by decide) (by decide) rfl (by decide) ?_
              refine q_aload_n (pc := 128) F 0 dX3_beginItem_128 rfl ?_
              refine q_get (pc := 129) F fgX3_36 0 rfl rfl dX3_beginItem_129 ?_
              refine q_if_ne (pc := 132) (tgt := 139) F dX3_beginItem_132 (by decide) (fun c132 => ?_) (fun c132 => ?_)
              · have h := h.2 c132
                refine q_iconst (pc := 139) F (v := 0) dX3_beginItem_139 (by decide) ?_
                exact q_zretM (pc := 140) F Z dX3_beginItem_140 (Or.inl rfl) (t_kind, (0 : Int32)) h rfl
              · have h := h.1 c132
                refine q_iconst (pc := 135) F (v := 1) dX3_beginItem_135 (by decide) ?_
                refine q_goto (pc := 136) (tgt := 140) F dX3_beginItem_136 (by decide) ?_
                exact q_zretM (pc := 140) F Z dX3_beginItem_140 (Or.inr rfl) (t_kind, (0 : Int32)) h rfl
            · have h := h.2 c17_5
              refine q_tabOut (pc := 17) (tgt := 141) F dX3_beginItem_17 (tab_out (fun k h1 h2 => ?_)) (by decide) ?_
              · rcases (show k = 4 ∨ k = 5 ∨ k = 6 ∨ k = 7 ∨ k = 8 ∨ k = 9 by omega) with rfl | rfl | rfl | rfl | rfl | rfl
                · exact c17_0
                · exact c17_1
                · exact c17_2
                · exact c17_3
                · exact c17_4
                · exact c17_5
              refine q_iconst (pc := 141) F (v := 0) dX3_beginItem_141 (by decide) ?_
              exact q_zretM (pc := 142) F Z dX3_beginItem_142 (Or.inl rfl) (t_kind, (0 : Int32)) h rfl

def wp_X3_greatest (t_item : Int32) (t_numbersTold : Int32) (h_wide : Int32) (h_high : Int32) (post : Int32 → Prop) : Prop := ((t_item = (9 : Int32) → post (1 : Int32)) ∧ (¬ t_item = (9 : Int32) → ((t_numbersTold = (0 : Int32) → ((t_item = (4 : Int32) → post (4 : Int32)) ∧ (¬ t_item = (4 : Int32) → post (h_wide - (1 : Int32))))) ∧ (¬ t_numbersTold = (0 : Int32) → ((t_numbersTold = (1 : Int32) → ((t_item = (4 : Int32) → post (3 : Int32)) ∧ (¬ t_item = (4 : Int32) → post (h_high - (1 : Int32))))) ∧ (¬ t_numbersTold = (1 : Int32) → ((t_numbersTold = (2 : Int32) → ((t_item = (7 : Int32) → post (9 : Int32)) ∧ (¬ t_item = (7 : Int32) → post (9 : Int32)))) ∧ (¬ t_numbersTold = (2 : Int32) → post (1 : Int32)))))))))
abbrev rm_X3_greatest : Room := { frames := 0, cells := 0, slots := 0, locals := 0 }
set_option maxRecDepth 100000 in
set_option maxHeartbeats 4000000 in
theorem ct_X3_greatest (D : va_G) (cI cZ : ClassId) (a_T a_T_bytes a_T_numbers a_H a_H_lampCell a_H_lampReach a_H_shine a_H_personCell a_H_wish a_H_side a_H_light a_H_leavers : Nat) (t_length : Int32) (t_next : Int32) (t_start : Int32) (t_kind : Int32) (t_value : Int32) (t_item : Int32) (t_numbersTold : Int32) (t_items : Int32) (t_lawTold : Int32) (h_wide : Int32) (h_high : Int32) (h_walls : Int32) (h_doors : Int32) (h_law : Int32) (h_lamps : Int32) (h_people : Int32) {post : Int32 → Prop} (h : wp_X3_greatest t_item t_numbersTold h_wide h_high post) (l : Launch) (sz : Nat) : Met l yX3_greatest (wsM yX3_greatest cX3_greatest 2 (some .int)) rm_X3_greatest (va_Pc [.ref a_T, .ref a_H] (gP D cI cZ [(a_T, .inr (3, [.ref a_T_bytes, .int t_length, .int t_next, .int t_start, .int t_kind, .int t_value, .int t_item, .int t_numbersTold, .int t_items, .ref a_T_numbers, .int t_lawTold])), (a_H, .inr (0, [.int h_wide, .int h_high, .int h_walls, .int h_doors, .int h_law, .int h_lamps, .int h_people, .ref a_H_lampCell, .ref a_H_lampReach, .ref a_H_shine, .ref a_H_personCell, .ref a_H_wish, .ref a_H_side, .ref a_H_light, .ref a_H_leavers]))] sz)) (gR post) 0 0 (fun _ => False) := by
  refine q_startR (own := RX3) (by decide +kernel) rfl (Nat.le_of_ble_eq_true rfl) (fun E F Z => ?_)
  show Wg E [(a_T, .inr (3, [.ref a_T_bytes, .int t_length, .int t_next, .int t_start, .int t_kind, .int t_value, .int t_item, .int t_numbersTold, .int t_items, .ref a_T_numbers, .int t_lawTold])), (a_H, .inr (0, [.int h_wide, .int h_high, .int h_walls, .int h_doors, .int h_law, .int h_lamps, .int h_people, .ref a_H_lampCell, .ref a_H_lampReach, .ref a_H_shine, .ref a_H_personCell, .ref a_H_wish, .ref a_H_side, .ref a_H_light, .ref a_H_leavers]))] 0 0 0 [(0, .ref a_T), (1, .ref a_H)] []
  unfold wp_X3_greatest at h
  refine q_aload_n (pc := 0) F 0 dX3_greatest_0 rfl ?_
  refine q_get (pc := 1) F fgX3_30 0 rfl rfl dX3_greatest_1 ?_
  refine q_bipush (pc := 4) F (v := 9) dX3_greatest_4 (by decide) ?_
  refine q_icmp_ne (pc := 6) (tgt := 11) F dX3_greatest_6 (by decide) (fun c6 => ?_) (fun c6 => ?_)
  · have h := h.2 c6
    refine q_aload_n (pc := 11) F 0 dX3_greatest_11 rfl ?_
    refine q_get (pc := 12) F fgX3_56 0 rfl rfl dX3_greatest_12 ?_
    rcases Classical.em (t_numbersTold = (0 : Int32)) with c15_0 | c15_0
    · have h := h.1 c15_0
      refine q_tabIn (pc := 15) (v := 0) (tgt := 40) F dX3_greatest_15 c15_0 (by decide) (by decide) rfl (by decide) ?_
      refine q_aload_n (pc := 40) F 0 dX3_greatest_40 rfl ?_
      refine q_get (pc := 41) F fgX3_30 0 rfl rfl dX3_greatest_41 ?_
      refine q_iconst (pc := 44) F (v := 4) dX3_greatest_44 (by decide) ?_
      refine q_icmp_ne (pc := 45) (tgt := 52) F dX3_greatest_45 (by decide) (fun c45 => ?_) (fun c45 => ?_)
      · have h := h.2 c45
        refine q_aload_n (pc := 52) F 1 dX3_greatest_52 rfl ?_
        refine q_get (pc := 53) F fgX3_96 1 rfl rfl dX3_greatest_53 ?_
        refine q_iconst (pc := 56) F (v := 1) dX3_greatest_56 (by decide) ?_
        refine q_isub (pc := 57) F dX3_greatest_57 ?_
        exact q_iretR (pc := 58) F Z dX3_greatest_58 h
      · have h := h.1 c45
        refine q_iconst (pc := 48) F (v := 4) dX3_greatest_48 (by decide) ?_
        refine q_goto (pc := 49) (tgt := 58) F dX3_greatest_49 (by decide) ?_
        exact q_iretR (pc := 58) F Z dX3_greatest_58 h
    · have h := h.2 c15_0
      rcases Classical.em (t_numbersTold = (1 : Int32)) with c15_1 | c15_1
      · have h := h.1 c15_1
        refine q_tabIn (pc := 15) (v := 1) (tgt := 59) F dX3_greatest_15 c15_1 (by decide) (by decide) rfl (by decide) ?_
        refine q_aload_n (pc := 59) F 0 dX3_greatest_59 rfl ?_
        refine q_get (pc := 60) F fgX3_30 0 rfl rfl dX3_greatest_60 ?_
        refine q_iconst (pc := 63) F (v := 4) dX3_greatest_63 (by decide) ?_
        refine q_icmp_ne (pc := 64) (tgt := 71) F dX3_greatest_64 (by decide) (fun c64 => ?_) (fun c64 => ?_)
        · have h := h.2 c64
          refine q_aload_n (pc := 71) F 1 dX3_greatest_71 rfl ?_
          refine q_get (pc := 72) F fgX3_99 1 rfl rfl dX3_greatest_72 ?_
          refine q_iconst (pc := 75) F (v := 1) dX3_greatest_75 (by decide) ?_
          refine q_isub (pc := 76) F dX3_greatest_76 ?_
          exact q_iretR (pc := 77) F Z dX3_greatest_77 h
        · have h := h.1 c64
          refine q_iconst (pc := 67) F (v := 3) dX3_greatest_67 (by decide) ?_
          refine q_goto (pc := 68) (tgt := 77) F dX3_greatest_68 (by decide) ?_
          exact q_iretR (pc := 77) F Z dX3_greatest_77 h
      · have h := h.2 c15_1
        rcases Classical.em (t_numbersTold = (2 : Int32)) with c15_2 | c15_2
        · have h := h.1 c15_2
          refine q_tabIn (pc := 15) (v := 2) (tgt := 78) F dX3_greatest_15 c15_2 (by decide) (by decide) rfl (by decide) ?_
          refine q_aload_n (pc := 78) F 0 dX3_greatest_78 rfl ?_
          refine q_get (pc := 79) F fgX3_30 0 rfl rfl dX3_greatest_79 ?_
          refine q_bipush (pc := 82) F (v := 7) dX3_greatest_82 (by decide) ?_
          refine q_icmp_ne (pc := 84) (tgt := 92) F dX3_greatest_84 (by decide) (fun c84 => ?_) (fun c84 => ?_)
          · have h := h.2 c84
            refine q_bipush (pc := 92) F (v := 9) dX3_greatest_92 (by decide) ?_
            exact q_iretR (pc := 94) F Z dX3_greatest_94 h
          · have h := h.1 c84
            refine q_bipush (pc := 87) F (v := 9) dX3_greatest_87 (by decide) ?_
            refine q_goto (pc := 89) (tgt := 94) F dX3_greatest_89 (by decide) ?_
            exact q_iretR (pc := 94) F Z dX3_greatest_94 h
        · have h := h.2 c15_2
          refine q_tabOut (pc := 15) (tgt := 95) F dX3_greatest_15 (tab_out (fun k h1 h2 => ?_)) (by decide) ?_
          · rcases (show k = 0 ∨ k = 1 ∨ k = 2 by omega) with rfl | rfl | rfl
            · exact c15_0
            · exact c15_1
            · exact c15_2
          refine q_iconst (pc := 95) F (v := 1) dX3_greatest_95 (by decide) ?_
          exact q_iretR (pc := 96) F Z dX3_greatest_96 h
  · have h := h.1 c6
    refine q_iconst (pc := 9) F (v := 1) dX3_greatest_9 (by decide) ?_
    exact q_iretR (pc := 10) F Z dX3_greatest_10 h

def wp_X3_cellTold (t_numbers : Nat → Int32) (h_wide : Int32) (post : Int32 → Prop) : Prop := post ((h_wide * (t_numbers 1)) + (t_numbers 0))
abbrev rm_X3_cellTold : Room := { frames := 0, cells := 0, slots := 0, locals := 0 }
set_option maxRecDepth 100000 in
set_option maxHeartbeats 4000000 in
theorem ct_X3_cellTold (D : va_G) (cI cZ : ClassId) (a_T a_T_bytes a_T_numbers a_H a_H_lampCell a_H_lampReach a_H_shine a_H_personCell a_H_wish a_H_side a_H_light a_H_leavers : Nat) (t_length : Int32) (t_next : Int32) (t_start : Int32) (t_kind : Int32) (t_value : Int32) (t_item : Int32) (t_numbersTold : Int32) (t_items : Int32) (t_lawTold : Int32) (t_numbers : Nat → Int32) (h_wide : Int32) (h_high : Int32) (h_walls : Int32) (h_doors : Int32) (h_law : Int32) (h_lamps : Int32) (h_people : Int32) {post : Int32 → Prop} (h : wp_X3_cellTold t_numbers h_wide post) (l : Launch) (sz : Nat) : Met l yX3_cellTold (wsM yX3_cellTold cX3_cellTold 2 (some .int)) rm_X3_cellTold (va_Pc [.ref a_T, .ref a_H] (gP D cI cZ [(a_T, .inr (3, [.ref a_T_bytes, .int t_length, .int t_next, .int t_start, .int t_kind, .int t_value, .int t_item, .int t_numbersTold, .int t_items, .ref a_T_numbers, .int t_lawTold])), (a_T_numbers, .inl (cI, 4, .inl t_numbers)), (a_H, .inr (0, [.int h_wide, .int h_high, .int h_walls, .int h_doors, .int h_law, .int h_lamps, .int h_people, .ref a_H_lampCell, .ref a_H_lampReach, .ref a_H_shine, .ref a_H_personCell, .ref a_H_wish, .ref a_H_side, .ref a_H_light, .ref a_H_leavers]))] sz)) (gR post) 0 0 (fun _ => False) := by
  refine q_startR (own := RX3) (by decide +kernel) rfl (Nat.le_of_ble_eq_true rfl) (fun E F Z => ?_)
  show Wg E [(a_T, .inr (3, [.ref a_T_bytes, .int t_length, .int t_next, .int t_start, .int t_kind, .int t_value, .int t_item, .int t_numbersTold, .int t_items, .ref a_T_numbers, .int t_lawTold])), (a_T_numbers, .inl (cI, 4, .inl t_numbers)), (a_H, .inr (0, [.int h_wide, .int h_high, .int h_walls, .int h_doors, .int h_law, .int h_lamps, .int h_people, .ref a_H_lampCell, .ref a_H_lampReach, .ref a_H_shine, .ref a_H_personCell, .ref a_H_wish, .ref a_H_side, .ref a_H_light, .ref a_H_leavers]))] 0 0 0 [(0, .ref a_T), (1, .ref a_H)] []
  unfold wp_X3_cellTold at h
  refine q_aload_n (pc := 0) F 1 dX3_cellTold_0 rfl ?_
  refine q_get (pc := 1) F fgX3_96 2 rfl rfl dX3_cellTold_1 ?_
  refine q_aload_n (pc := 4) F 0 dX3_cellTold_4 rfl ?_
  refine q_get (pc := 5) F fgX3_19 0 rfl rfl dX3_cellTold_5 ?_
  refine q_iconst (pc := 8) F (v := 1) dX3_cellTold_8 (by decide) ?_
  refine q_ialdk (pc := 9) F (k9 := 1) 1 rfl (vpd (by decide +kernel)) (by decide +kernel) dX3_cellTold_9 ?_
  refine q_imul (pc := 10) F dX3_cellTold_10 ?_
  refine q_aload_n (pc := 11) F 0 dX3_cellTold_11 rfl ?_
  refine q_get (pc := 12) F fgX3_19 0 rfl rfl dX3_cellTold_12 ?_
  refine q_iconst (pc := 15) F (v := 0) dX3_cellTold_15 (by decide) ?_
  refine q_ialdk (pc := 16) F (k9 := 0) 1 rfl (vpd (by decide +kernel)) (by decide +kernel) dX3_cellTold_16 ?_
  refine q_iadd (pc := 17) F dX3_cellTold_17 ?_
  exact q_iretR (pc := 18) F Z dX3_cellTold_18 h

def wp_X3_acceptNumber (t_kind : Int32) (t_value : Int32) (t_item : Int32) (t_numbersTold : Int32) (t_numbers : Nat → Int32) (h_wide : Int32) (h_high : Int32) (h_walls : Int32) (post : Int32 → Int32 → (Nat → Int32) → Prop) : Prop := (jn (fun (K13 : Int32 → Prop) => ((t_item = (4 : Int32) → K13 (1 : Int32)) ∧ (¬ t_item = (4 : Int32) → K13 (0 : Int32)))) (fun (y13 : Int32) => ((t_kind = (2 : Int32) → ((t_value < y13 → post (0 : Int32) t_numbersTold t_numbers) ∧ (¬ t_value < y13 → (wp_X3_greatest t_item t_numbersTold h_wide h_high (fun (r36 : Int32) => ((r36 < t_value → post (0 : Int32) t_numbersTold t_numbers) ∧ (¬ r36 < t_value → ((t_numbersTold < (4 : Int32) → (vp_in t_numbersTold 4 ∧ (jn (fun (K107 : Int32 → Prop) => (jn (fun (K102 : Prop) => ((t_item = (6 : Int32) → K102) ∧ (¬ t_item = (6 : Int32) → ((t_item = (7 : Int32) → K102) ∧ (¬ t_item = (7 : Int32) → ((t_item = (8 : Int32) → K102) ∧ (¬ t_item = (8 : Int32) → K107 (0 : Int32)))))))) (K107 (1 : Int32)))) (fun (y107 : Int32) => (jn (fun (K135 : Prop) => ((y107 = (0 : Int32) → K135) ∧ (¬ y107 = (0 : Int32) → (((t_numbersTold + (1 : Int32)) = (2 : Int32) → (wp_X3_cellTold (upd t_numbers (ix t_numbersTold) t_value) h_wide (fun (r126 : Int32) => (wp_X4_bitOf h_walls r126 (fun (r129 : Int32) => ((r129 = (0 : Int32) → K135) ∧ (¬ r129 = (0 : Int32) → post (0 : Int32) (t_numbersTold + (1 : Int32)) (upd t_numbers (ix t_numbersTold) t_value)))))))) ∧ (¬ (t_numbersTold + (1 : Int32)) = (2 : Int32) → K135))))) (post (1 : Int32) (t_numbersTold + (1 : Int32)) (upd t_numbers (ix t_numbersTold) t_value))))))) ∧ (¬ t_numbersTold < (4 : Int32) → post (0 : Int32) t_numbersTold t_numbers))))))))) ∧ (¬ t_kind = (2 : Int32) → post (0 : Int32) t_numbersTold t_numbers))))
abbrev rm_X3_acceptNumber : Room := { frames := 1, cells := 0, slots := 0, locals := 21 }
set_option maxRecDepth 100000 in
set_option maxHeartbeats 4000000 in
theorem ct_X3_acceptNumber (D : va_G) (cI cZ : ClassId) (a_T a_T_bytes a_T_numbers a_H a_H_lampCell a_H_lampReach a_H_shine a_H_personCell a_H_wish a_H_side a_H_light a_H_leavers : Nat) (t_length : Int32) (t_next : Int32) (t_start : Int32) (t_kind : Int32) (t_value : Int32) (t_item : Int32) (t_numbersTold : Int32) (t_items : Int32) (t_lawTold : Int32) (t_numbers : Nat → Int32) (h_wide : Int32) (h_high : Int32) (h_walls : Int32) (h_doors : Int32) (h_law : Int32) (h_lamps : Int32) (h_people : Int32) {post : Int32 → Int32 → (Nat → Int32) → Prop} (h : wp_X3_acceptNumber t_kind t_value t_item t_numbersTold t_numbers h_wide h_high h_walls post) (l : Launch) (sz : Nat) : Met l yX3_acceptNumber (wsM yX3_acceptNumber cX3_acceptNumber 4 (some .boolean)) rm_X3_acceptNumber (va_Pc [.ref a_T, .ref a_H] (gP D cI cZ [(a_T, .inr (3, [.ref a_T_bytes, .int t_length, .int t_next, .int t_start, .int t_kind, .int t_value, .int t_item, .int t_numbersTold, .int t_items, .ref a_T_numbers, .int t_lawTold])), (a_T_numbers, .inl (cI, 4, .inl t_numbers)), (a_H, .inr (0, [.int h_wide, .int h_high, .int h_walls, .int h_doors, .int h_law, .int h_lamps, .int h_people, .ref a_H_lampCell, .ref a_H_lampReach, .ref a_H_shine, .ref a_H_personCell, .ref a_H_wish, .ref a_H_side, .ref a_H_light, .ref a_H_leavers]))] sz)) (gQi D (fun r (u : Int32 × (Nat → Int32)) => isB r ∧ post r u.1 u.2) (fun (u : Int32 × (Nat → Int32)) => [(a_T, .inr (3, [.ref a_T_bytes, .int t_length, .int t_next, .int t_start, .int t_kind, .int t_value, .int t_item, .int u.1, .int t_items, .ref a_T_numbers, .int t_lawTold])), (a_T_numbers, .inl (cI, 4, .inl u.2)), (a_H, .inr (0, [.int h_wide, .int h_high, .int h_walls, .int h_doors, .int h_law, .int h_lamps, .int h_people, .ref a_H_lampCell, .ref a_H_lampReach, .ref a_H_shine, .ref a_H_personCell, .ref a_H_wish, .ref a_H_side, .ref a_H_light, .ref a_H_leavers]))]) [(a_T, .inr (3, [.ref a_T_bytes, .int t_length, .int t_next, .int t_start, .int t_kind, .int t_value, .int t_item, .int t_numbersTold, .int t_items, .ref a_T_numbers, .int t_lawTold])), (a_T_numbers, .inl (cI, 4, .inl t_numbers)), (a_H, .inr (0, [.int h_wide, .int h_high, .int h_walls, .int h_doors, .int h_law, .int h_lamps, .int h_people, .ref a_H_lampCell, .ref a_H_lampReach, .ref a_H_shine, .ref a_H_personCell, .ref a_H_wish, .ref a_H_side, .ref a_H_light, .ref a_H_leavers]))] sz) 0 0 (va_A [(a_T, .inr (3, [.ref a_T_bytes, .int t_length, .int t_next, .int t_start, .int t_kind, .int t_value, .int t_item, .int t_numbersTold, .int t_items, .ref a_T_numbers, .int t_lawTold])), (a_T_numbers, .inl (cI, 4, .inl t_numbers)), (a_H, .inr (0, [.int h_wide, .int h_high, .int h_walls, .int h_doors, .int h_law, .int h_lamps, .int h_people, .ref a_H_lampCell, .ref a_H_lampReach, .ref a_H_shine, .ref a_H_personCell, .ref a_H_wish, .ref a_H_side, .ref a_H_light, .ref a_H_leavers]))] sz) := by
  refine q_startM (own := RX3) (Qc := gQi D (fun r (u : Int32 × (Nat → Int32)) => isB r ∧ post r u.1 u.2) (fun (u : Int32 × (Nat → Int32)) => [(a_T, .inr (3, [.ref a_T_bytes, .int t_length, .int t_next, .int t_start, .int t_kind, .int t_value, .int t_item, .int u.1, .int t_items, .ref a_T_numbers, .int t_lawTold])), (a_T_numbers, .inl (cI, 4, .inl u.2)), (a_H, .inr (0, [.int h_wide, .int h_high, .int h_walls, .int h_doors, .int h_law, .int h_lamps, .int h_people, .ref a_H_lampCell, .ref a_H_lampReach, .ref a_H_shine, .ref a_H_personCell, .ref a_H_wish, .ref a_H_side, .ref a_H_light, .ref a_H_leavers]))]) [(a_T, .inr (3, [.ref a_T_bytes, .int t_length, .int t_next, .int t_start, .int t_kind, .int t_value, .int t_item, .int t_numbersTold, .int t_items, .ref a_T_numbers, .int t_lawTold])), (a_T_numbers, .inl (cI, 4, .inl t_numbers)), (a_H, .inr (0, [.int h_wide, .int h_high, .int h_walls, .int h_doors, .int h_law, .int h_lamps, .int h_people, .ref a_H_lampCell, .ref a_H_lampReach, .ref a_H_shine, .ref a_H_personCell, .ref a_H_wish, .ref a_H_side, .ref a_H_light, .ref a_H_leavers]))]) (by decide +kernel) rfl (Nat.le_of_ble_eq_true rfl) (fun E F Z M => ?_)
  show Wg E [(a_T, .inr (3, [.ref a_T_bytes, .int t_length, .int t_next, .int t_start, .int t_kind, .int t_value, .int t_item, .int t_numbersTold, .int t_items, .ref a_T_numbers, .int t_lawTold])), (a_T_numbers, .inl (cI, 4, .inl t_numbers)), (a_H, .inr (0, [.int h_wide, .int h_high, .int h_walls, .int h_doors, .int h_law, .int h_lamps, .int h_people, .ref a_H_lampCell, .ref a_H_lampReach, .ref a_H_shine, .ref a_H_personCell, .ref a_H_wish, .ref a_H_side, .ref a_H_light, .ref a_H_leavers]))] 0 0 0 [(0, .ref a_T), (1, .ref a_H)] []
  unfold wp_X3_acceptNumber at h
  refine q_aload_n (pc := 0) F 0 dX3_acceptNumber_0 rfl ?_
  refine q_get (pc := 1) F fgX3_30 0 rfl rfl dX3_acceptNumber_1 ?_
  refine q_iconst (pc := 4) F (v := 4) dX3_acceptNumber_4 (by decide) ?_
  refine jnW h (fun K => ∀ (y13 : Int32), K y13 → Wg E [(a_T, .inr (3, [.ref a_T_bytes, .int t_length, .int t_next, .int t_start, .int t_kind, .int t_value, .int t_item, .int t_numbersTold, .int t_items, .ref a_T_numbers, .int t_lawTold])), (a_T_numbers, .inl (cI, 4, .inl t_numbers)), (a_H, .inr (0, [.int h_wide, .int h_high, .int h_walls, .int h_doors, .int h_law, .int h_lamps, .int h_people, .ref a_H_lampCell, .ref a_H_lampReach, .ref a_H_shine, .ref a_H_personCell, .ref a_H_wish, .ref a_H_side, .ref a_H_light, .ref a_H_leavers]))] 0 0 13 [(0, .ref a_T), (1, .ref a_H)] [.int y13]) ?_ ?_
  · intro y13 h
    refine q_istore_n (pc := 13) F (lv' := [(2, .int y13), (0, .ref a_T), (1, .ref a_H)]) dX3_acceptNumber_13 (by decide) rfl ?_
    refine q_aload_n (pc := 14) F 1 dX3_acceptNumber_14 rfl ?_
    refine q_get (pc := 15) F fgX3_43 0 rfl rfl dX3_acceptNumber_15 ?_
    refine q_iconst (pc := 18) F (v := 2) dX3_acceptNumber_18 (by decide) ?_
    refine q_icmp_ne (pc := 19) (tgt := 50) F dX3_acceptNumber_19 (by decide) (fun c19 => ?_) (fun c19 => ?_)
    · have h := h.2 c19
      refine q_iconst (pc := 50) F (v := 0) dX3_acceptNumber_50 (by decide) ?_
      exact q_zretM (pc := 51) F Z dX3_acceptNumber_51 (Or.inl rfl) (t_numbersTold, t_numbers) h rfl
    · have h := h.1 c19
      refine q_aload_n (pc := 22) F 1 dX3_acceptNumber_22 rfl ?_
      refine q_get (pc := 23) F fgX3_79 0 rfl rfl dX3_acceptNumber_23 ?_
      refine q_iload_n (pc := 26) F 0 dX3_acceptNumber_26 rfl ?_
      refine q_icmp_lt (pc := 27) (tgt := 50) F dX3_acceptNumber_27 (by decide) (fun c27 => ?_) (fun c27 => ?_)
      · have h := h.1 c27
        refine q_iconst (pc := 50) F (v := 0) dX3_acceptNumber_50 (by decide) ?_
        exact q_zretM (pc := 51) F Z dX3_acceptNumber_51 (Or.inl rfl) (t_numbersTold, t_numbers) h rfl
      · have h := h.2 c27
        refine q_aload_n (pc := 30) F 1 dX3_acceptNumber_30 rfl ?_
        refine q_get (pc := 31) F fgX3_79 0 rfl rfl dX3_acceptNumber_31 ?_
        refine q_aload_n (pc := 34) F 1 dX3_acceptNumber_34 rfl ?_
        refine q_aload_n (pc := 35) F 2 dX3_acceptNumber_35 rfl ?_
        refine q_cR (q_runV (As := [.ref a_H]) (rest := [.int t_value]) (pc := 36) F (fun l sz => ct_X3_greatest D cI cZ a_T a_T_bytes a_T_numbers a_H a_H_lampCell a_H_lampReach a_H_shine a_H_personCell a_H_wish a_H_side a_H_light a_H_leavers t_length t_next t_start t_kind t_value t_item t_numbersTold t_items t_lawTold h_wide h_high h_walls h_doors h_law h_lamps h_people h l sz) mc_yX3_greatest im_yX3_greatest se_yX3_greatest mlX3_82 ⟨by decide, by decide⟩ ⟨by decide, by decide⟩ ⟨rfl, rfl⟩ [0, 2] rfl rfl rfl 0 rfl rfl rfl (Nat.le_of_ble_eq_true rfl) dX3_acceptNumber_36) (fun r36 h => ?_)
        refine q_icmp_gt (pc := 39) (tgt := 50) F dX3_acceptNumber_39 (by decide) (fun c39 => ?_) (fun c39 => ?_)
        · have h := h.1 c39
          refine q_iconst (pc := 50) F (v := 0) dX3_acceptNumber_50 (by decide) ?_
          exact q_zretM (pc := 51) F Z dX3_acceptNumber_51 (Or.inl rfl) (t_numbersTold, t_numbers) h rfl
        · have h := h.2 c39
          refine q_aload_n (pc := 42) F 1 dX3_acceptNumber_42 rfl ?_
          refine q_get (pc := 43) F fgX3_56 0 rfl rfl dX3_acceptNumber_43 ?_
          refine q_iconst (pc := 46) F (v := 4) dX3_acceptNumber_46 (by decide) ?_
          refine q_icmp_lt (pc := 47) (tgt := 52) F dX3_acceptNumber_47 (by decide) (fun c47 => ?_) (fun c47 => ?_)
          · have h := h.1 c47
            refine q_aload_n (pc := 52) F 1 dX3_acceptNumber_52 rfl ?_
            refine q_get (pc := 53) F fgX3_19 0 rfl rfl dX3_acceptNumber_53 ?_
            refine q_aload_n (pc := 56) F 1 dX3_acceptNumber_56 rfl ?_
            refine q_get (pc := 57) F fgX3_56 0 rfl rfl dX3_acceptNumber_57 ?_
            refine q_aload_n (pc := 60) F 1 dX3_acceptNumber_60 rfl ?_
            refine q_get (pc := 61) F fgX3_79 0 rfl rfl dX3_acceptNumber_61 ?_
            obtain ⟨hi64, h⟩ := h
            refine q_iast (pc := 64) F M (cs' := [(a_T, .inr (3, [.ref a_T_bytes, .int t_length, .int t_next, .int t_start, .int t_kind, .int t_value, .int t_item, .int t_numbersTold, .int t_items, .ref a_T_numbers, .int t_lawTold])), (a_T_numbers, .inl (cI, 4, .inl (upd t_numbers (ix t_numbersTold) t_value))), (a_H, .inr (0, [.int h_wide, .int h_high, .int h_walls, .int h_doors, .int h_law, .int h_lamps, .int h_people, .ref a_H_lampCell, .ref a_H_lampReach, .ref a_H_shine, .ref a_H_personCell, .ref a_H_wish, .ref a_H_side, .ref a_H_light, .ref a_H_leavers]))]) 1 rfl hi64 rfl dX3_acceptNumber_64 ?_
            refine q_aload_n (pc := 65) F 1 dX3_acceptNumber_65 rfl ?_
            refine q_dup (pc := 66) F dX3_acceptNumber_66 rfl ?_
            refine q_get (pc := 67) F fgX3_56 0 rfl rfl dX3_acceptNumber_67 ?_
            refine q_iconst (pc := 70) F (v := 1) dX3_acceptNumber_70 (by decide) ?_
            refine q_iadd (pc := 71) F dX3_acceptNumber_71 ?_
            refine q_put (pc := 72) F M (cs' := [(a_T, .inr (3, [.ref a_T_bytes, .int t_length, .int t_next, .int t_start, .int t_kind, .int t_value, .int t_item, .int (t_numbersTold + (1 : Int32)), .int t_items, .ref a_T_numbers, .int t_lawTold])), (a_T_numbers, .inl (cI, 4, .inl (upd t_numbers (ix t_numbersTold) t_value))), (a_H, .inr (0, [.int h_wide, .int h_high, .int h_walls, .int h_doors, .int h_law, .int h_lamps, .int h_people, .ref a_H_lampCell, .ref a_H_lampReach, .ref a_H_shine, .ref a_H_personCell, .ref a_H_wish, .ref a_H_side, .ref a_H_light, .ref a_H_leavers]))]) fpX3_56 0 rfl rfl rfl (Nat.le_of_ble_eq_true rfl) rfl dX3_acceptNumber_72 ?_
            refine q_aload_n (pc := 75) F 1 dX3_acceptNumber_75 rfl ?_
            refine q_get (pc := 76) F fgX3_30 0 rfl rfl dX3_acceptNumber_76 ?_
            refine q_bipush (pc := 79) F (v := 6) dX3_acceptNumber_79 (by decide) ?_
            refine jnW h (fun K => ∀ (y107 : Int32), K y107 → Wg E [(a_T, .inr (3, [.ref a_T_bytes, .int t_length, .int t_next, .int t_start, .int t_kind, .int t_value, .int t_item, .int (t_numbersTold + (1 : Int32)), .int t_items, .ref a_T_numbers, .int t_lawTold])), (a_T_numbers, .inl (cI, 4, .inl (upd t_numbers (ix t_numbersTold) t_value))), (a_H, .inr (0, [.int h_wide, .int h_high, .int h_walls, .int h_doors, .int h_law, .int h_lamps, .int h_people, .ref a_H_lampCell, .ref a_H_lampReach, .ref a_H_shine, .ref a_H_personCell, .ref a_H_wish, .ref a_H_side, .ref a_H_light, .ref a_H_leavers]))] 0 0 107 [(0, .ref a_T), (1, .ref a_H)] [.int y107]) ?_ ?_
            · intro y107 h
              refine q_istore_n (pc := 107) F (lv' := [(3, .int y107), (0, .ref a_T), (1, .ref a_H)]) dX3_acceptNumber_107 (by decide) rfl ?_
              refine q_iload_n (pc := 108) F 0 dX3_acceptNumber_108 rfl ?_
              refine jnW h (fun K => K → Wg E [(a_T, .inr (3, [.ref a_T_bytes, .int t_length, .int t_next, .int t_start, .int t_kind, .int t_value, .int t_item, .int (t_numbersTold + (1 : Int32)), .int t_items, .ref a_T_numbers, .int t_lawTold])), (a_T_numbers, .inl (cI, 4, .inl (upd t_numbers (ix t_numbersTold) t_value))), (a_H, .inr (0, [.int h_wide, .int h_high, .int h_walls, .int h_doors, .int h_law, .int h_lamps, .int h_people, .ref a_H_lampCell, .ref a_H_lampReach, .ref a_H_shine, .ref a_H_personCell, .ref a_H_wish, .ref a_H_side, .ref a_H_light, .ref a_H_leavers]))] 0 0 135 [] []) ?_ ?_
              · intro h
                refine q_iconst (pc := 135) F (v := 1) dX3_acceptNumber_135 (by decide) ?_
                refine q_goto (pc := 136) (tgt := 140) F dX3_acceptNumber_136 (by decide) ?_
                exact q_zretM (pc := 140) F Z dX3_acceptNumber_140 (Or.inr rfl) (t_numbersTold + (1 : Int32), upd t_numbers (ix t_numbersTold) t_value) h rfl
              · intro K135 J135 h
                refine q_if_eq (pc := 109) (tgt := 135) F dX3_acceptNumber_109 (by decide) (fun c109 => ?_) (fun c109 => ?_)
                · have h := h.1 c109
                  refine q_lv (lv' := []) [] rfl ?_
                  exact J135 h
                · have h := h.2 c109
                  refine q_aload_n (pc := 112) F 1 dX3_acceptNumber_112 rfl ?_
                  refine q_get (pc := 113) F fgX3_56 0 rfl rfl dX3_acceptNumber_113 ?_
                  refine q_iconst (pc := 116) F (v := 2) dX3_acceptNumber_116 (by decide) ?_
                  refine q_icmp_ne (pc := 117) (tgt := 135) F dX3_acceptNumber_117 (by decide) (fun c117 => ?_) (fun c117 => ?_)
                  · have h := h.2 c117
                    refine q_lv (lv' := []) [] rfl ?_
                    exact J135 h
                  · have h := h.1 c117
                    refine q_aload_n (pc := 120) F 2 dX3_acceptNumber_120 rfl ?_
                    refine q_get (pc := 121) F fgX3_86 2 rfl rfl dX3_acceptNumber_121 ?_
                    refine q_aload_n (pc := 124) F 1 dX3_acceptNumber_124 rfl ?_
                    refine q_aload_n (pc := 125) F 2 dX3_acceptNumber_125 rfl ?_
                    refine q_cR (q_runV (As := [.ref a_H]) (rest := [.int h_walls]) (pc := 126) F (fun l sz => ct_X3_cellTold D cI cZ a_T a_T_bytes a_T_numbers a_H a_H_lampCell a_H_lampReach a_H_shine a_H_personCell a_H_wish a_H_side a_H_light a_H_leavers t_length t_next t_start t_kind t_value t_item (t_numbersTold + (1 : Int32)) t_items t_lawTold (upd t_numbers (ix t_numbersTold) t_value) h_wide h_high h_walls h_doors h_law h_lamps h_people h l sz) mc_yX3_cellTold im_yX3_cellTold se_yX3_cellTold mlX3_89 ⟨by decide, by decide⟩ ⟨by decide, by decide⟩ ⟨rfl, rfl⟩ [0, 1, 2] rfl rfl rfl 0 rfl rfl rfl (Nat.le_of_ble_eq_true rfl) dX3_acceptNumber_126) (fun r126 h => ?_)
                    refine q_cR (q_runSN (As := [.int h_walls, .int r126]) (rest := []) (pc := 129) F (fun l sz => ct_X4_bitOf D cI cZ h_walls r126 h l sz) mc_yX4_bitOf sm_yX4_bitOf (fun U h => h.2.2.2.2.2.2) ⟨by decide, by decide⟩ ⟨by decide, by decide⟩ ⟨rfl, rfl⟩ [] rfl rfl rfl rfl (Nat.le_of_ble_eq_true rfl) dX3_acceptNumber_129) (fun r129 h => ?_)
                    refine q_if_ne (pc := 132) (tgt := 139) F dX3_acceptNumber_132 (by decide) (fun c132 => ?_) (fun c132 => ?_)
                    · have h := h.2 c132
                      refine q_iconst (pc := 139) F (v := 0) dX3_acceptNumber_139 (by decide) ?_
                      exact q_zretM (pc := 140) F Z dX3_acceptNumber_140 (Or.inl rfl) (t_numbersTold + (1 : Int32), upd t_numbers (ix t_numbersTold) t_value) h rfl
                    · have h := h.1 c132
                      refine q_lv (lv' := []) [] rfl ?_
                      exact J135 h
            · intro K107 J107 h
              refine jnW h (fun K => K → Wg E [(a_T, .inr (3, [.ref a_T_bytes, .int t_length, .int t_next, .int t_start, .int t_kind, .int t_value, .int t_item, .int (t_numbersTold + (1 : Int32)), .int t_items, .ref a_T_numbers, .int t_lawTold])), (a_T_numbers, .inl (cI, 4, .inl (upd t_numbers (ix t_numbersTold) t_value))), (a_H, .inr (0, [.int h_wide, .int h_high, .int h_walls, .int h_doors, .int h_law, .int h_lamps, .int h_people, .ref a_H_lampCell, .ref a_H_lampReach, .ref a_H_shine, .ref a_H_personCell, .ref a_H_wish, .ref a_H_side, .ref a_H_light, .ref a_H_leavers]))] 0 0 102 [(0, .ref a_T), (1, .ref a_H)] []) ?_ ?_
              · intro h
                refine q_iconst (pc := 102) F (v := 1) dX3_acceptNumber_102 (by decide) ?_
                refine q_goto (pc := 103) (tgt := 107) F dX3_acceptNumber_103 (by decide) ?_
                exact J107 (1 : Int32) h
              · intro K102 J102 h
                refine q_icmp_eq (pc := 81) (tgt := 102) F dX3_acceptNumber_81 (by decide) (fun c81 => ?_) (fun c81 => ?_)
                · have h := h.1 c81
                  refine q_lv (lv' := [(0, .ref a_T), (1, .ref a_H)]) [1, 2] rfl ?_
                  exact J102 h
                · have h := h.2 c81
                  refine q_aload_n (pc := 84) F 1 dX3_acceptNumber_84 rfl ?_
                  refine q_get (pc := 85) F fgX3_30 0 rfl rfl dX3_acceptNumber_85 ?_
                  refine q_bipush (pc := 88) F (v := 7) dX3_acceptNumber_88 (by decide) ?_
                  refine q_icmp_eq (pc := 90) (tgt := 102) F dX3_acceptNumber_90 (by decide) (fun c90 => ?_) (fun c90 => ?_)
                  · have h := h.1 c90
                    refine q_lv (lv' := [(0, .ref a_T), (1, .ref a_H)]) [1, 2] rfl ?_
                    exact J102 h
                  · have h := h.2 c90
                    refine q_aload_n (pc := 93) F 1 dX3_acceptNumber_93 rfl ?_
                    refine q_get (pc := 94) F fgX3_30 0 rfl rfl dX3_acceptNumber_94 ?_
                    refine q_bipush (pc := 97) F (v := 8) dX3_acceptNumber_97 (by decide) ?_
                    refine q_icmp_ne (pc := 99) (tgt := 106) F dX3_acceptNumber_99 (by decide) (fun c99 => ?_) (fun c99 => ?_)
                    · have h := h.2 c99
                      refine q_iconst (pc := 106) F (v := 0) dX3_acceptNumber_106 (by decide) ?_
                      refine q_lv (lv' := [(0, .ref a_T), (1, .ref a_H)]) [1, 2] rfl ?_
                      exact J107 (0 : Int32) h
                    · have h := h.1 c99
                      refine q_lv (lv' := [(0, .ref a_T), (1, .ref a_H)]) [1, 2] rfl ?_
                      exact J102 h
          · have h := h.2 c47
            refine q_iconst (pc := 50) F (v := 0) dX3_acceptNumber_50 (by decide) ?_
            exact q_zretM (pc := 51) F Z dX3_acceptNumber_51 (Or.inl rfl) (t_numbersTold, t_numbers) h rfl
  · intro K13 J13 h
    refine q_icmp_ne (pc := 5) (tgt := 12) F dX3_acceptNumber_5 (by decide) (fun c5 => ?_) (fun c5 => ?_)
    · have h := h.2 c5
      refine q_iconst (pc := 12) F (v := 0) dX3_acceptNumber_12 (by decide) ?_
      exact J13 (0 : Int32) h
    · have h := h.1 c5
      refine q_iconst (pc := 8) F (v := 1) dX3_acceptNumber_8 (by decide) ?_
      refine q_goto (pc := 9) (tgt := 13) F dX3_acceptNumber_9 (by decide) ?_
      exact J13 (1 : Int32) h

def wp_X3_endItem (t_item : Int32) (t_items : Int32) (t_numbers : Nat → Int32) (t_lawTold : Int32) (h_wide : Int32) (h_high : Int32) (h_walls : Int32) (h_doors : Int32) (h_law : Int32) (h_lamps : Int32) (h_people : Int32) (h_lampCell : Nat → Int32) (h_lampReach : Nat → Int32) (h_personCell : Nat → Int32) (h_wish : Nat → Int32) (h_side : Nat → Int32) (post : Int32 → Int32 → Int32 → Int32 → Int32 → Int32 → Int32 → Int32 → Int32 → Int32 → (Nat → Int32) → (Nat → Int32) → (Nat → Int32) → (Nat → Int32) → (Nat → Int32) → Prop) : Prop := (jn (fun (K158 : Int32 → Int32 → Int32 → Int32 → Int32 → Int32 → Int32 → Int32 → (Nat → Int32) → (Nat → Int32) → (Nat → Int32) → (Nat → Int32) → (Nat → Int32) → Prop) => ((t_item = (4 : Int32) → K158 t_lawTold (t_numbers 0) (t_numbers 1) h_walls h_doors h_law h_lamps h_people h_lampCell h_lampReach h_personCell h_wish h_side) ∧ (¬ t_item = (4 : Int32) → ((t_item = (5 : Int32) → (wp_X3_cellTold t_numbers h_wide (fun (r71 : Int32) => K158 t_lawTold h_wide h_high (h_walls ||| (jshl (1 : Int32) r71)) h_doors h_law h_lamps h_people h_lampCell h_lampReach h_personCell h_wish h_side))) ∧ (¬ t_item = (5 : Int32) → ((t_item = (6 : Int32) → (wp_X3_cellTold t_numbers h_wide (fun (r90 : Int32) => K158 t_lawTold h_wide h_high h_walls (h_doors ||| (jshl (1 : Int32) r90)) h_law h_lamps h_people h_lampCell h_lampReach h_personCell h_wish h_side))) ∧ (¬ t_item = (6 : Int32) → ((t_item = (7 : Int32) → (wp_X3_cellTold t_numbers h_wide (fun (r104 : Int32) => (wp_X0_addLamp r104 (t_numbers 2) h_lamps h_lampCell h_lampReach (fun (h_lamps_113 : Int32) (h_lampCell_113 : Nat → Int32) (h_lampReach_113 : Nat → Int32) => K158 t_lawTold h_wide h_high h_walls h_doors h_law h_lamps_113 h_people h_lampCell_113 h_lampReach_113 h_personCell h_wish h_side))))) ∧ (¬ t_item = (7 : Int32) → ((t_item = (8 : Int32) → (wp_X3_cellTold t_numbers h_wide (fun (r122 : Int32) => (wp_X0_addPerson r122 (t_numbers 2) (t_numbers 3) h_people h_personCell h_wish h_side (fun (h_people_137 : Int32) (h_personCell_137 : Nat → Int32) (h_wish_137 : Nat → Int32) (h_side_137 : Nat → Int32) => K158 t_lawTold h_wide h_high h_walls h_doors h_law h_lamps h_people_137 h_lampCell h_lampReach h_personCell_137 h_wish_137 h_side_137))))) ∧ (¬ t_item = (8 : Int32) → K158 (1 : Int32) h_wide h_high h_walls h_doors (t_numbers 0) h_lamps h_people h_lampCell h_lampReach h_personCell h_wish h_side))))))))))) (fun (t_lawTold_158 : Int32) (h_wide_158 : Int32) (h_high_158 : Int32) (h_walls_158 : Int32) (h_doors_158 : Int32) (h_law_158 : Int32) (h_lamps_158 : Int32) (h_people_158 : Int32) (h_lampCell_158 : Nat → Int32) (h_lampReach_158 : Nat → Int32) (h_personCell_158 : Nat → Int32) (h_wish_158 : Nat → Int32) (h_side_158 : Nat → Int32) => post (0 : Int32) (t_items + (1 : Int32)) t_lawTold_158 h_wide_158 h_high_158 h_walls_158 h_doors_158 h_law_158 h_lamps_158 h_people_158 h_lampCell_158 h_lampReach_158 h_personCell_158 h_wish_158 h_side_158))
abbrev rm_X3_endItem : Room := { frames := 1, cells := 0, slots := 0, locals := 23 }
set_option maxRecDepth 100000 in
set_option maxHeartbeats 4000000 in
theorem ct_X3_endItem (D : va_G) (cI cZ : ClassId) (a_T a_T_bytes a_T_numbers a_H a_H_lampCell a_H_lampReach a_H_shine a_H_personCell a_H_wish a_H_side a_H_light a_H_leavers : Nat) (t_length : Int32) (t_next : Int32) (t_start : Int32) (t_kind : Int32) (t_value : Int32) (t_item : Int32) (t_numbersTold : Int32) (t_items : Int32) (t_lawTold : Int32) (t_numbers : Nat → Int32) (h_wide : Int32) (h_high : Int32) (h_walls : Int32) (h_doors : Int32) (h_law : Int32) (h_lamps : Int32) (h_people : Int32) (h_lampCell : Nat → Int32) (h_lampReach : Nat → Int32) (h_personCell : Nat → Int32) (h_wish : Nat → Int32) (h_side : Nat → Int32) {post : Int32 → Int32 → Int32 → Int32 → Int32 → Int32 → Int32 → Int32 → Int32 → Int32 → (Nat → Int32) → (Nat → Int32) → (Nat → Int32) → (Nat → Int32) → (Nat → Int32) → Prop} (h : wp_X3_endItem t_item t_items t_numbers t_lawTold h_wide h_high h_walls h_doors h_law h_lamps h_people h_lampCell h_lampReach h_personCell h_wish h_side post) (l : Launch) (sz : Nat) : Met l yX3_endItem (wsM yX3_endItem cX3_endItem 2 none) rm_X3_endItem (va_Pc [.ref a_T, .ref a_H] (gP D cI cZ [(a_T, .inr (3, [.ref a_T_bytes, .int t_length, .int t_next, .int t_start, .int t_kind, .int t_value, .int t_item, .int t_numbersTold, .int t_items, .ref a_T_numbers, .int t_lawTold])), (a_T_numbers, .inl (cI, 4, .inl t_numbers)), (a_H, .inr (0, [.int h_wide, .int h_high, .int h_walls, .int h_doors, .int h_law, .int h_lamps, .int h_people, .ref a_H_lampCell, .ref a_H_lampReach, .ref a_H_shine, .ref a_H_personCell, .ref a_H_wish, .ref a_H_side, .ref a_H_light, .ref a_H_leavers])), (a_H_lampCell, .inl (cI, 6, .inl h_lampCell)), (a_H_lampReach, .inl (cI, 6, .inl h_lampReach)), (a_H_personCell, .inl (cI, 6, .inl h_personCell)), (a_H_wish, .inl (cI, 6, .inl h_wish)), (a_H_side, .inl (cI, 6, .inl h_side))] sz)) (gQv D (fun (u : Int32 × Int32 × Int32 × Int32 × Int32 × Int32 × Int32 × Int32 × Int32 × Int32 × (Nat → Int32) × (Nat → Int32) × (Nat → Int32) × (Nat → Int32) × (Nat → Int32)) => post u.1 u.2.1 u.2.2.1 u.2.2.2.1 u.2.2.2.2.1 u.2.2.2.2.2.1 u.2.2.2.2.2.2.1 u.2.2.2.2.2.2.2.1 u.2.2.2.2.2.2.2.2.1 u.2.2.2.2.2.2.2.2.2.1 u.2.2.2.2.2.2.2.2.2.2.1 u.2.2.2.2.2.2.2.2.2.2.2.1 u.2.2.2.2.2.2.2.2.2.2.2.2.1 u.2.2.2.2.2.2.2.2.2.2.2.2.2.1 u.2.2.2.2.2.2.2.2.2.2.2.2.2.2) (fun (u : Int32 × Int32 × Int32 × Int32 × Int32 × Int32 × Int32 × Int32 × Int32 × Int32 × (Nat → Int32) × (Nat → Int32) × (Nat → Int32) × (Nat → Int32) × (Nat → Int32)) => [(a_T, .inr (3, [.ref a_T_bytes, .int t_length, .int t_next, .int t_start, .int t_kind, .int t_value, .int u.1, .int t_numbersTold, .int u.2.1, .ref a_T_numbers, .int u.2.2.1])), (a_T_numbers, .inl (cI, 4, .inl t_numbers)), (a_H, .inr (0, [.int u.2.2.2.1, .int u.2.2.2.2.1, .int u.2.2.2.2.2.1, .int u.2.2.2.2.2.2.1, .int u.2.2.2.2.2.2.2.1, .int u.2.2.2.2.2.2.2.2.1, .int u.2.2.2.2.2.2.2.2.2.1, .ref a_H_lampCell, .ref a_H_lampReach, .ref a_H_shine, .ref a_H_personCell, .ref a_H_wish, .ref a_H_side, .ref a_H_light, .ref a_H_leavers])), (a_H_lampCell, .inl (cI, 6, .inl u.2.2.2.2.2.2.2.2.2.2.1)), (a_H_lampReach, .inl (cI, 6, .inl u.2.2.2.2.2.2.2.2.2.2.2.1)), (a_H_personCell, .inl (cI, 6, .inl u.2.2.2.2.2.2.2.2.2.2.2.2.1)), (a_H_wish, .inl (cI, 6, .inl u.2.2.2.2.2.2.2.2.2.2.2.2.2.1)), (a_H_side, .inl (cI, 6, .inl u.2.2.2.2.2.2.2.2.2.2.2.2.2.2))]) [(a_T, .inr (3, [.ref a_T_bytes, .int t_length, .int t_next, .int t_start, .int t_kind, .int t_value, .int t_item, .int t_numbersTold, .int t_items, .ref a_T_numbers, .int t_lawTold])), (a_T_numbers, .inl (cI, 4, .inl t_numbers)), (a_H, .inr (0, [.int h_wide, .int h_high, .int h_walls, .int h_doors, .int h_law, .int h_lamps, .int h_people, .ref a_H_lampCell, .ref a_H_lampReach, .ref a_H_shine, .ref a_H_personCell, .ref a_H_wish, .ref a_H_side, .ref a_H_light, .ref a_H_leavers])), (a_H_lampCell, .inl (cI, 6, .inl h_lampCell)), (a_H_lampReach, .inl (cI, 6, .inl h_lampReach)), (a_H_personCell, .inl (cI, 6, .inl h_personCell)), (a_H_wish, .inl (cI, 6, .inl h_wish)), (a_H_side, .inl (cI, 6, .inl h_side))] sz) 0 0 (va_A [(a_T, .inr (3, [.ref a_T_bytes, .int t_length, .int t_next, .int t_start, .int t_kind, .int t_value, .int t_item, .int t_numbersTold, .int t_items, .ref a_T_numbers, .int t_lawTold])), (a_T_numbers, .inl (cI, 4, .inl t_numbers)), (a_H, .inr (0, [.int h_wide, .int h_high, .int h_walls, .int h_doors, .int h_law, .int h_lamps, .int h_people, .ref a_H_lampCell, .ref a_H_lampReach, .ref a_H_shine, .ref a_H_personCell, .ref a_H_wish, .ref a_H_side, .ref a_H_light, .ref a_H_leavers])), (a_H_lampCell, .inl (cI, 6, .inl h_lampCell)), (a_H_lampReach, .inl (cI, 6, .inl h_lampReach)), (a_H_personCell, .inl (cI, 6, .inl h_personCell)), (a_H_wish, .inl (cI, 6, .inl h_wish)), (a_H_side, .inl (cI, 6, .inl h_side))] sz) := by
  refine q_startM (own := RX3) (Qc := gQv D (fun (u : Int32 × Int32 × Int32 × Int32 × Int32 × Int32 × Int32 × Int32 × Int32 × Int32 × (Nat → Int32) × (Nat → Int32) × (Nat → Int32) × (Nat → Int32) × (Nat → Int32)) => post u.1 u.2.1 u.2.2.1 u.2.2.2.1 u.2.2.2.2.1 u.2.2.2.2.2.1 u.2.2.2.2.2.2.1 u.2.2.2.2.2.2.2.1 u.2.2.2.2.2.2.2.2.1 u.2.2.2.2.2.2.2.2.2.1 u.2.2.2.2.2.2.2.2.2.2.1 u.2.2.2.2.2.2.2.2.2.2.2.1 u.2.2.2.2.2.2.2.2.2.2.2.2.1 u.2.2.2.2.2.2.2.2.2.2.2.2.2.1 u.2.2.2.2.2.2.2.2.2.2.2.2.2.2) (fun (u : Int32 × Int32 × Int32 × Int32 × Int32 × Int32 × Int32 × Int32 × Int32 × Int32 × (Nat → Int32) × (Nat → Int32) × (Nat → Int32) × (Nat → Int32) × (Nat → Int32)) => [(a_T, .inr (3, [.ref a_T_bytes, .int t_length, .int t_next, .int t_start, .int t_kind, .int t_value, .int u.1, .int t_numbersTold, .int u.2.1, .ref a_T_numbers, .int u.2.2.1])), (a_T_numbers, .inl (cI, 4, .inl t_numbers)), (a_H, .inr (0, [.int u.2.2.2.1, .int u.2.2.2.2.1, .int u.2.2.2.2.2.1, .int u.2.2.2.2.2.2.1, .int u.2.2.2.2.2.2.2.1, .int u.2.2.2.2.2.2.2.2.1, .int u.2.2.2.2.2.2.2.2.2.1, .ref a_H_lampCell, .ref a_H_lampReach, .ref a_H_shine, .ref a_H_personCell, .ref a_H_wish, .ref a_H_side, .ref a_H_light, .ref a_H_leavers])), (a_H_lampCell, .inl (cI, 6, .inl u.2.2.2.2.2.2.2.2.2.2.1)), (a_H_lampReach, .inl (cI, 6, .inl u.2.2.2.2.2.2.2.2.2.2.2.1)), (a_H_personCell, .inl (cI, 6, .inl u.2.2.2.2.2.2.2.2.2.2.2.2.1)), (a_H_wish, .inl (cI, 6, .inl u.2.2.2.2.2.2.2.2.2.2.2.2.2.1)), (a_H_side, .inl (cI, 6, .inl u.2.2.2.2.2.2.2.2.2.2.2.2.2.2))]) [(a_T, .inr (3, [.ref a_T_bytes, .int t_length, .int t_next, .int t_start, .int t_kind, .int t_value, .int t_item, .int t_numbersTold, .int t_items, .ref a_T_numbers, .int t_lawTold])), (a_T_numbers, .inl (cI, 4, .inl t_numbers)), (a_H, .inr (0, [.int h_wide, .int h_high, .int h_walls, .int h_doors, .int h_law, .int h_lamps, .int h_people, .ref a_H_lampCell, .ref a_H_lampReach, .ref a_H_shine, .ref a_H_personCell, .ref a_H_wish, .ref a_H_side, .ref a_H_light, .ref a_H_leavers])), (a_H_lampCell, .inl (cI, 6, .inl h_lampCell)), (a_H_lampReach, .inl (cI, 6, .inl h_lampReach)), (a_H_personCell, .inl (cI, 6, .inl h_personCell)), (a_H_wish, .inl (cI, 6, .inl h_wish)), (a_H_side, .inl (cI, 6, .inl h_side))]) (by decide +kernel) rfl (Nat.le_of_ble_eq_true rfl) (fun E F Z M => ?_)
  show Wg E [(a_T, .inr (3, [.ref a_T_bytes, .int t_length, .int t_next, .int t_start, .int t_kind, .int t_value, .int t_item, .int t_numbersTold, .int t_items, .ref a_T_numbers, .int t_lawTold])), (a_T_numbers, .inl (cI, 4, .inl t_numbers)), (a_H, .inr (0, [.int h_wide, .int h_high, .int h_walls, .int h_doors, .int h_law, .int h_lamps, .int h_people, .ref a_H_lampCell, .ref a_H_lampReach, .ref a_H_shine, .ref a_H_personCell, .ref a_H_wish, .ref a_H_side, .ref a_H_light, .ref a_H_leavers])), (a_H_lampCell, .inl (cI, 6, .inl h_lampCell)), (a_H_lampReach, .inl (cI, 6, .inl h_lampReach)), (a_H_personCell, .inl (cI, 6, .inl h_personCell)), (a_H_wish, .inl (cI, 6, .inl h_wish)), (a_H_side, .inl (cI, 6, .inl h_side))] 0 0 0 [(0, .ref a_T), (1, .ref a_H)] []
  unfold wp_X3_endItem at h
  refine q_aload_n (pc := 0) F 0 dX3_endItem_0 rfl ?_
  refine q_get (pc := 1) F fgX3_30 0 rfl rfl dX3_endItem_1 ?_
  refine jnW h (fun K => ∀ (t_lawTold_158 : Int32) (h_wide_158 : Int32) (h_high_158 : Int32) (h_walls_158 : Int32) (h_doors_158 : Int32) (h_law_158 : Int32) (h_lamps_158 : Int32) (h_people_158 : Int32) (h_lampCell_158 : Nat → Int32) (h_lampReach_158 : Nat → Int32) (h_personCell_158 : Nat → Int32) (h_wish_158 : Nat → Int32) (h_side_158 : Nat → Int32), K t_lawTold_158 h_wide_158 h_high_158 h_walls_158 h_doors_158 h_law_158 h_lamps_158 h_people_158 h_lampCell_158 h_lampReach_158 h_personCell_158 h_wish_158 h_side_158 → Wg E [(a_T, .inr (3, [.ref a_T_bytes, .int t_length, .int t_next, .int t_start, .int t_kind, .int t_value, .int t_item, .int t_numbersTold, .int t_items, .ref a_T_numbers, .int t_lawTold_158])), (a_T_numbers, .inl (cI, 4, .inl t_numbers)), (a_H, .inr (0, [.int h_wide_158, .int h_high_158, .int h_walls_158, .int h_doors_158, .int h_law_158, .int h_lamps_158, .int h_people_158, .ref a_H_lampCell, .ref a_H_lampReach, .ref a_H_shine, .ref a_H_personCell, .ref a_H_wish, .ref a_H_side, .ref a_H_light, .ref a_H_leavers])), (a_H_lampCell, .inl (cI, 6, .inl h_lampCell_158)), (a_H_lampReach, .inl (cI, 6, .inl h_lampReach_158)), (a_H_personCell, .inl (cI, 6, .inl h_personCell_158)), (a_H_wish, .inl (cI, 6, .inl h_wish_158)), (a_H_side, .inl (cI, 6, .inl h_side_158))] 0 0 158 [(0, .ref a_T)] []) ?_ ?_
  · intro t_lawTold_158 h_wide_158 h_high_158 h_walls_158 h_doors_158 h_law_158 h_lamps_158 h_people_158 h_lampCell_158 h_lampReach_158 h_personCell_158 h_wish_158 h_side_158 h
    refine q_aload_n (pc := 158) F 0 dX3_endItem_158 rfl ?_
    refine q_iconst (pc := 159) F (v := 0) dX3_endItem_159 (by decide) ?_
    refine q_put (pc := 160) F M (cs' := [(a_T, .inr (3, [.ref a_T_bytes, .int t_length, .int t_next, .int t_start, .int t_kind, .int t_value, .int (0 : Int32), .int t_numbersTold, .int t_items, .ref a_T_numbers, .int t_lawTold_158])), (a_T_numbers, .inl (cI, 4, .inl t_numbers)), (a_H, .inr (0, [.int h_wide_158, .int h_high_158, .int h_walls_158, .int h_doors_158, .int h_law_158, .int h_lamps_158, .int h_people_158, .ref a_H_lampCell, .ref a_H_lampReach, .ref a_H_shine, .ref a_H_personCell, .ref a_H_wish, .ref a_H_side, .ref a_H_light, .ref a_H_leavers])), (a_H_lampCell, .inl (cI, 6, .inl h_lampCell_158)), (a_H_lampReach, .inl (cI, 6, .inl h_lampReach_158)), (a_H_personCell, .inl (cI, 6, .inl h_personCell_158)), (a_H_wish, .inl (cI, 6, .inl h_wish_158)), (a_H_side, .inl (cI, 6, .inl h_side_158))]) fpX3_30 0 rfl rfl rfl (Nat.le_of_ble_eq_true rfl) rfl dX3_endItem_160 ?_
    refine q_aload_n (pc := 163) F 0 dX3_endItem_163 rfl ?_
    refine q_dup (pc := 164) F dX3_endItem_164 rfl ?_
    refine q_get (pc := 165) F fgX3_33 0 rfl rfl dX3_endItem_165 ?_
    refine q_iconst (pc := 168) F (v := 1) dX3_endItem_168 (by decide) ?_
    refine q_iadd (pc := 169) F dX3_endItem_169 ?_
    refine q_put (pc := 170) F M (cs' := [(a_T, .inr (3, [.ref a_T_bytes, .int t_length, .int t_next, .int t_start, .int t_kind, .int t_value, .int (0 : Int32), .int t_numbersTold, .int (t_items + (1 : Int32)), .ref a_T_numbers, .int t_lawTold_158])), (a_T_numbers, .inl (cI, 4, .inl t_numbers)), (a_H, .inr (0, [.int h_wide_158, .int h_high_158, .int h_walls_158, .int h_doors_158, .int h_law_158, .int h_lamps_158, .int h_people_158, .ref a_H_lampCell, .ref a_H_lampReach, .ref a_H_shine, .ref a_H_personCell, .ref a_H_wish, .ref a_H_side, .ref a_H_light, .ref a_H_leavers])), (a_H_lampCell, .inl (cI, 6, .inl h_lampCell_158)), (a_H_lampReach, .inl (cI, 6, .inl h_lampReach_158)), (a_H_personCell, .inl (cI, 6, .inl h_personCell_158)), (a_H_wish, .inl (cI, 6, .inl h_wish_158)), (a_H_side, .inl (cI, 6, .inl h_side_158))]) fpX3_33 0 rfl rfl rfl (Nat.le_of_ble_eq_true rfl) rfl dX3_endItem_170 ?_
    exact q_vretM (pc := 173) F Z dX3_endItem_173 ((0 : Int32), t_items + (1 : Int32), t_lawTold_158, h_wide_158, h_high_158, h_walls_158, h_doors_158, h_law_158, h_lamps_158, h_people_158, h_lampCell_158, h_lampReach_158, h_personCell_158, h_wish_158, h_side_158) h rfl
  · intro K158 J158 h
    rcases Classical.em (t_item = (4 : Int32)) with c4_0 | c4_0
    · have h := h.1 c4_0
      refine q_tabIn (pc := 4) (v := 4) (tgt := 40) F dX3_endItem_4 c4_0 (by decide) (by decide) rfl (by decide) ?_
      refine q_aload_n (pc := 40) F 1 dX3_endItem_40 rfl ?_
      refine q_aload_n (pc := 41) F 0 dX3_endItem_41 rfl ?_
      refine q_get (pc := 42) F fgX3_19 0 rfl rfl dX3_endItem_42 ?_
      refine q_iconst (pc := 45) F (v := 0) dX3_endItem_45 (by decide) ?_
      refine q_ialdk (pc := 46) F (k9 := 0) 1 rfl (vpd (by decide +kernel)) (by decide +kernel) dX3_endItem_46 ?_
      refine q_put (pc := 47) F M (cs' := [(a_T, .inr (3, [.ref a_T_bytes, .int t_length, .int t_next, .int t_start, .int t_kind, .int t_value, .int t_item, .int t_numbersTold, .int t_items, .ref a_T_numbers, .int t_lawTold])), (a_T_numbers, .inl (cI, 4, .inl t_numbers)), (a_H, .inr (0, [.int (t_numbers 0), .int h_high, .int h_walls, .int h_doors, .int h_law, .int h_lamps, .int h_people, .ref a_H_lampCell, .ref a_H_lampReach, .ref a_H_shine, .ref a_H_personCell, .ref a_H_wish, .ref a_H_side, .ref a_H_light, .ref a_H_leavers])), (a_H_lampCell, .inl (cI, 6, .inl h_lampCell)), (a_H_lampReach, .inl (cI, 6, .inl h_lampReach)), (a_H_personCell, .inl (cI, 6, .inl h_personCell)), (a_H_wish, .inl (cI, 6, .inl h_wish)), (a_H_side, .inl (cI, 6, .inl h_side))]) fpX3_96 2 rfl rfl rfl (Nat.le_of_ble_eq_true rfl) rfl dX3_endItem_47 ?_
      refine q_aload_n (pc := 50) F 1 dX3_endItem_50 rfl ?_
      refine q_aload_n (pc := 51) F 0 dX3_endItem_51 rfl ?_
      refine q_get (pc := 52) F fgX3_19 0 rfl rfl dX3_endItem_52 ?_
      refine q_iconst (pc := 55) F (v := 1) dX3_endItem_55 (by decide) ?_
      refine q_ialdk (pc := 56) F (k9 := 1) 1 rfl (vpd (by decide +kernel)) (by decide +kernel) dX3_endItem_56 ?_
      refine q_put (pc := 57) F M (cs' := [(a_T, .inr (3, [.ref a_T_bytes, .int t_length, .int t_next, .int t_start, .int t_kind, .int t_value, .int t_item, .int t_numbersTold, .int t_items, .ref a_T_numbers, .int t_lawTold])), (a_T_numbers, .inl (cI, 4, .inl t_numbers)), (a_H, .inr (0, [.int (t_numbers 0), .int (t_numbers 1), .int h_walls, .int h_doors, .int h_law, .int h_lamps, .int h_people, .ref a_H_lampCell, .ref a_H_lampReach, .ref a_H_shine, .ref a_H_personCell, .ref a_H_wish, .ref a_H_side, .ref a_H_light, .ref a_H_leavers])), (a_H_lampCell, .inl (cI, 6, .inl h_lampCell)), (a_H_lampReach, .inl (cI, 6, .inl h_lampReach)), (a_H_personCell, .inl (cI, 6, .inl h_personCell)), (a_H_wish, .inl (cI, 6, .inl h_wish)), (a_H_side, .inl (cI, 6, .inl h_side))]) fpX3_99 2 rfl rfl rfl (Nat.le_of_ble_eq_true rfl) rfl dX3_endItem_57 ?_
      refine q_goto (pc := 60) (tgt := 158) F dX3_endItem_60 (by decide) ?_
      refine q_lv (lv' := [(0, .ref a_T)]) [0] rfl ?_
      exact J158 t_lawTold (t_numbers 0) (t_numbers 1) h_walls h_doors h_law h_lamps h_people h_lampCell h_lampReach h_personCell h_wish h_side h
    · have h := h.2 c4_0
      rcases Classical.em (t_item = (5 : Int32)) with c4_1 | c4_1
      · have h := h.1 c4_1
        refine q_tabIn (pc := 4) (v := 5) (tgt := 63) F dX3_endItem_4 c4_1 (by decide) (by decide) rfl (by decide) ?_
        refine q_aload_n (pc := 63) F 1 dX3_endItem_63 rfl ?_
        refine q_dup (pc := 64) F dX3_endItem_64 rfl ?_
        refine q_get (pc := 65) F fgX3_86 2 rfl rfl dX3_endItem_65 ?_
        refine q_iconst (pc := 68) F (v := 1) dX3_endItem_68 (by decide) ?_
        refine q_aload_n (pc := 69) F 0 dX3_endItem_69 rfl ?_
        refine q_aload_n (pc := 70) F 1 dX3_endItem_70 rfl ?_
        refine q_cR (q_runV (As := [.ref a_H]) (rest := [.int (1 : Int32), .int h_walls, .ref a_H]) (pc := 71) F (fun l sz => ct_X3_cellTold D cI cZ a_T a_T_bytes a_T_numbers a_H a_H_lampCell a_H_lampReach a_H_shine a_H_personCell a_H_wish a_H_side a_H_light a_H_leavers t_length t_next t_start t_kind t_value t_item t_numbersTold t_items t_lawTold t_numbers h_wide h_high h_walls h_doors h_law h_lamps h_people h l sz) mc_yX3_cellTold im_yX3_cellTold se_yX3_cellTold mlX3_89 ⟨by decide, by decide⟩ ⟨by decide, by decide⟩ ⟨rfl, rfl⟩ [0, 1, 2] rfl rfl rfl 0 rfl rfl rfl (Nat.le_of_ble_eq_true rfl) dX3_endItem_71) (fun r71 h => ?_)
        refine q_ishl (pc := 74) F dX3_endItem_74 ?_
        refine q_ior (pc := 75) F dX3_endItem_75 ?_
        refine q_put (pc := 76) F M (cs' := [(a_T, .inr (3, [.ref a_T_bytes, .int t_length, .int t_next, .int t_start, .int t_kind, .int t_value, .int t_item, .int t_numbersTold, .int t_items, .ref a_T_numbers, .int t_lawTold])), (a_T_numbers, .inl (cI, 4, .inl t_numbers)), (a_H, .inr (0, [.int h_wide, .int h_high, .int (h_walls ||| (jshl (1 : Int32) r71)), .int h_doors, .int h_law, .int h_lamps, .int h_people, .ref a_H_lampCell, .ref a_H_lampReach, .ref a_H_shine, .ref a_H_personCell, .ref a_H_wish, .ref a_H_side, .ref a_H_light, .ref a_H_leavers])), (a_H_lampCell, .inl (cI, 6, .inl h_lampCell)), (a_H_lampReach, .inl (cI, 6, .inl h_lampReach)), (a_H_personCell, .inl (cI, 6, .inl h_personCell)), (a_H_wish, .inl (cI, 6, .inl h_wish)), (a_H_side, .inl (cI, 6, .inl h_side))]) fpX3_86 2 rfl rfl rfl (Nat.le_of_ble_eq_true rfl) rfl dX3_endItem_76 ?_
        refine q_goto (pc := 79) (tgt := 158) F dX3_endItem_79 (by decide) ?_
        refine q_lv (lv' := [(0, .ref a_T)]) [0] rfl ?_
        exact J158 t_lawTold h_wide h_high (h_walls ||| (jshl (1 : Int32) r71)) h_doors h_law h_lamps h_people h_lampCell h_lampReach h_personCell h_wish h_side h
      · have h := h.2 c4_1
        rcases Classical.em (t_item = (6 : Int32)) with c4_2 | c4_2
        · have h := h.1 c4_2
          refine q_tabIn (pc := 4) (v := 6) (tgt := 82) F dX3_endItem_4 c4_2 (by decide) (by decide) rfl (by decide) ?_
          refine q_aload_n (pc := 82) F 1 dX3_endItem_82 rfl ?_
          refine q_dup (pc := 83) F dX3_endItem_83 rfl ?_
          refine q_get (pc := 84) F fgX3_70 2 rfl rfl dX3_endItem_84 ?_
          refine q_iconst (pc := 87) F (v := 1) dX3_endItem_87 (by decide) ?_
          refine q_aload_n (pc := 88) F 0 dX3_endItem_88 rfl ?_
          refine q_aload_n (pc := 89) F 1 dX3_endItem_89 rfl ?_
          refine q_cR (q_runV (As := [.ref a_H]) (rest := [.int (1 : Int32), .int h_doors, .ref a_H]) (pc := 90) F (fun l sz => ct_X3_cellTold D cI cZ a_T a_T_bytes a_T_numbers a_H a_H_lampCell a_H_lampReach a_H_shine a_H_personCell a_H_wish a_H_side a_H_light a_H_leavers t_length t_next t_start t_kind t_value t_item t_numbersTold t_items t_lawTold t_numbers h_wide h_high h_walls h_doors h_law h_lamps h_people h l sz) mc_yX3_cellTold im_yX3_cellTold se_yX3_cellTold mlX3_89 ⟨by decide, by decide⟩ ⟨by decide, by decide⟩ ⟨rfl, rfl⟩ [0, 1, 2] rfl rfl rfl 0 rfl rfl rfl (Nat.le_of_ble_eq_true rfl) dX3_endItem_90) (fun r90 h => ?_)
          refine q_ishl (pc := 93) F dX3_endItem_93 ?_
          refine q_ior (pc := 94) F dX3_endItem_94 ?_
          refine q_put (pc := 95) F M (cs' := [(a_T, .inr (3, [.ref a_T_bytes, .int t_length, .int t_next, .int t_start, .int t_kind, .int t_value, .int t_item, .int t_numbersTold, .int t_items, .ref a_T_numbers, .int t_lawTold])), (a_T_numbers, .inl (cI, 4, .inl t_numbers)), (a_H, .inr (0, [.int h_wide, .int h_high, .int h_walls, .int (h_doors ||| (jshl (1 : Int32) r90)), .int h_law, .int h_lamps, .int h_people, .ref a_H_lampCell, .ref a_H_lampReach, .ref a_H_shine, .ref a_H_personCell, .ref a_H_wish, .ref a_H_side, .ref a_H_light, .ref a_H_leavers])), (a_H_lampCell, .inl (cI, 6, .inl h_lampCell)), (a_H_lampReach, .inl (cI, 6, .inl h_lampReach)), (a_H_personCell, .inl (cI, 6, .inl h_personCell)), (a_H_wish, .inl (cI, 6, .inl h_wish)), (a_H_side, .inl (cI, 6, .inl h_side))]) fpX3_70 2 rfl rfl rfl (Nat.le_of_ble_eq_true rfl) rfl dX3_endItem_95 ?_
          refine q_goto (pc := 98) (tgt := 158) F dX3_endItem_98 (by decide) ?_
          refine q_lv (lv' := [(0, .ref a_T)]) [0] rfl ?_
          exact J158 t_lawTold h_wide h_high h_walls (h_doors ||| (jshl (1 : Int32) r90)) h_law h_lamps h_people h_lampCell h_lampReach h_personCell h_wish h_side h
        · have h := h.2 c4_2
          rcases Classical.em (t_item = (7 : Int32)) with c4_3 | c4_3
          · have h := h.1 c4_3
            refine q_tabIn (pc := 4) (v := 7) (tgt := 101) F dX3_endItem_4 c4_3 (by decide) (by decide) rfl (by decide) ?_
            refine q_aload_n (pc := 101) F 1 dX3_endItem_101 rfl ?_
            refine q_aload_n (pc := 102) F 0 dX3_endItem_102 rfl ?_
            refine q_aload_n (pc := 103) F 1 dX3_endItem_103 rfl ?_
            refine q_cR (q_runV (As := [.ref a_H]) (rest := [.ref a_H]) (pc := 104) F (fun l sz => ct_X3_cellTold D cI cZ a_T a_T_bytes a_T_numbers a_H a_H_lampCell a_H_lampReach a_H_shine a_H_personCell a_H_wish a_H_side a_H_light a_H_leavers t_length t_next t_start t_kind t_value t_item t_numbersTold t_items t_lawTold t_numbers h_wide h_high h_walls h_doors h_law h_lamps h_people h l sz) mc_yX3_cellTold im_yX3_cellTold se_yX3_cellTold mlX3_89 ⟨by decide, by decide⟩ ⟨by decide, by decide⟩ ⟨rfl, rfl⟩ [0, 1, 2] rfl rfl rfl 0 rfl rfl rfl (Nat.le_of_ble_eq_true rfl) dX3_endItem_104) (fun r104 h => ?_)
            refine q_aload_n (pc := 107) F 0 dX3_endItem_107 rfl ?_
            refine q_get (pc := 108) F fgX3_19 0 rfl rfl dX3_endItem_108 ?_
            refine q_iconst (pc := 111) F (v := 2) dX3_endItem_111 (by decide) ?_
            refine q_ialdk (pc := 112) F (k9 := 2) 1 rfl (vpd (by decide +kernel)) (by decide +kernel) dX3_endItem_112 ?_
            refine q_cMv (wr := [(a_T, .inr (3, [.ref a_T_bytes, .int t_length, .int t_next, .int t_start, .int t_kind, .int t_value, .int t_item, .int t_numbersTold, .int t_items, .ref a_T_numbers, .int t_lawTold])), (a_T_numbers, .inl (cI, 4, .inl t_numbers)), (a_H_personCell, .inl (cI, 6, .inl h_personCell)), (a_H_wish, .inl (cI, 6, .inl h_wish)), (a_H_side, .inl (cI, 6, .inl h_side))]) (pc := 113) F M (q_runV (As := [.int r104, .int (t_numbers 2)]) (rest := []) (pc := 113) F (fun l sz => ct_X0_addLamp D cI cZ a_H a_H_lampCell a_H_lampReach a_H_shine a_H_personCell a_H_wish a_H_side a_H_light a_H_leavers h_wide h_high h_walls h_doors h_law h_lamps h_people h_lampCell h_lampReach r104 (t_numbers 2) h l sz) mc_yX0_addLamp im_yX0_addLamp se_yX0_addLamp mlX3_102 ⟨by decide, by decide⟩ ⟨by decide, by decide⟩ ⟨rfl, rfl⟩ [2, 3, 4] rfl rfl rfl 2 rfl rfl rfl (Nat.le_of_ble_eq_true rfl) dX3_endItem_113) [2, 3, 4] [0, 1, 5, 6, 7] rfl rfl rfl (by decide) (fun u113 h => ?_)
            obtain ⟨h_lamps_113, h_lampCell_113, h_lampReach_113⟩ := u113
            refine q_cs (cs' := [(a_T, .inr (3, [.ref a_T_bytes, .int t_length, .int t_next, .int t_start, .int t_kind, .int t_value, .int t_item, .int t_numbersTold, .int t_items, .ref a_T_numbers, .int t_lawTold])), (a_T_numbers, .inl (cI, 4, .inl t_numbers)), (a_H, .inr (0, [.int h_wide, .int h_high, .int h_walls, .int h_doors, .int h_law, .int h_lamps_113, .int h_people, .ref a_H_lampCell, .ref a_H_lampReach, .ref a_H_shine, .ref a_H_personCell, .ref a_H_wish, .ref a_H_side, .ref a_H_light, .ref a_H_leavers])), (a_H_lampCell, .inl (cI, 6, .inl h_lampCell_113)), (a_H_lampReach, .inl (cI, 6, .inl h_lampReach_113)), (a_H_personCell, .inl (cI, 6, .inl h_personCell)), (a_H_wish, .inl (cI, 6, .inl h_wish)), (a_H_side, .inl (cI, 6, .inl h_side))]) [0, 1, 5, 6, 7, 2, 3, 4] rfl rfl ?_
            refine q_goto (pc := 116) (tgt := 158) F dX3_endItem_116 (by decide) ?_
            refine q_lv (lv' := [(0, .ref a_T)]) [0] rfl ?_
            exact J158 t_lawTold h_wide h_high h_walls h_doors h_law h_lamps_113 h_people h_lampCell_113 h_lampReach_113 h_personCell h_wish h_side h
          · have h := h.2 c4_3
            rcases Classical.em (t_item = (8 : Int32)) with c4_4 | c4_4
            · have h := h.1 c4_4
              refine q_tabIn (pc := 4) (v := 8) (tgt := 119) F dX3_endItem_4 c4_4 (by decide) (by decide) rfl (by decide) ?_
              refine q_aload_n (pc := 119) F 1 dX3_endItem_119 rfl ?_
              refine q_aload_n (pc := 120) F 0 dX3_endItem_120 rfl ?_
              refine q_aload_n (pc := 121) F 1 dX3_endItem_121 rfl ?_
              refine q_cR (q_runV (As := [.ref a_H]) (rest := [.ref a_H]) (pc := 122) F (fun l sz => ct_X3_cellTold D cI cZ a_T a_T_bytes a_T_numbers a_H a_H_lampCell a_H_lampReach a_H_shine a_H_personCell a_H_wish a_H_side a_H_light a_H_leavers t_length t_next t_start t_kind t_value t_item t_numbersTold t_items t_lawTold t_numbers h_wide h_high h_walls h_doors h_law h_lamps h_people h l sz) mc_yX3_cellTold im_yX3_cellTold se_yX3_cellTold mlX3_89 ⟨by decide, by decide⟩ ⟨by decide, by decide⟩ ⟨rfl, rfl⟩ [0, 1, 2] rfl rfl rfl 0 rfl rfl rfl (Nat.le_of_ble_eq_true rfl) dX3_endItem_122) (fun r122 h => ?_)
              refine q_aload_n (pc := 125) F 0 dX3_endItem_125 rfl ?_
              refine q_get (pc := 126) F fgX3_19 0 rfl rfl dX3_endItem_126 ?_
              refine q_iconst (pc := 129) F (v := 2) dX3_endItem_129 (by decide) ?_
              refine q_ialdk (pc := 130) F (k9 := 2) 1 rfl (vpd (by decide +kernel)) (by decide +kernel) dX3_endItem_130 ?_
              refine q_aload_n (pc := 131) F 0 dX3_endItem_131 rfl ?_
              refine q_get (pc := 132) F fgX3_19 0 rfl rfl dX3_endItem_132 ?_
              refine q_iconst (pc := 135) F (v := 3) dX3_endItem_135 (by decide) ?_
              refine q_ialdk (pc := 136) F (k9 := 3) 1 rfl (vpd (by decide +kernel)) (by decide +kernel) dX3_endItem_136 ?_
              refine q_cMv (wr := [(a_T, .inr (3, [.ref a_T_bytes, .int t_length, .int t_next, .int t_start, .int t_kind, .int t_value, .int t_item, .int t_numbersTold, .int t_items, .ref a_T_numbers, .int t_lawTold])), (a_T_numbers, .inl (cI, 4, .inl t_numbers)), (a_H_lampCell, .inl (cI, 6, .inl h_lampCell)), (a_H_lampReach, .inl (cI, 6, .inl h_lampReach))]) (pc := 137) F M (q_runV (As := [.int r122, .int (t_numbers 2), .int (t_numbers 3)]) (rest := []) (pc := 137) F (fun l sz => ct_X0_addPerson D cI cZ a_H a_H_lampCell a_H_lampReach a_H_shine a_H_personCell a_H_wish a_H_side a_H_light a_H_leavers h_wide h_high h_walls h_doors h_law h_lamps h_people h_personCell h_wish h_side r122 (t_numbers 2) (t_numbers 3) h l sz) mc_yX0_addPerson im_yX0_addPerson se_yX0_addPerson mlX3_106 ⟨by decide, by decide⟩ ⟨by decide, by decide⟩ ⟨rfl, rfl⟩ [2, 5, 6, 7] rfl rfl rfl 2 rfl rfl rfl (Nat.le_of_ble_eq_true rfl) dX3_endItem_137) [2, 5, 6, 7] [0, 1, 3, 4] rfl rfl rfl (by decide) (fun u137 h => ?_)
              obtain ⟨h_people_137, h_personCell_137, h_wish_137, h_side_137⟩ := u137
              refine q_cs (cs' := [(a_T, .inr (3, [.ref a_T_bytes, .int t_length, .int t_next, .int t_start, .int t_kind, .int t_value, .int t_item, .int t_numbersTold, .int t_items, .ref a_T_numbers, .int t_lawTold])), (a_T_numbers, .inl (cI, 4, .inl t_numbers)), (a_H, .inr (0, [.int h_wide, .int h_high, .int h_walls, .int h_doors, .int h_law, .int h_lamps, .int h_people_137, .ref a_H_lampCell, .ref a_H_lampReach, .ref a_H_shine, .ref a_H_personCell, .ref a_H_wish, .ref a_H_side, .ref a_H_light, .ref a_H_leavers])), (a_H_lampCell, .inl (cI, 6, .inl h_lampCell)), (a_H_lampReach, .inl (cI, 6, .inl h_lampReach)), (a_H_personCell, .inl (cI, 6, .inl h_personCell_137)), (a_H_wish, .inl (cI, 6, .inl h_wish_137)), (a_H_side, .inl (cI, 6, .inl h_side_137))]) [0, 1, 4, 2, 3, 5, 6, 7] rfl rfl ?_
              refine q_goto (pc := 140) (tgt := 158) F dX3_endItem_140 (by decide) ?_
              refine q_lv (lv' := [(0, .ref a_T)]) [0] rfl ?_
              exact J158 t_lawTold h_wide h_high h_walls h_doors h_law h_lamps h_people_137 h_lampCell h_lampReach h_personCell_137 h_wish_137 h_side_137 h
            · have h := h.2 c4_4
              refine q_tabOut (pc := 4) (tgt := 143) F dX3_endItem_4 (tab_out (fun k h1 h2 => ?_)) (by decide) ?_
              · rcases (show k = 4 ∨ k = 5 ∨ k = 6 ∨ k = 7 ∨ k = 8 by omega) with rfl | rfl | rfl | rfl | rfl
                · exact c4_0
                · exact c4_1
                · exact c4_2
                · exact c4_3
                · exact c4_4
              refine q_aload_n (pc := 143) F 1 dX3_endItem_143 rfl ?_
              refine q_aload_n (pc := 144) F 0 dX3_endItem_144 rfl ?_
              refine q_get (pc := 145) F fgX3_19 0 rfl rfl dX3_endItem_145 ?_
              refine q_iconst (pc := 148) F (v := 0) dX3_endItem_148 (by decide) ?_
              refine q_ialdk (pc := 149) F (k9 := 0) 1 rfl (vpd (by decide +kernel)) (by decide +kernel) dX3_endItem_149 ?_
              refine q_put (pc := 150) F M (cs' := [(a_T, .inr (3, [.ref a_T_bytes, .int t_length, .int t_next, .int t_start, .int t_kind, .int t_value, .int t_item, .int t_numbersTold, .int t_items, .ref a_T_numbers, .int t_lawTold])), (a_T_numbers, .inl (cI, 4, .inl t_numbers)), (a_H, .inr (0, [.int h_wide, .int h_high, .int h_walls, .int h_doors, .int (t_numbers 0), .int h_lamps, .int h_people, .ref a_H_lampCell, .ref a_H_lampReach, .ref a_H_shine, .ref a_H_personCell, .ref a_H_wish, .ref a_H_side, .ref a_H_light, .ref a_H_leavers])), (a_H_lampCell, .inl (cI, 6, .inl h_lampCell)), (a_H_lampReach, .inl (cI, 6, .inl h_lampReach)), (a_H_personCell, .inl (cI, 6, .inl h_personCell)), (a_H_wish, .inl (cI, 6, .inl h_wish)), (a_H_side, .inl (cI, 6, .inl h_side))]) fpX3_110 2 rfl rfl rfl (Nat.le_of_ble_eq_true rfl) rfl dX3_endItem_150 ?_
              refine q_aload_n (pc := 153) F 0 dX3_endItem_153 rfl ?_
              refine q_iconst (pc := 154) F (v := 1) dX3_endItem_154 (by decide) ?_
              refine q_put (pc := 155) F M (cs' := [(a_T, .inr (3, [.ref a_T_bytes, .int t_length, .int t_next, .int t_start, .int t_kind, .int t_value, .int t_item, .int t_numbersTold, .int t_items, .ref a_T_numbers, .int (1 : Int32)])), (a_T_numbers, .inl (cI, 4, .inl t_numbers)), (a_H, .inr (0, [.int h_wide, .int h_high, .int h_walls, .int h_doors, .int (t_numbers 0), .int h_lamps, .int h_people, .ref a_H_lampCell, .ref a_H_lampReach, .ref a_H_shine, .ref a_H_personCell, .ref a_H_wish, .ref a_H_side, .ref a_H_light, .ref a_H_leavers])), (a_H_lampCell, .inl (cI, 6, .inl h_lampCell)), (a_H_lampReach, .inl (cI, 6, .inl h_lampReach)), (a_H_personCell, .inl (cI, 6, .inl h_personCell)), (a_H_wish, .inl (cI, 6, .inl h_wish)), (a_H_side, .inl (cI, 6, .inl h_side))]) fpX3_36 0 rfl rfl rfl (Nat.le_of_ble_eq_true rfl) rfl dX3_endItem_155 ?_
              refine q_lv (lv' := [(0, .ref a_T)]) [0] rfl ?_
              exact J158 (1 : Int32) h_wide h_high h_walls h_doors (t_numbers 0) h_lamps h_people h_lampCell h_lampReach h_personCell h_wish h_side h

def wp_X3_accept (t_kind : Int32) (t_value : Int32) (t_item : Int32) (t_numbersTold : Int32) (t_items : Int32) (t_numbers : Nat → Int32) (t_lawTold : Int32) (h_wide : Int32) (h_high : Int32) (h_walls : Int32) (h_doors : Int32) (h_law : Int32) (h_lamps : Int32) (h_people : Int32) (h_lampCell : Nat → Int32) (h_lampReach : Nat → Int32) (h_personCell : Nat → Int32) (h_wish : Nat → Int32) (h_side : Nat → Int32) (post : Int32 → Int32 → Int32 → Int32 → (Nat → Int32) → Int32 → Int32 → Int32 → Int32 → Int32 → Int32 → Int32 → Int32 → (Nat → Int32) → (Nat → Int32) → (Nat → Int32) → (Nat → Int32) → (Nat → Int32) → Prop) : Prop := ((t_item = (0 : Int32) → (wp_X3_beginItem t_kind t_item t_numbersTold t_items t_lawTold h_doors h_lamps h_people (fun (r9 : Int32) (t_item_9 : Int32) (t_numbersTold_9 : Int32) => post r9 t_item_9 t_numbersTold_9 t_items t_numbers t_lawTold h_wide h_high h_walls h_doors h_law h_lamps h_people h_lampCell h_lampReach h_personCell h_wish h_side))) ∧ (¬ t_item = (0 : Int32) → (wp_X3_numbersOf t_item (fun (r21 : Int32) => ((r21 ≤ t_numbersTold → ((t_kind = (1 : Int32) → (wp_X3_endItem t_item t_items t_numbers t_lawTold h_wide h_high h_walls h_doors h_law h_lamps h_people h_lampCell h_lampReach h_personCell h_wish h_side (fun (t_item_45 : Int32) (t_items_45 : Int32) (t_lawTold_45 : Int32) (h_wide_45 : Int32) (h_high_45 : Int32) (h_walls_45 : Int32) (h_doors_45 : Int32) (h_law_45 : Int32) (h_lamps_45 : Int32) (h_people_45 : Int32) (h_lampCell_45 : Nat → Int32) (h_lampReach_45 : Nat → Int32) (h_personCell_45 : Nat → Int32) (h_wish_45 : Nat → Int32) (h_side_45 : Nat → Int32) => post (1 : Int32) t_item_45 t_numbersTold t_items_45 t_numbers t_lawTold_45 h_wide_45 h_high_45 h_walls_45 h_doors_45 h_law_45 h_lamps_45 h_people_45 h_lampCell_45 h_lampReach_45 h_personCell_45 h_wish_45 h_side_45))) ∧ (¬ t_kind = (1 : Int32) → post (0 : Int32) t_item t_numbersTold t_items t_numbers t_lawTold h_wide h_high h_walls h_doors h_law h_lamps h_people h_lampCell h_lampReach h_personCell h_wish h_side))) ∧ (¬ r21 ≤ t_numbersTold → (wp_X3_acceptNumber t_kind t_value t_item t_numbersTold t_numbers h_wide h_high h_walls (fun (r29 : Int32) (t_numbersTold_29 : Int32) (t_numbers_29 : Nat → Int32) => post r29 t_item t_numbersTold_29 t_items t_numbers_29 t_lawTold h_wide h_high h_walls h_doors h_law h_lamps h_people h_lampCell h_lampReach h_personCell h_wish h_side))))))))
abbrev rm_X3_accept : Room := { frames := 2, cells := 0, slots := 0, locals := 44 }
set_option maxRecDepth 100000 in
set_option maxHeartbeats 4000000 in
theorem ct_X3_accept (D : va_G) (cI cZ : ClassId) (a_T a_T_bytes a_T_numbers a_H a_H_lampCell a_H_lampReach a_H_shine a_H_personCell a_H_wish a_H_side a_H_light a_H_leavers : Nat) (t_length : Int32) (t_next : Int32) (t_start : Int32) (t_kind : Int32) (t_value : Int32) (t_item : Int32) (t_numbersTold : Int32) (t_items : Int32) (t_lawTold : Int32) (t_numbers : Nat → Int32) (h_wide : Int32) (h_high : Int32) (h_walls : Int32) (h_doors : Int32) (h_law : Int32) (h_lamps : Int32) (h_people : Int32) (h_lampCell : Nat → Int32) (h_lampReach : Nat → Int32) (h_personCell : Nat → Int32) (h_wish : Nat → Int32) (h_side : Nat → Int32) {post : Int32 → Int32 → Int32 → Int32 → (Nat → Int32) → Int32 → Int32 → Int32 → Int32 → Int32 → Int32 → Int32 → Int32 → (Nat → Int32) → (Nat → Int32) → (Nat → Int32) → (Nat → Int32) → (Nat → Int32) → Prop} (h : wp_X3_accept t_kind t_value t_item t_numbersTold t_items t_numbers t_lawTold h_wide h_high h_walls h_doors h_law h_lamps h_people h_lampCell h_lampReach h_personCell h_wish h_side post) (l : Launch) (sz : Nat) : Met l yX3_accept (wsM yX3_accept cX3_accept 2 (some .boolean)) rm_X3_accept (va_Pc [.ref a_T, .ref a_H] (gP D cI cZ [(a_T, .inr (3, [.ref a_T_bytes, .int t_length, .int t_next, .int t_start, .int t_kind, .int t_value, .int t_item, .int t_numbersTold, .int t_items, .ref a_T_numbers, .int t_lawTold])), (a_T_numbers, .inl (cI, 4, .inl t_numbers)), (a_H, .inr (0, [.int h_wide, .int h_high, .int h_walls, .int h_doors, .int h_law, .int h_lamps, .int h_people, .ref a_H_lampCell, .ref a_H_lampReach, .ref a_H_shine, .ref a_H_personCell, .ref a_H_wish, .ref a_H_side, .ref a_H_light, .ref a_H_leavers])), (a_H_lampCell, .inl (cI, 6, .inl h_lampCell)), (a_H_lampReach, .inl (cI, 6, .inl h_lampReach)), (a_H_personCell, .inl (cI, 6, .inl h_personCell)), (a_H_wish, .inl (cI, 6, .inl h_wish)), (a_H_side, .inl (cI, 6, .inl h_side))] sz)) (gQi D (fun r (u : Int32 × Int32 × Int32 × (Nat → Int32) × Int32 × Int32 × Int32 × Int32 × Int32 × Int32 × Int32 × Int32 × (Nat → Int32) × (Nat → Int32) × (Nat → Int32) × (Nat → Int32) × (Nat → Int32)) => isB r ∧ post r u.1 u.2.1 u.2.2.1 u.2.2.2.1 u.2.2.2.2.1 u.2.2.2.2.2.1 u.2.2.2.2.2.2.1 u.2.2.2.2.2.2.2.1 u.2.2.2.2.2.2.2.2.1 u.2.2.2.2.2.2.2.2.2.1 u.2.2.2.2.2.2.2.2.2.2.1 u.2.2.2.2.2.2.2.2.2.2.2.1 u.2.2.2.2.2.2.2.2.2.2.2.2.1 u.2.2.2.2.2.2.2.2.2.2.2.2.2.1 u.2.2.2.2.2.2.2.2.2.2.2.2.2.2.1 u.2.2.2.2.2.2.2.2.2.2.2.2.2.2.2.1 u.2.2.2.2.2.2.2.2.2.2.2.2.2.2.2.2) (fun (u : Int32 × Int32 × Int32 × (Nat → Int32) × Int32 × Int32 × Int32 × Int32 × Int32 × Int32 × Int32 × Int32 × (Nat → Int32) × (Nat → Int32) × (Nat → Int32) × (Nat → Int32) × (Nat → Int32)) => [(a_T, .inr (3, [.ref a_T_bytes, .int t_length, .int t_next, .int t_start, .int t_kind, .int t_value, .int u.1, .int u.2.1, .int u.2.2.1, .ref a_T_numbers, .int u.2.2.2.2.1])), (a_T_numbers, .inl (cI, 4, .inl u.2.2.2.1)), (a_H, .inr (0, [.int u.2.2.2.2.2.1, .int u.2.2.2.2.2.2.1, .int u.2.2.2.2.2.2.2.1, .int u.2.2.2.2.2.2.2.2.1, .int u.2.2.2.2.2.2.2.2.2.1, .int u.2.2.2.2.2.2.2.2.2.2.1, .int u.2.2.2.2.2.2.2.2.2.2.2.1, .ref a_H_lampCell, .ref a_H_lampReach, .ref a_H_shine, .ref a_H_personCell, .ref a_H_wish, .ref a_H_side, .ref a_H_light, .ref a_H_leavers])), (a_H_lampCell, .inl (cI, 6, .inl u.2.2.2.2.2.2.2.2.2.2.2.2.1)), (a_H_lampReach, .inl (cI, 6, .inl u.2.2.2.2.2.2.2.2.2.2.2.2.2.1)), (a_H_personCell, .inl (cI, 6, .inl u.2.2.2.2.2.2.2.2.2.2.2.2.2.2.1)), (a_H_wish, .inl (cI, 6, .inl u.2.2.2.2.2.2.2.2.2.2.2.2.2.2.2.1)), (a_H_side, .inl (cI, 6, .inl u.2.2.2.2.2.2.2.2.2.2.2.2.2.2.2.2))]) [(a_T, .inr (3, [.ref a_T_bytes, .int t_length, .int t_next, .int t_start, .int t_kind, .int t_value, .int t_item, .int t_numbersTold, .int t_items, .ref a_T_numbers, .int t_lawTold])), (a_T_numbers, .inl (cI, 4, .inl t_numbers)), (a_H, .inr (0, [.int h_wide, .int h_high, .int h_walls, .int h_doors, .int h_law, .int h_lamps, .int h_people, .ref a_H_lampCell, .ref a_H_lampReach, .ref a_H_shine, .ref a_H_personCell, .ref a_H_wish, .ref a_H_side, .ref a_H_light, .ref a_H_leavers])), (a_H_lampCell, .inl (cI, 6, .inl h_lampCell)), (a_H_lampReach, .inl (cI, 6, .inl h_lampReach)), (a_H_personCell, .inl (cI, 6, .inl h_personCell)), (a_H_wish, .inl (cI, 6, .inl h_wish)), (a_H_side, .inl (cI, 6, .inl h_side))] sz) 0 0 (va_A [(a_T, .inr (3, [.ref a_T_bytes, .int t_length, .int t_next, .int t_start, .int t_kind, .int t_value, .int t_item, .int t_numbersTold, .int t_items, .ref a_T_numbers, .int t_lawTold])), (a_T_numbers, .inl (cI, 4, .inl t_numbers)), (a_H, .inr (0, [.int h_wide, .int h_high, .int h_walls, .int h_doors, .int h_law, .int h_lamps, .int h_people, .ref a_H_lampCell, .ref a_H_lampReach, .ref a_H_shine, .ref a_H_personCell, .ref a_H_wish, .ref a_H_side, .ref a_H_light, .ref a_H_leavers])), (a_H_lampCell, .inl (cI, 6, .inl h_lampCell)), (a_H_lampReach, .inl (cI, 6, .inl h_lampReach)), (a_H_personCell, .inl (cI, 6, .inl h_personCell)), (a_H_wish, .inl (cI, 6, .inl h_wish)), (a_H_side, .inl (cI, 6, .inl h_side))] sz) := by
  refine q_startM (own := RX3) (Qc := gQi D (fun r (u : Int32 × Int32 × Int32 × (Nat → Int32) × Int32 × Int32 × Int32 × Int32 × Int32 × Int32 × Int32 × Int32 × (Nat → Int32) × (Nat → Int32) × (Nat → Int32) × (Nat → Int32) × (Nat → Int32)) => isB r ∧ post r u.1 u.2.1 u.2.2.1 u.2.2.2.1 u.2.2.2.2.1 u.2.2.2.2.2.1 u.2.2.2.2.2.2.1 u.2.2.2.2.2.2.2.1 u.2.2.2.2.2.2.2.2.1 u.2.2.2.2.2.2.2.2.2.1 u.2.2.2.2.2.2.2.2.2.2.1 u.2.2.2.2.2.2.2.2.2.2.2.1 u.2.2.2.2.2.2.2.2.2.2.2.2.1 u.2.2.2.2.2.2.2.2.2.2.2.2.2.1 u.2.2.2.2.2.2.2.2.2.2.2.2.2.2.1 u.2.2.2.2.2.2.2.2.2.2.2.2.2.2.2.1 u.2.2.2.2.2.2.2.2.2.2.2.2.2.2.2.2) (fun (u : Int32 × Int32 × Int32 × (Nat → Int32) × Int32 × Int32 × Int32 × Int32 × Int32 × Int32 × Int32 × Int32 × (Nat → Int32) × (Nat → Int32) × (Nat → Int32) × (Nat → Int32) × (Nat → Int32)) => [(a_T, .inr (3, [.ref a_T_bytes, .int t_length, .int t_next, .int t_start, .int t_kind, .int t_value, .int u.1, .int u.2.1, .int u.2.2.1, .ref a_T_numbers, .int u.2.2.2.2.1])), (a_T_numbers, .inl (cI, 4, .inl u.2.2.2.1)), (a_H, .inr (0, [.int u.2.2.2.2.2.1, .int u.2.2.2.2.2.2.1, .int u.2.2.2.2.2.2.2.1, .int u.2.2.2.2.2.2.2.2.1, .int u.2.2.2.2.2.2.2.2.2.1, .int u.2.2.2.2.2.2.2.2.2.2.1, .int u.2.2.2.2.2.2.2.2.2.2.2.1, .ref a_H_lampCell, .ref a_H_lampReach, .ref a_H_shine, .ref a_H_personCell, .ref a_H_wish, .ref a_H_side, .ref a_H_light, .ref a_H_leavers])), (a_H_lampCell, .inl (cI, 6, .inl u.2.2.2.2.2.2.2.2.2.2.2.2.1)), (a_H_lampReach, .inl (cI, 6, .inl u.2.2.2.2.2.2.2.2.2.2.2.2.2.1)), (a_H_personCell, .inl (cI, 6, .inl u.2.2.2.2.2.2.2.2.2.2.2.2.2.2.1)), (a_H_wish, .inl (cI, 6, .inl u.2.2.2.2.2.2.2.2.2.2.2.2.2.2.2.1)), (a_H_side, .inl (cI, 6, .inl u.2.2.2.2.2.2.2.2.2.2.2.2.2.2.2.2))]) [(a_T, .inr (3, [.ref a_T_bytes, .int t_length, .int t_next, .int t_start, .int t_kind, .int t_value, .int t_item, .int t_numbersTold, .int t_items, .ref a_T_numbers, .int t_lawTold])), (a_T_numbers, .inl (cI, 4, .inl t_numbers)), (a_H, .inr (0, [.int h_wide, .int h_high, .int h_walls, .int h_doors, .int h_law, .int h_lamps, .int h_people, .ref a_H_lampCell, .ref a_H_lampReach, .ref a_H_shine, .ref a_H_personCell, .ref a_H_wish, .ref a_H_side, .ref a_H_light, .ref a_H_leavers])), (a_H_lampCell, .inl (cI, 6, .inl h_lampCell)), (a_H_lampReach, .inl (cI, 6, .inl h_lampReach)), (a_H_personCell, .inl (cI, 6, .inl h_personCell)), (a_H_wish, .inl (cI, 6, .inl h_wish)), (a_H_side, .inl (cI, 6, .inl h_side))]) (by decide +kernel) rfl (Nat.le_of_ble_eq_true rfl) (fun E F Z M => ?_)
  show Wg E [(a_T, .inr (3, [.ref a_T_bytes, .int t_length, .int t_next, .int t_start, .int t_kind, .int t_value, .int t_item, .int t_numbersTold, .int t_items, .ref a_T_numbers, .int t_lawTold])), (a_T_numbers, .inl (cI, 4, .inl t_numbers)), (a_H, .inr (0, [.int h_wide, .int h_high, .int h_walls, .int h_doors, .int h_law, .int h_lamps, .int h_people, .ref a_H_lampCell, .ref a_H_lampReach, .ref a_H_shine, .ref a_H_personCell, .ref a_H_wish, .ref a_H_side, .ref a_H_light, .ref a_H_leavers])), (a_H_lampCell, .inl (cI, 6, .inl h_lampCell)), (a_H_lampReach, .inl (cI, 6, .inl h_lampReach)), (a_H_personCell, .inl (cI, 6, .inl h_personCell)), (a_H_wish, .inl (cI, 6, .inl h_wish)), (a_H_side, .inl (cI, 6, .inl h_side))] 0 0 0 [(0, .ref a_T), (1, .ref a_H)] []
  unfold wp_X3_accept at h
  refine q_aload_n (pc := 0) F 0 dX3_accept_0 rfl ?_
  refine q_get (pc := 1) F fgX3_30 0 rfl rfl dX3_accept_1 ?_
  refine q_if_ne (pc := 4) (tgt := 13) F dX3_accept_4 (by decide) (fun c4 => ?_) (fun c4 => ?_)
  · have h := h.2 c4
    refine q_aload_n (pc := 13) F 0 dX3_accept_13 rfl ?_
    refine q_get (pc := 14) F fgX3_56 0 rfl rfl dX3_accept_14 ?_
    refine q_aload_n (pc := 17) F 0 dX3_accept_17 rfl ?_
    refine q_get (pc := 18) F fgX3_30 0 rfl rfl dX3_accept_18 ?_
    refine q_cR (q_runS (As := [.int t_item]) (rest := [.int t_numbersTold]) (pc := 21) F (fun l sz => ct_X3_numbersOf D cI cZ t_item h l sz) mc_yX3_numbersOf sm_yX3_numbersOf mlX3_59 ⟨by decide, by decide⟩ ⟨by decide, by decide⟩ ⟨rfl, rfl⟩ [] rfl rfl rfl rfl (Nat.le_of_ble_eq_true rfl) dX3_accept_21) (fun r21 h => ?_)
    refine q_icmp_ge (pc := 24) (tgt := 33) F dX3_accept_24 (by decide) (fun c24 => ?_) (fun c24 => ?_)
    · have h := h.1 c24
      refine q_aload_n (pc := 33) F 0 dX3_accept_33 rfl ?_
      refine q_get (pc := 34) F fgX3_43 0 rfl rfl dX3_accept_34 ?_
      refine q_iconst (pc := 37) F (v := 1) dX3_accept_37 (by decide) ?_
      refine q_icmp_eq (pc := 38) (tgt := 43) F dX3_accept_38 (by decide) (fun c38 => ?_) (fun c38 => ?_)
      · have h := h.1 c38
        refine q_aload_n (pc := 43) F 0 dX3_accept_43 rfl ?_
        refine q_aload_n (pc := 44) F 1 dX3_accept_44 rfl ?_
        refine q_cMv (wr := []) (pc := 45) F M (q_runV (As := [.ref a_H]) (rest := []) (pc := 45) F (fun l sz => ct_X3_endItem D cI cZ a_T a_T_bytes a_T_numbers a_H a_H_lampCell a_H_lampReach a_H_shine a_H_personCell a_H_wish a_H_side a_H_light a_H_leavers t_length t_next t_start t_kind t_value t_item t_numbersTold t_items t_lawTold t_numbers h_wide h_high h_walls h_doors h_law h_lamps h_people h_lampCell h_lampReach h_personCell h_wish h_side h l sz) mc_yX3_endItem im_yX3_endItem se_yX3_endItem mlX3_66 ⟨by decide, by decide⟩ ⟨by decide, by decide⟩ ⟨rfl, rfl⟩ [0, 1, 2, 3, 4, 5, 6, 7] rfl rfl rfl 0 rfl rfl rfl (Nat.le_of_ble_eq_true rfl) dX3_accept_45) [0, 1, 2, 3, 4, 5, 6, 7] [] rfl rfl rfl (by decide) (fun u45 h => ?_)
        obtain ⟨t_item_45, t_items_45, t_lawTold_45, h_wide_45, h_high_45, h_walls_45, h_doors_45, h_law_45, h_lamps_45, h_people_45, h_lampCell_45, h_lampReach_45, h_personCell_45, h_wish_45, h_side_45⟩ := u45
        refine q_cs (cs' := [(a_T, .inr (3, [.ref a_T_bytes, .int t_length, .int t_next, .int t_start, .int t_kind, .int t_value, .int t_item_45, .int t_numbersTold, .int t_items_45, .ref a_T_numbers, .int t_lawTold_45])), (a_T_numbers, .inl (cI, 4, .inl t_numbers)), (a_H, .inr (0, [.int h_wide_45, .int h_high_45, .int h_walls_45, .int h_doors_45, .int h_law_45, .int h_lamps_45, .int h_people_45, .ref a_H_lampCell, .ref a_H_lampReach, .ref a_H_shine, .ref a_H_personCell, .ref a_H_wish, .ref a_H_side, .ref a_H_light, .ref a_H_leavers])), (a_H_lampCell, .inl (cI, 6, .inl h_lampCell_45)), (a_H_lampReach, .inl (cI, 6, .inl h_lampReach_45)), (a_H_personCell, .inl (cI, 6, .inl h_personCell_45)), (a_H_wish, .inl (cI, 6, .inl h_wish_45)), (a_H_side, .inl (cI, 6, .inl h_side_45))]) [0, 1, 2, 3, 4, 5, 6, 7] rfl rfl ?_
        refine q_iconst (pc := 48) F (v := 1) dX3_accept_48 (by decide) ?_
        exact q_zretM (pc := 49) F Z dX3_accept_49 (Or.inr rfl) (t_item_45, t_numbersTold, t_items_45, t_numbers, t_lawTold_45, h_wide_45, h_high_45, h_walls_45, h_doors_45, h_law_45, h_lamps_45, h_people_45, h_lampCell_45, h_lampReach_45, h_personCell_45, h_wish_45, h_side_45) h rfl
      · have h := h.2 c38
        refine q_iconst (pc := 41) F (v := 0) dX3_accept_41 (by decide) ?_
        exact q_zretM (pc := 42) F Z dX3_accept_42 (Or.inl rfl) (t_item, t_numbersTold, t_items, t_numbers, t_lawTold, h_wide, h_high, h_walls, h_doors, h_law, h_lamps, h_people, h_lampCell, h_lampReach, h_personCell, h_wish, h_side) h rfl
    · have h := h.2 c24
      refine q_aload_n (pc := 27) F 0 dX3_accept_27 rfl ?_
      refine q_aload_n (pc := 28) F 1 dX3_accept_28 rfl ?_
      refine q_cMi (wr := [(a_H_lampCell, .inl (cI, 6, .inl h_lampCell)), (a_H_lampReach, .inl (cI, 6, .inl h_lampReach)), (a_H_personCell, .inl (cI, 6, .inl h_personCell)), (a_H_wish, .inl (cI, 6, .inl h_wish)), (a_H_side, .inl (cI, 6, .inl h_side))]) (pc := 29) F M (q_runV (As := [.ref a_H]) (rest := []) (pc := 29) F (fun l sz => ct_X3_acceptNumber D cI cZ a_T a_T_bytes a_T_numbers a_H a_H_lampCell a_H_lampReach a_H_shine a_H_personCell a_H_wish a_H_side a_H_light a_H_leavers t_length t_next t_start t_kind t_value t_item t_numbersTold t_items t_lawTold t_numbers h_wide h_high h_walls h_doors h_law h_lamps h_people h l sz) mc_yX3_acceptNumber im_yX3_acceptNumber se_yX3_acceptNumber mlX3_63 ⟨by decide, by decide⟩ ⟨by decide, by decide⟩ ⟨rfl, rfl⟩ [0, 1, 2] rfl rfl rfl 0 rfl rfl rfl (Nat.le_of_ble_eq_true rfl) dX3_accept_29) [0, 1, 2] [3, 4, 5, 6, 7] rfl rfl rfl (by decide) (fun r29 u29 h => ?_)
      obtain ⟨hb29, h⟩ := h
      obtain ⟨t_numbersTold_29, t_numbers_29⟩ := u29
      refine q_cs (cs' := [(a_T, .inr (3, [.ref a_T_bytes, .int t_length, .int t_next, .int t_start, .int t_kind, .int t_value, .int t_item, .int t_numbersTold_29, .int t_items, .ref a_T_numbers, .int t_lawTold])), (a_T_numbers, .inl (cI, 4, .inl t_numbers_29)), (a_H, .inr (0, [.int h_wide, .int h_high, .int h_walls, .int h_doors, .int h_law, .int h_lamps, .int h_people, .ref a_H_lampCell, .ref a_H_lampReach, .ref a_H_shine, .ref a_H_personCell, .ref a_H_wish, .ref a_H_side, .ref a_H_light, .ref a_H_leavers])), (a_H_lampCell, .inl (cI, 6, .inl h_lampCell)), (a_H_lampReach, .inl (cI, 6, .inl h_lampReach)), (a_H_personCell, .inl (cI, 6, .inl h_personCell)), (a_H_wish, .inl (cI, 6, .inl h_wish)), (a_H_side, .inl (cI, 6, .inl h_side))]) [5, 6, 7, 0, 1, 2, 3, 4] rfl rfl ?_
      exact q_zretM (pc := 32) F Z dX3_accept_32 hb29 (t_item, t_numbersTold_29, t_items, t_numbers_29, t_lawTold, h_wide, h_high, h_walls, h_doors, h_law, h_lamps, h_people, h_lampCell, h_lampReach, h_personCell, h_wish, h_side) h rfl
  · have h := h.1 c4
    refine q_aload_n (pc := 7) F 0 dX3_accept_7 rfl ?_
    refine q_aload_n (pc := 8) F 1 dX3_accept_8 rfl ?_
    refine q_cMi (wr := [(a_T_numbers, .inl (cI, 4, .inl t_numbers)), (a_H_lampCell, .inl (cI, 6, .inl h_lampCell)), (a_H_lampReach, .inl (cI, 6, .inl h_lampReach)), (a_H_personCell, .inl (cI, 6, .inl h_personCell)), (a_H_wish, .inl (cI, 6, .inl h_wish)), (a_H_side, .inl (cI, 6, .inl h_side))]) (pc := 9) F M (q_runV (As := [.ref a_H]) (rest := []) (pc := 9) F (fun l sz => ct_X3_beginItem D cI cZ a_T a_T_bytes a_T_numbers a_H a_H_lampCell a_H_lampReach a_H_shine a_H_personCell a_H_wish a_H_side a_H_light a_H_leavers t_length t_next t_start t_kind t_value t_item t_numbersTold t_items t_lawTold h_wide h_high h_walls h_doors h_law h_lamps h_people h l sz) mc_yX3_beginItem im_yX3_beginItem se_yX3_beginItem mlX3_53 ⟨by decide, by decide⟩ ⟨by decide, by decide⟩ ⟨rfl, rfl⟩ [0, 2] rfl rfl rfl 0 rfl rfl rfl (Nat.le_of_ble_eq_true rfl) dX3_accept_9) [0, 2] [1, 3, 4, 5, 6, 7] rfl rfl rfl (by decide) (fun r9 u9 h => ?_)
    obtain ⟨hb9, h⟩ := h
    obtain ⟨t_item_9, t_numbersTold_9⟩ := u9
    refine q_cs (cs' := [(a_T, .inr (3, [.ref a_T_bytes, .int t_length, .int t_next, .int t_start, .int t_kind, .int t_value, .int t_item_9, .int t_numbersTold_9, .int t_items, .ref a_T_numbers, .int t_lawTold])), (a_T_numbers, .inl (cI, 4, .inl t_numbers)), (a_H, .inr (0, [.int h_wide, .int h_high, .int h_walls, .int h_doors, .int h_law, .int h_lamps, .int h_people, .ref a_H_lampCell, .ref a_H_lampReach, .ref a_H_shine, .ref a_H_personCell, .ref a_H_wish, .ref a_H_side, .ref a_H_light, .ref a_H_leavers])), (a_H_lampCell, .inl (cI, 6, .inl h_lampCell)), (a_H_lampReach, .inl (cI, 6, .inl h_lampReach)), (a_H_personCell, .inl (cI, 6, .inl h_personCell)), (a_H_wish, .inl (cI, 6, .inl h_wish)), (a_H_side, .inl (cI, 6, .inl h_side))]) [6, 0, 7, 1, 2, 3, 4, 5] rfl rfl ?_
    exact q_zretM (pc := 12) F Z dX3_accept_12 hb9 (t_item_9, t_numbersTold_9, t_items, t_numbers, t_lawTold, h_wide, h_high, h_walls, h_doors, h_law, h_lamps, h_people, h_lampCell, h_lampReach, h_personCell, h_wish, h_side) h rfl

def wp_X3_readInto_L26 (t_bytes : Nat → Int32) (t_length : Int32) (post : Int32 → Int32 → Int32 → Int32 → Int32 → Int32 → Int32 → Int32 → (Nat → Int32) → Int32 → Int32 → Int32 → Int32 → Int32 → Int32 → Int32 → Int32 → (Nat → Int32) → (Nat → Int32) → (Nat → Int32) → (Nat → Int32) → (Nat → Int32) → Prop) (K79 : Int32 → Int32 → Int32 → Int32 → Int32 → Int32 → Int32 → (Nat → Int32) → Int32 → Int32 → Int32 → Int32 → Int32 → Int32 → Int32 → Int32 → (Nat → Int32) → (Nat → Int32) → (Nat → Int32) → (Nat → Int32) → (Nat → Int32) → Prop) : Nat → Int32 → Int32 → Int32 → Int32 → Int32 → Int32 → Int32 → Int32 → (Nat → Int32) → Int32 → Int32 → Int32 → Int32 → Int32 → Int32 → Int32 → Int32 → (Nat → Int32) → (Nat → Int32) → (Nat → Int32) → (Nat → Int32) → (Nat → Int32) → Prop
  | 0, _, _, _, _, _, _, _, _, _, _, _, _, _, _, _, _, _, _, _, _, _, _ => False
  | n + 1, x2, t_next, t_start, t_kind, t_value, t_item, t_numbersTold, t_items, t_numbers, t_lawTold, h_wide, h_high, h_walls, h_doors, h_law, h_lamps, h_people, h_lampCell, h_lampReach, h_personCell, h_wish, h_side => ((t_length < x2 → K79 t_next t_start t_kind t_value t_item t_numbersTold t_items t_numbers t_lawTold h_wide h_high h_walls h_doors h_law h_lamps h_people h_lampCell h_lampReach h_personCell h_wish h_side) ∧ (¬ t_length < x2 → (wp_X3_readToken t_bytes t_length t_next t_start t_kind t_value (fun (t_next_35 : Int32) (t_start_35 : Int32) (t_kind_35 : Int32) (t_value_35 : Int32) => (jn (fun (K57 : Prop) => ((t_kind_35 = (0 : Int32) → ((t_item = (0 : Int32) → post t_items t_next_35 t_start_35 t_kind_35 t_value_35 t_item t_numbersTold t_items t_numbers t_lawTold h_wide h_high h_walls h_doors h_law h_lamps h_people h_lampCell h_lampReach h_personCell h_wish h_side) ∧ (¬ t_item = (0 : Int32) → K57))) ∧ (¬ t_kind_35 = (0 : Int32) → K57))) ((wp_X3_accept t_kind_35 t_value_35 t_item t_numbersTold t_items t_numbers t_lawTold h_wide h_high h_walls h_doors h_law h_lamps h_people h_lampCell h_lampReach h_personCell h_wish h_side (fun (r59 : Int32) (t_item_59 : Int32) (t_numbersTold_59 : Int32) (t_items_59 : Int32) (t_numbers_59 : Nat → Int32) (t_lawTold_59 : Int32) (h_wide_59 : Int32) (h_high_59 : Int32) (h_walls_59 : Int32) (h_doors_59 : Int32) (h_law_59 : Int32) (h_lamps_59 : Int32) (h_people_59 : Int32) (h_lampCell_59 : Nat → Int32) (h_lampReach_59 : Nat → Int32) (h_personCell_59 : Nat → Int32) (h_wish_59 : Nat → Int32) (h_side_59 : Nat → Int32) => ((r59 = (0 : Int32) → post ((-10 : Int32) - t_start_35) t_next_35 t_start_35 t_kind_35 t_value_35 t_item_59 t_numbersTold_59 t_items_59 t_numbers_59 t_lawTold_59 h_wide_59 h_high_59 h_walls_59 h_doors_59 h_law_59 h_lamps_59 h_people_59 h_lampCell_59 h_lampReach_59 h_personCell_59 h_wish_59 h_side_59) ∧ (¬ r59 = (0 : Int32) → wp_X3_readInto_L26 t_bytes t_length post K79 n (x2 + (1 : Int32)) t_next_35 t_start_35 t_kind_35 t_value_35 t_item_59 t_numbersTold_59 t_items_59 t_numbers_59 t_lawTold_59 h_wide_59 h_high_59 h_walls_59 h_doors_59 h_law_59 h_lamps_59 h_people_59 h_lampCell_59 h_lampReach_59 h_personCell_59 h_wish_59 h_side_59))))))))))
def wp_X3_readInto (t_bytes : Nat → Int32) (t_length : Int32) (t_next : Int32) (t_start : Int32) (t_kind : Int32) (t_value : Int32) (t_item : Int32) (t_numbersTold : Int32) (t_items : Int32) (t_numbers : Nat → Int32) (t_lawTold : Int32) (h_wide : Int32) (h_high : Int32) (h_walls : Int32) (h_doors : Int32) (h_law : Int32) (h_lamps : Int32) (h_people : Int32) (h_lampCell : Nat → Int32) (h_lampReach : Nat → Int32) (h_personCell : Nat → Int32) (h_wish : Nat → Int32) (h_side : Nat → Int32) (post : Int32 → Int32 → Int32 → Int32 → Int32 → Int32 → Int32 → Int32 → (Nat → Int32) → Int32 → Int32 → Int32 → Int32 → Int32 → Int32 → Int32 → Int32 → (Nat → Int32) → (Nat → Int32) → (Nat → Int32) → (Nat → Int32) → (Nat → Int32) → Prop) : Prop := (wp_X0_empty h_wide h_high h_walls h_doors h_law h_lamps h_people (fun (h_wide_1 : Int32) (h_high_1 : Int32) (h_walls_1 : Int32) (h_doors_1 : Int32) (h_law_1 : Int32) (h_lamps_1 : Int32) (h_people_1 : Int32) => (jn (fun (K79 : Int32 → Int32 → Int32 → Int32 → Int32 → Int32 → Int32 → (Nat → Int32) → Int32 → Int32 → Int32 → Int32 → Int32 → Int32 → Int32 → Int32 → (Nat → Int32) → (Nat → Int32) → (Nat → Int32) → (Nat → Int32) → (Nat → Int32) → Prop) => (∃ n26 : Nat, wp_X3_readInto_L26 t_bytes t_length post K79 n26 (0 : Int32) (0 : Int32) t_start t_kind t_value (0 : Int32) t_numbersTold (0 : Int32) t_numbers (0 : Int32) h_wide_1 h_high_1 h_walls_1 h_doors_1 h_law_1 h_lamps_1 h_people_1 h_lampCell h_lampReach h_personCell h_wish h_side)) (fun (t_next_79 : Int32) (t_start_79 : Int32) (t_kind_79 : Int32) (t_value_79 : Int32) (t_item_79 : Int32) (t_numbersTold_79 : Int32) (t_items_79 : Int32) (t_numbers_79 : Nat → Int32) (t_lawTold_79 : Int32) (h_wide_79 : Int32) (h_high_79 : Int32) (h_walls_79 : Int32) (h_doors_79 : Int32) (h_law_79 : Int32) (h_lamps_79 : Int32) (h_people_79 : Int32) (h_lampCell_79 : Nat → Int32) (h_lampReach_79 : Nat → Int32) (h_personCell_79 : Nat → Int32) (h_wish_79 : Nat → Int32) (h_side_79 : Nat → Int32) => post ((-10 : Int32) - t_length) t_next_79 t_start_79 t_kind_79 t_value_79 t_item_79 t_numbersTold_79 t_items_79 t_numbers_79 t_lawTold_79 h_wide_79 h_high_79 h_walls_79 h_doors_79 h_law_79 h_lamps_79 h_people_79 h_lampCell_79 h_lampReach_79 h_personCell_79 h_wish_79 h_side_79))))
abbrev rm_X3_readInto : Room := { frames := 7, cells := 0, slots := 0, locals := 147 }
set_option maxRecDepth 100000 in
set_option maxHeartbeats 4000000 in
theorem ct_X3_readInto (D : va_G) (cI cZ : ClassId) (adK adV : Nat → Nat) (a_T a_T_bytes a_T_numbers a_H a_H_lampCell a_H_lampReach a_H_shine a_H_personCell a_H_wish a_H_side a_H_light a_H_leavers : Nat) (t_length : Int32) (t_next : Int32) (t_start : Int32) (t_kind : Int32) (t_value : Int32) (t_item : Int32) (t_numbersTold : Int32) (t_items : Int32) (t_lawTold : Int32) (t_bytes : Nat → Int32) (t_numbers : Nat → Int32) (h_wide : Int32) (h_high : Int32) (h_walls : Int32) (h_doors : Int32) (h_law : Int32) (h_lamps : Int32) (h_people : Int32) (h_lampCell : Nat → Int32) (h_lampReach : Nat → Int32) (h_personCell : Nat → Int32) (h_wish : Nat → Int32) (h_side : Nat → Int32) {post : Int32 → Int32 → Int32 → Int32 → Int32 → Int32 → Int32 → Int32 → (Nat → Int32) → Int32 → Int32 → Int32 → Int32 → Int32 → Int32 → Int32 → Int32 → (Nat → Int32) → (Nat → Int32) → (Nat → Int32) → (Nat → Int32) → (Nat → Int32) → Prop} (h : wp_X3_readInto t_bytes t_length t_next t_start t_kind t_value t_item t_numbersTold t_items t_numbers t_lawTold h_wide h_high h_walls h_doors h_law h_lamps h_people h_lampCell h_lampReach h_personCell h_wish h_side post) (l : Launch) (sz : Nat) : Met l yX3_readInto (wsM yX3_readInto cX3_readInto 3 (some .int)) rm_X3_readInto (va_Pc [.ref a_T, .ref a_H] (gPX D cI cZ [(a_T, .inr (3, [.ref a_T_bytes, .int t_length, .int t_next, .int t_start, .int t_kind, .int t_value, .int t_item, .int t_numbersTold, .int t_items, .ref a_T_numbers, .int t_lawTold])), (a_T_bytes, .inl (cI, 300, .inl t_bytes)), (a_T_numbers, .inl (cI, 4, .inl t_numbers)), (a_H, .inr (0, [.int h_wide, .int h_high, .int h_walls, .int h_doors, .int h_law, .int h_lamps, .int h_people, .ref a_H_lampCell, .ref a_H_lampReach, .ref a_H_shine, .ref a_H_personCell, .ref a_H_wish, .ref a_H_side, .ref a_H_light, .ref a_H_leavers])), (a_H_lampCell, .inl (cI, 6, .inl h_lampCell)), (a_H_lampReach, .inl (cI, 6, .inl h_lampReach)), (a_H_personCell, .inl (cI, 6, .inl h_personCell)), (a_H_wish, .inl (cI, 6, .inl h_wish)), (a_H_side, .inl (cI, 6, .inl h_side))] (STR adK adV) sz)) (gQi D (fun r (u : Int32 × Int32 × Int32 × Int32 × Int32 × Int32 × Int32 × (Nat → Int32) × Int32 × Int32 × Int32 × Int32 × Int32 × Int32 × Int32 × Int32 × (Nat → Int32) × (Nat → Int32) × (Nat → Int32) × (Nat → Int32) × (Nat → Int32)) => post r u.1 u.2.1 u.2.2.1 u.2.2.2.1 u.2.2.2.2.1 u.2.2.2.2.2.1 u.2.2.2.2.2.2.1 u.2.2.2.2.2.2.2.1 u.2.2.2.2.2.2.2.2.1 u.2.2.2.2.2.2.2.2.2.1 u.2.2.2.2.2.2.2.2.2.2.1 u.2.2.2.2.2.2.2.2.2.2.2.1 u.2.2.2.2.2.2.2.2.2.2.2.2.1 u.2.2.2.2.2.2.2.2.2.2.2.2.2.1 u.2.2.2.2.2.2.2.2.2.2.2.2.2.2.1 u.2.2.2.2.2.2.2.2.2.2.2.2.2.2.2.1 u.2.2.2.2.2.2.2.2.2.2.2.2.2.2.2.2.1 u.2.2.2.2.2.2.2.2.2.2.2.2.2.2.2.2.2.1 u.2.2.2.2.2.2.2.2.2.2.2.2.2.2.2.2.2.2.1 u.2.2.2.2.2.2.2.2.2.2.2.2.2.2.2.2.2.2.2.1 u.2.2.2.2.2.2.2.2.2.2.2.2.2.2.2.2.2.2.2.2) (fun (u : Int32 × Int32 × Int32 × Int32 × Int32 × Int32 × Int32 × (Nat → Int32) × Int32 × Int32 × Int32 × Int32 × Int32 × Int32 × Int32 × Int32 × (Nat → Int32) × (Nat → Int32) × (Nat → Int32) × (Nat → Int32) × (Nat → Int32)) => [(a_T, .inr (3, [.ref a_T_bytes, .int t_length, .int u.1, .int u.2.1, .int u.2.2.1, .int u.2.2.2.1, .int u.2.2.2.2.1, .int u.2.2.2.2.2.1, .int u.2.2.2.2.2.2.1, .ref a_T_numbers, .int u.2.2.2.2.2.2.2.2.1])), (a_T_bytes, .inl (cI, 300, .inl t_bytes)), (a_T_numbers, .inl (cI, 4, .inl u.2.2.2.2.2.2.2.1)), (a_H, .inr (0, [.int u.2.2.2.2.2.2.2.2.2.1, .int u.2.2.2.2.2.2.2.2.2.2.1, .int u.2.2.2.2.2.2.2.2.2.2.2.1, .int u.2.2.2.2.2.2.2.2.2.2.2.2.1, .int u.2.2.2.2.2.2.2.2.2.2.2.2.2.1, .int u.2.2.2.2.2.2.2.2.2.2.2.2.2.2.1, .int u.2.2.2.2.2.2.2.2.2.2.2.2.2.2.2.1, .ref a_H_lampCell, .ref a_H_lampReach, .ref a_H_shine, .ref a_H_personCell, .ref a_H_wish, .ref a_H_side, .ref a_H_light, .ref a_H_leavers])), (a_H_lampCell, .inl (cI, 6, .inl u.2.2.2.2.2.2.2.2.2.2.2.2.2.2.2.2.1)), (a_H_lampReach, .inl (cI, 6, .inl u.2.2.2.2.2.2.2.2.2.2.2.2.2.2.2.2.2.1)), (a_H_personCell, .inl (cI, 6, .inl u.2.2.2.2.2.2.2.2.2.2.2.2.2.2.2.2.2.2.1)), (a_H_wish, .inl (cI, 6, .inl u.2.2.2.2.2.2.2.2.2.2.2.2.2.2.2.2.2.2.2.1)), (a_H_side, .inl (cI, 6, .inl u.2.2.2.2.2.2.2.2.2.2.2.2.2.2.2.2.2.2.2.2))]) [(a_T, .inr (3, [.ref a_T_bytes, .int t_length, .int t_next, .int t_start, .int t_kind, .int t_value, .int t_item, .int t_numbersTold, .int t_items, .ref a_T_numbers, .int t_lawTold])), (a_T_bytes, .inl (cI, 300, .inl t_bytes)), (a_T_numbers, .inl (cI, 4, .inl t_numbers)), (a_H, .inr (0, [.int h_wide, .int h_high, .int h_walls, .int h_doors, .int h_law, .int h_lamps, .int h_people, .ref a_H_lampCell, .ref a_H_lampReach, .ref a_H_shine, .ref a_H_personCell, .ref a_H_wish, .ref a_H_side, .ref a_H_light, .ref a_H_leavers])), (a_H_lampCell, .inl (cI, 6, .inl h_lampCell)), (a_H_lampReach, .inl (cI, 6, .inl h_lampReach)), (a_H_personCell, .inl (cI, 6, .inl h_personCell)), (a_H_wish, .inl (cI, 6, .inl h_wish)), (a_H_side, .inl (cI, 6, .inl h_side))] sz) 0 0 (va_A [(a_T, .inr (3, [.ref a_T_bytes, .int t_length, .int t_next, .int t_start, .int t_kind, .int t_value, .int t_item, .int t_numbersTold, .int t_items, .ref a_T_numbers, .int t_lawTold])), (a_T_bytes, .inl (cI, 300, .inl t_bytes)), (a_T_numbers, .inl (cI, 4, .inl t_numbers)), (a_H, .inr (0, [.int h_wide, .int h_high, .int h_walls, .int h_doors, .int h_law, .int h_lamps, .int h_people, .ref a_H_lampCell, .ref a_H_lampReach, .ref a_H_shine, .ref a_H_personCell, .ref a_H_wish, .ref a_H_side, .ref a_H_light, .ref a_H_leavers])), (a_H_lampCell, .inl (cI, 6, .inl h_lampCell)), (a_H_lampReach, .inl (cI, 6, .inl h_lampReach)), (a_H_personCell, .inl (cI, 6, .inl h_personCell)), (a_H_wish, .inl (cI, 6, .inl h_wish)), (a_H_side, .inl (cI, 6, .inl h_side))] sz) := by
  refine q_startMX (own := RX3) (Qc := gQi D (fun r (u : Int32 × Int32 × Int32 × Int32 × Int32 × Int32 × Int32 × (Nat → Int32) × Int32 × Int32 × Int32 × Int32 × Int32 × Int32 × Int32 × Int32 × (Nat → Int32) × (Nat → Int32) × (Nat → Int32) × (Nat → Int32) × (Nat → Int32)) => post r u.1 u.2.1 u.2.2.1 u.2.2.2.1 u.2.2.2.2.1 u.2.2.2.2.2.1 u.2.2.2.2.2.2.1 u.2.2.2.2.2.2.2.1 u.2.2.2.2.2.2.2.2.1 u.2.2.2.2.2.2.2.2.2.1 u.2.2.2.2.2.2.2.2.2.2.1 u.2.2.2.2.2.2.2.2.2.2.2.1 u.2.2.2.2.2.2.2.2.2.2.2.2.1 u.2.2.2.2.2.2.2.2.2.2.2.2.2.1 u.2.2.2.2.2.2.2.2.2.2.2.2.2.2.1 u.2.2.2.2.2.2.2.2.2.2.2.2.2.2.2.1 u.2.2.2.2.2.2.2.2.2.2.2.2.2.2.2.2.1 u.2.2.2.2.2.2.2.2.2.2.2.2.2.2.2.2.2.1 u.2.2.2.2.2.2.2.2.2.2.2.2.2.2.2.2.2.2.1 u.2.2.2.2.2.2.2.2.2.2.2.2.2.2.2.2.2.2.2.1 u.2.2.2.2.2.2.2.2.2.2.2.2.2.2.2.2.2.2.2.2) (fun (u : Int32 × Int32 × Int32 × Int32 × Int32 × Int32 × Int32 × (Nat → Int32) × Int32 × Int32 × Int32 × Int32 × Int32 × Int32 × Int32 × Int32 × (Nat → Int32) × (Nat → Int32) × (Nat → Int32) × (Nat → Int32) × (Nat → Int32)) => [(a_T, .inr (3, [.ref a_T_bytes, .int t_length, .int u.1, .int u.2.1, .int u.2.2.1, .int u.2.2.2.1, .int u.2.2.2.2.1, .int u.2.2.2.2.2.1, .int u.2.2.2.2.2.2.1, .ref a_T_numbers, .int u.2.2.2.2.2.2.2.2.1])), (a_T_bytes, .inl (cI, 300, .inl t_bytes)), (a_T_numbers, .inl (cI, 4, .inl u.2.2.2.2.2.2.2.1)), (a_H, .inr (0, [.int u.2.2.2.2.2.2.2.2.2.1, .int u.2.2.2.2.2.2.2.2.2.2.1, .int u.2.2.2.2.2.2.2.2.2.2.2.1, .int u.2.2.2.2.2.2.2.2.2.2.2.2.1, .int u.2.2.2.2.2.2.2.2.2.2.2.2.2.1, .int u.2.2.2.2.2.2.2.2.2.2.2.2.2.2.1, .int u.2.2.2.2.2.2.2.2.2.2.2.2.2.2.2.1, .ref a_H_lampCell, .ref a_H_lampReach, .ref a_H_shine, .ref a_H_personCell, .ref a_H_wish, .ref a_H_side, .ref a_H_light, .ref a_H_leavers])), (a_H_lampCell, .inl (cI, 6, .inl u.2.2.2.2.2.2.2.2.2.2.2.2.2.2.2.2.1)), (a_H_lampReach, .inl (cI, 6, .inl u.2.2.2.2.2.2.2.2.2.2.2.2.2.2.2.2.2.1)), (a_H_personCell, .inl (cI, 6, .inl u.2.2.2.2.2.2.2.2.2.2.2.2.2.2.2.2.2.2.1)), (a_H_wish, .inl (cI, 6, .inl u.2.2.2.2.2.2.2.2.2.2.2.2.2.2.2.2.2.2.2.1)), (a_H_side, .inl (cI, 6, .inl u.2.2.2.2.2.2.2.2.2.2.2.2.2.2.2.2.2.2.2.2))]) [(a_T, .inr (3, [.ref a_T_bytes, .int t_length, .int t_next, .int t_start, .int t_kind, .int t_value, .int t_item, .int t_numbersTold, .int t_items, .ref a_T_numbers, .int t_lawTold])), (a_T_bytes, .inl (cI, 300, .inl t_bytes)), (a_T_numbers, .inl (cI, 4, .inl t_numbers)), (a_H, .inr (0, [.int h_wide, .int h_high, .int h_walls, .int h_doors, .int h_law, .int h_lamps, .int h_people, .ref a_H_lampCell, .ref a_H_lampReach, .ref a_H_shine, .ref a_H_personCell, .ref a_H_wish, .ref a_H_side, .ref a_H_light, .ref a_H_leavers])), (a_H_lampCell, .inl (cI, 6, .inl h_lampCell)), (a_H_lampReach, .inl (cI, 6, .inl h_lampReach)), (a_H_personCell, .inl (cI, 6, .inl h_personCell)), (a_H_wish, .inl (cI, 6, .inl h_wish)), (a_H_side, .inl (cI, 6, .inl h_side))]) (by decide +kernel) rfl (Nat.le_of_ble_eq_true rfl) (fun E F Z M X => ?_)
  show Wg E [(a_T, .inr (3, [.ref a_T_bytes, .int t_length, .int t_next, .int t_start, .int t_kind, .int t_value, .int t_item, .int t_numbersTold, .int t_items, .ref a_T_numbers, .int t_lawTold])), (a_T_bytes, .inl (cI, 300, .inl t_bytes)), (a_T_numbers, .inl (cI, 4, .inl t_numbers)), (a_H, .inr (0, [.int h_wide, .int h_high, .int h_walls, .int h_doors, .int h_law, .int h_lamps, .int h_people, .ref a_H_lampCell, .ref a_H_lampReach, .ref a_H_shine, .ref a_H_personCell, .ref a_H_wish, .ref a_H_side, .ref a_H_light, .ref a_H_leavers])), (a_H_lampCell, .inl (cI, 6, .inl h_lampCell)), (a_H_lampReach, .inl (cI, 6, .inl h_lampReach)), (a_H_personCell, .inl (cI, 6, .inl h_personCell)), (a_H_wish, .inl (cI, 6, .inl h_wish)), (a_H_side, .inl (cI, 6, .inl h_side))] 0 0 0 [(0, .ref a_T), (1, .ref a_H)] []
  unfold wp_X3_readInto at h
  refine q_aload_n (pc := 0) F 1 dX3_readInto_0 rfl ?_
  refine q_cMv (wr := [(a_T, .inr (3, [.ref a_T_bytes, .int t_length, .int t_next, .int t_start, .int t_kind, .int t_value, .int t_item, .int t_numbersTold, .int t_items, .ref a_T_numbers, .int t_lawTold])), (a_T_bytes, .inl (cI, 300, .inl t_bytes)), (a_T_numbers, .inl (cI, 4, .inl t_numbers)), (a_H_lampCell, .inl (cI, 6, .inl h_lampCell)), (a_H_lampReach, .inl (cI, 6, .inl h_lampReach)), (a_H_personCell, .inl (cI, 6, .inl h_personCell)), (a_H_wish, .inl (cI, 6, .inl h_wish)), (a_H_side, .inl (cI, 6, .inl h_side))]) (pc := 1) F M (q_runV (As := []) (rest := []) (pc := 1) F (fun l sz => ct_X0_empty D cI cZ a_H a_H_lampCell a_H_lampReach a_H_shine a_H_personCell a_H_wish a_H_side a_H_light a_H_leavers h_wide h_high h_walls h_doors h_law h_lamps h_people h l sz) mc_yX0_empty im_yX0_empty se_yX0_empty mlX3_22 ⟨by decide, by decide⟩ ⟨by decide, by decide⟩ ⟨rfl, rfl⟩ [3] rfl rfl rfl 3 rfl rfl rfl (Nat.le_of_ble_eq_true rfl) dX3_readInto_1) [3] [0, 1, 2, 4, 5, 6, 7, 8] rfl rfl rfl (by decide) (fun u1 h => ?_)
  obtain ⟨h_wide_1, h_high_1, h_walls_1, h_doors_1, h_law_1, h_lamps_1, h_people_1⟩ := u1
  refine q_cs (cs' := [(a_T, .inr (3, [.ref a_T_bytes, .int t_length, .int t_next, .int t_start, .int t_kind, .int t_value, .int t_item, .int t_numbersTold, .int t_items, .ref a_T_numbers, .int t_lawTold])), (a_T_bytes, .inl (cI, 300, .inl t_bytes)), (a_T_numbers, .inl (cI, 4, .inl t_numbers)), (a_H, .inr (0, [.int h_wide_1, .int h_high_1, .int h_walls_1, .int h_doors_1, .int h_law_1, .int h_lamps_1, .int h_people_1, .ref a_H_lampCell, .ref a_H_lampReach, .ref a_H_shine, .ref a_H_personCell, .ref a_H_wish, .ref a_H_side, .ref a_H_light, .ref a_H_leavers])), (a_H_lampCell, .inl (cI, 6, .inl h_lampCell)), (a_H_lampReach, .inl (cI, 6, .inl h_lampReach)), (a_H_personCell, .inl (cI, 6, .inl h_personCell)), (a_H_wish, .inl (cI, 6, .inl h_wish)), (a_H_side, .inl (cI, 6, .inl h_side))]) [0, 1, 2, 8, 3, 4, 5, 6, 7] rfl rfl ?_
  refine q_aload_n (pc := 4) F 0 dX3_readInto_4 rfl ?_
  refine q_iconst (pc := 5) F (v := 0) dX3_readInto_5 (by decide) ?_
  refine q_put (pc := 6) F M (cs' := [(a_T, .inr (3, [.ref a_T_bytes, .int t_length, .int (0 : Int32), .int t_start, .int t_kind, .int t_value, .int t_item, .int t_numbersTold, .int t_items, .ref a_T_numbers, .int t_lawTold])), (a_T_bytes, .inl (cI, 300, .inl t_bytes)), (a_T_numbers, .inl (cI, 4, .inl t_numbers)), (a_H, .inr (0, [.int h_wide_1, .int h_high_1, .int h_walls_1, .int h_doors_1, .int h_law_1, .int h_lamps_1, .int h_people_1, .ref a_H_lampCell, .ref a_H_lampReach, .ref a_H_shine, .ref a_H_personCell, .ref a_H_wish, .ref a_H_side, .ref a_H_light, .ref a_H_leavers])), (a_H_lampCell, .inl (cI, 6, .inl h_lampCell)), (a_H_lampReach, .inl (cI, 6, .inl h_lampReach)), (a_H_personCell, .inl (cI, 6, .inl h_personCell)), (a_H_wish, .inl (cI, 6, .inl h_wish)), (a_H_side, .inl (cI, 6, .inl h_side))]) fpX3_27 0 rfl rfl rfl (Nat.le_of_ble_eq_true rfl) rfl dX3_readInto_6 ?_
  refine q_aload_n (pc := 9) F 0 dX3_readInto_9 rfl ?_
  refine q_iconst (pc := 10) F (v := 0) dX3_readInto_10 (by decide) ?_
  refine q_put (pc := 11) F M (cs' := [(a_T, .inr (3, [.ref a_T_bytes, .int t_length, .int (0 : Int32), .int t_start, .int t_kind, .int t_value, .int (0 : Int32), .int t_numbersTold, .int t_items, .ref a_T_numbers, .int t_lawTold])), (a_T_bytes, .inl (cI, 300, .inl t_bytes)), (a_T_numbers, .inl (cI, 4, .inl t_numbers)), (a_H, .inr (0, [.int h_wide_1, .int h_high_1, .int h_walls_1, .int h_doors_1, .int h_law_1, .int h_lamps_1, .int h_people_1, .ref a_H_lampCell, .ref a_H_lampReach, .ref a_H_shine, .ref a_H_personCell, .ref a_H_wish, .ref a_H_side, .ref a_H_light, .ref a_H_leavers])), (a_H_lampCell, .inl (cI, 6, .inl h_lampCell)), (a_H_lampReach, .inl (cI, 6, .inl h_lampReach)), (a_H_personCell, .inl (cI, 6, .inl h_personCell)), (a_H_wish, .inl (cI, 6, .inl h_wish)), (a_H_side, .inl (cI, 6, .inl h_side))]) fpX3_30 0 rfl rfl rfl (Nat.le_of_ble_eq_true rfl) rfl dX3_readInto_11 ?_
  refine q_aload_n (pc := 14) F 0 dX3_readInto_14 rfl ?_
  refine q_iconst (pc := 15) F (v := 0) dX3_readInto_15 (by decide) ?_
  refine q_put (pc := 16) F M (cs' := [(a_T, .inr (3, [.ref a_T_bytes, .int t_length, .int (0 : Int32), .int t_start, .int t_kind, .int t_value, .int (0 : Int32), .int t_numbersTold, .int (0 : Int32), .ref a_T_numbers, .int t_lawTold])), (a_T_bytes, .inl (cI, 300, .inl t_bytes)), (a_T_numbers, .inl (cI, 4, .inl t_numbers)), (a_H, .inr (0, [.int h_wide_1, .int h_high_1, .int h_walls_1, .int h_doors_1, .int h_law_1, .int h_lamps_1, .int h_people_1, .ref a_H_lampCell, .ref a_H_lampReach, .ref a_H_shine, .ref a_H_personCell, .ref a_H_wish, .ref a_H_side, .ref a_H_light, .ref a_H_leavers])), (a_H_lampCell, .inl (cI, 6, .inl h_lampCell)), (a_H_lampReach, .inl (cI, 6, .inl h_lampReach)), (a_H_personCell, .inl (cI, 6, .inl h_personCell)), (a_H_wish, .inl (cI, 6, .inl h_wish)), (a_H_side, .inl (cI, 6, .inl h_side))]) fpX3_33 0 rfl rfl rfl (Nat.le_of_ble_eq_true rfl) rfl dX3_readInto_16 ?_
  refine q_aload_n (pc := 19) F 0 dX3_readInto_19 rfl ?_
  refine q_iconst (pc := 20) F (v := 0) dX3_readInto_20 (by decide) ?_
  refine q_put (pc := 21) F M (cs' := [(a_T, .inr (3, [.ref a_T_bytes, .int t_length, .int (0 : Int32), .int t_start, .int t_kind, .int t_value, .int (0 : Int32), .int t_numbersTold, .int (0 : Int32), .ref a_T_numbers, .int (0 : Int32)])), (a_T_bytes, .inl (cI, 300, .inl t_bytes)), (a_T_numbers, .inl (cI, 4, .inl t_numbers)), (a_H, .inr (0, [.int h_wide_1, .int h_high_1, .int h_walls_1, .int h_doors_1, .int h_law_1, .int h_lamps_1, .int h_people_1, .ref a_H_lampCell, .ref a_H_lampReach, .ref a_H_shine, .ref a_H_personCell, .ref a_H_wish, .ref a_H_side, .ref a_H_light, .ref a_H_leavers])), (a_H_lampCell, .inl (cI, 6, .inl h_lampCell)), (a_H_lampReach, .inl (cI, 6, .inl h_lampReach)), (a_H_personCell, .inl (cI, 6, .inl h_personCell)), (a_H_wish, .inl (cI, 6, .inl h_wish)), (a_H_side, .inl (cI, 6, .inl h_side))]) fpX3_36 0 rfl rfl rfl (Nat.le_of_ble_eq_true rfl) rfl dX3_readInto_21 ?_
  refine q_iconst (pc := 24) F (v := 0) dX3_readInto_24 (by decide) ?_
  refine q_istore_n (pc := 25) F (lv' := [(2, .int (0 : Int32)), (0, .ref a_T), (1, .ref a_H)]) dX3_readInto_25 (by decide) rfl ?_
  refine jnW h (fun K => ∀ (t_next_79 : Int32) (t_start_79 : Int32) (t_kind_79 : Int32) (t_value_79 : Int32) (t_item_79 : Int32) (t_numbersTold_79 : Int32) (t_items_79 : Int32) (t_numbers_79 : Nat → Int32) (t_lawTold_79 : Int32) (h_wide_79 : Int32) (h_high_79 : Int32) (h_walls_79 : Int32) (h_doors_79 : Int32) (h_law_79 : Int32) (h_lamps_79 : Int32) (h_people_79 : Int32) (h_lampCell_79 : Nat → Int32) (h_lampReach_79 : Nat → Int32) (h_personCell_79 : Nat → Int32) (h_wish_79 : Nat → Int32) (h_side_79 : Nat → Int32), K t_next_79 t_start_79 t_kind_79 t_value_79 t_item_79 t_numbersTold_79 t_items_79 t_numbers_79 t_lawTold_79 h_wide_79 h_high_79 h_walls_79 h_doors_79 h_law_79 h_lamps_79 h_people_79 h_lampCell_79 h_lampReach_79 h_personCell_79 h_wish_79 h_side_79 → Wg E [(a_T, .inr (3, [.ref a_T_bytes, .int t_length, .int t_next_79, .int t_start_79, .int t_kind_79, .int t_value_79, .int t_item_79, .int t_numbersTold_79, .int t_items_79, .ref a_T_numbers, .int t_lawTold_79])), (a_T_bytes, .inl (cI, 300, .inl t_bytes)), (a_T_numbers, .inl (cI, 4, .inl t_numbers_79)), (a_H, .inr (0, [.int h_wide_79, .int h_high_79, .int h_walls_79, .int h_doors_79, .int h_law_79, .int h_lamps_79, .int h_people_79, .ref a_H_lampCell, .ref a_H_lampReach, .ref a_H_shine, .ref a_H_personCell, .ref a_H_wish, .ref a_H_side, .ref a_H_light, .ref a_H_leavers])), (a_H_lampCell, .inl (cI, 6, .inl h_lampCell_79)), (a_H_lampReach, .inl (cI, 6, .inl h_lampReach_79)), (a_H_personCell, .inl (cI, 6, .inl h_personCell_79)), (a_H_wish, .inl (cI, 6, .inl h_wish_79)), (a_H_side, .inl (cI, 6, .inl h_side_79))] 0 0 79 [(0, .ref a_T)] []) ?_ ?_
  · intro t_next_79 t_start_79 t_kind_79 t_value_79 t_item_79 t_numbersTold_79 t_items_79 t_numbers_79 t_lawTold_79 h_wide_79 h_high_79 h_walls_79 h_doors_79 h_law_79 h_lamps_79 h_people_79 h_lampCell_79 h_lampReach_79 h_personCell_79 h_wish_79 h_side_79 h
    refine q_bipush (pc := 79) F (v := -10) dX3_readInto_79 (by decide) ?_
    refine q_aload_n (pc := 81) F 0 dX3_readInto_81 rfl ?_
    refine q_get (pc := 82) F fgX3_15 0 rfl rfl dX3_readInto_82 ?_
    refine q_isub (pc := 85) F dX3_readInto_85 ?_
    exact q_iretM (pc := 86) F Z dX3_readInto_86 (t_next_79, t_start_79, t_kind_79, t_value_79, t_item_79, t_numbersTold_79, t_items_79, t_numbers_79, t_lawTold_79, h_wide_79, h_high_79, h_walls_79, h_doors_79, h_law_79, h_lamps_79, h_people_79, h_lampCell_79, h_lampReach_79, h_personCell_79, h_wish_79, h_side_79) h rfl
  · intro K79 J79 h
    obtain ⟨n26, h⟩ := h
    have lp26 : ∀ (n : Nat) (x2_h26 : Int32) (t_next_h26 : Int32) (t_start_h26 : Int32) (t_kind_h26 : Int32) (t_value_h26 : Int32) (t_item_h26 : Int32) (t_numbersTold_h26 : Int32) (t_items_h26 : Int32) (t_numbers_h26 : Nat → Int32) (t_lawTold_h26 : Int32) (h_wide_h26 : Int32) (h_high_h26 : Int32) (h_walls_h26 : Int32) (h_doors_h26 : Int32) (h_law_h26 : Int32) (h_lamps_h26 : Int32) (h_people_h26 : Int32) (h_lampCell_h26 : Nat → Int32) (h_lampReach_h26 : Nat → Int32) (h_personCell_h26 : Nat → Int32) (h_wish_h26 : Nat → Int32) (h_side_h26 : Nat → Int32), wp_X3_readInto_L26 t_bytes t_length post K79 n x2_h26 t_next_h26 t_start_h26 t_kind_h26 t_value_h26 t_item_h26 t_numbersTold_h26 t_items_h26 t_numbers_h26 t_lawTold_h26 h_wide_h26 h_high_h26 h_walls_h26 h_doors_h26 h_law_h26 h_lamps_h26 h_people_h26 h_lampCell_h26 h_lampReach_h26 h_personCell_h26 h_wish_h26 h_side_h26 → Wg E [(a_T, .inr (3, [.ref a_T_bytes, .int t_length, .int t_next_h26, .int t_start_h26, .int t_kind_h26, .int t_value_h26, .int t_item_h26, .int t_numbersTold_h26, .int t_items_h26, .ref a_T_numbers, .int t_lawTold_h26])), (a_T_bytes, .inl (cI, 300, .inl t_bytes)), (a_T_numbers, .inl (cI, 4, .inl t_numbers_h26)), (a_H, .inr (0, [.int h_wide_h26, .int h_high_h26, .int h_walls_h26, .int h_doors_h26, .int h_law_h26, .int h_lamps_h26, .int h_people_h26, .ref a_H_lampCell, .ref a_H_lampReach, .ref a_H_shine, .ref a_H_personCell, .ref a_H_wish, .ref a_H_side, .ref a_H_light, .ref a_H_leavers])), (a_H_lampCell, .inl (cI, 6, .inl h_lampCell_h26)), (a_H_lampReach, .inl (cI, 6, .inl h_lampReach_h26)), (a_H_personCell, .inl (cI, 6, .inl h_personCell_h26)), (a_H_wish, .inl (cI, 6, .inl h_wish_h26)), (a_H_side, .inl (cI, 6, .inl h_side_h26))] 0 0 26 [(0, .ref a_T), (1, .ref a_H), (2, .int x2_h26)] [] := by
      intro n
      induction n with
      | zero => intro x2_h26 t_next_h26 t_start_h26 t_kind_h26 t_value_h26 t_item_h26 t_numbersTold_h26 t_items_h26 t_numbers_h26 t_lawTold_h26 h_wide_h26 h_high_h26 h_walls_h26 h_doors_h26 h_law_h26 h_lamps_h26 h_people_h26 h_lampCell_h26 h_lampReach_h26 h_personCell_h26 h_wish_h26 h_side_h26 h; exact h.elim
      | succ n ih =>
        intro x2_h26 t_next_h26 t_start_h26 t_kind_h26 t_value_h26 t_item_h26 t_numbersTold_h26 t_items_h26 t_numbers_h26 t_lawTold_h26 h_wide_h26 h_high_h26 h_walls_h26 h_doors_h26 h_law_h26 h_lamps_h26 h_people_h26 h_lampCell_h26 h_lampReach_h26 h_personCell_h26 h_wish_h26 h_side_h26 h
        unfold wp_X3_readInto_L26 at h
        refine q_iload_n (pc := 26) F 2 dX3_readInto_26 rfl ?_
        refine q_aload_n (pc := 27) F 0 dX3_readInto_27 rfl ?_
        refine q_get (pc := 28) F fgX3_15 0 rfl rfl dX3_readInto_28 ?_
        refine q_icmp_gt (pc := 31) (tgt := 79) F dX3_readInto_31 (by decide) (fun c31 => ?_) (fun c31 => ?_)
        · have h := h.1 c31
          refine q_lv (lv' := [(0, .ref a_T)]) [0] rfl ?_
          exact J79 t_next_h26 t_start_h26 t_kind_h26 t_value_h26 t_item_h26 t_numbersTold_h26 t_items_h26 t_numbers_h26 t_lawTold_h26 h_wide_h26 h_high_h26 h_walls_h26 h_doors_h26 h_law_h26 h_lamps_h26 h_people_h26 h_lampCell_h26 h_lampReach_h26 h_personCell_h26 h_wish_h26 h_side_h26 h
        · have h := h.2 c31
          refine q_aload_n (pc := 34) F 0 dX3_readInto_34 rfl ?_
          refine q_cMv (wr := [(a_T_numbers, .inl (cI, 4, .inl t_numbers_h26)), (a_H, .inr (0, [.int h_wide_h26, .int h_high_h26, .int h_walls_h26, .int h_doors_h26, .int h_law_h26, .int h_lamps_h26, .int h_people_h26, .ref a_H_lampCell, .ref a_H_lampReach, .ref a_H_shine, .ref a_H_personCell, .ref a_H_wish, .ref a_H_side, .ref a_H_light, .ref a_H_leavers])), (a_H_lampCell, .inl (cI, 6, .inl h_lampCell_h26)), (a_H_lampReach, .inl (cI, 6, .inl h_lampReach_h26)), (a_H_personCell, .inl (cI, 6, .inl h_personCell_h26)), (a_H_wish, .inl (cI, 6, .inl h_wish_h26)), (a_H_side, .inl (cI, 6, .inl h_side_h26))]) (pc := 35) F M (q_runVX (As := []) (rest := []) (pc := 35) F X (STR_stab adK adV) (fun l sz => ct_X3_readToken D cI cZ adK adV a_T a_T_bytes a_T_numbers t_length t_next_h26 t_start_h26 t_kind_h26 t_value_h26 t_item_h26 t_numbersTold_h26 t_items_h26 t_lawTold_h26 t_bytes h l sz) mc_yX3_readToken im_yX3_readToken se_yX3_readToken mlX3_40 ⟨by decide, by decide⟩ ⟨by decide, by decide⟩ ⟨rfl, rfl⟩ [0, 1] rfl rfl rfl 0 rfl rfl rfl (Nat.le_of_ble_eq_true rfl) dX3_readInto_35) [0, 1] [2, 3, 4, 5, 6, 7, 8] rfl rfl rfl (by decide) (fun u35 h => ?_)
          obtain ⟨t_next_35, t_start_35, t_kind_35, t_value_35⟩ := u35
          refine q_cs (cs' := [(a_T, .inr (3, [.ref a_T_bytes, .int t_length, .int t_next_35, .int t_start_35, .int t_kind_35, .int t_value_35, .int t_item_h26, .int t_numbersTold_h26, .int t_items_h26, .ref a_T_numbers, .int t_lawTold_h26])), (a_T_bytes, .inl (cI, 300, .inl t_bytes)), (a_T_numbers, .inl (cI, 4, .inl t_numbers_h26)), (a_H, .inr (0, [.int h_wide_h26, .int h_high_h26, .int h_walls_h26, .int h_doors_h26, .int h_law_h26, .int h_lamps_h26, .int h_people_h26, .ref a_H_lampCell, .ref a_H_lampReach, .ref a_H_shine, .ref a_H_personCell, .ref a_H_wish, .ref a_H_side, .ref a_H_light, .ref a_H_leavers])), (a_H_lampCell, .inl (cI, 6, .inl h_lampCell_h26)), (a_H_lampReach, .inl (cI, 6, .inl h_lampReach_h26)), (a_H_personCell, .inl (cI, 6, .inl h_personCell_h26)), (a_H_wish, .inl (cI, 6, .inl h_wish_h26)), (a_H_side, .inl (cI, 6, .inl h_side_h26))]) [7, 8, 0, 1, 2, 3, 4, 5, 6] rfl rfl ?_
          refine q_aload_n (pc := 38) F 0 dX3_readInto_38 rfl ?_
          refine q_get (pc := 39) F fgX3_43 0 rfl rfl dX3_readInto_39 ?_
          refine jnW h (fun K => K → Wg E [(a_T, .inr (3, [.ref a_T_bytes, .int t_length, .int t_next_35, .int t_start_35, .int t_kind_35, .int t_value_35, .int t_item_h26, .int t_numbersTold_h26, .int t_items_h26, .ref a_T_numbers, .int t_lawTold_h26])), (a_T_bytes, .inl (cI, 300, .inl t_bytes)), (a_T_numbers, .inl (cI, 4, .inl t_numbers_h26)), (a_H, .inr (0, [.int h_wide_h26, .int h_high_h26, .int h_walls_h26, .int h_doors_h26, .int h_law_h26, .int h_lamps_h26, .int h_people_h26, .ref a_H_lampCell, .ref a_H_lampReach, .ref a_H_shine, .ref a_H_personCell, .ref a_H_wish, .ref a_H_side, .ref a_H_light, .ref a_H_leavers])), (a_H_lampCell, .inl (cI, 6, .inl h_lampCell_h26)), (a_H_lampReach, .inl (cI, 6, .inl h_lampReach_h26)), (a_H_personCell, .inl (cI, 6, .inl h_personCell_h26)), (a_H_wish, .inl (cI, 6, .inl h_wish_h26)), (a_H_side, .inl (cI, 6, .inl h_side_h26))] 0 0 57 [(0, .ref a_T), (1, .ref a_H), (2, .int x2_h26)] []) ?_ ?_
          · intro h
            refine q_aload_n (pc := 57) F 0 dX3_readInto_57 rfl ?_
            refine q_aload_n (pc := 58) F 1 dX3_readInto_58 rfl ?_
            refine q_cMi (wr := [(a_T_bytes, .inl (cI, 300, .inl t_bytes))]) (pc := 59) F M (q_runV (As := [.ref a_H]) (rest := []) (pc := 59) F (fun l sz => ct_X3_accept D cI cZ a_T a_T_bytes a_T_numbers a_H a_H_lampCell a_H_lampReach a_H_shine a_H_personCell a_H_wish a_H_side a_H_light a_H_leavers t_length t_next_35 t_start_35 t_kind_35 t_value_35 t_item_h26 t_numbersTold_h26 t_items_h26 t_lawTold_h26 t_numbers_h26 h_wide_h26 h_high_h26 h_walls_h26 h_doors_h26 h_law_h26 h_lamps_h26 h_people_h26 h_lampCell_h26 h_lampReach_h26 h_personCell_h26 h_wish_h26 h_side_h26 h l sz) mc_yX3_accept im_yX3_accept se_yX3_accept mlX3_46 ⟨by decide, by decide⟩ ⟨by decide, by decide⟩ ⟨rfl, rfl⟩ [0, 2, 3, 4, 5, 6, 7, 8] rfl rfl rfl 0 rfl rfl rfl (Nat.le_of_ble_eq_true rfl) dX3_readInto_59) [0, 2, 3, 4, 5, 6, 7, 8] [1] rfl rfl rfl (by decide) (fun r59 u59 h => ?_)
            obtain ⟨hb59, h⟩ := h
            obtain ⟨t_item_59, t_numbersTold_59, t_items_59, t_numbers_59, t_lawTold_59, h_wide_59, h_high_59, h_walls_59, h_doors_59, h_law_59, h_lamps_59, h_people_59, h_lampCell_59, h_lampReach_59, h_personCell_59, h_wish_59, h_side_59⟩ := u59
            refine q_cs (cs' := [(a_T, .inr (3, [.ref a_T_bytes, .int t_length, .int t_next_35, .int t_start_35, .int t_kind_35, .int t_value_35, .int t_item_59, .int t_numbersTold_59, .int t_items_59, .ref a_T_numbers, .int t_lawTold_59])), (a_T_bytes, .inl (cI, 300, .inl t_bytes)), (a_T_numbers, .inl (cI, 4, .inl t_numbers_59)), (a_H, .inr (0, [.int h_wide_59, .int h_high_59, .int h_walls_59, .int h_doors_59, .int h_law_59, .int h_lamps_59, .int h_people_59, .ref a_H_lampCell, .ref a_H_lampReach, .ref a_H_shine, .ref a_H_personCell, .ref a_H_wish, .ref a_H_side, .ref a_H_light, .ref a_H_leavers])), (a_H_lampCell, .inl (cI, 6, .inl h_lampCell_59)), (a_H_lampReach, .inl (cI, 6, .inl h_lampReach_59)), (a_H_personCell, .inl (cI, 6, .inl h_personCell_59)), (a_H_wish, .inl (cI, 6, .inl h_wish_59)), (a_H_side, .inl (cI, 6, .inl h_side_59))]) [1, 0, 2, 3, 4, 5, 6, 7, 8] rfl rfl ?_
            refine q_if_ne (pc := 62) (tgt := 73) F dX3_readInto_62 (by decide) (fun c62 => ?_) (fun c62 => ?_)
            · have h := h.2 c62
              refine q_iinc (pc := 73) F (v := x2_h26 + (1 : Int32)) (lv' := [(2, .int (x2_h26 + (1 : Int32))), (0, .ref a_T), (1, .ref a_H)]) 2 dX3_readInto_73 rfl rfl (by decide) rfl ?_
              refine q_goto (pc := 76) (tgt := 26) F dX3_readInto_76 (by decide) ?_
              refine q_lv (lv' := [(0, .ref a_T), (1, .ref a_H), (2, .int (x2_h26 + (1 : Int32)))]) [1, 2, 0] rfl ?_
              exact ih (x2_h26 + (1 : Int32)) t_next_35 t_start_35 t_kind_35 t_value_35 t_item_59 t_numbersTold_59 t_items_59 t_numbers_59 t_lawTold_59 h_wide_59 h_high_59 h_walls_59 h_doors_59 h_law_59 h_lamps_59 h_people_59 h_lampCell_59 h_lampReach_59 h_personCell_59 h_wish_59 h_side_59 h
            · have h := h.1 c62
              refine q_bipush (pc := 65) F (v := -10) dX3_readInto_65 (by decide) ?_
              refine q_aload_n (pc := 67) F 0 dX3_readInto_67 rfl ?_
              refine q_get (pc := 68) F fgX3_50 0 rfl rfl dX3_readInto_68 ?_
              refine q_isub (pc := 71) F dX3_readInto_71 ?_
              exact q_iretM (pc := 72) F Z dX3_readInto_72 (t_next_35, t_start_35, t_kind_35, t_value_35, t_item_59, t_numbersTold_59, t_items_59, t_numbers_59, t_lawTold_59, h_wide_59, h_high_59, h_walls_59, h_doors_59, h_law_59, h_lamps_59, h_people_59, h_lampCell_59, h_lampReach_59, h_personCell_59, h_wish_59, h_side_59) h rfl
          · intro K57 J57 h
            refine q_if_ne (pc := 42) (tgt := 57) F dX3_readInto_42 (by decide) (fun c42 => ?_) (fun c42 => ?_)
            · have h := h.2 c42
              exact J57 h
            · have h := h.1 c42
              refine q_aload_n (pc := 45) F 0 dX3_readInto_45 rfl ?_
              refine q_get (pc := 46) F fgX3_30 0 rfl rfl dX3_readInto_46 ?_
              refine q_if_ne (pc := 49) (tgt := 57) F dX3_readInto_49 (by decide) (fun c49 => ?_) (fun c49 => ?_)
              · have h := h.2 c49
                exact J57 h
              · have h := h.1 c49
                refine q_aload_n (pc := 52) F 0 dX3_readInto_52 rfl ?_
                refine q_get (pc := 53) F fgX3_33 0 rfl rfl dX3_readInto_53 ?_
                exact q_iretM (pc := 56) F Z dX3_readInto_56 (t_next_35, t_start_35, t_kind_35, t_value_35, t_item_h26, t_numbersTold_h26, t_items_h26, t_numbers_h26, t_lawTold_h26, h_wide_h26, h_high_h26, h_walls_h26, h_doors_h26, h_law_h26, h_lamps_h26, h_people_h26, h_lampCell_h26, h_lampReach_h26, h_personCell_h26, h_wish_h26, h_side_h26) h rfl
    refine q_lv (lv' := [(0, .ref a_T), (1, .ref a_H), (2, .int (0 : Int32))]) [1, 2, 0] rfl ?_
    exact lp26 n26 (0 : Int32) (0 : Int32) t_start t_kind t_value (0 : Int32) t_numbersTold (0 : Int32) t_numbers (0 : Int32) h_wide_1 h_high_1 h_walls_1 h_doors_1 h_law_1 h_lamps_1 h_people_1 h_lampCell h_lampReach h_personCell h_wish h_side h
