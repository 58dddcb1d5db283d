def wp_X5_in (p0 : Int32) (p1 : Int32) (p2 : Int32) (post : Int32 → Prop) : Prop := (jn (fun (K14 : Prop) => ((p0 < p1 → K14) ∧ (¬ p0 < p1 → ((p2 < p0 → K14) ∧ (¬ p2 < p0 → post (1 : Int32)))))) (post (0 : Int32)))
abbrev rm_X5_in : Room := { frames := 0, cells := 0, slots := 0, locals := 0 }
set_option maxRecDepth 100000 in
set_option maxHeartbeats 4000000 in
theorem ct_X5_in (D : va_G) (cI cZ : ClassId) (p0 : Int32) (p1 : Int32) (p2 : Int32) {post : Int32 → Prop} (h : wp_X5_in p0 p1 p2 post) (l : Launch) (sz : Nat) : Met l yX5_in (wsM yX5_in cX5_in 3 (some .boolean)) rm_X5_in (va_Pc [.int p0, .int p1, .int p2] (gP D cI cZ [] sz)) (gR (fun r => isB r ∧ post r)) 0 0 (fun _ => False) := by
  refine q_startR (own := RX5) (by decide +kernel) rfl (Nat.le_of_ble_eq_true rfl) (fun E F Z => ?_)
  show Wg E [] 0 0 0 [(0, .int p0), (1, .int p1), (2, .int p2)] []
  unfold wp_X5_in at h
  refine q_iload_n (pc := 0) F 0 dX5_in_0 rfl ?_
  refine q_iload_n (pc := 1) F 1 dX5_in_1 rfl ?_
  refine jnW h (fun K => K → Wg E [] 0 0 14 [] []) ?_ ?_
  · intro h
    refine q_iconst (pc := 14) F (v := 0) dX5_in_14 (by decide) ?_
    exact q_zretR (pc := 15) F Z dX5_in_15 (Or.inl rfl) h
  · intro K14 J14 h
    refine q_icmp_lt (pc := 2) (tgt := 14) F dX5_in_2 (by decide) (fun c2 => ?_) (fun c2 => ?_)
    · have h := h.1 c2
      refine q_lv (lv' := []) [] rfl ?_
      exact J14 h
    · have h := h.2 c2
      refine q_iload_n (pc := 5) F 0 dX5_in_5 rfl ?_
      refine q_iload_n (pc := 6) F 2 dX5_in_6 rfl ?_
      refine q_icmp_gt (pc := 7) (tgt := 14) F dX5_in_7 (by decide) (fun c7 => ?_) (fun c7 => ?_)
      · have h := h.1 c7
        refine q_lv (lv' := []) [] rfl ?_
        exact J14 h
      · have h := h.2 c7
        refine q_iconst (pc := 10) F (v := 1) dX5_in_10 (by decide) ?_
        refine q_goto (pc := 11) (tgt := 15) F dX5_in_11 (by decide) ?_
        exact q_zretR (pc := 15) F Z dX5_in_15 (Or.inr rfl) h

def wp_X5_cells (m_told : Nat → Int32) (post : Int32 → Prop) : Prop := post ((m_told 0) * (m_told 1))
abbrev rm_X5_cells : Room := { frames := 0, cells := 0, slots := 0, locals := 0 }
set_option maxRecDepth 100000 in
set_option maxHeartbeats 4000000 in
theorem ct_X5_cells (D : va_G) (cI cZ : ClassId) (a_M a_M_text a_M_told a_M_draft a_M_s a_M_images a_M_kept a_M_light a_M_may a_M_shine a_M_worth a_M_least : Nat) (m_trace : Int64) (m_typed : Int32) (m_at : Int32) (m_sort : Int32) (m_start : Int32) (m_size : Int32) (m_told : Nat → Int32) {post : Int32 → Prop} (h : wp_X5_cells m_told post) (l : Launch) (sz : Nat) : Met l yX5_cells (wsM yX5_cells cX5_cells 1 (some .int)) rm_X5_cells (va_Pc [.ref a_M] (gP D cI cZ [(a_M, .inr (5, [.long m_trace, .ref a_M_text, .int m_typed, .ref a_M_told, .ref a_M_draft, .ref a_M_s, .ref a_M_images, .ref a_M_kept, .int m_at, .int m_sort, .int m_start, .int m_size, .ref a_M_light, .ref a_M_may, .ref a_M_shine, .ref a_M_worth, .ref a_M_least])), (a_M_told, .inl (cI, 43, .inl m_told))] sz)) (gR post) 0 0 (fun _ => False) := by
  refine q_startR (own := RX5) (by decide +kernel) rfl (Nat.le_of_ble_eq_true rfl) (fun E F Z => ?_)
  show Wg E [(a_M, .inr (5, [.long m_trace, .ref a_M_text, .int m_typed, .ref a_M_told, .ref a_M_draft, .ref a_M_s, .ref a_M_images, .ref a_M_kept, .int m_at, .int m_sort, .int m_start, .int m_size, .ref a_M_light, .ref a_M_may, .ref a_M_shine, .ref a_M_worth, .ref a_M_least])), (a_M_told, .inl (cI, 43, .inl m_told))] 0 0 0 [(0, .ref a_M)] []
  unfold wp_X5_cells at h
  refine q_aload_n (pc := 0) F 0 dX5_cells_0 rfl ?_
  refine q_get (pc := 1) F fgX5_13 0 rfl rfl dX5_cells_1 ?_
  refine q_iconst (pc := 4) F (v := 0) dX5_cells_4 (by decide) ?_
  refine q_ialdk (pc := 5) F (k9 := 0) 1 rfl (vpd (by decide +kernel)) (by decide +kernel) dX5_cells_5 ?_
  refine q_aload_n (pc := 6) F 0 dX5_cells_6 rfl ?_
  refine q_get (pc := 7) F fgX5_13 0 rfl rfl dX5_cells_7 ?_
  refine q_iconst (pc := 10) F (v := 1) dX5_cells_10 (by decide) ?_
  refine q_ialdk (pc := 11) F (k9 := 1) 1 rfl (vpd (by decide +kernel)) (by decide +kernel) dX5_cells_11 ?_
  refine q_imul (pc := 12) F dX5_cells_12 ?_
  exact q_iretR (pc := 13) F Z dX5_cells_13 h

def wp_X5_isCell (p0 : Int32) (m_told : Nat → Int32) (post : Int32 → Prop) : Prop := (wp_X5_cells m_told (fun (r3 : Int32) => (wp_X5_in p0 (0 : Int32) (r3 - (1 : Int32)) (fun (r8 : Int32) => post r8))))
abbrev rm_X5_isCell : Room := { frames := 1, cells := 0, slots := 0, locals := 22 }
set_option maxRecDepth 100000 in
set_option maxHeartbeats 4000000 in
theorem ct_X5_isCell (D : va_G) (cI cZ : ClassId) (a_M a_M_text a_M_told a_M_draft a_M_s a_M_images a_M_kept a_M_light a_M_may a_M_shine a_M_worth a_M_least : Nat) (m_trace : Int64) (m_typed : Int32) (m_at : Int32) (m_sort : Int32) (m_start : Int32) (m_size : Int32) (m_told : Nat → Int32) (p0 : Int32) {post : Int32 → Prop} (h : wp_X5_isCell p0 m_told post) (l : Launch) (sz : Nat) : Met l yX5_isCell (wsM yX5_isCell cX5_isCell 2 (some .boolean)) rm_X5_isCell (va_Pc [.ref a_M, .int p0] (gP D cI cZ [(a_M, .inr (5, [.long m_trace, .ref a_M_text, .int m_typed, .ref a_M_told, .ref a_M_draft, .ref a_M_s, .ref a_M_images, .ref a_M_kept, .int m_at, .int m_sort, .int m_start, .int m_size, .ref a_M_light, .ref a_M_may, .ref a_M_shine, .ref a_M_worth, .ref a_M_least])), (a_M_told, .inl (cI, 43, .inl m_told))] sz)) (gR (fun r => isB r ∧ post r)) 0 0 (fun _ => False) := by
  refine q_startR (own := RX5) (by decide +kernel) rfl (Nat.le_of_ble_eq_true rfl) (fun E F Z => ?_)
  show Wg E [(a_M, .inr (5, [.long m_trace, .ref a_M_text, .int m_typed, .ref a_M_told, .ref a_M_draft, .ref a_M_s, .ref a_M_images, .ref a_M_kept, .int m_at, .int m_sort, .int m_start, .int m_size, .ref a_M_light, .ref a_M_may, .ref a_M_shine, .ref a_M_worth, .ref a_M_least])), (a_M_told, .inl (cI, 43, .inl m_told))] 0 0 0 [(0, .ref a_M), (1, .int p0)] []
  unfold wp_X5_isCell at h
  refine q_iload_n (pc := 0) F 1 dX5_isCell_0 rfl ?_
  refine q_iconst (pc := 1) F (v := 0) dX5_isCell_1 (by decide) ?_
  refine q_aload_n (pc := 2) F 0 dX5_isCell_2 rfl ?_
  refine q_cR (q_runV (As := []) (rest := [.int (0 : Int32), .int p0]) (pc := 3) F (fun l sz => ct_X5_cells D cI cZ a_M a_M_text a_M_told a_M_draft a_M_s a_M_images a_M_kept a_M_light a_M_may a_M_shine a_M_worth a_M_least m_trace m_typed m_at m_sort m_start m_size m_told h l sz) mc_yX5_cells im_yX5_cells se_yX5_cells mlX5_44 ⟨by decide, by decide⟩ ⟨by decide, by decide⟩ ⟨rfl, rfl⟩ [0, 1] rfl rfl rfl 0 rfl rfl rfl (Nat.le_of_ble_eq_true rfl) dX5_isCell_3) (fun r3 h => ?_)
  refine q_iconst (pc := 6) F (v := 1) dX5_isCell_6 (by decide) ?_
  refine q_isub (pc := 7) F dX5_isCell_7 ?_
  refine q_cR (q_runS (As := [.int p0, .int (0 : Int32), .int (r3 - (1 : Int32))]) (rest := []) (pc := 8) F (fun l sz => ct_X5_in D cI cZ p0 (0 : Int32) (r3 - (1 : Int32)) h l sz) mc_yX5_in sm_yX5_in mlX5_48 ⟨by decide, by decide⟩ ⟨by decide, by decide⟩ ⟨rfl, rfl⟩ [] rfl rfl rfl rfl (Nat.le_of_ble_eq_true rfl) dX5_isCell_8) (fun r8 h => ?_)
  obtain ⟨hb8, h⟩ := h
  exact q_zretR (pc := 11) F Z dX5_isCell_11 hb8 h

def wp_X5_isLamp (p0 : Int32) (m_told : Nat → Int32) (post : Int32 → Prop) : Prop := (wp_X5_in p0 (0 : Int32) ((m_told 3) - (1 : Int32)) (fun (r10 : Int32) => post r10))
abbrev rm_X5_isLamp : Room := { frames := 1, cells := 0, slots := 0, locals := 22 }
set_option maxRecDepth 100000 in
set_option maxHeartbeats 4000000 in
theorem ct_X5_isLamp (D : va_G) (cI cZ : ClassId) (a_M a_M_text a_M_told a_M_draft a_M_s a_M_images a_M_kept a_M_light a_M_may a_M_shine a_M_worth a_M_least : Nat) (m_trace : Int64) (m_typed : Int32) (m_at : Int32) (m_sort : Int32) (m_start : Int32) (m_size : Int32) (m_told : Nat → Int32) (p0 : Int32) {post : Int32 → Prop} (h : wp_X5_isLamp p0 m_told post) (l : Launch) (sz : Nat) : Met l yX5_isLamp (wsM yX5_isLamp cX5_isLamp 2 (some .boolean)) rm_X5_isLamp (va_Pc [.ref a_M, .int p0] (gP D cI cZ [(a_M, .inr (5, [.long m_trace, .ref a_M_text, .int m_typed, .ref a_M_told, .ref a_M_draft, .ref a_M_s, .ref a_M_images, .ref a_M_kept, .int m_at, .int m_sort, .int m_start, .int m_size, .ref a_M_light, .ref a_M_may, .ref a_M_shine, .ref a_M_worth, .ref a_M_least])), (a_M_told, .inl (cI, 43, .inl m_told))] sz)) (gR (fun r => isB r ∧ post r)) 0 0 (fun _ => False) := by
  refine q_startR (own := RX5) (by decide +kernel) rfl (Nat.le_of_ble_eq_true rfl) (fun E F Z => ?_)
  show Wg E [(a_M, .inr (5, [.long m_trace, .ref a_M_text, .int m_typed, .ref a_M_told, .ref a_M_draft, .ref a_M_s, .ref a_M_images, .ref a_M_kept, .int m_at, .int m_sort, .int m_start, .int m_size, .ref a_M_light, .ref a_M_may, .ref a_M_shine, .ref a_M_worth, .ref a_M_least])), (a_M_told, .inl (cI, 43, .inl m_told))] 0 0 0 [(0, .ref a_M), (1, .int p0)] []
  unfold wp_X5_isLamp at h
  refine q_iload_n (pc := 0) F 1 dX5_isLamp_0 rfl ?_
  refine q_iconst (pc := 1) F (v := 0) dX5_isLamp_1 (by decide) ?_
  refine q_aload_n (pc := 2) F 0 dX5_isLamp_2 rfl ?_
  refine q_get (pc := 3) F fgX5_13 0 rfl rfl dX5_isLamp_3 ?_
  refine q_iconst (pc := 6) F (v := 3) dX5_isLamp_6 (by decide) ?_
  refine q_ialdk (pc := 7) F (k9 := 3) 1 rfl (vpd (by decide +kernel)) (by decide +kernel) dX5_isLamp_7 ?_
  refine q_iconst (pc := 8) F (v := 1) dX5_isLamp_8 (by decide) ?_
  refine q_isub (pc := 9) F dX5_isLamp_9 ?_
  refine q_cR (q_runS (As := [.int p0, .int (0 : Int32), .int ((m_told 3) - (1 : Int32))]) (rest := []) (pc := 10) F (fun l sz => ct_X5_in D cI cZ p0 (0 : Int32) ((m_told 3) - (1 : Int32)) h l sz) mc_yX5_in sm_yX5_in mlX5_48 ⟨by decide, by decide⟩ ⟨by decide, by decide⟩ ⟨rfl, rfl⟩ [] rfl rfl rfl rfl (Nat.le_of_ble_eq_true rfl) dX5_isLamp_10) (fun r10 h => ?_)
  obtain ⟨hb10, h⟩ := h
  exact q_zretR (pc := 13) F Z dX5_isLamp_13 hb10 h

def wp_X5_isPerson (p0 : Int32) (m_told : Nat → Int32) (post : Int32 → Prop) : Prop := (wp_X5_in p0 (0 : Int32) ((m_told 4) - (1 : Int32)) (fun (r10 : Int32) => post r10))
abbrev rm_X5_isPerson : Room := { frames := 1, cells := 0, slots := 0, locals := 22 }
set_option maxRecDepth 100000 in
set_option maxHeartbeats 4000000 in
theorem ct_X5_isPerson (D : va_G) (cI cZ : ClassId) (a_M a_M_text a_M_told a_M_draft a_M_s a_M_images a_M_kept a_M_light a_M_may a_M_shine a_M_worth a_M_least : Nat) (m_trace : Int64) (m_typed : Int32) (m_at : Int32) (m_sort : Int32) (m_start : Int32) (m_size : Int32) (m_told : Nat → Int32) (p0 : Int32) {post : Int32 → Prop} (h : wp_X5_isPerson p0 m_told post) (l : Launch) (sz : Nat) : Met l yX5_isPerson (wsM yX5_isPerson cX5_isPerson 2 (some .boolean)) rm_X5_isPerson (va_Pc [.ref a_M, .int p0] (gP D cI cZ [(a_M, .inr (5, [.long m_trace, .ref a_M_text, .int m_typed, .ref a_M_told, .ref a_M_draft, .ref a_M_s, .ref a_M_images, .ref a_M_kept, .int m_at, .int m_sort, .int m_start, .int m_size, .ref a_M_light, .ref a_M_may, .ref a_M_shine, .ref a_M_worth, .ref a_M_least])), (a_M_told, .inl (cI, 43, .inl m_told))] sz)) (gR (fun r => isB r ∧ post r)) 0 0 (fun _ => False) := by
  refine q_startR (own := RX5) (by decide +kernel) rfl (Nat.le_of_ble_eq_true rfl) (fun E F Z => ?_)
  show Wg E [(a_M, .inr (5, [.long m_trace, .ref a_M_text, .int m_typed, .ref a_M_told, .ref a_M_draft, .ref a_M_s, .ref a_M_images, .ref a_M_kept, .int m_at, .int m_sort, .int m_start, .int m_size, .ref a_M_light, .ref a_M_may, .ref a_M_shine, .ref a_M_worth, .ref a_M_least])), (a_M_told, .inl (cI, 43, .inl m_told))] 0 0 0 [(0, .ref a_M), (1, .int p0)] []
  unfold wp_X5_isPerson at h
  refine q_iload_n (pc := 0) F 1 dX5_isPerson_0 rfl ?_
  refine q_iconst (pc := 1) F (v := 0) dX5_isPerson_1 (by decide) ?_
  refine q_aload_n (pc := 2) F 0 dX5_isPerson_2 rfl ?_
  refine q_get (pc := 3) F fgX5_13 0 rfl rfl dX5_isPerson_3 ?_
  refine q_iconst (pc := 6) F (v := 4) dX5_isPerson_6 (by decide) ?_
  refine q_ialdk (pc := 7) F (k9 := 4) 1 rfl (vpd (by decide +kernel)) (by decide +kernel) dX5_isPerson_7 ?_
  refine q_iconst (pc := 8) F (v := 1) dX5_isPerson_8 (by decide) ?_
  refine q_isub (pc := 9) F dX5_isPerson_9 ?_
  refine q_cR (q_runS (As := [.int p0, .int (0 : Int32), .int ((m_told 4) - (1 : Int32))]) (rest := []) (pc := 10) F (fun l sz => ct_X5_in D cI cZ p0 (0 : Int32) ((m_told 4) - (1 : Int32)) h l sz) mc_yX5_in sm_yX5_in mlX5_48 ⟨by decide, by decide⟩ ⟨by decide, by decide⟩ ⟨rfl, rfl⟩ [] rfl rfl rfl rfl (Nat.le_of_ble_eq_true rfl) dX5_isPerson_10) (fun r10 h => ?_)
  obtain ⟨hb10, h⟩ := h
  exact q_zretR (pc := 13) F Z dX5_isPerson_13 hb10 h

def wp_X5_type_L32 (x1 : Int64) (K74 : (Nat → Int32) → Int32 → Prop) : Nat → Int32 → (Nat → Int32) → Int32 → Prop
  | 0, _, _, _ => False
  | n + 1, x4, m_text, m_typed => ((x4 < (0 : Int32) → K74 m_text m_typed) ∧ (¬ x4 < (0 : Int32) → (vp_in m_typed 300 ∧ wp_X5_type_L32 x1 K74 n (x4 + (-1 : Int32)) (upd m_text (ix m_typed) (Int64.toInt32 ((jlshr x1 ((8 : Int32) * x4)) &&& (255 : Int64)))) (m_typed + (1 : Int32)))))
def wp_X5_type (p0 : Int64) (p1 : Int32) (m_text : Nat → Int32) (m_typed : Int32) (post : Int32 → (Nat → Int32) → Int32 → Prop) : Prop := (wp_X5_in p1 (1 : Int32) (8 : Int32) (fun (r4 : Int32) => ((r4 = (0 : Int32) → post (-1 : Int32) m_text m_typed) ∧ (¬ r4 = (0 : Int32) → (((m_typed + p1) ≤ (300 : Int32) → (jn (fun (K74 : (Nat → Int32) → Int32 → Prop) => (∃ n32 : Nat, wp_X5_type_L32 p0 K74 n32 (p1 - (1 : Int32)) m_text m_typed)) (fun (m_text_74 : Nat → Int32) (m_typed_74 : Int32) => post m_typed_74 m_text_74 m_typed_74))) ∧ (¬ (m_typed + p1) ≤ (300 : Int32) → post (-3 : Int32) m_text m_typed))))))
abbrev rm_X5_type : Room := { frames := 1, cells := 0, slots := 0, locals := 22 }
set_option maxRecDepth 100000 in
set_option maxHeartbeats 4000000 in
theorem ct_X5_type (D : va_G) (cI cZ : ClassId) (a_M a_M_text a_M_told a_M_draft a_M_s a_M_images a_M_kept a_M_light a_M_may a_M_shine a_M_worth a_M_least : Nat) (m_trace : Int64) (m_typed : Int32) (m_at : Int32) (m_sort : Int32) (m_start : Int32) (m_size : Int32) (m_text : Nat → Int32) (p0 : Int64) (p1 : Int32) {post : Int32 → (Nat → Int32) → Int32 → Prop} (h : wp_X5_type p0 p1 m_text m_typed post) (l : Launch) (sz : Nat) : Met l yX5_type (wsM yX5_type cX5_type 5 (some .int)) rm_X5_type (va_Pc [.ref a_M, .long p0, .int p1] (gP D cI cZ [(a_M, .inr (5, [.long m_trace, .ref a_M_text, .int m_typed, .ref a_M_told, .ref a_M_draft, .ref a_M_s, .ref a_M_images, .ref a_M_kept, .int m_at, .int m_sort, .int m_start, .int m_size, .ref a_M_light, .ref a_M_may, .ref a_M_shine, .ref a_M_worth, .ref a_M_least])), (a_M_text, .inl (cI, 300, .inl m_text))] sz)) (gQi D (fun r (u : (Nat → Int32) × Int32) => post r u.1 u.2) (fun (u : (Nat → Int32) × Int32) => [(a_M, .inr (5, [.long m_trace, .ref a_M_text, .int u.2, .ref a_M_told, .ref a_M_draft, .ref a_M_s, .ref a_M_images, .ref a_M_kept, .int m_at, .int m_sort, .int m_start, .int m_size, .ref a_M_light, .ref a_M_may, .ref a_M_shine, .ref a_M_worth, .ref a_M_least])), (a_M_text, .inl (cI, 300, .inl u.1))]) [(a_M, .inr (5, [.long m_trace, .ref a_M_text, .int m_typed, .ref a_M_told, .ref a_M_draft, .ref a_M_s, .ref a_M_images, .ref a_M_kept, .int m_at, .int m_sort, .int m_start, .int m_size, .ref a_M_light, .ref a_M_may, .ref a_M_shine, .ref a_M_worth, .ref a_M_least])), (a_M_text, .inl (cI, 300, .inl m_text))] sz) 0 0 (va_A [(a_M, .inr (5, [.long m_trace, .ref a_M_text, .int m_typed, .ref a_M_told, .ref a_M_draft, .ref a_M_s, .ref a_M_images, .ref a_M_kept, .int m_at, .int m_sort, .int m_start, .int m_size, .ref a_M_light, .ref a_M_may, .ref a_M_shine, .ref a_M_worth, .ref a_M_least])), (a_M_text, .inl (cI, 300, .inl m_text))] sz) := by
  refine q_startM (own := RX5) (Qc := gQi D (fun r (u : (Nat → Int32) × Int32) => post r u.1 u.2) (fun (u : (Nat → Int32) × Int32) => [(a_M, .inr (5, [.long m_trace, .ref a_M_text, .int u.2, .ref a_M_told, .ref a_M_draft, .ref a_M_s, .ref a_M_images, .ref a_M_kept, .int m_at, .int m_sort, .int m_start, .int m_size, .ref a_M_light, .ref a_M_may, .ref a_M_shine, .ref a_M_worth, .ref a_M_least])), (a_M_text, .inl (cI, 300, .inl u.1))]) [(a_M, .inr (5, [.long m_trace, .ref a_M_text, .int m_typed, .ref a_M_told, .ref a_M_draft, .ref a_M_s, .ref a_M_images, .ref a_M_kept, .int m_at, .int m_sort, .int m_start, .int m_size, .ref a_M_light, .ref a_M_may, .ref a_M_shine, .ref a_M_worth, .ref a_M_least])), (a_M_text, .inl (cI, 300, .inl m_text))]) (by decide +kernel) rfl (Nat.le_of_ble_eq_true rfl) (fun E F Z M => ?_)
  show Wg E [(a_M, .inr (5, [.long m_trace, .ref a_M_text, .int m_typed, .ref a_M_told, .ref a_M_draft, .ref a_M_s, .ref a_M_images, .ref a_M_kept, .int m_at, .int m_sort, .int m_start, .int m_size, .ref a_M_light, .ref a_M_may, .ref a_M_shine, .ref a_M_worth, .ref a_M_least])), (a_M_text, .inl (cI, 300, .inl m_text))] 0 0 0 [(0, .ref a_M), (1, .long p0), (3, .int p1)] []
  unfold wp_X5_type at h
  refine q_iload_n (pc := 0) F 2 dX5_type_0 rfl ?_
  refine q_iconst (pc := 1) F (v := 1) dX5_type_1 (by decide) ?_
  refine q_bipush (pc := 2) F (v := 8) dX5_type_2 (by decide) ?_
  refine q_cR (q_runS (As := [.int p1, .int (1 : Int32), .int (8 : Int32)]) (rest := []) (pc := 4) F (fun l sz => ct_X5_in D cI cZ p1 (1 : Int32) (8 : Int32) h l sz) mc_yX5_in sm_yX5_in mlX5_48 ⟨by decide, by decide⟩ ⟨by decide, by decide⟩ ⟨rfl, rfl⟩ [] rfl rfl rfl rfl (Nat.le_of_ble_eq_true rfl) dX5_type_4) (fun r4 h => ?_)
  obtain ⟨hb4, h⟩ := h
  refine q_if_ne (pc := 7) (tgt := 12) F dX5_type_7 (by decide) (fun c7 => ?_) (fun c7 => ?_)
  · have h := h.2 c7
    refine q_aload_n (pc := 12) F 0 dX5_type_12 rfl ?_
    refine q_get (pc := 13) F fgX5_52 0 rfl rfl dX5_type_13 ?_
    refine q_iload_n (pc := 16) F 2 dX5_type_16 rfl ?_
    refine q_iadd (pc := 17) F dX5_type_17 ?_
    refine q_sipush (pc := 18) F (v := 300) dX5_type_18 (by decide) ?_
    refine q_icmp_le (pc := 21) (tgt := 27) F dX5_type_21 (by decide) (fun c21 => ?_) (fun c21 => ?_)
    · have h := h.1 c21
      refine q_iload_n (pc := 27) F 2 dX5_type_27 rfl ?_
      refine q_iconst (pc := 28) F (v := 1) dX5_type_28 (by decide) ?_
      refine q_isub (pc := 29) F dX5_type_29 ?_
      refine q_istore (pc := 30) F (lv' := [(4, .int (p1 - (1 : Int32))), (0, .ref a_M), (1, .long p0), (3, .int p1)]) dX5_type_30 (by decide) rfl ?_
      refine jnW h (fun K => ∀ (m_text_74 : Nat → Int32) (m_typed_74 : Int32), K m_text_74 m_typed_74 → Wg E [(a_M, .inr (5, [.long m_trace, .ref a_M_text, .int m_typed_74, .ref a_M_told, .ref a_M_draft, .ref a_M_s, .ref a_M_images, .ref a_M_kept, .int m_at, .int m_sort, .int m_start, .int m_size, .ref a_M_light, .ref a_M_may, .ref a_M_shine, .ref a_M_worth, .ref a_M_least])), (a_M_text, .inl (cI, 300, .inl m_text_74))] 0 0 74 [(0, .ref a_M)] []) ?_ ?_
      · intro m_text_74 m_typed_74 h
        refine q_aload_n (pc := 74) F 0 dX5_type_74 rfl ?_
        refine q_get (pc := 75) F fgX5_52 0 rfl rfl dX5_type_75 ?_
        exact q_iretM (pc := 78) F Z dX5_type_78 (m_text_74, m_typed_74) h rfl
      · intro K74 J74 h
        obtain ⟨n32, h⟩ := h
        have lp32 : ∀ (n : Nat) (x4_h32 : Int32) (m_text_h32 : Nat → Int32) (m_typed_h32 : Int32), wp_X5_type_L32 p0 K74 n x4_h32 m_text_h32 m_typed_h32 → Wg E [(a_M, .inr (5, [.long m_trace, .ref a_M_text, .int m_typed_h32, .ref a_M_told, .ref a_M_draft, .ref a_M_s, .ref a_M_images, .ref a_M_kept, .int m_at, .int m_sort, .int m_start, .int m_size, .ref a_M_light, .ref a_M_may, .ref a_M_shine, .ref a_M_worth, .ref a_M_least])), (a_M_text, .inl (cI, 300, .inl m_text_h32))] 0 0 32 [(0, .ref a_M), (1, .long p0), (4, .int x4_h32)] [] := by
          intro n
          induction n with
          | zero => intro x4_h32 m_text_h32 m_typed_h32 h; exact h.elim
          | succ n ih =>
            intro x4_h32 m_text_h32 m_typed_h32 h
            unfold wp_X5_type_L32 at h
            refine q_iload (pc := 32) F 2 dX5_type_32 rfl ?_
            refine q_if_lt (pc := 34) (tgt := 74) F dX5_type_34 (by decide) (fun c34 => ?_) (fun c34 => ?_)
            · have h := h.1 c34
              refine q_lv (lv' := [(0, .ref a_M)]) [0] rfl ?_
              exact J74 m_text_h32 m_typed_h32 h
            · have h := h.2 c34
              refine q_aload_n (pc := 37) F 0 dX5_type_37 rfl ?_
              refine q_get (pc := 38) F fgX5_7 0 rfl rfl dX5_type_38 ?_
              refine q_aload_n (pc := 41) F 0 dX5_type_41 rfl ?_
              refine q_get (pc := 42) F fgX5_52 0 rfl rfl dX5_type_42 ?_
              refine q_lload_n (pc := 45) F 1 dX5_type_45 rfl ?_
              refine q_bipush (pc := 46) F (v := 8) dX5_type_46 (by decide) ?_
              refine q_iload (pc := 48) F 2 dX5_type_48 rfl ?_
              refine q_imul (pc := 50) F dX5_type_50 ?_
              refine q_lshr (pc := 51) F dX5_type_51 ?_
              refine q_ldc2 (pc := 52) F kX5_56 dX5_type_52 ?_
              refine q_land (pc := 55) F dX5_type_55 ?_
              refine q_l2i (pc := 56) F dX5_type_56 ?_
              obtain ⟨hi57, h⟩ := h
              refine q_iast (pc := 57) F M (cs' := [(a_M, .inr (5, [.long m_trace, .ref a_M_text, .int m_typed_h32, .ref a_M_told, .ref a_M_draft, .ref a_M_s, .ref a_M_images, .ref a_M_kept, .int m_at, .int m_sort, .int m_start, .int m_size, .ref a_M_light, .ref a_M_may, .ref a_M_shine, .ref a_M_worth, .ref a_M_least])), (a_M_text, .inl (cI, 300, .inl (upd m_text_h32 (ix m_typed_h32) (Int64.toInt32 ((jlshr p0 ((8 : Int32) * x4_h32)) &&& (255 : Int64))))))]) 1 rfl hi57 rfl dX5_type_57 ?_
              refine q_aload_n (pc := 58) F 0 dX5_type_58 rfl ?_
              refine q_dup (pc := 59) F dX5_type_59 rfl ?_
              refine q_get (pc := 60) F fgX5_52 0 rfl rfl dX5_type_60 ?_
              refine q_iconst (pc := 63) F (v := 1) dX5_type_63 (by decide) ?_
              refine q_iadd (pc := 64) F dX5_type_64 ?_
              refine q_put (pc := 65) F M (cs' := [(a_M, .inr (5, [.long m_trace, .ref a_M_text, .int (m_typed_h32 + (1 : Int32)), .ref a_M_told, .ref a_M_draft, .ref a_M_s, .ref a_M_images, .ref a_M_kept, .int m_at, .int m_sort, .int m_start, .int m_size, .ref a_M_light, .ref a_M_may, .ref a_M_shine, .ref a_M_worth, .ref a_M_least])), (a_M_text, .inl (cI, 300, .inl (upd m_text_h32 (ix m_typed_h32) (Int64.toInt32 ((jlshr p0 ((8 : Int32) * x4_h32)) &&& (255 : Int64))))))]) fpX5_52 0 rfl rfl rfl (Nat.le_of_ble_eq_true rfl) rfl dX5_type_65 ?_
              refine q_iinc (pc := 68) F (v := x4_h32 + (-1 : Int32)) (lv' := [(4, .int (x4_h32 + (-1 : Int32))), (0, .ref a_M), (1, .long p0)]) 2 dX5_type_68 rfl rfl (by decide) rfl ?_
              refine q_goto (pc := 71) (tgt := 32) F dX5_type_71 (by decide) ?_
              refine q_lv (lv' := [(0, .ref a_M), (1, .long p0), (4, .int (x4_h32 + (-1 : Int32)))]) [1, 2, 0] rfl ?_
              exact ih (x4_h32 + (-1 : Int32)) (upd m_text_h32 (ix m_typed_h32) (Int64.toInt32 ((jlshr p0 ((8 : Int32) * x4_h32)) &&& (255 : Int64)))) (m_typed_h32 + (1 : Int32)) h
        refine q_lv (lv' := [(0, .ref a_M), (1, .long p0), (4, .int (p1 - (1 : Int32)))]) [1, 2, 0] rfl ?_
        exact lp32 n32 (p1 - (1 : Int32)) m_text m_typed h
    · have h := h.2 c21
      refine q_bipush (pc := 24) F (v := -3) dX5_type_24 (by decide) ?_
      exact q_iretM (pc := 26) F Z dX5_type_26 (m_text, m_typed) h rfl
  · have h := h.1 c7
    refine q_iconst (pc := 10) F (v := -1) dX5_type_10 (by decide) ?_
    exact q_iretM (pc := 11) F Z dX5_type_11 (m_text, m_typed) h rfl

def wp_X5_clear (m_typed : Int32) (post : Int32 → Int32 → Prop) : Prop := post m_typed (0 : Int32)
abbrev rm_X5_clear : Room := { frames := 0, cells := 0, slots := 0, locals := 0 }
set_option maxRecDepth 100000 in
set_option maxHeartbeats 4000000 in
theorem ct_X5_clear (D : va_G) (cI cZ : ClassId) (a_M a_M_text a_M_told a_M_draft a_M_s a_M_images a_M_kept a_M_light a_M_may a_M_shine a_M_worth a_M_least : Nat) (m_trace : Int64) (m_typed : Int32) (m_at : Int32) (m_sort : Int32) (m_start : Int32) (m_size : Int32) {post : Int32 → Int32 → Prop} (h : wp_X5_clear m_typed post) (l : Launch) (sz : Nat) : Met l yX5_clear (wsM yX5_clear cX5_clear 2 (some .int)) rm_X5_clear (va_Pc [.ref a_M] (gP D cI cZ [(a_M, .inr (5, [.long m_trace, .ref a_M_text, .int m_typed, .ref a_M_told, .ref a_M_draft, .ref a_M_s, .ref a_M_images, .ref a_M_kept, .int m_at, .int m_sort, .int m_start, .int m_size, .ref a_M_light, .ref a_M_may, .ref a_M_shine, .ref a_M_worth, .ref a_M_least]))] sz)) (gQi D (fun r (u : Int32) => post r u) (fun (u : Int32) => [(a_M, .inr (5, [.long m_trace, .ref a_M_text, .int u, .ref a_M_told, .ref a_M_draft, .ref a_M_s, .ref a_M_images, .ref a_M_kept, .int m_at, .int m_sort, .int m_start, .int m_size, .ref a_M_light, .ref a_M_may, .ref a_M_shine, .ref a_M_worth, .ref a_M_least]))]) [(a_M, .inr (5, [.long m_trace, .ref a_M_text, .int m_typed, .ref a_M_told, .ref a_M_draft, .ref a_M_s, .ref a_M_images, .ref a_M_kept, .int m_at, .int m_sort, .int m_start, .int m_size, .ref a_M_light, .ref a_M_may, .ref a_M_shine, .ref a_M_worth, .ref a_M_least]))] sz) 0 0 (va_A [(a_M, .inr (5, [.long m_trace, .ref a_M_text, .int m_typed, .ref a_M_told, .ref a_M_draft, .ref a_M_s, .ref a_M_images, .ref a_M_kept, .int m_at, .int m_sort, .int m_start, .int m_size, .ref a_M_light, .ref a_M_may, .ref a_M_shine, .ref a_M_worth, .ref a_M_least]))] sz) := by
  refine q_startM (own := RX5) (Qc := gQi D (fun r (u : Int32) => post r u) (fun (u : Int32) => [(a_M, .inr (5, [.long m_trace, .ref a_M_text, .int u, .ref a_M_told, .ref a_M_draft, .ref a_M_s, .ref a_M_images, .ref a_M_kept, .int m_at, .int m_sort, .int m_start, .int m_size, .ref a_M_light, .ref a_M_may, .ref a_M_shine, .ref a_M_worth, .ref a_M_least]))]) [(a_M, .inr (5, [.long m_trace, .ref a_M_text, .int m_typed, .ref a_M_told, .ref a_M_draft, .ref a_M_s, .ref a_M_images, .ref a_M_kept, .int m_at, .int m_sort, .int m_start, .int m_size, .ref a_M_light, .ref a_M_may, .ref a_M_shine, .ref a_M_worth, .ref a_M_least]))]) (by decide +kernel) rfl (Nat.le_of_ble_eq_true rfl) (fun E F Z M => ?_)
  show Wg E [(a_M, .inr (5, [.long m_trace, .ref a_M_text, .int m_typed, .ref a_M_told, .ref a_M_draft, .ref a_M_s, .ref a_M_images, .ref a_M_kept, .int m_at, .int m_sort, .int m_start, .int m_size, .ref a_M_light, .ref a_M_may, .ref a_M_shine, .ref a_M_worth, .ref a_M_least]))] 0 0 0 [(0, .ref a_M)] []
  unfold wp_X5_clear at h
  refine q_aload_n (pc := 0) F 0 dX5_clear_0 rfl ?_
  refine q_get (pc := 1) F fgX5_52 0 rfl rfl dX5_clear_1 ?_
  refine q_istore_n (pc := 4) F (lv' := [(1, .int m_typed), (0, .ref a_M)]) dX5_clear_4 (by decide) rfl ?_
  refine q_aload_n (pc := 5) F 1 dX5_clear_5 rfl ?_
  refine q_iconst (pc := 6) F (v := 0) dX5_clear_6 (by decide) ?_
  refine q_put (pc := 7) F M (cs' := [(a_M, .inr (5, [.long m_trace, .ref a_M_text, .int (0 : Int32), .ref a_M_told, .ref a_M_draft, .ref a_M_s, .ref a_M_images, .ref a_M_kept, .int m_at, .int m_sort, .int m_start, .int m_size, .ref a_M_light, .ref a_M_may, .ref a_M_shine, .ref a_M_worth, .ref a_M_least]))]) fpX5_52 0 rfl rfl rfl (Nat.le_of_ble_eq_true rfl) rfl dX5_clear_7 ?_
  refine q_iload_n (pc := 10) F 0 dX5_clear_10 rfl ?_
  exact q_iretM (pc := 11) F Z dX5_clear_11 (0 : Int32) h rfl

def wp_X5_byteAt (p0 : Int32) (m_text : Nat → Int32) (m_typed : Int32) (post : Int32 → Prop) : Prop := ((m_typed ≤ p0 → post (-1 : Int32)) ∧ (¬ m_typed ≤ p0 → (vp_in p0 300 ∧ post (m_text (ix p0)))))
abbrev rm_X5_byteAt : Room := { frames := 0, cells := 0, slots := 0, locals := 0 }
set_option maxRecDepth 100000 in
set_option maxHeartbeats 4000000 in
theorem ct_X5_byteAt (D : va_G) (cI cZ : ClassId) (a_M a_M_text a_M_told a_M_draft a_M_s a_M_images a_M_kept a_M_light a_M_may a_M_shine a_M_worth a_M_least : Nat) (m_trace : Int64) (m_typed : Int32) (m_at : Int32) (m_sort : Int32) (m_start : Int32) (m_size : Int32) (m_text : Nat → Int32) (p0 : Int32) {post : Int32 → Prop} (h : wp_X5_byteAt p0 m_text m_typed post) (l : Launch) (sz : Nat) : Met l yX5_byteAt (wsM yX5_byteAt cX5_byteAt 2 (some .int)) rm_X5_byteAt (va_Pc [.ref a_M, .int p0] (gP D cI cZ [(a_M, .inr (5, [.long m_trace, .ref a_M_text, .int m_typed, .ref a_M_told, .ref a_M_draft, .ref a_M_s, .ref a_M_images, .ref a_M_kept, .int m_at, .int m_sort, .int m_start, .int m_size, .ref a_M_light, .ref a_M_may, .ref a_M_shine, .ref a_M_worth, .ref a_M_least])), (a_M_text, .inl (cI, 300, .inl m_text))] sz)) (gR post) 0 0 (fun _ => False) := by
  refine q_startR (own := RX5) (by decide +kernel) rfl (Nat.le_of_ble_eq_true rfl) (fun E F Z => ?_)
  show Wg E [(a_M, .inr (5, [.long m_trace, .ref a_M_text, .int m_typed, .ref a_M_told, .ref a_M_draft, .ref a_M_s, .ref a_M_images, .ref a_M_kept, .int m_at, .int m_sort, .int m_start, .int m_size, .ref a_M_light, .ref a_M_may, .ref a_M_shine, .ref a_M_worth, .ref a_M_least])), (a_M_text, .inl (cI, 300, .inl m_text))] 0 0 0 [(0, .ref a_M), (1, .int p0)] []
  unfold wp_X5_byteAt at h
  refine q_iload_n (pc := 0) F 1 dX5_byteAt_0 rfl ?_
  refine q_aload_n (pc := 1) F 0 dX5_byteAt_1 rfl ?_
  refine q_get (pc := 2) F fgX5_52 0 rfl rfl dX5_byteAt_2 ?_
  refine q_icmp_ge (pc := 5) (tgt := 17) F dX5_byteAt_5 (by decide) (fun c5 => ?_) (fun c5 => ?_)
  · have h := h.1 c5
    refine q_iconst (pc := 17) F (v := -1) dX5_byteAt_17 (by decide) ?_
    exact q_iretR (pc := 18) F Z dX5_byteAt_18 h
  · have h := h.2 c5
    refine q_aload_n (pc := 8) F 0 dX5_byteAt_8 rfl ?_
    refine q_get (pc := 9) F fgX5_7 0 rfl rfl dX5_byteAt_9 ?_
    refine q_iload_n (pc := 12) F 1 dX5_byteAt_12 rfl ?_
    obtain ⟨hi13, h⟩ := h
    refine q_iald (pc := 13) F 1 rfl hi13 dX5_byteAt_13 ?_
    refine q_goto (pc := 14) (tgt := 18) F dX5_byteAt_14 (by decide) ?_
    exact q_iretR (pc := 18) F Z dX5_byteAt_18 h

def wp_X5_sortOf (p0 : Int32) (post : Int32 → Prop) : Prop := (((0 : Int32) ≤ p0 → (wp_X5_in p0 (97 : Int32) (122 : Int32) (fun (r13 : Int32) => ((r13 = (0 : Int32) → (wp_X5_in p0 (48 : Int32) (57 : Int32) (fun (r28 : Int32) => ((r28 = (0 : Int32) → ((p0 = (59 : Int32) → post (3 : Int32)) ∧ (¬ p0 = (59 : Int32) → post (4 : Int32)))) ∧ (¬ r28 = (0 : Int32) → post (2 : Int32)))))) ∧ (¬ r13 = (0 : Int32) → post (1 : Int32)))))) ∧ (¬ (0 : Int32) ≤ p0 → post (0 : Int32)))
abbrev rm_X5_sortOf : Room := { frames := 1, cells := 0, slots := 0, locals := 22 }
set_option maxRecDepth 100000 in
set_option maxHeartbeats 4000000 in
theorem ct_X5_sortOf (D : va_G) (cI cZ : ClassId) (p0 : Int32) {post : Int32 → Prop} (h : wp_X5_sortOf p0 post) (l : Launch) (sz : Nat) : Met l yX5_sortOf (wsM yX5_sortOf cX5_sortOf 1 (some .int)) rm_X5_sortOf (va_Pc [.int p0] (gP D cI cZ [] sz)) (gR post) 0 0 (fun _ => False) := by
  refine q_startR (own := RX5) (by decide +kernel) rfl (Nat.le_of_ble_eq_true rfl) (fun E F Z => ?_)
  show Wg E [] 0 0 0 [(0, .int p0)] []
  unfold wp_X5_sortOf at h
  refine q_iload_n (pc := 0) F 0 dX5_sortOf_0 rfl ?_
  refine q_if_ge (pc := 1) (tgt := 8) F dX5_sortOf_1 (by decide) (fun c1 => ?_) (fun c1 => ?_)
  · have h := h.1 c1
    refine q_iload_n (pc := 8) F 0 dX5_sortOf_8 rfl ?_
    refine q_bipush (pc := 9) F (v := 97) dX5_sortOf_9 (by decide) ?_
    refine q_bipush (pc := 11) F (v := 122) dX5_sortOf_11 (by decide) ?_
    refine q_cR (q_runS (As := [.int p0, .int (97 : Int32), .int (122 : Int32)]) (rest := []) (pc := 13) F (fun l sz => ct_X5_in D cI cZ p0 (97 : Int32) (122 : Int32) h l sz) mc_yX5_in sm_yX5_in mlX5_48 ⟨by decide, by decide⟩ ⟨by decide, by decide⟩ ⟨rfl, rfl⟩ [] rfl rfl rfl rfl (Nat.le_of_ble_eq_true rfl) dX5_sortOf_13) (fun r13 h => ?_)
    obtain ⟨hb13, h⟩ := h
    refine q_if_eq (pc := 16) (tgt := 23) F dX5_sortOf_16 (by decide) (fun c16 => ?_) (fun c16 => ?_)
    · have h := h.1 c16
      refine q_iload_n (pc := 23) F 0 dX5_sortOf_23 rfl ?_
      refine q_bipush (pc := 24) F (v := 48) dX5_sortOf_24 (by decide) ?_
      refine q_bipush (pc := 26) F (v := 57) dX5_sortOf_26 (by decide) ?_
      refine q_cR (q_runS (As := [.int p0, .int (48 : Int32), .int (57 : Int32)]) (rest := []) (pc := 28) F (fun l sz => ct_X5_in D cI cZ p0 (48 : Int32) (57 : Int32) h l sz) mc_yX5_in sm_yX5_in mlX5_48 ⟨by decide, by decide⟩ ⟨by decide, by decide⟩ ⟨rfl, rfl⟩ [] rfl rfl rfl rfl (Nat.le_of_ble_eq_true rfl) dX5_sortOf_28) (fun r28 h => ?_)
      obtain ⟨hb28, h⟩ := h
      refine q_if_eq (pc := 31) (tgt := 38) F dX5_sortOf_31 (by decide) (fun c31 => ?_) (fun c31 => ?_)
      · have h := h.1 c31
        refine q_iload_n (pc := 38) F 0 dX5_sortOf_38 rfl ?_
        refine q_bipush (pc := 39) F (v := 59) dX5_sortOf_39 (by decide) ?_
        refine q_icmp_ne (pc := 41) (tgt := 48) F dX5_sortOf_41 (by decide) (fun c41 => ?_) (fun c41 => ?_)
        · have h := h.2 c41
          refine q_iconst (pc := 48) F (v := 4) dX5_sortOf_48 (by decide) ?_
          exact q_iretR (pc := 49) F Z dX5_sortOf_49 h
        · have h := h.1 c41
          refine q_iconst (pc := 44) F (v := 3) dX5_sortOf_44 (by decide) ?_
          refine q_goto (pc := 45) (tgt := 49) F dX5_sortOf_45 (by decide) ?_
          exact q_iretR (pc := 49) F Z dX5_sortOf_49 h
      · have h := h.2 c31
        refine q_iconst (pc := 34) F (v := 2) dX5_sortOf_34 (by decide) ?_
        refine q_goto (pc := 35) (tgt := 49) F dX5_sortOf_35 (by decide) ?_
        exact q_iretR (pc := 49) F Z dX5_sortOf_49 h
    · have h := h.2 c16
      refine q_iconst (pc := 19) F (v := 1) dX5_sortOf_19 (by decide) ?_
      refine q_goto (pc := 20) (tgt := 49) F dX5_sortOf_20 (by decide) ?_
      exact q_iretR (pc := 49) F Z dX5_sortOf_49 h
  · have h := h.2 c1
    refine q_iconst (pc := 4) F (v := 0) dX5_sortOf_4 (by decide) ?_
    refine q_goto (pc := 5) (tgt := 49) F dX5_sortOf_5 (by decide) ?_
    exact q_iretR (pc := 49) F Z dX5_sortOf_49 h

def wp_X5_token_L0 (m_text : Nat → Int32) (m_typed : Int32) (K26 : Int32 → Prop) : Nat → Int32 → Prop
  | 0, _ => False
  | n + 1, m_at => (wp_X5_byteAt m_at m_text m_typed (fun (r5 : Int32) => ((r5 = (32 : Int32) → wp_X5_token_L0 m_text m_typed K26 n (m_at + (1 : Int32))) ∧ (¬ r5 = (32 : Int32) → K26 m_at))))
def wp_X5_token_L54 (m_text : Nat → Int32) (m_typed : Int32) (m_sort : Int32) (m_start : Int32) (post : Int32 → Int32 → Int32 → Int32 → Prop) : Nat → Int32 → Int32 → Prop
  | 0, _, _ => False
  | n + 1, m_at, m_size => (jn (fun (K102 : Prop) => (jn (fun (K68 : Prop) => ((m_size = (0 : Int32) → ((m_sort = (0 : Int32) → K68) ∧ (¬ m_sort = (0 : Int32) → K102))) ∧ (¬ m_size = (0 : Int32) → K68))) ((jn (fun (K84 : Prop) => ((m_sort = (1 : Int32) → K84) ∧ (¬ m_sort = (1 : Int32) → ((m_sort = (2 : Int32) → K84) ∧ (¬ m_sort = (2 : Int32) → post m_at m_sort m_start m_size))))) ((wp_X5_byteAt m_at m_text m_typed (fun (r89 : Int32) => (wp_X5_sortOf r89 (fun (r92 : Int32) => ((r92 = m_sort → K102) ∧ (¬ r92 = m_sort → post m_at m_sort m_start m_size))))))))))) (wp_X5_token_L54 m_text m_typed m_sort m_start post n (m_at + (1 : Int32)) (m_size + (1 : Int32))))
def wp_X5_token (m_text : Nat → Int32) (m_typed : Int32) (m_at : Int32) (m_sort : Int32) (m_start : Int32) (m_size : Int32) (post : Int32 → Int32 → Int32 → Int32 → Prop) : Prop := (jn (fun (K26 : Int32 → Prop) => (∃ n0 : Nat, wp_X5_token_L0 m_text m_typed K26 n0 m_at)) (fun (m_at_26 : Int32) => (wp_X5_byteAt m_at_26 m_text m_typed (fun (r40 : Int32) => (wp_X5_sortOf r40 (fun (r43 : Int32) => (∃ n54 : Nat, wp_X5_token_L54 m_text m_typed r43 m_at_26 post n54 m_at_26 (0 : Int32))))))))
abbrev rm_X5_token : Room := { frames := 2, cells := 0, slots := 0, locals := 42 }
set_option maxRecDepth 100000 in
set_option maxHeartbeats 4000000 in
theorem ct_X5_token (D : va_G) (cI cZ : ClassId) (a_M a_M_text a_M_told a_M_draft a_M_s a_M_images a_M_kept a_M_light a_M_may a_M_shine a_M_worth a_M_least : Nat) (m_trace : Int64) (m_typed : Int32) (m_at : Int32) (m_sort : Int32) (m_start : Int32) (m_size : Int32) (m_text : Nat → Int32) {post : Int32 → Int32 → Int32 → Int32 → Prop} (h : wp_X5_token m_text m_typed m_at m_sort m_start m_size post) (l : Launch) (sz : Nat) : Met l yX5_token (wsM yX5_token cX5_token 1 none) rm_X5_token (va_Pc [.ref a_M] (gP D cI cZ [(a_M, .inr (5, [.long m_trace, .ref a_M_text, .int m_typed, .ref a_M_told, .ref a_M_draft, .ref a_M_s, .ref a_M_images, .ref a_M_kept, .int m_at, .int m_sort, .int m_start, .int m_size, .ref a_M_light, .ref a_M_may, .ref a_M_shine, .ref a_M_worth, .ref a_M_least])), (a_M_text, .inl (cI, 300, .inl m_text))] sz)) (gQv D (fun (u : Int32 × Int32 × Int32 × Int32) => post u.1 u.2.1 u.2.2.1 u.2.2.2) (fun (u : Int32 × Int32 × Int32 × Int32) => [(a_M, .inr (5, [.long m_trace, .ref a_M_text, .int m_typed, .ref a_M_told, .ref a_M_draft, .ref a_M_s, .ref a_M_images, .ref a_M_kept, .int u.1, .int u.2.1, .int u.2.2.1, .int u.2.2.2, .ref a_M_light, .ref a_M_may, .ref a_M_shine, .ref a_M_worth, .ref a_M_least])), (a_M_text, .inl (cI, 300, .inl m_text))]) [(a_M, .inr (5, [.long m_trace, .ref a_M_text, .int m_typed, .ref a_M_told, .ref a_M_draft, .ref a_M_s, .ref a_M_images, .ref a_M_kept, .int m_at, .int m_sort, .int m_start, .int m_size, .ref a_M_light, .ref a_M_may, .ref a_M_shine, .ref a_M_worth, .ref a_M_least])), (a_M_text, .inl (cI, 300, .inl m_text))] sz) 0 0 (va_A [(a_M, .inr (5, [.long m_trace, .ref a_M_text, .int m_typed, .ref a_M_told, .ref a_M_draft, .ref a_M_s, .ref a_M_images, .ref a_M_kept, .int m_at, .int m_sort, .int m_start, .int m_size, .ref a_M_light, .ref a_M_may, .ref a_M_shine, .ref a_M_worth, .ref a_M_least])), (a_M_text, .inl (cI, 300, .inl m_text))] sz) := by
  refine q_startM (own := RX5) (Qc := gQv D (fun (u : Int32 × Int32 × Int32 × Int32) => post u.1 u.2.1 u.2.2.1 u.2.2.2) (fun (u : Int32 × Int32 × Int32 × Int32) => [(a_M, .inr (5, [.long m_trace, .ref a_M_text, .int m_typed, .ref a_M_told, .ref a_M_draft, .ref a_M_s, .ref a_M_images, .ref a_M_kept, .int u.1, .int u.2.1, .int u.2.2.1, .int u.2.2.2, .ref a_M_light, .ref a_M_may, .ref a_M_shine, .ref a_M_worth, .ref a_M_least])), (a_M_text, .inl (cI, 300, .inl m_text))]) [(a_M, .inr (5, [.long m_trace, .ref a_M_text, .int m_typed, .ref a_M_told, .ref a_M_draft, .ref a_M_s, .ref a_M_images, .ref a_M_kept, .int m_at, .int m_sort, .int m_start, .int m_size, .ref a_M_light, .ref a_M_may, .ref a_M_shine, .ref a_M_worth, .ref a_M_least])), (a_M_text, .inl (cI, 300, .inl m_text))]) (by decide +kernel) rfl (Nat.le_of_ble_eq_true rfl) (fun E F Z M => ?_)
  show Wg E [(a_M, .inr (5, [.long m_trace, .ref a_M_text, .int m_typed, .ref a_M_told, .ref a_M_draft, .ref a_M_s, .ref a_M_images, .ref a_M_kept, .int m_at, .int m_sort, .int m_start, .int m_size, .ref a_M_light, .ref a_M_may, .ref a_M_shine, .ref a_M_worth, .ref a_M_least])), (a_M_text, .inl (cI, 300, .inl m_text))] 0 0 0 [(0, .ref a_M)] []
  unfold wp_X5_token at h
  refine jnW h (fun K => ∀ (m_at_26 : Int32), K m_at_26 → Wg E [(a_M, .inr (5, [.long m_trace, .ref a_M_text, .int m_typed, .ref a_M_told, .ref a_M_draft, .ref a_M_s, .ref a_M_images, .ref a_M_kept, .int m_at_26, .int m_sort, .int m_start, .int m_size, .ref a_M_light, .ref a_M_may, .ref a_M_shine, .ref a_M_worth, .ref a_M_least])), (a_M_text, .inl (cI, 300, .inl m_text))] 0 0 26 [(0, .ref a_M)] []) ?_ ?_
  · intro m_at_26 h
    refine q_aload_n (pc := 26) F 0 dX5_token_26 rfl ?_
    refine q_aload_n (pc := 27) F 0 dX5_token_27 rfl ?_
    refine q_get (pc := 28) F fgX5_58 0 rfl rfl dX5_token_28 ?_
    refine q_put (pc := 31) F M (cs' := [(a_M, .inr (5, [.long m_trace, .ref a_M_text, .int m_typed, .ref a_M_told, .ref a_M_draft, .ref a_M_s, .ref a_M_images, .ref a_M_kept, .int m_at_26, .int m_sort, .int m_at_26, .int m_size, .ref a_M_light, .ref a_M_may, .ref a_M_shine, .ref a_M_worth, .ref a_M_least])), (a_M_text, .inl (cI, 300, .inl m_text))]) fpX5_65 0 rfl rfl rfl (Nat.le_of_ble_eq_true rfl) rfl dX5_token_31 ?_
    refine q_aload_n (pc := 34) F 0 dX5_token_34 rfl ?_
    refine q_aload_n (pc := 35) F 0 dX5_token_35 rfl ?_
    refine q_aload_n (pc := 36) F 0 dX5_token_36 rfl ?_
    refine q_get (pc := 37) F fgX5_58 0 rfl rfl dX5_token_37 ?_
    refine q_cR (q_runV (As := [.int m_at_26]) (rest := [.ref a_M]) (pc := 40) F (fun l sz => ct_X5_byteAt D cI cZ a_M a_M_text a_M_told a_M_draft a_M_s a_M_images a_M_kept a_M_light a_M_may a_M_shine a_M_worth a_M_least m_trace m_typed m_at_26 m_sort m_at_26 m_size m_text m_at_26 h l sz) mc_yX5_byteAt im_yX5_byteAt se_yX5_byteAt mlX5_61 ⟨by decide, by decide⟩ ⟨by decide, by decide⟩ ⟨rfl, rfl⟩ [0, 1] rfl rfl rfl 0 rfl rfl rfl (Nat.le_of_ble_eq_true rfl) dX5_token_40) (fun r40 h => ?_)
    refine q_cR (q_runS (As := [.int r40]) (rest := [.ref a_M]) (pc := 43) F (fun l sz => ct_X5_sortOf D cI cZ r40 h l sz) mc_yX5_sortOf sm_yX5_sortOf mlX5_68 ⟨by decide, by decide⟩ ⟨by decide, by decide⟩ ⟨rfl, rfl⟩ [] rfl rfl rfl rfl (Nat.le_of_ble_eq_true rfl) dX5_token_43) (fun r43 h => ?_)
    refine q_put (pc := 46) F M (cs' := [(a_M, .inr (5, [.long m_trace, .ref a_M_text, .int m_typed, .ref a_M_told, .ref a_M_draft, .ref a_M_s, .ref a_M_images, .ref a_M_kept, .int m_at_26, .int r43, .int m_at_26, .int m_size, .ref a_M_light, .ref a_M_may, .ref a_M_shine, .ref a_M_worth, .ref a_M_least])), (a_M_text, .inl (cI, 300, .inl m_text))]) fpX5_71 0 rfl rfl rfl (Nat.le_of_ble_eq_true rfl) rfl dX5_token_46 ?_
    refine q_aload_n (pc := 49) F 0 dX5_token_49 rfl ?_
    refine q_iconst (pc := 50) F (v := 0) dX5_token_50 (by decide) ?_
    refine q_put (pc := 51) F M (cs' := [(a_M, .inr (5, [.long m_trace, .ref a_M_text, .int m_typed, .ref a_M_told, .ref a_M_draft, .ref a_M_s, .ref a_M_images, .ref a_M_kept, .int m_at_26, .int r43, .int m_at_26, .int (0 : Int32), .ref a_M_light, .ref a_M_may, .ref a_M_shine, .ref a_M_worth, .ref a_M_least])), (a_M_text, .inl (cI, 300, .inl m_text))]) fpX5_74 0 rfl rfl rfl (Nat.le_of_ble_eq_true rfl) rfl dX5_token_51 ?_
    obtain ⟨n54, h⟩ := h
    have lp54 : ∀ (n : Nat) (m_at_h54 : Int32) (m_size_h54 : Int32), wp_X5_token_L54 m_text m_typed r43 m_at_26 post n m_at_h54 m_size_h54 → Wg E [(a_M, .inr (5, [.long m_trace, .ref a_M_text, .int m_typed, .ref a_M_told, .ref a_M_draft, .ref a_M_s, .ref a_M_images, .ref a_M_kept, .int m_at_h54, .int r43, .int m_at_26, .int m_size_h54, .ref a_M_light, .ref a_M_may, .ref a_M_shine, .ref a_M_worth, .ref a_M_least])), (a_M_text, .inl (cI, 300, .inl m_text))] 0 0 54 [(0, .ref a_M)] [] := by
      intro n
      induction n with
      | zero => intro m_at_h54 m_size_h54 h; exact h.elim
      | succ n ih =>
        intro m_at_h54 m_size_h54 h
        unfold wp_X5_token_L54 at h
        refine q_aload_n (pc := 54) F 0 dX5_token_54 rfl ?_
        refine q_get (pc := 55) F fgX5_74 0 rfl rfl dX5_token_55 ?_
        refine jnW h (fun K => K → Wg E [(a_M, .inr (5, [.long m_trace, .ref a_M_text, .int m_typed, .ref a_M_told, .ref a_M_draft, .ref a_M_s, .ref a_M_images, .ref a_M_kept, .int m_at_h54, .int r43, .int m_at_26, .int m_size_h54, .ref a_M_light, .ref a_M_may, .ref a_M_shine, .ref a_M_worth, .ref a_M_least])), (a_M_text, .inl (cI, 300, .inl m_text))] 0 0 102 [(0, .ref a_M)] []) ?_ ?_
        · intro h
          refine q_aload_n (pc := 102) F 0 dX5_token_102 rfl ?_
          refine q_dup (pc := 103) F dX5_token_103 rfl ?_
          refine q_get (pc := 104) F fgX5_58 0 rfl rfl dX5_token_104 ?_
          refine q_iconst (pc := 107) F (v := 1) dX5_token_107 (by decide) ?_
          refine q_iadd (pc := 108) F dX5_token_108 ?_
          refine q_put (pc := 109) F M (cs' := [(a_M, .inr (5, [.long m_trace, .ref a_M_text, .int m_typed, .ref a_M_told, .ref a_M_draft, .ref a_M_s, .ref a_M_images, .ref a_M_kept, .int (m_at_h54 + (1 : Int32)), .int r43, .int m_at_26, .int m_size_h54, .ref a_M_light, .ref a_M_may, .ref a_M_shine, .ref a_M_worth, .ref a_M_least])), (a_M_text, .inl (cI, 300, .inl m_text))]) fpX5_58 0 rfl rfl rfl (Nat.le_of_ble_eq_true rfl) rfl dX5_token_109 ?_
          refine q_aload_n (pc := 112) F 0 dX5_token_112 rfl ?_
          refine q_dup (pc := 113) F dX5_token_113 rfl ?_
          refine q_get (pc := 114) F fgX5_74 0 rfl rfl dX5_token_114 ?_
          refine q_iconst (pc := 117) F (v := 1) dX5_token_117 (by decide) ?_
          refine q_iadd (pc := 118) F dX5_token_118 ?_
          refine q_put (pc := 119) F M (cs' := [(a_M, .inr (5, [.long m_trace, .ref a_M_text, .int m_typed, .ref a_M_told, .ref a_M_draft, .ref a_M_s, .ref a_M_images, .ref a_M_kept, .int (m_at_h54 + (1 : Int32)), .int r43, .int m_at_26, .int (m_size_h54 + (1 : Int32)), .ref a_M_light, .ref a_M_may, .ref a_M_shine, .ref a_M_worth, .ref a_M_least])), (a_M_text, .inl (cI, 300, .inl m_text))]) fpX5_74 0 rfl rfl rfl (Nat.le_of_ble_eq_true rfl) rfl dX5_token_119 ?_
          refine q_goto (pc := 122) (tgt := 54) F dX5_token_122 (by decide) ?_
          exact ih (m_at_h54 + (1 : Int32)) (m_size_h54 + (1 : Int32)) h
        · intro K102 J102 h
          refine jnW h (fun K => K → Wg E [(a_M, .inr (5, [.long m_trace, .ref a_M_text, .int m_typed, .ref a_M_told, .ref a_M_draft, .ref a_M_s, .ref a_M_images, .ref a_M_kept, .int m_at_h54, .int r43, .int m_at_26, .int m_size_h54, .ref a_M_light, .ref a_M_may, .ref a_M_shine, .ref a_M_worth, .ref a_M_least])), (a_M_text, .inl (cI, 300, .inl m_text))] 0 0 68 [(0, .ref a_M)] []) ?_ ?_
          · intro h
            refine q_aload_n (pc := 68) F 0 dX5_token_68 rfl ?_
            refine q_get (pc := 69) F fgX5_71 0 rfl rfl dX5_token_69 ?_
            refine q_iconst (pc := 72) F (v := 1) dX5_token_72 (by decide) ?_
            refine jnW h (fun K => K → Wg E [(a_M, .inr (5, [.long m_trace, .ref a_M_text, .int m_typed, .ref a_M_told, .ref a_M_draft, .ref a_M_s, .ref a_M_images, .ref a_M_kept, .int m_at_h54, .int r43, .int m_at_26, .int m_size_h54, .ref a_M_light, .ref a_M_may, .ref a_M_shine, .ref a_M_worth, .ref a_M_least])), (a_M_text, .inl (cI, 300, .inl m_text))] 0 0 84 [(0, .ref a_M)] []) ?_ ?_
            · intro h
              refine q_aload_n (pc := 84) F 0 dX5_token_84 rfl ?_
              refine q_aload_n (pc := 85) F 0 dX5_token_85 rfl ?_
              refine q_get (pc := 86) F fgX5_58 0 rfl rfl dX5_token_86 ?_
              refine q_cR (q_runV (As := [.int m_at_h54]) (rest := []) (pc := 89) F (fun l sz => ct_X5_byteAt D cI cZ a_M a_M_text a_M_told a_M_draft a_M_s a_M_images a_M_kept a_M_light a_M_may a_M_shine a_M_worth a_M_least m_trace m_typed m_at_h54 r43 m_at_26 m_size_h54 m_text m_at_h54 h l sz) mc_yX5_byteAt im_yX5_byteAt se_yX5_byteAt mlX5_61 ⟨by decide, by decide⟩ ⟨by decide, by decide⟩ ⟨rfl, rfl⟩ [0, 1] rfl rfl rfl 0 rfl rfl rfl (Nat.le_of_ble_eq_true rfl) dX5_token_89) (fun r89 h => ?_)
              refine q_cR (q_runS (As := [.int r89]) (rest := []) (pc := 92) F (fun l sz => ct_X5_sortOf D cI cZ r89 h l sz) mc_yX5_sortOf sm_yX5_sortOf mlX5_68 ⟨by decide, by decide⟩ ⟨by decide, by decide⟩ ⟨rfl, rfl⟩ [] rfl rfl rfl rfl (Nat.le_of_ble_eq_true rfl) dX5_token_92) (fun r92 h => ?_)
              refine q_aload_n (pc := 95) F 0 dX5_token_95 rfl ?_
              refine q_get (pc := 96) F fgX5_71 0 rfl rfl dX5_token_96 ?_
              refine q_icmp_ne (pc := 99) (tgt := 125) F dX5_token_99 (by decide) (fun c99 => ?_) (fun c99 => ?_)
              · have h := h.2 c99
                exact q_vretM (pc := 125) F Z dX5_token_125 (m_at_h54, r43, m_at_26, m_size_h54) h rfl
              · have h := h.1 c99
                exact J102 h
            · intro K84 J84 h
              refine q_icmp_eq (pc := 73) (tgt := 84) F dX5_token_73 (by decide) (fun c73 => ?_) (fun c73 => ?_)
              · have h := h.1 c73
                exact J84 h
              · have h := h.2 c73
                refine q_aload_n (pc := 76) F 0 dX5_token_76 rfl ?_
                refine q_get (pc := 77) F fgX5_71 0 rfl rfl dX5_token_77 ?_
                refine q_iconst (pc := 80) F (v := 2) dX5_token_80 (by decide) ?_
                refine q_icmp_ne (pc := 81) (tgt := 125) F dX5_token_81 (by decide) (fun c81 => ?_) (fun c81 => ?_)
                · have h := h.2 c81
                  exact q_vretM (pc := 125) F Z dX5_token_125 (m_at_h54, r43, m_at_26, m_size_h54) h rfl
                · have h := h.1 c81
                  exact J84 h
          · intro K68 J68 h
            refine q_if_ne (pc := 58) (tgt := 68) F dX5_token_58 (by decide) (fun c58 => ?_) (fun c58 => ?_)
            · have h := h.2 c58
              exact J68 h
            · have h := h.1 c58
              refine q_aload_n (pc := 61) F 0 dX5_token_61 rfl ?_
              refine q_get (pc := 62) F fgX5_71 0 rfl rfl dX5_token_62 ?_
              refine q_if_ne (pc := 65) (tgt := 102) F dX5_token_65 (by decide) (fun c65 => ?_) (fun c65 => ?_)
              · have h := h.2 c65
                exact J102 h
              · have h := h.1 c65
                exact J68 h
    exact lp54 n54 m_at_26 (0 : Int32) h
  · intro K26 J26 h
    obtain ⟨n0, h⟩ := h
    have lp0 : ∀ (n : Nat) (m_at_h0 : Int32), wp_X5_token_L0 m_text m_typed K26 n m_at_h0 → Wg E [(a_M, .inr (5, [.long m_trace, .ref a_M_text, .int m_typed, .ref a_M_told, .ref a_M_draft, .ref a_M_s, .ref a_M_images, .ref a_M_kept, .int m_at_h0, .int m_sort, .int m_start, .int m_size, .ref a_M_light, .ref a_M_may, .ref a_M_shine, .ref a_M_worth, .ref a_M_least])), (a_M_text, .inl (cI, 300, .inl m_text))] 0 0 0 [(0, .ref a_M)] [] := by
      intro n
      induction n with
      | zero => intro m_at_h0 h; exact h.elim
      | succ n ih =>
        intro m_at_h0 h
        unfold wp_X5_token_L0 at h
        refine q_aload_n (pc := 0) F 0 dX5_token_0 rfl ?_
        refine q_aload_n (pc := 1) F 0 dX5_token_1 rfl ?_
        refine q_get (pc := 2) F fgX5_58 0 rfl rfl dX5_token_2 ?_
        refine q_cR (q_runV (As := [.int m_at_h0]) (rest := []) (pc := 5) F (fun l sz => ct_X5_byteAt D cI cZ a_M a_M_text a_M_told a_M_draft a_M_s a_M_images a_M_kept a_M_light a_M_may a_M_shine a_M_worth a_M_least m_trace m_typed m_at_h0 m_sort m_start m_size m_text m_at_h0 h l sz) mc_yX5_byteAt im_yX5_byteAt se_yX5_byteAt mlX5_61 ⟨by decide, by decide⟩ ⟨by decide, by decide⟩ ⟨rfl, rfl⟩ [0, 1] rfl rfl rfl 0 rfl rfl rfl (Nat.le_of_ble_eq_true rfl) dX5_token_5) (fun r5 h => ?_)
        refine q_bipush (pc := 8) F (v := 32) dX5_token_8 (by decide) ?_
        refine q_icmp_ne (pc := 10) (tgt := 26) F dX5_token_10 (by decide) (fun c10 => ?_) (fun c10 => ?_)
        · have h := h.2 c10
          exact J26 m_at_h0 h
        · have h := h.1 c10
          refine q_aload_n (pc := 13) F 0 dX5_token_13 rfl ?_
          refine q_dup (pc := 14) F dX5_token_14 rfl ?_
          refine q_get (pc := 15) F fgX5_58 0 rfl rfl dX5_token_15 ?_
          refine q_iconst (pc := 18) F (v := 1) dX5_token_18 (by decide) ?_
          refine q_iadd (pc := 19) F dX5_token_19 ?_
          refine q_put (pc := 20) F M (cs' := [(a_M, .inr (5, [.long m_trace, .ref a_M_text, .int m_typed, .ref a_M_told, .ref a_M_draft, .ref a_M_s, .ref a_M_images, .ref a_M_kept, .int (m_at_h0 + (1 : Int32)), .int m_sort, .int m_start, .int m_size, .ref a_M_light, .ref a_M_may, .ref a_M_shine, .ref a_M_worth, .ref a_M_least])), (a_M_text, .inl (cI, 300, .inl m_text))]) fpX5_58 0 rfl rfl rfl (Nat.le_of_ble_eq_true rfl) rfl dX5_token_20 ?_
          refine q_goto (pc := 23) (tgt := 0) F dX5_token_23 (by decide) ?_
          exact ih (m_at_h0 + (1 : Int32)) h
    exact lp0 n0 m_at h

def wp_X5_verb_L4 (m_text : Nat → Int32) (m_typed : Int32) (m_sort : Int32) (m_start : Int32) (m_size : Int32) (K50 : Int64 → Prop) : Nat → Int64 → Int32 → Prop
  | 0, _, _ => False
  | n + 1, x1, x3 => ((m_size ≤ x3 → K50 x1) ∧ (¬ m_size ≤ x3 → (((7 : Int32) ≤ x3 → K50 x1) ∧ (¬ (7 : Int32) ≤ x3 → ((m_sort = (1 : Int32) → (wp_X5_byteAt (m_start + x3) m_text m_typed (fun (r38 : Int32) => (∀ x1_43 : Int64, x1_43 = ((256 : Int64) * x1) + (Int32.toInt64 r38) → wp_X5_verb_L4 m_text m_typed m_sort m_start m_size K50 n x1_43 (x3 + (1 : Int32)))))) ∧ (¬ m_sort = (1 : Int32) → K50 x1))))))
def wp_X5_verb (m_text : Nat → Int32) (m_typed : Int32) (m_sort : Int32) (m_start : Int32) (m_size : Int32) (post : Int32 → Prop) : Prop := (jn (fun (K50 : Int64 → Prop) => (∃ n4 : Nat, wp_X5_verb_L4 m_text m_typed m_sort m_start m_size K50 n4 (0 : Int64) (0 : Int32))) (fun (x1_50 : Int64) => (jn (fun (K88 : Int32 → Prop) => (((lg_cmp x1_50 (1751215212 : Int64)) = (0 : Int32) → K88 (0 : Int32)) ∧ (¬ (lg_cmp x1_50 (1751215212 : Int64)) = (0 : Int32) → (((lg_cmp x1_50 (2002873452 : Int64)) = (0 : Int32) → K88 (1 : Int32)) ∧ (¬ (lg_cmp x1_50 (2002873452 : Int64)) = (0 : Int32) → (((lg_cmp x1_50 (1685024626 : Int64)) = (0 : Int32) → K88 (2 : Int32)) ∧ (¬ (lg_cmp x1_50 (1685024626 : Int64)) = (0 : Int32) → K88 (-9 : Int32)))))))) (fun (y88 : Int32) => ((y88 = (-9 : Int32) → (((lg_cmp x1_50 (1818324336 : Int64)) = (0 : Int32) → post (3 : Int32)) ∧ (¬ (lg_cmp x1_50 (1818324336 : Int64)) = (0 : Int32) → (((lg_cmp x1_50 (123581014175598 : Int64)) = (0 : Int32) → post (4 : Int32)) ∧ (¬ (lg_cmp x1_50 (123581014175598 : Int64)) = (0 : Int32) → (((lg_cmp x1_50 (7102839 : Int64)) = (0 : Int32) → post (5 : Int32)) ∧ (¬ (lg_cmp x1_50 (7102839 : Int64)) = (0 : Int32) → post (-9 : Int32)))))))) ∧ (¬ y88 = (-9 : Int32) → post y88))))))
abbrev rm_X5_verb : Room := { frames := 1, cells := 0, slots := 0, locals := 21 }
set_option maxRecDepth 100000 in
set_option maxHeartbeats 4000000 in
theorem ct_X5_verb (D : va_G) (cI cZ : ClassId) (a_M a_M_text a_M_told a_M_draft a_M_s a_M_images a_M_kept a_M_light a_M_may a_M_shine a_M_worth a_M_least : Nat) (m_trace : Int64) (m_typed : Int32) (m_at : Int32) (m_sort : Int32) (m_start : Int32) (m_size : Int32) (m_text : Nat → Int32) {post : Int32 → Prop} (h : wp_X5_verb m_text m_typed m_sort m_start m_size post) (l : Launch) (sz : Nat) : Met l yX5_verb (wsM yX5_verb cX5_verb 4 (some .int)) rm_X5_verb (va_Pc [.ref a_M] (gP D cI cZ [(a_M, .inr (5, [.long m_trace, .ref a_M_text, .int m_typed, .ref a_M_told, .ref a_M_draft, .ref a_M_s, .ref a_M_images, .ref a_M_kept, .int m_at, .int m_sort, .int m_start, .int m_size, .ref a_M_light, .ref a_M_may, .ref a_M_shine, .ref a_M_worth, .ref a_M_least])), (a_M_text, .inl (cI, 300, .inl m_text))] sz)) (gR post) 0 0 (fun _ => False) := by
  refine q_startR (own := RX5) (by decide +kernel) rfl (Nat.le_of_ble_eq_true rfl) (fun E F Z => ?_)
  show Wg E [(a_M, .inr (5, [.long m_trace, .ref a_M_text, .int m_typed, .ref a_M_told, .ref a_M_draft, .ref a_M_s, .ref a_M_images, .ref a_M_kept, .int m_at, .int m_sort, .int m_start, .int m_size, .ref a_M_light, .ref a_M_may, .ref a_M_shine, .ref a_M_worth, .ref a_M_least])), (a_M_text, .inl (cI, 300, .inl m_text))] 0 0 0 [(0, .ref a_M)] []
  unfold wp_X5_verb at h
  refine q_lconst (pc := 0) F (v := 0) dX5_verb_0 (by decide) ?_
  refine q_lstore_n (pc := 1) F (lv' := [(1, .long (0 : Int64)), (0, .ref a_M)]) dX5_verb_1 (by decide) rfl ?_
  refine q_iconst (pc := 2) F (v := 0) dX5_verb_2 (by decide) ?_
  refine q_istore_n (pc := 3) F (lv' := [(3, .int (0 : Int32)), (1, .long (0 : Int64)), (0, .ref a_M)]) dX5_verb_3 (by decide) rfl ?_
  refine jnW h (fun K => ∀ (x1_50 : Int64), K x1_50 → Wg E [(a_M, .inr (5, [.long m_trace, .ref a_M_text, .int m_typed, .ref a_M_told, .ref a_M_draft, .ref a_M_s, .ref a_M_images, .ref a_M_kept, .int m_at, .int m_sort, .int m_start, .int m_size, .ref a_M_light, .ref a_M_may, .ref a_M_shine, .ref a_M_worth, .ref a_M_least])), (a_M_text, .inl (cI, 300, .inl m_text))] 0 0 50 [(1, .long x1_50)] []) ?_ ?_
  · intro x1_50 h
    refine q_lload_n (pc := 50) F 0 dX5_verb_50 rfl ?_
    refine q_ldc2 (pc := 51) F kX5_79 dX5_verb_51 ?_
    refine q_lcmp (pc := 54) F dX5_verb_54 ?_
    refine jnW h (fun K => ∀ (y88 : Int32), K y88 → Wg E [(a_M, .inr (5, [.long m_trace, .ref a_M_text, .int m_typed, .ref a_M_told, .ref a_M_draft, .ref a_M_s, .ref a_M_images, .ref a_M_kept, .int m_at, .int m_sort, .int m_start, .int m_size, .ref a_M_light, .ref a_M_may, .ref a_M_shine, .ref a_M_worth, .ref a_M_least])), (a_M_text, .inl (cI, 300, .inl m_text))] 0 0 88 [(1, .long x1_50)] [.int y88]) ?_ ?_
    · intro y88 h
      refine q_istore_n (pc := 88) F (lv' := [(3, .int y88), (1, .long x1_50)]) dX5_verb_88 (by decide) rfl ?_
      refine q_iload_n (pc := 89) F 0 dX5_verb_89 rfl ?_
      refine q_bipush (pc := 90) F (v := -9) dX5_verb_90 (by decide) ?_
      refine q_icmp_eq (pc := 92) (tgt := 99) F dX5_verb_92 (by decide) (fun c92 => ?_) (fun c92 => ?_)
      · have h := h.1 c92
        refine q_lload_n (pc := 99) F 1 dX5_verb_99 rfl ?_
        refine q_ldc2 (pc := 100) F kX5_85 dX5_verb_100 ?_
        refine q_lcmp (pc := 103) F dX5_verb_103 ?_
        refine q_if_ne (pc := 104) (tgt := 111) F dX5_verb_104 (by decide) (fun c104 => ?_) (fun c104 => ?_)
        · have h := h.2 c104
          refine q_lload_n (pc := 111) F 1 dX5_verb_111 rfl ?_
          refine q_ldc2 (pc := 112) F kX5_87 dX5_verb_112 ?_
          refine q_lcmp (pc := 115) F dX5_verb_115 ?_
          refine q_if_ne (pc := 116) (tgt := 123) F dX5_verb_116 (by decide) (fun c116 => ?_) (fun c116 => ?_)
          · have h := h.2 c116
            refine q_lload_n (pc := 123) F 1 dX5_verb_123 rfl ?_
            refine q_ldc2 (pc := 124) F kX5_89 dX5_verb_124 ?_
            refine q_lcmp (pc := 127) F dX5_verb_127 ?_
            refine q_if_ne (pc := 128) (tgt := 135) F dX5_verb_128 (by decide) (fun c128 => ?_) (fun c128 => ?_)
            · have h := h.2 c128
              refine q_bipush (pc := 135) F (v := -9) dX5_verb_135 (by decide) ?_
              exact q_iretR (pc := 137) F Z dX5_verb_137 h
            · have h := h.1 c128
              refine q_iconst (pc := 131) F (v := 5) dX5_verb_131 (by decide) ?_
              refine q_goto (pc := 132) (tgt := 137) F dX5_verb_132 (by decide) ?_
              exact q_iretR (pc := 137) F Z dX5_verb_137 h
          · have h := h.1 c116
            refine q_iconst (pc := 119) F (v := 4) dX5_verb_119 (by decide) ?_
            refine q_goto (pc := 120) (tgt := 137) F dX5_verb_120 (by decide) ?_
            exact q_iretR (pc := 137) F Z dX5_verb_137 h
        · have h := h.1 c104
          refine q_iconst (pc := 107) F (v := 3) dX5_verb_107 (by decide) ?_
          refine q_goto (pc := 108) (tgt := 137) F dX5_verb_108 (by decide) ?_
          exact q_iretR (pc := 137) F Z dX5_verb_137 h
      · have h := h.2 c92
        refine q_iload_n (pc := 95) F 0 dX5_verb_95 rfl ?_
        refine q_goto (pc := 96) (tgt := 137) F dX5_verb_96 (by decide) ?_
        exact q_iretR (pc := 137) F Z dX5_verb_137 h
    · intro K88 J88 h
      refine q_if_ne (pc := 55) (tgt := 62) F dX5_verb_55 (by decide) (fun c55 => ?_) (fun c55 => ?_)
      · have h := h.2 c55
        refine q_lload_n (pc := 62) F 0 dX5_verb_62 rfl ?_
        refine q_ldc2 (pc := 63) F kX5_81 dX5_verb_63 ?_
        refine q_lcmp (pc := 66) F dX5_verb_66 ?_
        refine q_if_ne (pc := 67) (tgt := 74) F dX5_verb_67 (by decide) (fun c67 => ?_) (fun c67 => ?_)
        · have h := h.2 c67
          refine q_lload_n (pc := 74) F 0 dX5_verb_74 rfl ?_
          refine q_ldc2 (pc := 75) F kX5_83 dX5_verb_75 ?_
          refine q_lcmp (pc := 78) F dX5_verb_78 ?_
          refine q_if_ne (pc := 79) (tgt := 86) F dX5_verb_79 (by decide) (fun c79 => ?_) (fun c79 => ?_)
          · have h := h.2 c79
            refine q_bipush (pc := 86) F (v := -9) dX5_verb_86 (by decide) ?_
            exact J88 (-9 : Int32) h
          · have h := h.1 c79
            refine q_iconst (pc := 82) F (v := 2) dX5_verb_82 (by decide) ?_
            refine q_goto (pc := 83) (tgt := 88) F dX5_verb_83 (by decide) ?_
            exact J88 (2 : Int32) h
        · have h := h.1 c67
          refine q_iconst (pc := 70) F (v := 1) dX5_verb_70 (by decide) ?_
          refine q_goto (pc := 71) (tgt := 88) F dX5_verb_71 (by decide) ?_
          exact J88 (1 : Int32) h
      · have h := h.1 c55
        refine q_iconst (pc := 58) F (v := 0) dX5_verb_58 (by decide) ?_
        refine q_goto (pc := 59) (tgt := 88) F dX5_verb_59 (by decide) ?_
        exact J88 (0 : Int32) h
  · intro K50 J50 h
    obtain ⟨n4, h⟩ := h
    have lp4 : ∀ (n : Nat) (x1_h4 : Int64) (x3_h4 : Int32), wp_X5_verb_L4 m_text m_typed m_sort m_start m_size K50 n x1_h4 x3_h4 → Wg E [(a_M, .inr (5, [.long m_trace, .ref a_M_text, .int m_typed, .ref a_M_told, .ref a_M_draft, .ref a_M_s, .ref a_M_images, .ref a_M_kept, .int m_at, .int m_sort, .int m_start, .int m_size, .ref a_M_light, .ref a_M_may, .ref a_M_shine, .ref a_M_worth, .ref a_M_least])), (a_M_text, .inl (cI, 300, .inl m_text))] 0 0 4 [(0, .ref a_M), (1, .long x1_h4), (3, .int x3_h4)] [] := by
      intro n
      induction n with
      | zero => intro x1_h4 x3_h4 h; exact h.elim
      | succ n ih =>
        intro x1_h4 x3_h4 h
        unfold wp_X5_verb_L4 at h
        refine q_iload_n (pc := 4) F 2 dX5_verb_4 rfl ?_
        refine q_aload_n (pc := 5) F 0 dX5_verb_5 rfl ?_
        refine q_get (pc := 6) F fgX5_74 0 rfl rfl dX5_verb_6 ?_
        refine q_icmp_ge (pc := 9) (tgt := 50) F dX5_verb_9 (by decide) (fun c9 => ?_) (fun c9 => ?_)
        · have h := h.1 c9
          refine q_lv (lv' := [(1, .long x1_h4)]) [1] rfl ?_
          exact J50 x1_h4 h
        · have h := h.2 c9
          refine q_iload_n (pc := 12) F 2 dX5_verb_12 rfl ?_
          refine q_bipush (pc := 13) F (v := 7) dX5_verb_13 (by decide) ?_
          refine q_icmp_ge (pc := 15) (tgt := 50) F dX5_verb_15 (by decide) (fun c15 => ?_) (fun c15 => ?_)
          · have h := h.1 c15
            refine q_lv (lv' := [(1, .long x1_h4)]) [1] rfl ?_
            exact J50 x1_h4 h
          · have h := h.2 c15
            refine q_aload_n (pc := 18) F 0 dX5_verb_18 rfl ?_
            refine q_get (pc := 19) F fgX5_71 0 rfl rfl dX5_verb_19 ?_
            refine q_iconst (pc := 22) F (v := 1) dX5_verb_22 (by decide) ?_
            refine q_icmp_ne (pc := 23) (tgt := 50) F dX5_verb_23 (by decide) (fun c23 => ?_) (fun c23 => ?_)
            · have h := h.2 c23
              refine q_lv (lv' := [(1, .long x1_h4)]) [1] rfl ?_
              exact J50 x1_h4 h
            · have h := h.1 c23
              refine q_ldc2 (pc := 26) F kX5_77 dX5_verb_26 ?_
              refine q_lload_n (pc := 29) F 1 dX5_verb_29 rfl ?_
              refine q_lmul (pc := 30) F dX5_verb_30 ?_
              refine q_aload_n (pc := 31) F 0 dX5_verb_31 rfl ?_
              refine q_aload_n (pc := 32) F 0 dX5_verb_32 rfl ?_
              refine q_get (pc := 33) F fgX5_65 0 rfl rfl dX5_verb_33 ?_
              refine q_iload_n (pc := 36) F 2 dX5_verb_36 rfl ?_
              refine q_iadd (pc := 37) F dX5_verb_37 ?_
              refine q_cR (q_runV (As := [.int (m_start + x3_h4)]) (rest := [.long ((256 : Int64) * x1_h4)]) (pc := 38) F (fun l sz => ct_X5_byteAt D cI cZ a_M a_M_text a_M_told a_M_draft a_M_s a_M_images a_M_kept a_M_light a_M_may a_M_shine a_M_worth a_M_least m_trace m_typed m_at m_sort m_start m_size m_text (m_start + x3_h4) h l sz) mc_yX5_byteAt im_yX5_byteAt se_yX5_byteAt mlX5_61 ⟨by decide, by decide⟩ ⟨by decide, by decide⟩ ⟨rfl, rfl⟩ [0, 1] rfl rfl rfl 0 rfl rfl rfl (Nat.le_of_ble_eq_true rfl) dX5_verb_38) (fun r38 h => ?_)
              refine q_i2l (pc := 41) F dX5_verb_41 ?_
              refine q_ladd (pc := 42) F dX5_verb_42 ?_
              refine q_topl (fun x1_43 ex1_43 => ?_)
              have h := h x1_43 ex1_43
              refine q_lstore_n (pc := 43) F (lv' := [(1, .long x1_43), (0, .ref a_M), (3, .int x3_h4)]) dX5_verb_43 (by decide) rfl ?_
              refine q_iinc (pc := 44) F (v := x3_h4 + (1 : Int32)) (lv' := [(3, .int (x3_h4 + (1 : Int32))), (1, .long x1_43), (0, .ref a_M)]) 2 dX5_verb_44 rfl rfl (by decide) rfl ?_
              refine q_goto (pc := 47) (tgt := 4) F dX5_verb_47 (by decide) ?_
              refine q_lv (lv' := [(0, .ref a_M), (1, .long x1_43), (3, .int (x3_h4 + (1 : Int32)))]) [2, 1, 0] rfl ?_
              exact ih x1_43 (x3_h4 + (1 : Int32)) h
    refine q_lv (lv' := [(0, .ref a_M), (1, .long (0 : Int64)), (3, .int (0 : Int32))]) [2, 1, 0] rfl ?_
    exact lp4 n4 (0 : Int64) (0 : Int32) h

def wp_X5_number (p0 : Int32) (p1 : Int32) (m_text : Nat → Int32) (m_typed : Int32) (m_at : Int32) (m_sort : Int32) (m_start : Int32) (m_size : Int32) (post : Int32 → Int32 → Int32 → Int32 → Int32 → Prop) : Prop := (wp_X5_token m_text m_typed m_at m_sort m_start m_size (fun (m_at_1 : Int32) (m_sort_1 : Int32) (m_start_1 : Int32) (m_size_1 : Int32) => (wp_X5_byteAt m_start_1 m_text m_typed (fun (r9 : Int32) => (jn (fun (K45 : Prop) => ((m_sort_1 = (2 : Int32) → ((m_size_1 = (1 : Int32) → (wp_X5_in (r9 - (48 : Int32)) p0 p1 (fun (r35 : Int32) => ((r35 = (0 : Int32) → K45) ∧ (¬ r35 = (0 : Int32) → post (r9 - (48 : Int32)) m_at_1 m_sort_1 m_start_1 m_size_1))))) ∧ (¬ m_size_1 = (1 : Int32) → K45))) ∧ (¬ m_sort_1 = (2 : Int32) → K45))) (post (-9 : Int32) m_at_1 m_sort_1 m_start_1 m_size_1))))))
abbrev rm_X5_number : Room := { frames := 3, cells := 0, slots := 0, locals := 62 }
set_option maxRecDepth 100000 in
set_option maxHeartbeats 4000000 in
theorem ct_X5_number (D : va_G) (cI cZ : ClassId) (a_M a_M_text a_M_told a_M_draft a_M_s a_M_images a_M_kept a_M_light a_M_may a_M_shine a_M_worth a_M_least : Nat) (m_trace : Int64) (m_typed : Int32) (m_at : Int32) (m_sort : Int32) (m_start : Int32) (m_size : Int32) (m_text : Nat → Int32) (p0 : Int32) (p1 : Int32) {post : Int32 → Int32 → Int32 → Int32 → Int32 → Prop} (h : wp_X5_number p0 p1 m_text m_typed m_at m_sort m_start m_size post) (l : Launch) (sz : Nat) : Met l yX5_number (wsM yX5_number cX5_number 4 (some .int)) rm_X5_number (va_Pc [.ref a_M, .int p0, .int p1] (gP D cI cZ [(a_M, .inr (5, [.long m_trace, .ref a_M_text, .int m_typed, .ref a_M_told, .ref a_M_draft, .ref a_M_s, .ref a_M_images, .ref a_M_kept, .int m_at, .int m_sort, .int m_start, .int m_size, .ref a_M_light, .ref a_M_may, .ref a_M_shine, .ref a_M_worth, .ref a_M_least])), (a_M_text, .inl (cI, 300, .inl m_text))] sz)) (gQi D (fun r (u : Int32 × Int32 × Int32 × Int32) => post r u.1 u.2.1 u.2.2.1 u.2.2.2) (fun (u : Int32 × Int32 × Int32 × Int32) => [(a_M, .inr (5, [.long m_trace, .ref a_M_text, .int m_typed, .ref a_M_told, .ref a_M_draft, .ref a_M_s, .ref a_M_images, .ref a_M_kept, .int u.1, .int u.2.1, .int u.2.2.1, .int u.2.2.2, .ref a_M_light, .ref a_M_may, .ref a_M_shine, .ref a_M_worth, .ref a_M_least])), (a_M_text, .inl (cI, 300, .inl m_text))]) [(a_M, .inr (5, [.long m_trace, .ref a_M_text, .int m_typed, .ref a_M_told, .ref a_M_draft, .ref a_M_s, .ref a_M_images, .ref a_M_kept, .int m_at, .int m_sort, .int m_start, .int m_size, .ref a_M_light, .ref a_M_may, .ref a_M_shine, .ref a_M_worth, .ref a_M_least])), (a_M_text, .inl (cI, 300, .inl m_text))] sz) 0 0 (va_A [(a_M, .inr (5, [.long m_trace, .ref a_M_text, .int m_typed, .ref a_M_told, .ref a_M_draft, .ref a_M_s, .ref a_M_images, .ref a_M_kept, .int m_at, .int m_sort, .int m_start, .int m_size, .ref a_M_light, .ref a_M_may, .ref a_M_shine, .ref a_M_worth, .ref a_M_least])), (a_M_text, .inl (cI, 300, .inl m_text))] sz) := by
  refine q_startM (own := RX5) (Qc := gQi D (fun r (u : Int32 × Int32 × Int32 × Int32) => post r u.1 u.2.1 u.2.2.1 u.2.2.2) (fun (u : Int32 × Int32 × Int32 × Int32) => [(a_M, .inr (5, [.long m_trace, .ref a_M_text, .int m_typed, .ref a_M_told, .ref a_M_draft, .ref a_M_s, .ref a_M_images, .ref a_M_kept, .int u.1, .int u.2.1, .int u.2.2.1, .int u.2.2.2, .ref a_M_light, .ref a_M_may, .ref a_M_shine, .ref a_M_worth, .ref a_M_least])), (a_M_text, .inl (cI, 300, .inl m_text))]) [(a_M, .inr (5, [.long m_trace, .ref a_M_text, .int m_typed, .ref a_M_told, .ref a_M_draft, .ref a_M_s, .ref a_M_images, .ref a_M_kept, .int m_at, .int m_sort, .int m_start, .int m_size, .ref a_M_light, .ref a_M_may, .ref a_M_shine, .ref a_M_worth, .ref a_M_least])), (a_M_text, .inl (cI, 300, .inl m_text))]) (by decide +kernel) rfl (Nat.le_of_ble_eq_true rfl) (fun E F Z M => ?_)
  show Wg E [(a_M, .inr (5, [.long m_trace, .ref a_M_text, .int m_typed, .ref a_M_told, .ref a_M_draft, .ref a_M_s, .ref a_M_images, .ref a_M_kept, .int m_at, .int m_sort, .int m_start, .int m_size, .ref a_M_light, .ref a_M_may, .ref a_M_shine, .ref a_M_worth, .ref a_M_least])), (a_M_text, .inl (cI, 300, .inl m_text))] 0 0 0 [(0, .ref a_M), (1, .int p0), (2, .int p1)] []
  unfold wp_X5_number at h
  refine q_aload_n (pc := 0) F 0 dX5_number_0 rfl ?_
  refine q_cMv (wr := []) (pc := 1) F M (q_runV (As := []) (rest := []) (pc := 1) F (fun l sz => ct_X5_token D cI cZ a_M a_M_text a_M_told a_M_draft a_M_s a_M_images a_M_kept a_M_light a_M_may a_M_shine a_M_worth a_M_least m_trace m_typed m_at m_sort m_start m_size m_text h l sz) mc_yX5_token im_yX5_token se_yX5_token mlX5_91 ⟨by decide, by decide⟩ ⟨by decide, by decide⟩ ⟨rfl, rfl⟩ [0, 1] rfl rfl rfl 0 rfl rfl rfl (Nat.le_of_ble_eq_true rfl) dX5_number_1) [0, 1] [] rfl rfl rfl (by decide) (fun u1 h => ?_)
  obtain ⟨m_at_1, m_sort_1, m_start_1, m_size_1⟩ := u1
  refine q_cs (cs' := [(a_M, .inr (5, [.long m_trace, .ref a_M_text, .int m_typed, .ref a_M_told, .ref a_M_draft, .ref a_M_s, .ref a_M_images, .ref a_M_kept, .int m_at_1, .int m_sort_1, .int m_start_1, .int m_size_1, .ref a_M_light, .ref a_M_may, .ref a_M_shine, .ref a_M_worth, .ref a_M_least])), (a_M_text, .inl (cI, 300, .inl m_text))]) [0, 1] rfl rfl ?_
  refine q_aload_n (pc := 4) F 0 dX5_number_4 rfl ?_
  refine q_aload_n (pc := 5) F 0 dX5_number_5 rfl ?_
  refine q_get (pc := 6) F fgX5_65 0 rfl rfl dX5_number_6 ?_
  refine q_cR (q_runV (As := [.int m_start_1]) (rest := []) (pc := 9) F (fun l sz => ct_X5_byteAt D cI cZ a_M a_M_text a_M_told a_M_draft a_M_s a_M_images a_M_kept a_M_light a_M_may a_M_shine a_M_worth a_M_least m_trace m_typed m_at_1 m_sort_1 m_start_1 m_size_1 m_text m_start_1 h l sz) mc_yX5_byteAt im_yX5_byteAt se_yX5_byteAt mlX5_61 ⟨by decide, by decide⟩ ⟨by decide, by decide⟩ ⟨rfl, rfl⟩ [0, 1] rfl rfl rfl 0 rfl rfl rfl (Nat.le_of_ble_eq_true rfl) dX5_number_9) (fun r9 h => ?_)
  refine q_bipush (pc := 12) F (v := 48) dX5_number_12 (by decide) ?_
  refine q_isub (pc := 14) F dX5_number_14 ?_
  refine q_istore_n (pc := 15) F (lv' := [(3, .int (r9 - (48 : Int32))), (0, .ref a_M), (1, .int p0), (2, .int p1)]) dX5_number_15 (by decide) rfl ?_
  refine q_aload_n (pc := 16) F 1 dX5_number_16 rfl ?_
  refine q_get (pc := 17) F fgX5_71 0 rfl rfl dX5_number_17 ?_
  refine q_iconst (pc := 20) F (v := 2) dX5_number_20 (by decide) ?_
  refine jnW h (fun K => K → Wg E [(a_M, .inr (5, [.long m_trace, .ref a_M_text, .int m_typed, .ref a_M_told, .ref a_M_draft, .ref a_M_s, .ref a_M_images, .ref a_M_kept, .int m_at_1, .int m_sort_1, .int m_start_1, .int m_size_1, .ref a_M_light, .ref a_M_may, .ref a_M_shine, .ref a_M_worth, .ref a_M_least])), (a_M_text, .inl (cI, 300, .inl m_text))] 0 0 45 [] []) ?_ ?_
  · intro h
    refine q_bipush (pc := 45) F (v := -9) dX5_number_45 (by decide) ?_
    exact q_iretM (pc := 47) F Z dX5_number_47 (m_at_1, m_sort_1, m_start_1, m_size_1) h rfl
  · intro K45 J45 h
    refine q_icmp_ne (pc := 21) (tgt := 45) F dX5_number_21 (by decide) (fun c21 => ?_) (fun c21 => ?_)
    · have h := h.2 c21
      refine q_lv (lv' := []) [] rfl ?_
      exact J45 h
    · have h := h.1 c21
      refine q_aload_n (pc := 24) F 1 dX5_number_24 rfl ?_
      refine q_get (pc := 25) F fgX5_74 0 rfl rfl dX5_number_25 ?_
      refine q_iconst (pc := 28) F (v := 1) dX5_number_28 (by decide) ?_
      refine q_icmp_ne (pc := 29) (tgt := 45) F dX5_number_29 (by decide) (fun c29 => ?_) (fun c29 => ?_)
      · have h := h.2 c29
        refine q_lv (lv' := []) [] rfl ?_
        exact J45 h
      · have h := h.1 c29
        refine q_iload_n (pc := 32) F 0 dX5_number_32 rfl ?_
        refine q_iload_n (pc := 33) F 2 dX5_number_33 rfl ?_
        refine q_iload_n (pc := 34) F 3 dX5_number_34 rfl ?_
        refine q_cR (q_runS (As := [.int (r9 - (48 : Int32)), .int p0, .int p1]) (rest := []) (pc := 35) F (fun l sz => ct_X5_in D cI cZ (r9 - (48 : Int32)) p0 p1 h l sz) mc_yX5_in sm_yX5_in mlX5_48 ⟨by decide, by decide⟩ ⟨by decide, by decide⟩ ⟨rfl, rfl⟩ [] rfl rfl rfl rfl (Nat.le_of_ble_eq_true rfl) dX5_number_35) (fun r35 h => ?_)
        obtain ⟨hb35, h⟩ := h
        refine q_if_eq (pc := 38) (tgt := 45) F dX5_number_38 (by decide) (fun c38 => ?_) (fun c38 => ?_)
        · have h := h.1 c38
          refine q_lv (lv' := []) [] rfl ?_
          exact J45 h
        · have h := h.2 c38
          refine q_iload_n (pc := 41) F 0 dX5_number_41 rfl ?_
          refine q_goto (pc := 42) (tgt := 47) F dX5_number_42 (by decide) ?_
          exact q_iretM (pc := 47) F Z dX5_number_47 (m_at_1, m_sort_1, m_start_1, m_size_1) h rfl

def wp_X5_place (p0 : Int32) (m_text : Nat → Int32) (m_typed : Int32) (m_draft : Nat → Int32) (m_at : Int32) (m_sort : Int32) (m_start : Int32) (m_size : Int32) (post : Int32 → Int32 → Int32 → Int32 → Int32 → Prop) : Prop := (wp_X5_number (0 : Int32) ((m_draft 0) - (1 : Int32)) m_text m_typed m_at m_sort m_start m_size (fun (r10 : Int32) (m_at_10 : Int32) (m_sort_10 : Int32) (m_start_10 : Int32) (m_size_10 : Int32) => ((r10 = (-9 : Int32) → post (-9 : Int32) m_at_10 m_sort_10 m_start_10 m_size_10) ∧ (¬ r10 = (-9 : Int32) → (wp_X5_number (0 : Int32) ((m_draft 1) - (1 : Int32)) m_text m_typed m_at_10 m_sort_10 m_start_10 m_size_10 (fun (r33 : Int32) (m_at_33 : Int32) (m_sort_33 : Int32) (m_start_33 : Int32) (m_size_33 : Int32) => (∀ x4_47 : Int32, x4_47 = ((m_draft 0) * r33) + r10 → (jn (fun (K74 : Prop) => ((r33 = (-9 : Int32) → K74) ∧ (¬ r33 = (-9 : Int32) → (jn (fun (K79 : Prop) => ((p0 = (0 : Int32) → ((((jshr (m_draft 5) x4_47) &&& (1 : Int32)) = (1 : Int32) → K74) ∧ (¬ ((jshr (m_draft 5) x4_47) &&& (1 : Int32)) = (1 : Int32) → K79))) ∧ (¬ p0 = (0 : Int32) → K79))) (post x4_47 m_at_33 m_sort_33 m_start_33 m_size_33))))) (post (-9 : Int32) m_at_33 m_sort_33 m_start_33 m_size_33)))))))))
abbrev rm_X5_place : Room := { frames := 4, cells := 0, slots := 0, locals := 85 }
set_option maxRecDepth 100000 in
set_option maxHeartbeats 4000000 in
theorem ct_X5_place (D : va_G) (cI cZ : ClassId) (a_M a_M_text a_M_told a_M_draft a_M_s a_M_images a_M_kept a_M_light a_M_may a_M_shine a_M_worth a_M_least : Nat) (m_trace : Int64) (m_typed : Int32) (m_at : Int32) (m_sort : Int32) (m_start : Int32) (m_size : Int32) (m_text : Nat → Int32) (m_draft : Nat → Int32) (p0 : Int32) {post : Int32 → Int32 → Int32 → Int32 → Int32 → Prop} (h : wp_X5_place p0 m_text m_typed m_draft m_at m_sort m_start m_size post) (l : Launch) (sz : Nat) : Met l yX5_place (wsM yX5_place cX5_place 5 (some .int)) rm_X5_place (va_Pc [.ref a_M, .int p0] (gP D cI cZ [(a_M, .inr (5, [.long m_trace, .ref a_M_text, .int m_typed, .ref a_M_told, .ref a_M_draft, .ref a_M_s, .ref a_M_images, .ref a_M_kept, .int m_at, .int m_sort, .int m_start, .int m_size, .ref a_M_light, .ref a_M_may, .ref a_M_shine, .ref a_M_worth, .ref a_M_least])), (a_M_text, .inl (cI, 300, .inl m_text)), (a_M_draft, .inl (cI, 43, .inl m_draft))] sz)) (gQi D (fun r (u : Int32 × Int32 × Int32 × Int32) => post r u.1 u.2.1 u.2.2.1 u.2.2.2) (fun (u : Int32 × Int32 × Int32 × Int32) => [(a_M, .inr (5, [.long m_trace, .ref a_M_text, .int m_typed, .ref a_M_told, .ref a_M_draft, .ref a_M_s, .ref a_M_images, .ref a_M_kept, .int u.1, .int u.2.1, .int u.2.2.1, .int u.2.2.2, .ref a_M_light, .ref a_M_may, .ref a_M_shine, .ref a_M_worth, .ref a_M_least])), (a_M_text, .inl (cI, 300, .inl m_text)), (a_M_draft, .inl (cI, 43, .inl m_draft))]) [(a_M, .inr (5, [.long m_trace, .ref a_M_text, .int m_typed, .ref a_M_told, .ref a_M_draft, .ref a_M_s, .ref a_M_images, .ref a_M_kept, .int m_at, .int m_sort, .int m_start, .int m_size, .ref a_M_light, .ref a_M_may, .ref a_M_shine, .ref a_M_worth, .ref a_M_least])), (a_M_text, .inl (cI, 300, .inl m_text)), (a_M_draft, .inl (cI, 43, .inl m_draft))] sz) 0 0 (va_A [(a_M, .inr (5, [.long m_trace, .ref a_M_text, .int m_typed, .ref a_M_told, .ref a_M_draft, .ref a_M_s, .ref a_M_images, .ref a_M_kept, .int m_at, .int m_sort, .int m_start, .int m_size, .ref a_M_light, .ref a_M_may, .ref a_M_shine, .ref a_M_worth, .ref a_M_least])), (a_M_text, .inl (cI, 300, .inl m_text)), (a_M_draft, .inl (cI, 43, .inl m_draft))] sz) := by
  refine q_startM (own := RX5) (Qc := gQi D (fun r (u : Int32 × Int32 × Int32 × Int32) => post r u.1 u.2.1 u.2.2.1 u.2.2.2) (fun (u : Int32 × Int32 × Int32 × Int32) => [(a_M, .inr (5, [.long m_trace, .ref a_M_text, .int m_typed, .ref a_M_told, .ref a_M_draft, .ref a_M_s, .ref a_M_images, .ref a_M_kept, .int u.1, .int u.2.1, .int u.2.2.1, .int u.2.2.2, .ref a_M_light, .ref a_M_may, .ref a_M_shine, .ref a_M_worth, .ref a_M_least])), (a_M_text, .inl (cI, 300, .inl m_text)), (a_M_draft, .inl (cI, 43, .inl m_draft))]) [(a_M, .inr (5, [.long m_trace, .ref a_M_text, .int m_typed, .ref a_M_told, .ref a_M_draft, .ref a_M_s, .ref a_M_images, .ref a_M_kept, .int m_at, .int m_sort, .int m_start, .int m_size, .ref a_M_light, .ref a_M_may, .ref a_M_shine, .ref a_M_worth, .ref a_M_least])), (a_M_text, .inl (cI, 300, .inl m_text)), (a_M_draft, .inl (cI, 43, .inl m_draft))]) (by decide +kernel) rfl (Nat.le_of_ble_eq_true rfl) (fun E F Z M => ?_)
  show Wg E [(a_M, .inr (5, [.long m_trace, .ref a_M_text, .int m_typed, .ref a_M_told, .ref a_M_draft, .ref a_M_s, .ref a_M_images, .ref a_M_kept, .int m_at, .int m_sort, .int m_start, .int m_size, .ref a_M_light, .ref a_M_may, .ref a_M_shine, .ref a_M_worth, .ref a_M_least])), (a_M_text, .inl (cI, 300, .inl m_text)), (a_M_draft, .inl (cI, 43, .inl m_draft))] 0 0 0 [(0, .ref a_M), (1, .int p0)] []
  unfold wp_X5_place at h
  refine q_aload_n (pc := 0) F 0 dX5_place_0 rfl ?_
  refine q_iconst (pc := 1) F (v := 0) dX5_place_1 (by decide) ?_
  refine q_aload_n (pc := 2) F 0 dX5_place_2 rfl ?_
  refine q_get (pc := 3) F fgX5_16 0 rfl rfl dX5_place_3 ?_
  refine q_iconst (pc := 6) F (v := 0) dX5_place_6 (by decide) ?_
  refine q_ialdk (pc := 7) F (k9 := 0) 2 rfl (vpd (by decide +kernel)) (by decide +kernel) dX5_place_7 ?_
  refine q_iconst (pc := 8) F (v := 1) dX5_place_8 (by decide) ?_
  refine q_isub (pc := 9) F dX5_place_9 ?_
  refine q_cMi (wr := [(a_M_draft, .inl (cI, 43, .inl m_draft))]) (pc := 10) F M (q_runV (As := [.int (0 : Int32), .int ((m_draft 0) - (1 : Int32))]) (rest := []) (pc := 10) F (fun l sz => ct_X5_number D cI cZ a_M a_M_text a_M_told a_M_draft a_M_s a_M_images a_M_kept a_M_light a_M_may a_M_shine a_M_worth a_M_least m_trace m_typed m_at m_sort m_start m_size m_text (0 : Int32) ((m_draft 0) - (1 : Int32)) h l sz) mc_yX5_number im_yX5_number se_yX5_number mlX5_94 ⟨by decide, by decide⟩ ⟨by decide, by decide⟩ ⟨rfl, rfl⟩ [0, 1] rfl rfl rfl 0 rfl rfl rfl (Nat.le_of_ble_eq_true rfl) dX5_place_10) [0, 1] [2] rfl rfl rfl (by decide) (fun r10 u10 h => ?_)
  obtain ⟨m_at_10, m_sort_10, m_start_10, m_size_10⟩ := u10
  refine q_cs (cs' := [(a_M, .inr (5, [.long m_trace, .ref a_M_text, .int m_typed, .ref a_M_told, .ref a_M_draft, .ref a_M_s, .ref a_M_images, .ref a_M_kept, .int m_at_10, .int m_sort_10, .int m_start_10, .int m_size_10, .ref a_M_light, .ref a_M_may, .ref a_M_shine, .ref a_M_worth, .ref a_M_least])), (a_M_text, .inl (cI, 300, .inl m_text)), (a_M_draft, .inl (cI, 43, .inl m_draft))]) [1, 2, 0] rfl rfl ?_
  refine q_istore_n (pc := 13) F (lv' := [(2, .int r10), (0, .ref a_M), (1, .int p0)]) dX5_place_13 (by decide) rfl ?_
  refine q_iload_n (pc := 14) F 0 dX5_place_14 rfl ?_
  refine q_bipush (pc := 15) F (v := -9) dX5_place_15 (by decide) ?_
  refine q_icmp_ne (pc := 17) (tgt := 23) F dX5_place_17 (by decide) (fun c17 => ?_) (fun c17 => ?_)
  · have h := h.2 c17
    refine q_aload_n (pc := 23) F 1 dX5_place_23 rfl ?_
    refine q_iconst (pc := 24) F (v := 0) dX5_place_24 (by decide) ?_
    refine q_aload_n (pc := 25) F 1 dX5_place_25 rfl ?_
    refine q_get (pc := 26) F fgX5_16 0 rfl rfl dX5_place_26 ?_
    refine q_iconst (pc := 29) F (v := 1) dX5_place_29 (by decide) ?_
    refine q_ialdk (pc := 30) F (k9 := 1) 2 rfl (vpd (by decide +kernel)) (by decide +kernel) dX5_place_30 ?_
    refine q_iconst (pc := 31) F (v := 1) dX5_place_31 (by decide) ?_
    refine q_isub (pc := 32) F dX5_place_32 ?_
    refine q_cMi (wr := [(a_M_draft, .inl (cI, 43, .inl m_draft))]) (pc := 33) F M (q_runV (As := [.int (0 : Int32), .int ((m_draft 1) - (1 : Int32))]) (rest := []) (pc := 33) F (fun l sz => ct_X5_number D cI cZ a_M a_M_text a_M_told a_M_draft a_M_s a_M_images a_M_kept a_M_light a_M_may a_M_shine a_M_worth a_M_least m_trace m_typed m_at_10 m_sort_10 m_start_10 m_size_10 m_text (0 : Int32) ((m_draft 1) - (1 : Int32)) h l sz) mc_yX5_number im_yX5_number se_yX5_number mlX5_94 ⟨by decide, by decide⟩ ⟨by decide, by decide⟩ ⟨rfl, rfl⟩ [0, 1] rfl rfl rfl 0 rfl rfl rfl (Nat.le_of_ble_eq_true rfl) dX5_place_33) [0, 1] [2] rfl rfl rfl (by decide) (fun r33 u33 h => ?_)
    obtain ⟨m_at_33, m_sort_33, m_start_33, m_size_33⟩ := u33
    refine q_cs (cs' := [(a_M, .inr (5, [.long m_trace, .ref a_M_text, .int m_typed, .ref a_M_told, .ref a_M_draft, .ref a_M_s, .ref a_M_images, .ref a_M_kept, .int m_at_33, .int m_sort_33, .int m_start_33, .int m_size_33, .ref a_M_light, .ref a_M_may, .ref a_M_shine, .ref a_M_worth, .ref a_M_least])), (a_M_text, .inl (cI, 300, .inl m_text)), (a_M_draft, .inl (cI, 43, .inl m_draft))]) [1, 2, 0] rfl rfl ?_
    refine q_istore_n (pc := 36) F (lv' := [(3, .int r33), (2, .int r10), (0, .ref a_M), (1, .int p0)]) dX5_place_36 (by decide) rfl ?_
    refine q_aload_n (pc := 37) F 2 dX5_place_37 rfl ?_
    refine q_get (pc := 38) F fgX5_16 0 rfl rfl dX5_place_38 ?_
    refine q_iconst (pc := 41) F (v := 0) dX5_place_41 (by decide) ?_
    refine q_ialdk (pc := 42) F (k9 := 0) 2 rfl (vpd (by decide +kernel)) (by decide +kernel) dX5_place_42 ?_
    refine q_iload_n (pc := 43) F 0 dX5_place_43 rfl ?_
    refine q_imul (pc := 44) F dX5_place_44 ?_
    refine q_iload_n (pc := 45) F 1 dX5_place_45 rfl ?_
    refine q_iadd (pc := 46) F dX5_place_46 ?_
    refine q_topi (fun x4_47 ex4_47 => ?_)
    have h := h x4_47 ex4_47
    refine q_istore (pc := 47) F (lv' := [(4, .int x4_47), (3, .int r33), (2, .int r10), (0, .ref a_M), (1, .int p0)]) dX5_place_47 (by decide) rfl ?_
    refine q_iload_n (pc := 49) F 1 dX5_place_49 rfl ?_
    refine q_bipush (pc := 50) F (v := -9) dX5_place_50 (by decide) ?_
    refine jnW h (fun K => K → Wg E [(a_M, .inr (5, [.long m_trace, .ref a_M_text, .int m_typed, .ref a_M_told, .ref a_M_draft, .ref a_M_s, .ref a_M_images, .ref a_M_kept, .int m_at_33, .int m_sort_33, .int m_start_33, .int m_size_33, .ref a_M_light, .ref a_M_may, .ref a_M_shine, .ref a_M_worth, .ref a_M_least])), (a_M_text, .inl (cI, 300, .inl m_text)), (a_M_draft, .inl (cI, 43, .inl m_draft))] 0 0 74 [] []) ?_ ?_
    · intro h
      refine q_bipush (pc := 74) F (v := -9) dX5_place_74 (by decide) ?_
      refine q_goto (pc := 76) (tgt := 81) F dX5_place_76 (by decide) ?_
      exact q_iretM (pc := 81) F Z dX5_place_81 (m_at_33, m_sort_33, m_start_33, m_size_33) h rfl
    · intro K74 J74 h
      refine q_icmp_eq (pc := 52) (tgt := 74) F dX5_place_52 (by decide) (fun c52 => ?_) (fun c52 => ?_)
      · have h := h.1 c52
        refine q_lv (lv' := []) [] rfl ?_
        exact J74 h
      · have h := h.2 c52
        refine q_iload_n (pc := 55) F 4 dX5_place_55 rfl ?_
        refine jnW h (fun K => K → Wg E [(a_M, .inr (5, [.long m_trace, .ref a_M_text, .int m_typed, .ref a_M_told, .ref a_M_draft, .ref a_M_s, .ref a_M_images, .ref a_M_kept, .int m_at_33, .int m_sort_33, .int m_start_33, .int m_size_33, .ref a_M_light, .ref a_M_may, .ref a_M_shine, .ref a_M_worth, .ref a_M_least])), (a_M_text, .inl (cI, 300, .inl m_text)), (a_M_draft, .inl (cI, 43, .inl m_draft))] 0 0 79 [(4, .int x4_47)] []) ?_ ?_
        · intro h
          refine q_iload (pc := 79) F 0 dX5_place_79 rfl ?_
          exact q_iretM (pc := 81) F Z dX5_place_81 (m_at_33, m_sort_33, m_start_33, m_size_33) h rfl
        · intro K79 J79 h
          refine q_if_ne (pc := 56) (tgt := 79) F dX5_place_56 (by decide) (fun c56 => ?_) (fun c56 => ?_)
          · have h := h.2 c56
            refine q_lv (lv' := [(4, .int x4_47)]) [0] rfl ?_
            exact J79 h
          · have h := h.1 c56
            refine q_aload_n (pc := 59) F 3 dX5_place_59 rfl ?_
            refine q_get (pc := 60) F fgX5_16 0 rfl rfl dX5_place_60 ?_
            refine q_iconst (pc := 63) F (v := 5) dX5_place_63 (by decide) ?_
            refine q_ialdk (pc := 64) F (k9 := 5) 2 rfl (vpd (by decide +kernel)) (by decide +kernel) dX5_place_64 ?_
            refine q_iload (pc := 65) F 0 dX5_place_65 rfl ?_
            refine q_ishr (pc := 67) F dX5_place_67 ?_
            refine q_iconst (pc := 68) F (v := 1) dX5_place_68 (by decide) ?_
            refine q_iand (pc := 69) F dX5_place_69 ?_
            refine q_iconst (pc := 70) F (v := 1) dX5_place_70 (by decide) ?_
            refine q_icmp_ne (pc := 71) (tgt := 79) F dX5_place_71 (by decide) (fun c71 => ?_) (fun c71 => ?_)
            · have h := h.2 c71
              refine q_lv (lv' := [(4, .int x4_47)]) [0] rfl ?_
              exact J79 h
            · have h := h.1 c71
              refine q_lv (lv' := []) [] rfl ?_
              exact J74 h
  · have h := h.1 c17
    refine q_bipush (pc := 20) F (v := -9) dX5_place_20 (by decide) ?_
    exact q_iretM (pc := 22) F Z dX5_place_22 (m_at_10, m_sort_10, m_start_10, m_size_10) h rfl

def wp_X5_readsHall (m_text : Nat → Int32) (m_typed : Int32) (m_draft : Nat → Int32) (m_at : Int32) (m_sort : Int32) (m_start : Int32) (m_size : Int32) (post : Int32 → (Nat → Int32) → Int32 → Int32 → Int32 → Int32 → Prop) : Prop := (((m_draft 38) ≤ (0 : Int32) → (wp_X5_number (1 : Int32) (4 : Int32) m_text m_typed m_at m_sort m_start m_size (fun (r15 : Int32) (m_at_15 : Int32) (m_sort_15 : Int32) (m_start_15 : Int32) (m_size_15 : Int32) => ((r15 = (-9 : Int32) → post (0 : Int32) m_draft m_at_15 m_sort_15 m_start_15 m_size_15) ∧ (¬ r15 = (-9 : Int32) → (wp_X5_number (1 : Int32) (3 : Int32) m_text m_typed m_at_15 m_sort_15 m_start_15 m_size_15 (fun (r37 : Int32) (m_at_37 : Int32) (m_sort_37 : Int32) (m_start_37 : Int32) (m_size_37 : Int32) => ((r37 = (-9 : Int32) → post (0 : Int32) (upd (upd m_draft 0 r15) 1 r37) m_at_37 m_sort_37 m_start_37 m_size_37) ∧ (¬ r37 = (-9 : Int32) → post (1 : Int32) (upd (upd m_draft 0 r15) 1 r37) m_at_37 m_sort_37 m_start_37 m_size_37))))))))) ∧ (¬ (m_draft 38) ≤ (0 : Int32) → post (0 : Int32) m_draft m_at m_sort m_start m_size))
abbrev rm_X5_readsHall : Room := { frames := 4, cells := 0, slots := 0, locals := 85 }
set_option maxRecDepth 100000 in
set_option maxHeartbeats 4000000 in
theorem ct_X5_readsHall (D : va_G) (cI cZ : ClassId) (a_M a_M_text a_M_told a_M_draft a_M_s a_M_images a_M_kept a_M_light a_M_may a_M_shine a_M_worth a_M_least : Nat) (m_trace : Int64) (m_typed : Int32) (m_at : Int32) (m_sort : Int32) (m_start : Int32) (m_size : Int32) (m_text : Nat → Int32) (m_draft : Nat → Int32) {post : Int32 → (Nat → Int32) → Int32 → Int32 → Int32 → Int32 → Prop} (h : wp_X5_readsHall m_text m_typed m_draft m_at m_sort m_start m_size post) (l : Launch) (sz : Nat) : Met l yX5_readsHall (wsM yX5_readsHall cX5_readsHall 3 (some .boolean)) rm_X5_readsHall (va_Pc [.ref a_M] (gP D cI cZ [(a_M, .inr (5, [.long m_trace, .ref a_M_text, .int m_typed, .ref a_M_told, .ref a_M_draft, .ref a_M_s, .ref a_M_images, .ref a_M_kept, .int m_at, .int m_sort, .int m_start, .int m_size, .ref a_M_light, .ref a_M_may, .ref a_M_shine, .ref a_M_worth, .ref a_M_least])), (a_M_text, .inl (cI, 300, .inl m_text)), (a_M_draft, .inl (cI, 43, .inl m_draft))] sz)) (gQi D (fun r (u : (Nat → Int32) × Int32 × Int32 × Int32 × Int32) => isB r ∧ post r u.1 u.2.1 u.2.2.1 u.2.2.2.1 u.2.2.2.2) (fun (u : (Nat → Int32) × Int32 × Int32 × Int32 × Int32) => [(a_M, .inr (5, [.long m_trace, .ref a_M_text, .int m_typed, .ref a_M_told, .ref a_M_draft, .ref a_M_s, .ref a_M_images, .ref a_M_kept, .int u.2.1, .int u.2.2.1, .int u.2.2.2.1, .int u.2.2.2.2, .ref a_M_light, .ref a_M_may, .ref a_M_shine, .ref a_M_worth, .ref a_M_least])), (a_M_text, .inl (cI, 300, .inl m_text)), (a_M_draft, .inl (cI, 43, .inl u.1))]) [(a_M, .inr (5, [.long m_trace, .ref a_M_text, .int m_typed, .ref a_M_told, .ref a_M_draft, .ref a_M_s, .ref a_M_images, .ref a_M_kept, .int m_at, .int m_sort, .int m_start, .int m_size, .ref a_M_light, .ref a_M_may, .ref a_M_shine, .ref a_M_worth, .ref a_M_least])), (a_M_text, .inl (cI, 300, .inl m_text)), (a_M_draft, .inl (cI, 43, .inl m_draft))] sz) 0 0 (va_A [(a_M, .inr (5, [.long m_trace, .ref a_M_text, .int m_typed, .ref a_M_told, .ref a_M_draft, .ref a_M_s, .ref a_M_images, .ref a_M_kept, .int m_at, .int m_sort, .int m_start, .int m_size, .ref a_M_light, .ref a_M_may, .ref a_M_shine, .ref a_M_worth, .ref a_M_least])), (a_M_text, .inl (cI, 300, .inl m_text)), (a_M_draft, .inl (cI, 43, .inl m_draft))] sz) := by
  refine q_startM (own := RX5) (Qc := gQi D (fun r (u : (Nat → Int32) × Int32 × Int32 × Int32 × Int32) => isB r ∧ post r u.1 u.2.1 u.2.2.1 u.2.2.2.1 u.2.2.2.2) (fun (u : (Nat → Int32) × Int32 × Int32 × Int32 × Int32) => [(a_M, .inr (5, [.long m_trace, .ref a_M_text, .int m_typed, .ref a_M_told, .ref a_M_draft, .ref a_M_s, .ref a_M_images, .ref a_M_kept, .int u.2.1, .int u.2.2.1, .int u.2.2.2.1, .int u.2.2.2.2, .ref a_M_light, .ref a_M_may, .ref a_M_shine, .ref a_M_worth, .ref a_M_least])), (a_M_text, .inl (cI, 300, .inl m_text)), (a_M_draft, .inl (cI, 43, .inl u.1))]) [(a_M, .inr (5, [.long m_trace, .ref a_M_text, .int m_typed, .ref a_M_told, .ref a_M_draft, .ref a_M_s, .ref a_M_images, .ref a_M_kept, .int m_at, .int m_sort, .int m_start, .int m_size, .ref a_M_light, .ref a_M_may, .ref a_M_shine, .ref a_M_worth, .ref a_M_least])), (a_M_text, .inl (cI, 300, .inl m_text)), (a_M_draft, .inl (cI, 43, .inl m_draft))]) (by decide +kernel) rfl (Nat.le_of_ble_eq_true rfl) (fun E F Z M => ?_)
  show Wg E [(a_M, .inr (5, [.long m_trace, .ref a_M_text, .int m_typed, .ref a_M_told, .ref a_M_draft, .ref a_M_s, .ref a_M_images, .ref a_M_kept, .int m_at, .int m_sort, .int m_start, .int m_size, .ref a_M_light, .ref a_M_may, .ref a_M_shine, .ref a_M_worth, .ref a_M_least])), (a_M_text, .inl (cI, 300, .inl m_text)), (a_M_draft, .inl (cI, 43, .inl m_draft))] 0 0 0 [(0, .ref a_M)] []
  unfold wp_X5_readsHall at h
  refine q_aload_n (pc := 0) F 0 dX5_readsHall_0 rfl ?_
  refine q_get (pc := 1) F fgX5_16 0 rfl rfl dX5_readsHall_1 ?_
  refine q_bipush (pc := 4) F (v := 38) dX5_readsHall_4 (by decide) ?_
  refine q_ialdk (pc := 6) F (k9 := 38) 2 rfl (vpd (by decide +kernel)) (by decide +kernel) dX5_readsHall_6 ?_
  refine q_if_le (pc := 7) (tgt := 12) F dX5_readsHall_7 (by decide) (fun c7 => ?_) (fun c7 => ?_)
  · have h := h.1 c7
    refine q_aload_n (pc := 12) F 0 dX5_readsHall_12 rfl ?_
    refine q_iconst (pc := 13) F (v := 1) dX5_readsHall_13 (by decide) ?_
    refine q_iconst (pc := 14) F (v := 4) dX5_readsHall_14 (by decide) ?_
    refine q_cMi (wr := [(a_M_draft, .inl (cI, 43, .inl m_draft))]) (pc := 15) F M (q_runV (As := [.int (1 : Int32), .int (4 : Int32)]) (rest := []) (pc := 15) F (fun l sz => ct_X5_number D cI cZ a_M a_M_text a_M_told a_M_draft a_M_s a_M_images a_M_kept a_M_light a_M_may a_M_shine a_M_worth a_M_least m_trace m_typed m_at m_sort m_start m_size m_text (1 : Int32) (4 : Int32) h l sz) mc_yX5_number im_yX5_number se_yX5_number mlX5_94 ⟨by decide, by decide⟩ ⟨by decide, by decide⟩ ⟨rfl, rfl⟩ [0, 1] rfl rfl rfl 0 rfl rfl rfl (Nat.le_of_ble_eq_true rfl) dX5_readsHall_15) [0, 1] [2] rfl rfl rfl (by decide) (fun r15 u15 h => ?_)
    obtain ⟨m_at_15, m_sort_15, m_start_15, m_size_15⟩ := u15
    refine q_cs (cs' := [(a_M, .inr (5, [.long m_trace, .ref a_M_text, .int m_typed, .ref a_M_told, .ref a_M_draft, .ref a_M_s, .ref a_M_images, .ref a_M_kept, .int m_at_15, .int m_sort_15, .int m_start_15, .int m_size_15, .ref a_M_light, .ref a_M_may, .ref a_M_shine, .ref a_M_worth, .ref a_M_least])), (a_M_text, .inl (cI, 300, .inl m_text)), (a_M_draft, .inl (cI, 43, .inl m_draft))]) [1, 2, 0] rfl rfl ?_
    refine q_istore_n (pc := 18) F (lv' := [(1, .int r15), (0, .ref a_M)]) dX5_readsHall_18 (by decide) rfl ?_
    refine q_iload_n (pc := 19) F 0 dX5_readsHall_19 rfl ?_
    refine q_bipush (pc := 20) F (v := -9) dX5_readsHall_20 (by decide) ?_
    refine q_icmp_ne (pc := 22) (tgt := 27) F dX5_readsHall_22 (by decide) (fun c22 => ?_) (fun c22 => ?_)
    · have h := h.2 c22
      refine q_aload_n (pc := 27) F 1 dX5_readsHall_27 rfl ?_
      refine q_get (pc := 28) F fgX5_16 0 rfl rfl dX5_readsHall_28 ?_
      refine q_iconst (pc := 31) F (v := 0) dX5_readsHall_31 (by decide) ?_
      refine q_iload_n (pc := 32) F 0 dX5_readsHall_32 rfl ?_
      refine q_iastk (pc := 33) F M (k9 := 0) (cs' := [(a_M, .inr (5, [.long m_trace, .ref a_M_text, .int m_typed, .ref a_M_told, .ref a_M_draft, .ref a_M_s, .ref a_M_images, .ref a_M_kept, .int m_at_15, .int m_sort_15, .int m_start_15, .int m_size_15, .ref a_M_light, .ref a_M_may, .ref a_M_shine, .ref a_M_worth, .ref a_M_least])), (a_M_text, .inl (cI, 300, .inl m_text)), (a_M_draft, .inl (cI, 43, .inl (upd m_draft 0 r15)))]) 2 rfl (vpd (by decide +kernel)) (by decide +kernel) rfl dX5_readsHall_33 ?_
      refine q_aload_n (pc := 34) F 1 dX5_readsHall_34 rfl ?_
      refine q_iconst (pc := 35) F (v := 1) dX5_readsHall_35 (by decide) ?_
      refine q_iconst (pc := 36) F (v := 3) dX5_readsHall_36 (by decide) ?_
      refine q_cMi (wr := [(a_M_draft, .inl (cI, 43, .inl (upd m_draft 0 r15)))]) (pc := 37) F M (q_runV (As := [.int (1 : Int32), .int (3 : Int32)]) (rest := []) (pc := 37) F (fun l sz => ct_X5_number D cI cZ a_M a_M_text a_M_told a_M_draft a_M_s a_M_images a_M_kept a_M_light a_M_may a_M_shine a_M_worth a_M_least m_trace m_typed m_at_15 m_sort_15 m_start_15 m_size_15 m_text (1 : Int32) (3 : Int32) h l sz) mc_yX5_number im_yX5_number se_yX5_number mlX5_94 ⟨by decide, by decide⟩ ⟨by decide, by decide⟩ ⟨rfl, rfl⟩ [0, 1] rfl rfl rfl 0 rfl rfl rfl (Nat.le_of_ble_eq_true rfl) dX5_readsHall_37) [0, 1] [2] rfl rfl rfl (by decide) (fun r37 u37 h => ?_)
      obtain ⟨m_at_37, m_sort_37, m_start_37, m_size_37⟩ := u37
      refine q_cs (cs' := [(a_M, .inr (5, [.long m_trace, .ref a_M_text, .int m_typed, .ref a_M_told, .ref a_M_draft, .ref a_M_s, .ref a_M_images, .ref a_M_kept, .int m_at_37, .int m_sort_37, .int m_start_37, .int m_size_37, .ref a_M_light, .ref a_M_may, .ref a_M_shine, .ref a_M_worth, .ref a_M_least])), (a_M_text, .inl (cI, 300, .inl m_text)), (a_M_draft, .inl (cI, 43, .inl (upd m_draft 0 r15)))]) [1, 2, 0] rfl rfl ?_
      refine q_istore_n (pc := 40) F (lv' := [(2, .int r37), (1, .int r15), (0, .ref a_M)]) dX5_readsHall_40 (by decide) rfl ?_
      refine q_aload_n (pc := 41) F 2 dX5_readsHall_41 rfl ?_
      refine q_get (pc := 42) F fgX5_16 0 rfl rfl dX5_readsHall_42 ?_
      refine q_iconst (pc := 45) F (v := 1) dX5_readsHall_45 (by decide) ?_
      refine q_iload_n (pc := 46) F 0 dX5_readsHall_46 rfl ?_
      refine q_iastk (pc := 47) F M (k9 := 1) (cs' := [(a_M, .inr (5, [.long m_trace, .ref a_M_text, .int m_typed, .ref a_M_told, .ref a_M_draft, .ref a_M_s, .ref a_M_images, .ref a_M_kept, .int m_at_37, .int m_sort_37, .int m_start_37, .int m_size_37, .ref a_M_light, .ref a_M_may, .ref a_M_shine, .ref a_M_worth, .ref a_M_least])), (a_M_text, .inl (cI, 300, .inl m_text)), (a_M_draft, .inl (cI, 43, .inl (upd (upd m_draft 0 r15) 1 r37)))]) 2 rfl (vpd (by decide +kernel)) (by decide +kernel) rfl dX5_readsHall_47 ?_
      refine q_iload_n (pc := 48) F 0 dX5_readsHall_48 rfl ?_
      refine q_bipush (pc := 49) F (v := -9) dX5_readsHall_49 (by decide) ?_
      refine q_icmp_eq (pc := 51) (tgt := 58) F dX5_readsHall_51 (by decide) (fun c51 => ?_) (fun c51 => ?_)
      · have h := h.1 c51
        refine q_iconst (pc := 58) F (v := 0) dX5_readsHall_58 (by decide) ?_
        exact q_zretM (pc := 59) F Z dX5_readsHall_59 (Or.inl rfl) (upd (upd m_draft 0 r15) 1 r37, m_at_37, m_sort_37, m_start_37, m_size_37) h rfl
      · have h := h.2 c51
        refine q_iconst (pc := 54) F (v := 1) dX5_readsHall_54 (by decide) ?_
        refine q_goto (pc := 55) (tgt := 59) F dX5_readsHall_55 (by decide) ?_
        exact q_zretM (pc := 59) F Z dX5_readsHall_59 (Or.inr rfl) (upd (upd m_draft 0 r15) 1 r37, m_at_37, m_sort_37, m_start_37, m_size_37) h rfl
    · have h := h.1 c22
      refine q_iconst (pc := 25) F (v := 0) dX5_readsHall_25 (by decide) ?_
      exact q_zretM (pc := 26) F Z dX5_readsHall_26 (Or.inl rfl) (m_draft, m_at_15, m_sort_15, m_start_15, m_size_15) h rfl
  · have h := h.2 c7
    refine q_iconst (pc := 10) F (v := 0) dX5_readsHall_10 (by decide) ?_
    exact q_zretM (pc := 11) F Z dX5_readsHall_11 (Or.inl rfl) (m_draft, m_at, m_sort, m_start, m_size) h rfl

def wp_X5_readsCell (p0 : Int32) (m_text : Nat → Int32) (m_typed : Int32) (m_draft : Nat → Int32) (m_at : Int32) (m_sort : Int32) (m_start : Int32) (m_size : Int32) (post : Int32 → (Nat → Int32) → Int32 → Int32 → Int32 → Int32 → Prop) : Prop := (jn (fun (K35 : Prop) => ((p0 = (1 : Int32) → (((m_draft 6) = (0 : Int32) → (((0 : Int32) < (m_draft 3) → post (0 : Int32) m_draft m_at m_sort m_start m_size) ∧ (¬ (0 : Int32) < (m_draft 3) → (((m_draft 4) ≤ (0 : Int32) → K35) ∧ (¬ (m_draft 4) ≤ (0 : Int32) → post (0 : Int32) m_draft m_at m_sort m_start m_size))))) ∧ (¬ (m_draft 6) = (0 : Int32) → post (0 : Int32) m_draft m_at m_sort m_start m_size))) ∧ (¬ p0 = (1 : Int32) → K35))) ((jn (fun (K46 : Int32 → Prop) => ((p0 = (1 : Int32) → K46 (1 : Int32)) ∧ (¬ p0 = (1 : Int32) → K46 (0 : Int32)))) (fun (y46 : Int32) => (wp_X5_place y46 m_text m_typed m_draft m_at m_sort m_start m_size (fun (r46 : Int32) (m_at_46 : Int32) (m_sort_46 : Int32) (m_start_46 : Int32) (m_size_46 : Int32) => ((r46 = (-9 : Int32) → post (0 : Int32) m_draft m_at_46 m_sort_46 m_start_46 m_size_46) ∧ (¬ r46 = (-9 : Int32) → (jn (fun (K73 : Int32 → Prop) => ((p0 = (1 : Int32) → K73 (5 : Int32)) ∧ (¬ p0 = (1 : Int32) → K73 (6 : Int32)))) (fun (y73 : Int32) => (vp_in y73 43 ∧ (vp_in y73 43 ∧ post (1 : Int32) (upd m_draft (ix y73) ((m_draft (ix y73)) ||| (jshl (1 : Int32) r46))) m_at_46 m_sort_46 m_start_46 m_size_46))))))))))))
abbrev rm_X5_readsCell : Room := { frames := 5, cells := 0, slots := 0, locals := 109 }
set_option maxRecDepth 100000 in
set_option maxHeartbeats 4000000 in
theorem ct_X5_readsCell (D : va_G) (cI cZ : ClassId) (a_M a_M_text a_M_told a_M_draft a_M_s a_M_images a_M_kept a_M_light a_M_may a_M_shine a_M_worth a_M_least : Nat) (m_trace : Int64) (m_typed : Int32) (m_at : Int32) (m_sort : Int32) (m_start : Int32) (m_size : Int32) (m_text : Nat → Int32) (m_draft : Nat → Int32) (p0 : Int32) {post : Int32 → (Nat → Int32) → Int32 → Int32 → Int32 → Int32 → Prop} (h : wp_X5_readsCell p0 m_text m_typed m_draft m_at m_sort m_start m_size post) (l : Launch) (sz : Nat) : Met l yX5_readsCell (wsM yX5_readsCell cX5_readsCell 3 (some .boolean)) rm_X5_readsCell (va_Pc [.ref a_M, .int p0] (gP D cI cZ [(a_M, .inr (5, [.long m_trace, .ref a_M_text, .int m_typed, .ref a_M_told, .ref a_M_draft, .ref a_M_s, .ref a_M_images, .ref a_M_kept, .int m_at, .int m_sort, .int m_start, .int m_size, .ref a_M_light, .ref a_M_may, .ref a_M_shine, .ref a_M_worth, .ref a_M_least])), (a_M_text, .inl (cI, 300, .inl m_text)), (a_M_draft, .inl (cI, 43, .inl m_draft))] sz)) (gQi D (fun r (u : (Nat → Int32) × Int32 × Int32 × Int32 × Int32) => isB r ∧ post r u.1 u.2.1 u.2.2.1 u.2.2.2.1 u.2.2.2.2) (fun (u : (Nat → Int32) × Int32 × Int32 × Int32 × Int32) => [(a_M, .inr (5, [.long m_trace, .ref a_M_text, .int m_typed, .ref a_M_told, .ref a_M_draft, .ref a_M_s, .ref a_M_images, .ref a_M_kept, .int u.2.1, .int u.2.2.1, .int u.2.2.2.1, .int u.2.2.2.2, .ref a_M_light, .ref a_M_may, .ref a_M_shine, .ref a_M_worth, .ref a_M_least])), (a_M_text, .inl (cI, 300, .inl m_text)), (a_M_draft, .inl (cI, 43, .inl u.1))]) [(a_M, .inr (5, [.long m_trace, .ref a_M_text, .int m_typed, .ref a_M_told, .ref a_M_draft, .ref a_M_s, .ref a_M_images, .ref a_M_kept, .int m_at, .int m_sort, .int m_start, .int m_size, .ref a_M_light, .ref a_M_may, .ref a_M_shine, .ref a_M_worth, .ref a_M_least])), (a_M_text, .inl (cI, 300, .inl m_text)), (a_M_draft, .inl (cI, 43, .inl m_draft))] sz) 0 0 (va_A [(a_M, .inr (5, [.long m_trace, .ref a_M_text, .int m_typed, .ref a_M_told, .ref a_M_draft, .ref a_M_s, .ref a_M_images, .ref a_M_kept, .int m_at, .int m_sort, .int m_start, .int m_size, .ref a_M_light, .ref a_M_may, .ref a_M_shine, .ref a_M_worth, .ref a_M_least])), (a_M_text, .inl (cI, 300, .inl m_text)), (a_M_draft, .inl (cI, 43, .inl m_draft))] sz) := by
  refine q_startM (own := RX5) (Qc := gQi D (fun r (u : (Nat → Int32) × Int32 × Int32 × Int32 × Int32) => isB r ∧ post r u.1 u.2.1 u.2.2.1 u.2.2.2.1 u.2.2.2.2) (fun (u : (Nat → Int32) × Int32 × Int32 × Int32 × Int32) => [(a_M, .inr (5, [.long m_trace, .ref a_M_text, .int m_typed, .ref a_M_told, .ref a_M_draft, .ref a_M_s, .ref a_M_images, .ref a_M_kept, .int u.2.1, .int u.2.2.1, .int u.2.2.2.1, .int u.2.2.2.2, .ref a_M_light, .ref a_M_may, .ref a_M_shine, .ref a_M_worth, .ref a_M_least])), (a_M_text, .inl (cI, 300, .inl m_text)), (a_M_draft, .inl (cI, 43, .inl u.1))]) [(a_M, .inr (5, [.long m_trace, .ref a_M_text, .int m_typed, .ref a_M_told, .ref a_M_draft, .ref a_M_s, .ref a_M_images, .ref a_M_kept, .int m_at, .int m_sort, .int m_start, .int m_size, .ref a_M_light, .ref a_M_may, .ref a_M_shine, .ref a_M_worth, .ref a_M_least])), (a_M_text, .inl (cI, 300, .inl m_text)), (a_M_draft, .inl (cI, 43, .inl m_draft))]) (by decide +kernel) rfl (Nat.le_of_ble_eq_true rfl) (fun E F Z M => ?_)
  show Wg E [(a_M, .inr (5, [.long m_trace, .ref a_M_text, .int m_typed, .ref a_M_told, .ref a_M_draft, .ref a_M_s, .ref a_M_images, .ref a_M_kept, .int m_at, .int m_sort, .int m_start, .int m_size, .ref a_M_light, .ref a_M_may, .ref a_M_shine, .ref a_M_worth, .ref a_M_least])), (a_M_text, .inl (cI, 300, .inl m_text)), (a_M_draft, .inl (cI, 43, .inl m_draft))] 0 0 0 [(0, .ref a_M), (1, .int p0)] []
  unfold wp_X5_readsCell at h
  refine q_iload_n (pc := 0) F 1 dX5_readsCell_0 rfl ?_
  refine q_iconst (pc := 1) F (v := 1) dX5_readsCell_1 (by decide) ?_
  refine jnW h (fun K => K → Wg E [(a_M, .inr (5, [.long m_trace, .ref a_M_text, .int m_typed, .ref a_M_told, .ref a_M_draft, .ref a_M_s, .ref a_M_images, .ref a_M_kept, .int m_at, .int m_sort, .int m_start, .int m_size, .ref a_M_light, .ref a_M_may, .ref a_M_shine, .ref a_M_worth, .ref a_M_least])), (a_M_text, .inl (cI, 300, .inl m_text)), (a_M_draft, .inl (cI, 43, .inl m_draft))] 0 0 35 [(0, .ref a_M), (1, .int p0)] []) ?_ ?_
  · intro h
    refine q_aload_n (pc := 35) F 0 dX5_readsCell_35 rfl ?_
    refine q_iload_n (pc := 36) F 1 dX5_readsCell_36 rfl ?_
    refine q_iconst (pc := 37) F (v := 1) dX5_readsCell_37 (by decide) ?_
    refine jnW h (fun K => ∀ (y46 : Int32), K y46 → Wg E [(a_M, .inr (5, [.long m_trace, .ref a_M_text, .int m_typed, .ref a_M_told, .ref a_M_draft, .ref a_M_s, .ref a_M_images, .ref a_M_kept, .int m_at, .int m_sort, .int m_start, .int m_size, .ref a_M_light, .ref a_M_may, .ref a_M_shine, .ref a_M_worth, .ref a_M_least])), (a_M_text, .inl (cI, 300, .inl m_text)), (a_M_draft, .inl (cI, 43, .inl m_draft))] 0 0 46 [(0, .ref a_M), (1, .int p0)] [.int y46, .ref a_M]) ?_ ?_
    · intro y46 h
      refine q_cMi (wr := []) (pc := 46) F M (q_runV (As := [.int y46]) (rest := []) (pc := 46) F (fun l sz => ct_X5_place D cI cZ a_M a_M_text a_M_told a_M_draft a_M_s a_M_images a_M_kept a_M_light a_M_may a_M_shine a_M_worth a_M_least m_trace m_typed m_at m_sort m_start m_size m_text m_draft y46 h l sz) mc_yX5_place im_yX5_place se_yX5_place mlX5_98 ⟨by decide, by decide⟩ ⟨by decide, by decide⟩ ⟨rfl, rfl⟩ [0, 1, 2] rfl rfl rfl 0 rfl rfl rfl (Nat.le_of_ble_eq_true rfl) dX5_readsCell_46) [0, 1, 2] [] rfl rfl rfl (by decide) (fun r46 u46 h => ?_)
      obtain ⟨m_at_46, m_sort_46, m_start_46, m_size_46⟩ := u46
      refine q_cs (cs' := [(a_M, .inr (5, [.long m_trace, .ref a_M_text, .int m_typed, .ref a_M_told, .ref a_M_draft, .ref a_M_s, .ref a_M_images, .ref a_M_kept, .int m_at_46, .int m_sort_46, .int m_start_46, .int m_size_46, .ref a_M_light, .ref a_M_may, .ref a_M_shine, .ref a_M_worth, .ref a_M_least])), (a_M_text, .inl (cI, 300, .inl m_text)), (a_M_draft, .inl (cI, 43, .inl m_draft))]) [0, 1, 2] rfl rfl ?_
      refine q_istore_n (pc := 49) F (lv' := [(2, .int r46), (0, .ref a_M), (1, .int p0)]) dX5_readsCell_49 (by decide) rfl ?_
      refine q_iload_n (pc := 50) F 0 dX5_readsCell_50 rfl ?_
      refine q_bipush (pc := 51) F (v := -9) dX5_readsCell_51 (by decide) ?_
      refine q_icmp_ne (pc := 53) (tgt := 58) F dX5_readsCell_53 (by decide) (fun c53 => ?_) (fun c53 => ?_)
      · have h := h.2 c53
        refine q_aload_n (pc := 58) F 1 dX5_readsCell_58 rfl ?_
        refine q_get (pc := 59) F fgX5_16 0 rfl rfl dX5_readsCell_59 ?_
        refine q_iload_n (pc := 62) F 2 dX5_readsCell_62 rfl ?_
        refine q_iconst (pc := 63) F (v := 1) dX5_readsCell_63 (by decide) ?_
        refine jnW h (fun K => ∀ (y73 : Int32), K y73 → Wg E [(a_M, .inr (5, [.long m_trace, .ref a_M_text, .int m_typed, .ref a_M_told, .ref a_M_draft, .ref a_M_s, .ref a_M_images, .ref a_M_kept, .int m_at_46, .int m_sort_46, .int m_start_46, .int m_size_46, .ref a_M_light, .ref a_M_may, .ref a_M_shine, .ref a_M_worth, .ref a_M_least])), (a_M_text, .inl (cI, 300, .inl m_text)), (a_M_draft, .inl (cI, 43, .inl m_draft))] 0 0 73 [(2, .int r46)] [.int y73, .ref a_M_draft]) ?_ ?_
        · intro y73 h
          refine q_dup2 (pc := 73) F dX5_readsCell_73 rfl rfl ?_
          obtain ⟨hi74, h⟩ := h
          refine q_iald (pc := 74) F 2 rfl hi74 dX5_readsCell_74 ?_
          refine q_iconst (pc := 75) F (v := 1) dX5_readsCell_75 (by decide) ?_
          refine q_iload_n (pc := 76) F 0 dX5_readsCell_76 rfl ?_
          refine q_ishl (pc := 77) F dX5_readsCell_77 ?_
          refine q_ior (pc := 78) F dX5_readsCell_78 ?_
          obtain ⟨hi79, h⟩ := h
          refine q_iast (pc := 79) F M (cs' := [(a_M, .inr (5, [.long m_trace, .ref a_M_text, .int m_typed, .ref a_M_told, .ref a_M_draft, .ref a_M_s, .ref a_M_images, .ref a_M_kept, .int m_at_46, .int m_sort_46, .int m_start_46, .int m_size_46, .ref a_M_light, .ref a_M_may, .ref a_M_shine, .ref a_M_worth, .ref a_M_least])), (a_M_text, .inl (cI, 300, .inl m_text)), (a_M_draft, .inl (cI, 43, .inl (upd m_draft (ix y73) ((m_draft (ix y73)) ||| (jshl (1 : Int32) r46)))))]) 2 rfl hi79 rfl dX5_readsCell_79 ?_
          refine q_iconst (pc := 80) F (v := 1) dX5_readsCell_80 (by decide) ?_
          exact q_zretM (pc := 81) F Z dX5_readsCell_81 (Or.inr rfl) (upd m_draft (ix y73) ((m_draft (ix y73)) ||| (jshl (1 : Int32) r46)), m_at_46, m_sort_46, m_start_46, m_size_46) h rfl
        · intro K73 J73 h
          refine q_icmp_ne (pc := 64) (tgt := 71) F dX5_readsCell_64 (by decide) (fun c64 => ?_) (fun c64 => ?_)
          · have h := h.2 c64
            refine q_bipush (pc := 71) F (v := 6) dX5_readsCell_71 (by decide) ?_
            refine q_lv (lv' := [(2, .int r46)]) [0] rfl ?_
            exact J73 (6 : Int32) h
          · have h := h.1 c64
            refine q_iconst (pc := 67) F (v := 5) dX5_readsCell_67 (by decide) ?_
            refine q_goto (pc := 68) (tgt := 73) F dX5_readsCell_68 (by decide) ?_
            refine q_lv (lv' := [(2, .int r46)]) [0] rfl ?_
            exact J73 (5 : Int32) h
      · have h := h.1 c53
        refine q_iconst (pc := 56) F (v := 0) dX5_readsCell_56 (by decide) ?_
        exact q_zretM (pc := 57) F Z dX5_readsCell_57 (Or.inl rfl) (m_draft, m_at_46, m_sort_46, m_start_46, m_size_46) h rfl
    · intro K46 J46 h
      refine q_icmp_ne (pc := 38) (tgt := 45) F dX5_readsCell_38 (by decide) (fun c38 => ?_) (fun c38 => ?_)
      · have h := h.2 c38
        refine q_iconst (pc := 45) F (v := 0) dX5_readsCell_45 (by decide) ?_
        exact J46 (0 : Int32) h
      · have h := h.1 c38
        refine q_iconst (pc := 41) F (v := 1) dX5_readsCell_41 (by decide) ?_
        refine q_goto (pc := 42) (tgt := 46) F dX5_readsCell_42 (by decide) ?_
        exact J46 (1 : Int32) h
  · intro K35 J35 h
    refine q_icmp_ne (pc := 2) (tgt := 35) F dX5_readsCell_2 (by decide) (fun c2 => ?_) (fun c2 => ?_)
    · have h := h.2 c2
      exact J35 h
    · have h := h.1 c2
      refine q_aload_n (pc := 5) F 0 dX5_readsCell_5 rfl ?_
      refine q_get (pc := 6) F fgX5_16 0 rfl rfl dX5_readsCell_6 ?_
      refine q_bipush (pc := 9) F (v := 6) dX5_readsCell_9 (by decide) ?_
      refine q_ialdk (pc := 11) F (k9 := 6) 2 rfl (vpd (by decide +kernel)) (by decide +kernel) dX5_readsCell_11 ?_
      refine q_if_ne (pc := 12) (tgt := 33) F dX5_readsCell_12 (by decide) (fun c12 => ?_) (fun c12 => ?_)
      · have h := h.2 c12
        refine q_iconst (pc := 33) F (v := 0) dX5_readsCell_33 (by decide) ?_
        exact q_zretM (pc := 34) F Z dX5_readsCell_34 (Or.inl rfl) (m_draft, m_at, m_sort, m_start, m_size) h rfl
      · have h := h.1 c12
        refine q_aload_n (pc := 15) F 0 dX5_readsCell_15 rfl ?_
        refine q_get (pc := 16) F fgX5_16 0 rfl rfl dX5_readsCell_16 ?_
        refine q_iconst (pc := 19) F (v := 3) dX5_readsCell_19 (by decide) ?_
        refine q_ialdk (pc := 20) F (k9 := 3) 2 rfl (vpd (by decide +kernel)) (by decide +kernel) dX5_readsCell_20 ?_
        refine q_if_gt (pc := 21) (tgt := 33) F dX5_readsCell_21 (by decide) (fun c21 => ?_) (fun c21 => ?_)
        · have h := h.1 c21
          refine q_iconst (pc := 33) F (v := 0) dX5_readsCell_33 (by decide) ?_
          exact q_zretM (pc := 34) F Z dX5_readsCell_34 (Or.inl rfl) (m_draft, m_at, m_sort, m_start, m_size) h rfl
        · have h := h.2 c21
          refine q_aload_n (pc := 24) F 0 dX5_readsCell_24 rfl ?_
          refine q_get (pc := 25) F fgX5_16 0 rfl rfl dX5_readsCell_25 ?_
          refine q_iconst (pc := 28) F (v := 4) dX5_readsCell_28 (by decide) ?_
          refine q_ialdk (pc := 29) F (k9 := 4) 2 rfl (vpd (by decide +kernel)) (by decide +kernel) dX5_readsCell_29 ?_
          refine q_if_le (pc := 30) (tgt := 35) F dX5_readsCell_30 (by decide) (fun c30 => ?_) (fun c30 => ?_)
          · have h := h.1 c30
            exact J35 h
          · have h := h.2 c30
            refine q_iconst (pc := 33) F (v := 0) dX5_readsCell_33 (by decide) ?_
            exact q_zretM (pc := 34) F Z dX5_readsCell_34 (Or.inl rfl) (m_draft, m_at, m_sort, m_start, m_size) h rfl

def wp_X5_readsLamp (m_text : Nat → Int32) (m_typed : Int32) (m_draft : Nat → Int32) (m_at : Int32) (m_sort : Int32) (m_start : Int32) (m_size : Int32) (post : Int32 → (Nat → Int32) → Int32 → Int32 → Int32 → Int32 → Prop) : Prop := (jn (fun (K23 : Int32 → Int32 → Int32 → Int32 → Int32 → Prop) => (((m_draft 3) = (6 : Int32) → K23 m_at m_sort m_start m_size (-9 : Int32)) ∧ (¬ (m_draft 3) = (6 : Int32) → (wp_X5_place (0 : Int32) m_text m_typed m_draft m_at m_sort m_start m_size (fun (r20 : Int32) (m_at_20 : Int32) (m_sort_20 : Int32) (m_start_20 : Int32) (m_size_20 : Int32) => K23 m_at_20 m_sort_20 m_start_20 m_size_20 r20))))) (fun (m_at_23 : Int32) (m_sort_23 : Int32) (m_start_23 : Int32) (m_size_23 : Int32) (y23 : Int32) => ((y23 = (-9 : Int32) → post (0 : Int32) m_draft m_at_23 m_sort_23 m_start_23 m_size_23) ∧ (¬ y23 = (-9 : Int32) → (wp_X5_number (0 : Int32) (9 : Int32) m_text m_typed m_at_23 m_sort_23 m_start_23 m_size_23 (fun (r36 : Int32) (m_at_36 : Int32) (m_sort_36 : Int32) (m_start_36 : Int32) (m_size_36 : Int32) => ((r36 = (-9 : Int32) → post (0 : Int32) m_draft m_at_36 m_sort_36 m_start_36 m_size_36) ∧ (¬ r36 = (-9 : Int32) → (vp_in ((7 : Int32) + (m_draft 3)) 43 ∧ (vp_in ((13 : Int32) + (m_draft 3)) 43 ∧ post (1 : Int32) (upd (upd (upd m_draft (ix ((7 : Int32) + (m_draft 3))) y23) (ix ((13 : Int32) + (m_draft 3))) r36) 3 (((upd (upd m_draft (ix ((7 : Int32) + (m_draft 3))) y23) (ix ((13 : Int32) + (m_draft 3))) r36) 3) + (1 : Int32))) m_at_36 m_sort_36 m_start_36 m_size_36))))))))))
abbrev rm_X5_readsLamp : Room := { frames := 5, cells := 0, slots := 0, locals := 109 }
set_option maxRecDepth 100000 in
set_option maxHeartbeats 4000000 in
theorem ct_X5_readsLamp (D : va_G) (cI cZ : ClassId) (a_M a_M_text a_M_told a_M_draft a_M_s a_M_images a_M_kept a_M_light a_M_may a_M_shine a_M_worth a_M_least : Nat) (m_trace : Int64) (m_typed : Int32) (m_at : Int32) (m_sort : Int32) (m_start : Int32) (m_size : Int32) (m_text : Nat → Int32) (m_draft : Nat → Int32) {post : Int32 → (Nat → Int32) → Int32 → Int32 → Int32 → Int32 → Prop} (h : wp_X5_readsLamp m_text m_typed m_draft m_at m_sort m_start m_size post) (l : Launch) (sz : Nat) : Met l yX5_readsLamp (wsM yX5_readsLamp cX5_readsLamp 4 (some .boolean)) rm_X5_readsLamp (va_Pc [.ref a_M] (gP D cI cZ [(a_M, .inr (5, [.long m_trace, .ref a_M_text, .int m_typed, .ref a_M_told, .ref a_M_draft, .ref a_M_s, .ref a_M_images, .ref a_M_kept, .int m_at, .int m_sort, .int m_start, .int m_size, .ref a_M_light, .ref a_M_may, .ref a_M_shine, .ref a_M_worth, .ref a_M_least])), (a_M_text, .inl (cI, 300, .inl m_text)), (a_M_draft, .inl (cI, 43, .inl m_draft))] sz)) (gQi D (fun r (u : (Nat → Int32) × Int32 × Int32 × Int32 × Int32) => isB r ∧ post r u.1 u.2.1 u.2.2.1 u.2.2.2.1 u.2.2.2.2) (fun (u : (Nat → Int32) × Int32 × Int32 × Int32 × Int32) => [(a_M, .inr (5, [.long m_trace, .ref a_M_text, .int m_typed, .ref a_M_told, .ref a_M_draft, .ref a_M_s, .ref a_M_images, .ref a_M_kept, .int u.2.1, .int u.2.2.1, .int u.2.2.2.1, .int u.2.2.2.2, .ref a_M_light, .ref a_M_may, .ref a_M_shine, .ref a_M_worth, .ref a_M_least])), (a_M_text, .inl (cI, 300, .inl m_text)), (a_M_draft, .inl (cI, 43, .inl u.1))]) [(a_M, .inr (5, [.long m_trace, .ref a_M_text, .int m_typed, .ref a_M_told, .ref a_M_draft, .ref a_M_s, .ref a_M_images, .ref a_M_kept, .int m_at, .int m_sort, .int m_start, .int m_size, .ref a_M_light, .ref a_M_may, .ref a_M_shine, .ref a_M_worth, .ref a_M_least])), (a_M_text, .inl (cI, 300, .inl m_text)), (a_M_draft, .inl (cI, 43, .inl m_draft))] sz) 0 0 (va_A [(a_M, .inr (5, [.long m_trace, .ref a_M_text, .int m_typed, .ref a_M_told, .ref a_M_draft, .ref a_M_s, .ref a_M_images, .ref a_M_kept, .int m_at, .int m_sort, .int m_start, .int m_size, .ref a_M_light, .ref a_M_may, .ref a_M_shine, .ref a_M_worth, .ref a_M_least])), (a_M_text, .inl (cI, 300, .inl m_text)), (a_M_draft, .inl (cI, 43, .inl m_draft))] sz) := by
  refine q_startM (own := RX5) (Qc := gQi D (fun r (u : (Nat → Int32) × Int32 × Int32 × Int32 × Int32) => isB r ∧ post r u.1 u.2.1 u.2.2.1 u.2.2.2.1 u.2.2.2.2) (fun (u : (Nat → Int32) × Int32 × Int32 × Int32 × Int32) => [(a_M, .inr (5, [.long m_trace, .ref a_M_text, .int m_typed, .ref a_M_told, .ref a_M_draft, .ref a_M_s, .ref a_M_images, .ref a_M_kept, .int u.2.1, .int u.2.2.1, .int u.2.2.2.1, .int u.2.2.2.2, .ref a_M_light, .ref a_M_may, .ref a_M_shine, .ref a_M_worth, .ref a_M_least])), (a_M_text, .inl (cI, 300, .inl m_text)), (a_M_draft, .inl (cI, 43, .inl u.1))]) [(a_M, .inr (5, [.long m_trace, .ref a_M_text, .int m_typed, .ref a_M_told, .ref a_M_draft, .ref a_M_s, .ref a_M_images, .ref a_M_kept, .int m_at, .int m_sort, .int m_start, .int m_size, .ref a_M_light, .ref a_M_may, .ref a_M_shine, .ref a_M_worth, .ref a_M_least])), (a_M_text, .inl (cI, 300, .inl m_text)), (a_M_draft, .inl (cI, 43, .inl m_draft))]) (by decide +kernel) rfl (Nat.le_of_ble_eq_true rfl) (fun E F Z M => ?_)
  show Wg E [(a_M, .inr (5, [.long m_trace, .ref a_M_text, .int m_typed, .ref a_M_told, .ref a_M_draft, .ref a_M_s, .ref a_M_images, .ref a_M_kept, .int m_at, .int m_sort, .int m_start, .int m_size, .ref a_M_light, .ref a_M_may, .ref a_M_shine, .ref a_M_worth, .ref a_M_least])), (a_M_text, .inl (cI, 300, .inl m_text)), (a_M_draft, .inl (cI, 43, .inl m_draft))] 0 0 0 [(0, .ref a_M)] []
  unfold wp_X5_readsLamp at h
  refine q_aload_n (pc := 0) F 0 dX5_readsLamp_0 rfl ?_
  refine q_get (pc := 1) F fgX5_16 0 rfl rfl dX5_readsLamp_1 ?_
  refine q_iconst (pc := 4) F (v := 3) dX5_readsLamp_4 (by decide) ?_
  refine q_ialdk (pc := 5) F (k9 := 3) 2 rfl (vpd (by decide +kernel)) (by decide +kernel) dX5_readsLamp_5 ?_
  refine q_istore_n (pc := 6) F (lv' := [(1, .int (m_draft 3)), (0, .ref a_M)]) dX5_readsLamp_6 (by decide) rfl ?_
  refine q_iload_n (pc := 7) F 0 dX5_readsLamp_7 rfl ?_
  refine q_bipush (pc := 8) F (v := 6) dX5_readsLamp_8 (by decide) ?_
  refine jnW h (fun K => ∀ (m_at_23 : Int32) (m_sort_23 : Int32) (m_start_23 : Int32) (m_size_23 : Int32) (y23 : Int32), K m_at_23 m_sort_23 m_start_23 m_size_23 y23 → Wg E [(a_M, .inr (5, [.long m_trace, .ref a_M_text, .int m_typed, .ref a_M_told, .ref a_M_draft, .ref a_M_s, .ref a_M_images, .ref a_M_kept, .int m_at_23, .int m_sort_23, .int m_start_23, .int m_size_23, .ref a_M_light, .ref a_M_may, .ref a_M_shine, .ref a_M_worth, .ref a_M_least])), (a_M_text, .inl (cI, 300, .inl m_text)), (a_M_draft, .inl (cI, 43, .inl m_draft))] 0 0 23 [(0, .ref a_M), (1, .int (m_draft 3))] [.int y23]) ?_ ?_
  · intro m_at_23 m_sort_23 m_start_23 m_size_23 y23 h
    refine q_istore_n (pc := 23) F (lv' := [(2, .int y23), (0, .ref a_M), (1, .int (m_draft 3))]) dX5_readsLamp_23 (by decide) rfl ?_
    refine q_iload_n (pc := 24) F 0 dX5_readsLamp_24 rfl ?_
    refine q_bipush (pc := 25) F (v := -9) dX5_readsLamp_25 (by decide) ?_
    refine q_icmp_ne (pc := 27) (tgt := 32) F dX5_readsLamp_27 (by decide) (fun c27 => ?_) (fun c27 => ?_)
    · have h := h.2 c27
      refine q_aload_n (pc := 32) F 1 dX5_readsLamp_32 rfl ?_
      refine q_iconst (pc := 33) F (v := 0) dX5_readsLamp_33 (by decide) ?_
      refine q_bipush (pc := 34) F (v := 9) dX5_readsLamp_34 (by decide) ?_
      refine q_cMi (wr := [(a_M_draft, .inl (cI, 43, .inl m_draft))]) (pc := 36) F M (q_runV (As := [.int (0 : Int32), .int (9 : Int32)]) (rest := []) (pc := 36) F (fun l sz => ct_X5_number D cI cZ a_M a_M_text a_M_told a_M_draft a_M_s a_M_images a_M_kept a_M_light a_M_may a_M_shine a_M_worth a_M_least m_trace m_typed m_at_23 m_sort_23 m_start_23 m_size_23 m_text (0 : Int32) (9 : Int32) h l sz) mc_yX5_number im_yX5_number se_yX5_number mlX5_94 ⟨by decide, by decide⟩ ⟨by decide, by decide⟩ ⟨rfl, rfl⟩ [0, 1] rfl rfl rfl 0 rfl rfl rfl (Nat.le_of_ble_eq_true rfl) dX5_readsLamp_36) [0, 1] [2] rfl rfl rfl (by decide) (fun r36 u36 h => ?_)
      obtain ⟨m_at_36, m_sort_36, m_start_36, m_size_36⟩ := u36
      refine q_cs (cs' := [(a_M, .inr (5, [.long m_trace, .ref a_M_text, .int m_typed, .ref a_M_told, .ref a_M_draft, .ref a_M_s, .ref a_M_images, .ref a_M_kept, .int m_at_36, .int m_sort_36, .int m_start_36, .int m_size_36, .ref a_M_light, .ref a_M_may, .ref a_M_shine, .ref a_M_worth, .ref a_M_least])), (a_M_text, .inl (cI, 300, .inl m_text)), (a_M_draft, .inl (cI, 43, .inl m_draft))]) [1, 2, 0] rfl rfl ?_
      refine q_istore_n (pc := 39) F (lv' := [(3, .int r36), (2, .int y23), (0, .ref a_M), (1, .int (m_draft 3))]) dX5_readsLamp_39 (by decide) rfl ?_
      refine q_iload_n (pc := 40) F 0 dX5_readsLamp_40 rfl ?_
      refine q_bipush (pc := 41) F (v := -9) dX5_readsLamp_41 (by decide) ?_
      refine q_icmp_ne (pc := 43) (tgt := 48) F dX5_readsLamp_43 (by decide) (fun c43 => ?_) (fun c43 => ?_)
      · have h := h.2 c43
        refine q_aload_n (pc := 48) F 2 dX5_readsLamp_48 rfl ?_
        refine q_get (pc := 49) F fgX5_16 0 rfl rfl dX5_readsLamp_49 ?_
        refine q_bipush (pc := 52) F (v := 7) dX5_readsLamp_52 (by decide) ?_
        refine q_iload_n (pc := 54) F 3 dX5_readsLamp_54 rfl ?_
        refine q_iadd (pc := 55) F dX5_readsLamp_55 ?_
        refine q_iload_n (pc := 56) F 1 dX5_readsLamp_56 rfl ?_
        obtain ⟨hi57, h⟩ := h
        refine q_iast (pc := 57) F M (cs' := [(a_M, .inr (5, [.long m_trace, .ref a_M_text, .int m_typed, .ref a_M_told, .ref a_M_draft, .ref a_M_s, .ref a_M_images, .ref a_M_kept, .int m_at_36, .int m_sort_36, .int m_start_36, .int m_size_36, .ref a_M_light, .ref a_M_may, .ref a_M_shine, .ref a_M_worth, .ref a_M_least])), (a_M_text, .inl (cI, 300, .inl m_text)), (a_M_draft, .inl (cI, 43, .inl (upd m_draft (ix ((7 : Int32) + (m_draft 3))) y23)))]) 2 rfl hi57 rfl dX5_readsLamp_57 ?_
        refine q_aload_n (pc := 58) F 2 dX5_readsLamp_58 rfl ?_
        refine q_get (pc := 59) F fgX5_16 0 rfl rfl dX5_readsLamp_59 ?_
        refine q_bipush (pc := 62) F (v := 13) dX5_readsLamp_62 (by decide) ?_
        refine q_iload_n (pc := 64) F 3 dX5_readsLamp_64 rfl ?_
        refine q_iadd (pc := 65) F dX5_readsLamp_65 ?_
        refine q_iload_n (pc := 66) F 0 dX5_readsLamp_66 rfl ?_
        obtain ⟨hi67, h⟩ := h
        refine q_iast (pc := 67) F M (cs' := [(a_M, .inr (5, [.long m_trace, .ref a_M_text, .int m_typed, .ref a_M_told, .ref a_M_draft, .ref a_M_s, .ref a_M_images, .ref a_M_kept, .int m_at_36, .int m_sort_36, .int m_start_36, .int m_size_36, .ref a_M_light, .ref a_M_may, .ref a_M_shine, .ref a_M_worth, .ref a_M_least])), (a_M_text, .inl (cI, 300, .inl m_text)), (a_M_draft, .inl (cI, 43, .inl (upd (upd m_draft (ix ((7 : Int32) + (m_draft 3))) y23) (ix ((13 : Int32) + (m_draft 3))) r36)))]) 2 rfl hi67 rfl dX5_readsLamp_67 ?_
        refine q_aload_n (pc := 68) F 2 dX5_readsLamp_68 rfl ?_
        refine q_get (pc := 69) F fgX5_16 0 rfl rfl dX5_readsLamp_69 ?_
        refine q_iconst (pc := 72) F (v := 3) dX5_readsLamp_72 (by decide) ?_
        refine q_dup2 (pc := 73) F dX5_readsLamp_73 rfl rfl ?_
        refine q_ialdk (pc := 74) F (k9 := 3) 2 rfl (vpd (by decide +kernel)) (by decide +kernel) dX5_readsLamp_74 ?_
        refine q_iconst (pc := 75) F (v := 1) dX5_readsLamp_75 (by decide) ?_
        refine q_iadd (pc := 76) F dX5_readsLamp_76 ?_
        refine q_iastk (pc := 77) F M (k9 := 3) (cs' := [(a_M, .inr (5, [.long m_trace, .ref a_M_text, .int m_typed, .ref a_M_told, .ref a_M_draft, .ref a_M_s, .ref a_M_images, .ref a_M_kept, .int m_at_36, .int m_sort_36, .int m_start_36, .int m_size_36, .ref a_M_light, .ref a_M_may, .ref a_M_shine, .ref a_M_worth, .ref a_M_least])), (a_M_text, .inl (cI, 300, .inl m_text)), (a_M_draft, .inl (cI, 43, .inl (upd (upd (upd m_draft (ix ((7 : Int32) + (m_draft 3))) y23) (ix ((13 : Int32) + (m_draft 3))) r36) 3 (((upd (upd m_draft (ix ((7 : Int32) + (m_draft 3))) y23) (ix ((13 : Int32) + (m_draft 3))) r36) 3) + (1 : Int32)))))]) 2 rfl (vpd (by decide +kernel)) (by decide +kernel) rfl dX5_readsLamp_77 ?_
        refine q_iconst (pc := 78) F (v := 1) dX5_readsLamp_78 (by decide) ?_
        exact q_zretM (pc := 79) F Z dX5_readsLamp_79 (Or.inr rfl) (upd (upd (upd m_draft (ix ((7 : Int32) + (m_draft 3))) y23) (ix ((13 : Int32) + (m_draft 3))) r36) 3 (((upd (upd m_draft (ix ((7 : Int32) + (m_draft 3))) y23) (ix ((13 : Int32) + (m_draft 3))) r36) 3) + (1 : Int32)), m_at_36, m_sort_36, m_start_36, m_size_36) h rfl
      · have h := h.1 c43
        refine q_iconst (pc := 46) F (v := 0) dX5_readsLamp_46 (by decide) ?_
        exact q_zretM (pc := 47) F Z dX5_readsLamp_47 (Or.inl rfl) (m_draft, m_at_36, m_sort_36, m_start_36, m_size_36) h rfl
    · have h := h.1 c27
      refine q_iconst (pc := 30) F (v := 0) dX5_readsLamp_30 (by decide) ?_
      exact q_zretM (pc := 31) F Z dX5_readsLamp_31 (Or.inl rfl) (m_draft, m_at_23, m_sort_23, m_start_23, m_size_23) h rfl
  · intro K23 J23 h
    refine q_icmp_ne (pc := 10) (tgt := 18) F dX5_readsLamp_10 (by decide) (fun c10 => ?_) (fun c10 => ?_)
    · have h := h.2 c10
      refine q_aload_n (pc := 18) F 1 dX5_readsLamp_18 rfl ?_
      refine q_iconst (pc := 19) F (v := 0) dX5_readsLamp_19 (by decide) ?_
      refine q_cMi (wr := []) (pc := 20) F M (q_runV (As := [.int (0 : Int32)]) (rest := []) (pc := 20) F (fun l sz => ct_X5_place D cI cZ a_M a_M_text a_M_told a_M_draft a_M_s a_M_images a_M_kept a_M_light a_M_may a_M_shine a_M_worth a_M_least m_trace m_typed m_at m_sort m_start m_size m_text m_draft (0 : Int32) h l sz) mc_yX5_place im_yX5_place se_yX5_place mlX5_98 ⟨by decide, by decide⟩ ⟨by decide, by decide⟩ ⟨rfl, rfl⟩ [0, 1, 2] rfl rfl rfl 0 rfl rfl rfl (Nat.le_of_ble_eq_true rfl) dX5_readsLamp_20) [0, 1, 2] [] rfl rfl rfl (by decide) (fun r20 u20 h => ?_)
      obtain ⟨m_at_20, m_sort_20, m_start_20, m_size_20⟩ := u20
      refine q_cs (cs' := [(a_M, .inr (5, [.long m_trace, .ref a_M_text, .int m_typed, .ref a_M_told, .ref a_M_draft, .ref a_M_s, .ref a_M_images, .ref a_M_kept, .int m_at_20, .int m_sort_20, .int m_start_20, .int m_size_20, .ref a_M_light, .ref a_M_may, .ref a_M_shine, .ref a_M_worth, .ref a_M_least])), (a_M_text, .inl (cI, 300, .inl m_text)), (a_M_draft, .inl (cI, 43, .inl m_draft))]) [0, 1, 2] rfl rfl ?_
      refine q_lv (lv' := [(0, .ref a_M), (1, .int (m_draft 3))]) [1, 0] rfl ?_
      exact J23 m_at_20 m_sort_20 m_start_20 m_size_20 r20 h
    · have h := h.1 c10
      refine q_bipush (pc := 13) F (v := -9) dX5_readsLamp_13 (by decide) ?_
      refine q_goto (pc := 15) (tgt := 23) F dX5_readsLamp_15 (by decide) ?_
      refine q_lv (lv' := [(0, .ref a_M), (1, .int (m_draft 3))]) [1, 0] rfl ?_
      exact J23 m_at m_sort m_start m_size (-9 : Int32) h

def wp_X5_readsPerson (m_text : Nat → Int32) (m_typed : Int32) (m_draft : Nat → Int32) (m_at : Int32) (m_sort : Int32) (m_start : Int32) (m_size : Int32) (post : Int32 → (Nat → Int32) → Int32 → Int32 → Int32 → Int32 → Prop) : Prop := (jn (fun (K23 : Int32 → Int32 → Int32 → Int32 → Int32 → Prop) => (((m_draft 4) = (6 : Int32) → K23 m_at m_sort m_start m_size (-9 : Int32)) ∧ (¬ (m_draft 4) = (6 : Int32) → (wp_X5_place (0 : Int32) m_text m_typed m_draft m_at m_sort m_start m_size (fun (r20 : Int32) (m_at_20 : Int32) (m_sort_20 : Int32) (m_start_20 : Int32) (m_size_20 : Int32) => K23 m_at_20 m_sort_20 m_start_20 m_size_20 r20))))) (fun (m_at_23 : Int32) (m_sort_23 : Int32) (m_start_23 : Int32) (m_size_23 : Int32) (y23 : Int32) => ((y23 = (-9 : Int32) → post (0 : Int32) m_draft m_at_23 m_sort_23 m_start_23 m_size_23) ∧ (¬ y23 = (-9 : Int32) → (wp_X5_number (0 : Int32) (9 : Int32) m_text m_typed m_at_23 m_sort_23 m_start_23 m_size_23 (fun (r36 : Int32) (m_at_36 : Int32) (m_sort_36 : Int32) (m_start_36 : Int32) (m_size_36 : Int32) => ((r36 = (-9 : Int32) → post (0 : Int32) m_draft m_at_36 m_sort_36 m_start_36 m_size_36) ∧ (¬ r36 = (-9 : Int32) → (wp_X5_number (0 : Int32) (1 : Int32) m_text m_typed m_at_36 m_sort_36 m_start_36 m_size_36 (fun (r51 : Int32) (m_at_51 : Int32) (m_sort_51 : Int32) (m_start_51 : Int32) (m_size_51 : Int32) => ((r51 = (-9 : Int32) → post (0 : Int32) m_draft m_at_51 m_sort_51 m_start_51 m_size_51) ∧ (¬ r51 = (-9 : Int32) → (vp_in ((19 : Int32) + (m_draft 4)) 43 ∧ (vp_in ((25 : Int32) + (m_draft 4)) 43 ∧ (vp_in ((31 : Int32) + (m_draft 4)) 43 ∧ post (1 : Int32) (upd (upd (upd (upd m_draft (ix ((19 : Int32) + (m_draft 4))) y23) (ix ((25 : Int32) + (m_draft 4))) r36) (ix ((31 : Int32) + (m_draft 4))) r51) 4 (((upd (upd (upd m_draft (ix ((19 : Int32) + (m_draft 4))) y23) (ix ((25 : Int32) + (m_draft 4))) r36) (ix ((31 : Int32) + (m_draft 4))) r51) 4) + (1 : Int32))) m_at_51 m_sort_51 m_start_51 m_size_51)))))))))))))))
abbrev rm_X5_readsPerson : Room := { frames := 5, cells := 0, slots := 0, locals := 109 }
set_option maxRecDepth 100000 in
set_option maxHeartbeats 4000000 in
theorem ct_X5_readsPerson (D : va_G) (cI cZ : ClassId) (a_M a_M_text a_M_told a_M_draft a_M_s a_M_images a_M_kept a_M_light a_M_may a_M_shine a_M_worth a_M_least : Nat) (m_trace : Int64) (m_typed : Int32) (m_at : Int32) (m_sort : Int32) (m_start : Int32) (m_size : Int32) (m_text : Nat → Int32) (m_draft : Nat → Int32) {post : Int32 → (Nat → Int32) → Int32 → Int32 → Int32 → Int32 → Prop} (h : wp_X5_readsPerson m_text m_typed m_draft m_at m_sort m_start m_size post) (l : Launch) (sz : Nat) : Met l yX5_readsPerson (wsM yX5_readsPerson cX5_readsPerson 5 (some .boolean)) rm_X5_readsPerson (va_Pc [.ref a_M] (gP D cI cZ [(a_M, .inr (5, [.long m_trace, .ref a_M_text, .int m_typed, .ref a_M_told, .ref a_M_draft, .ref a_M_s, .ref a_M_images, .ref a_M_kept, .int m_at, .int m_sort, .int m_start, .int m_size, .ref a_M_light, .ref a_M_may, .ref a_M_shine, .ref a_M_worth, .ref a_M_least])), (a_M_text, .inl (cI, 300, .inl m_text)), (a_M_draft, .inl (cI, 43, .inl m_draft))] sz)) (gQi D (fun r (u : (Nat → Int32) × Int32 × Int32 × Int32 × Int32) => isB r ∧ post r u.1 u.2.1 u.2.2.1 u.2.2.2.1 u.2.2.2.2) (fun (u : (Nat → Int32) × Int32 × Int32 × Int32 × Int32) => [(a_M, .inr (5, [.long m_trace, .ref a_M_text, .int m_typed, .ref a_M_told, .ref a_M_draft, .ref a_M_s, .ref a_M_images, .ref a_M_kept, .int u.2.1, .int u.2.2.1, .int u.2.2.2.1, .int u.2.2.2.2, .ref a_M_light, .ref a_M_may, .ref a_M_shine, .ref a_M_worth, .ref a_M_least])), (a_M_text, .inl (cI, 300, .inl m_text)), (a_M_draft, .inl (cI, 43, .inl u.1))]) [(a_M, .inr (5, [.long m_trace, .ref a_M_text, .int m_typed, .ref a_M_told, .ref a_M_draft, .ref a_M_s, .ref a_M_images, .ref a_M_kept, .int m_at, .int m_sort, .int m_start, .int m_size, .ref a_M_light, .ref a_M_may, .ref a_M_shine, .ref a_M_worth, .ref a_M_least])), (a_M_text, .inl (cI, 300, .inl m_text)), (a_M_draft, .inl (cI, 43, .inl m_draft))] sz) 0 0 (va_A [(a_M, .inr (5, [.long m_trace, .ref a_M_text, .int m_typed, .ref a_M_told, .ref a_M_draft, .ref a_M_s, .ref a_M_images, .ref a_M_kept, .int m_at, .int m_sort, .int m_start, .int m_size, .ref a_M_light, .ref a_M_may, .ref a_M_shine, .ref a_M_worth, .ref a_M_least])), (a_M_text, .inl (cI, 300, .inl m_text)), (a_M_draft, .inl (cI, 43, .inl m_draft))] sz) := by
  refine q_startM (own := RX5) (Qc := gQi D (fun r (u : (Nat → Int32) × Int32 × Int32 × Int32 × Int32) => isB r ∧ post r u.1 u.2.1 u.2.2.1 u.2.2.2.1 u.2.2.2.2) (fun (u : (Nat → Int32) × Int32 × Int32 × Int32 × Int32) => [(a_M, .inr (5, [.long m_trace, .ref a_M_text, .int m_typed, .ref a_M_told, .ref a_M_draft, .ref a_M_s, .ref a_M_images, .ref a_M_kept, .int u.2.1, .int u.2.2.1, .int u.2.2.2.1, .int u.2.2.2.2, .ref a_M_light, .ref a_M_may, .ref a_M_shine, .ref a_M_worth, .ref a_M_least])), (a_M_text, .inl (cI, 300, .inl m_text)), (a_M_draft, .inl (cI, 43, .inl u.1))]) [(a_M, .inr (5, [.long m_trace, .ref a_M_text, .int m_typed, .ref a_M_told, .ref a_M_draft, .ref a_M_s, .ref a_M_images, .ref a_M_kept, .int m_at, .int m_sort, .int m_start, .int m_size, .ref a_M_light, .ref a_M_may, .ref a_M_shine, .ref a_M_worth, .ref a_M_least])), (a_M_text, .inl (cI, 300, .inl m_text)), (a_M_draft, .inl (cI, 43, .inl m_draft))]) (by decide +kernel) rfl (Nat.le_of_ble_eq_true rfl) (fun E F Z M => ?_)
  show Wg E [(a_M, .inr (5, [.long m_trace, .ref a_M_text, .int m_typed, .ref a_M_told, .ref a_M_draft, .ref a_M_s, .ref a_M_images, .ref a_M_kept, .int m_at, .int m_sort, .int m_start, .int m_size, .ref a_M_light, .ref a_M_may, .ref a_M_shine, .ref a_M_worth, .ref a_M_least])), (a_M_text, .inl (cI, 300, .inl m_text)), (a_M_draft, .inl (cI, 43, .inl m_draft))] 0 0 0 [(0, .ref a_M)] []
  unfold wp_X5_readsPerson at h
  refine q_aload_n (pc := 0) F 0 dX5_readsPerson_0 rfl ?_
  refine q_get (pc := 1) F fgX5_16 0 rfl rfl dX5_readsPerson_1 ?_
  refine q_iconst (pc := 4) F (v := 4) dX5_readsPerson_4 (by decide) ?_
  refine q_ialdk (pc := 5) F (k9 := 4) 2 rfl (vpd (by decide +kernel)) (by decide +kernel) dX5_readsPerson_5 ?_
  refine q_istore_n (pc := 6) F (lv' := [(1, .int (m_draft 4)), (0, .ref a_M)]) dX5_readsPerson_6 (by decide) rfl ?_
  refine q_iload_n (pc := 7) F 0 dX5_readsPerson_7 rfl ?_
  refine q_bipush (pc := 8) F (v := 6) dX5_readsPerson_8 (by decide) ?_
  refine jnW h (fun K => ∀ (m_at_23 : Int32) (m_sort_23 : Int32) (m_start_23 : Int32) (m_size_23 : Int32) (y23 : Int32), K m_at_23 m_sort_23 m_start_23 m_size_23 y23 → Wg E [(a_M, .inr (5, [.long m_trace, .ref a_M_text, .int m_typed, .ref a_M_told, .ref a_M_draft, .ref a_M_s, .ref a_M_images, .ref a_M_kept, .int m_at_23, .int m_sort_23, .int m_start_23, .int m_size_23, .ref a_M_light, .ref a_M_may, .ref a_M_shine, .ref a_M_worth, .ref a_M_least])), (a_M_text, .inl (cI, 300, .inl m_text)), (a_M_draft, .inl (cI, 43, .inl m_draft))] 0 0 23 [(0, .ref a_M), (1, .int (m_draft 4))] [.int y23]) ?_ ?_
  · intro m_at_23 m_sort_23 m_start_23 m_size_23 y23 h
    refine q_istore_n (pc := 23) F (lv' := [(2, .int y23), (0, .ref a_M), (1, .int (m_draft 4))]) dX5_readsPerson_23 (by decide) rfl ?_
    refine q_iload_n (pc := 24) F 0 dX5_readsPerson_24 rfl ?_
    refine q_bipush (pc := 25) F (v := -9) dX5_readsPerson_25 (by decide) ?_
    refine q_icmp_ne (pc := 27) (tgt := 32) F dX5_readsPerson_27 (by decide) (fun c27 => ?_) (fun c27 => ?_)
    · have h := h.2 c27
      refine q_aload_n (pc := 32) F 1 dX5_readsPerson_32 rfl ?_
      refine q_iconst (pc := 33) F (v := 0) dX5_readsPerson_33 (by decide) ?_
      refine q_bipush (pc := 34) F (v := 9) dX5_readsPerson_34 (by decide) ?_
      refine q_cMi (wr := [(a_M_draft, .inl (cI, 43, .inl m_draft))]) (pc := 36) F M (q_runV (As := [.int (0 : Int32), .int (9 : Int32)]) (rest := []) (pc := 36) F (fun l sz => ct_X5_number D cI cZ a_M a_M_text a_M_told a_M_draft a_M_s a_M_images a_M_kept a_M_light a_M_may a_M_shine a_M_worth a_M_least m_trace m_typed m_at_23 m_sort_23 m_start_23 m_size_23 m_text (0 : Int32) (9 : Int32) h l sz) mc_yX5_number im_yX5_number se_yX5_number mlX5_94 ⟨by decide, by decide⟩ ⟨by decide, by decide⟩ ⟨rfl, rfl⟩ [0, 1] rfl rfl rfl 0 rfl rfl rfl (Nat.le_of_ble_eq_true rfl) dX5_readsPerson_36) [0, 1] [2] rfl rfl rfl (by decide) (fun r36 u36 h => ?_)
      obtain ⟨m_at_36, m_sort_36, m_start_36, m_size_36⟩ := u36
      refine q_cs (cs' := [(a_M, .inr (5, [.long m_trace, .ref a_M_text, .int m_typed, .ref a_M_told, .ref a_M_draft, .ref a_M_s, .ref a_M_images, .ref a_M_kept, .int m_at_36, .int m_sort_36, .int m_start_36, .int m_size_36, .ref a_M_light, .ref a_M_may, .ref a_M_shine, .ref a_M_worth, .ref a_M_least])), (a_M_text, .inl (cI, 300, .inl m_text)), (a_M_draft, .inl (cI, 43, .inl m_draft))]) [1, 2, 0] rfl rfl ?_
      refine q_istore_n (pc := 39) F (lv' := [(3, .int r36), (2, .int y23), (0, .ref a_M), (1, .int (m_draft 4))]) dX5_readsPerson_39 (by decide) rfl ?_
      refine q_iload_n (pc := 40) F 0 dX5_readsPerson_40 rfl ?_
      refine q_bipush (pc := 41) F (v := -9) dX5_readsPerson_41 (by decide) ?_
      refine q_icmp_ne (pc := 43) (tgt := 48) F dX5_readsPerson_43 (by decide) (fun c43 => ?_) (fun c43 => ?_)
      · have h := h.2 c43
        refine q_aload_n (pc := 48) F 2 dX5_readsPerson_48 rfl ?_
        refine q_iconst (pc := 49) F (v := 0) dX5_readsPerson_49 (by decide) ?_
        refine q_iconst (pc := 50) F (v := 1) dX5_readsPerson_50 (by decide) ?_
        refine q_cMi (wr := [(a_M_draft, .inl (cI, 43, .inl m_draft))]) (pc := 51) F M (q_runV (As := [.int (0 : Int32), .int (1 : Int32)]) (rest := []) (pc := 51) F (fun l sz => ct_X5_number D cI cZ a_M a_M_text a_M_told a_M_draft a_M_s a_M_images a_M_kept a_M_light a_M_may a_M_shine a_M_worth a_M_least m_trace m_typed m_at_36 m_sort_36 m_start_36 m_size_36 m_text (0 : Int32) (1 : Int32) h l sz) mc_yX5_number im_yX5_number se_yX5_number mlX5_94 ⟨by decide, by decide⟩ ⟨by decide, by decide⟩ ⟨rfl, rfl⟩ [0, 1] rfl rfl rfl 0 rfl rfl rfl (Nat.le_of_ble_eq_true rfl) dX5_readsPerson_51) [0, 1] [2] rfl rfl rfl (by decide) (fun r51 u51 h => ?_)
        obtain ⟨m_at_51, m_sort_51, m_start_51, m_size_51⟩ := u51
        refine q_cs (cs' := [(a_M, .inr (5, [.long m_trace, .ref a_M_text, .int m_typed, .ref a_M_told, .ref a_M_draft, .ref a_M_s, .ref a_M_images, .ref a_M_kept, .int m_at_51, .int m_sort_51, .int m_start_51, .int m_size_51, .ref a_M_light, .ref a_M_may, .ref a_M_shine, .ref a_M_worth, .ref a_M_least])), (a_M_text, .inl (cI, 300, .inl m_text)), (a_M_draft, .inl (cI, 43, .inl m_draft))]) [1, 2, 0] rfl rfl ?_
        refine q_istore (pc := 54) F (lv' := [(4, .int r51), (3, .int r36), (2, .int y23), (0, .ref a_M), (1, .int (m_draft 4))]) dX5_readsPerson_54 (by decide) rfl ?_
        refine q_iload (pc := 56) F 0 dX5_readsPerson_56 rfl ?_
        refine q_bipush (pc := 58) F (v := -9) dX5_readsPerson_58 (by decide) ?_
        refine q_icmp_ne (pc := 60) (tgt := 65) F dX5_readsPerson_60 (by decide) (fun c60 => ?_) (fun c60 => ?_)
        · have h := h.2 c60
          refine q_aload_n (pc := 65) F 3 dX5_readsPerson_65 rfl ?_
          refine q_get (pc := 66) F fgX5_16 0 rfl rfl dX5_readsPerson_66 ?_
          refine q_bipush (pc := 69) F (v := 19) dX5_readsPerson_69 (by decide) ?_
          refine q_iload_n (pc := 71) F 4 dX5_readsPerson_71 rfl ?_
          refine q_iadd (pc := 72) F dX5_readsPerson_72 ?_
          refine q_iload_n (pc := 73) F 2 dX5_readsPerson_73 rfl ?_
          obtain ⟨hi74, h⟩ := h
          refine q_iast (pc := 74) F M (cs' := [(a_M, .inr (5, [.long m_trace, .ref a_M_text, .int m_typed, .ref a_M_told, .ref a_M_draft, .ref a_M_s, .ref a_M_images, .ref a_M_kept, .int m_at_51, .int m_sort_51, .int m_start_51, .int m_size_51, .ref a_M_light, .ref a_M_may, .ref a_M_shine, .ref a_M_worth, .ref a_M_least])), (a_M_text, .inl (cI, 300, .inl m_text)), (a_M_draft, .inl (cI, 43, .inl (upd m_draft (ix ((19 : Int32) + (m_draft 4))) y23)))]) 2 rfl hi74 rfl dX5_readsPerson_74 ?_
          refine q_aload_n (pc := 75) F 3 dX5_readsPerson_75 rfl ?_
          refine q_get (pc := 76) F fgX5_16 0 rfl rfl dX5_readsPerson_76 ?_
          refine q_bipush (pc := 79) F (v := 25) dX5_readsPerson_79 (by decide) ?_
          refine q_iload_n (pc := 81) F 4 dX5_readsPerson_81 rfl ?_
          refine q_iadd (pc := 82) F dX5_readsPerson_82 ?_
          refine q_iload_n (pc := 83) F 1 dX5_readsPerson_83 rfl ?_
          obtain ⟨hi84, h⟩ := h
          refine q_iast (pc := 84) F M (cs' := [(a_M, .inr (5, [.long m_trace, .ref a_M_text, .int m_typed, .ref a_M_told, .ref a_M_draft, .ref a_M_s, .ref a_M_images, .ref a_M_kept, .int m_at_51, .int m_sort_51, .int m_start_51, .int m_size_51, .ref a_M_light, .ref a_M_may, .ref a_M_shine, .ref a_M_worth, .ref a_M_least])), (a_M_text, .inl (cI, 300, .inl m_text)), (a_M_draft, .inl (cI, 43, .inl (upd (upd m_draft (ix ((19 : Int32) + (m_draft 4))) y23) (ix ((25 : Int32) + (m_draft 4))) r36)))]) 2 rfl hi84 rfl dX5_readsPerson_84 ?_
          refine q_aload_n (pc := 85) F 3 dX5_readsPerson_85 rfl ?_
          refine q_get (pc := 86) F fgX5_16 0 rfl rfl dX5_readsPerson_86 ?_
          refine q_bipush (pc := 89) F (v := 31) dX5_readsPerson_89 (by decide) ?_
          refine q_iload_n (pc := 91) F 4 dX5_readsPerson_91 rfl ?_
          refine q_iadd (pc := 92) F dX5_readsPerson_92 ?_
          refine q_iload (pc := 93) F 0 dX5_readsPerson_93 rfl ?_
          obtain ⟨hi95, h⟩ := h
          refine q_iast (pc := 95) F M (cs' := [(a_M, .inr (5, [.long m_trace, .ref a_M_text, .int m_typed, .ref a_M_told, .ref a_M_draft, .ref a_M_s, .ref a_M_images, .ref a_M_kept, .int m_at_51, .int m_sort_51, .int m_start_51, .int m_size_51, .ref a_M_light, .ref a_M_may, .ref a_M_shine, .ref a_M_worth, .ref a_M_least])), (a_M_text, .inl (cI, 300, .inl m_text)), (a_M_draft, .inl (cI, 43, .inl (upd (upd (upd m_draft (ix ((19 : Int32) + (m_draft 4))) y23) (ix ((25 : Int32) + (m_draft 4))) r36) (ix ((31 : Int32) + (m_draft 4))) r51)))]) 2 rfl hi95 rfl dX5_readsPerson_95 ?_
          refine q_aload_n (pc := 96) F 3 dX5_readsPerson_96 rfl ?_
          refine q_get (pc := 97) F fgX5_16 0 rfl rfl dX5_readsPerson_97 ?_
          refine q_iconst (pc := 100) F (v := 4) dX5_readsPerson_100 (by decide) ?_
          refine q_dup2 (pc := 101) F dX5_readsPerson_101 rfl rfl ?_
          refine q_ialdk (pc := 102) F (k9 := 4) 2 rfl (vpd (by decide +kernel)) (by decide +kernel) dX5_readsPerson_102 ?_
          refine q_iconst (pc := 103) F (v := 1) dX5_readsPerson_103 (by decide) ?_
          refine q_iadd (pc := 104) F dX5_readsPerson_104 ?_
          refine q_iastk (pc := 105) F M (k9 := 4) (cs' := [(a_M, .inr (5, [.long m_trace, .ref a_M_text, .int m_typed, .ref a_M_told, .ref a_M_draft, .ref a_M_s, .ref a_M_images, .ref a_M_kept, .int m_at_51, .int m_sort_51, .int m_start_51, .int m_size_51, .ref a_M_light, .ref a_M_may, .ref a_M_shine, .ref a_M_worth, .ref a_M_least])), (a_M_text, .inl (cI, 300, .inl m_text)), (a_M_draft, .inl (cI, 43, .inl (upd (upd (upd (upd m_draft (ix ((19 : Int32) + (m_draft 4))) y23) (ix ((25 : Int32) + (m_draft 4))) r36) (ix ((31 : Int32) + (m_draft 4))) r51) 4 (((upd (upd (upd m_draft (ix ((19 : Int32) + (m_draft 4))) y23) (ix ((25 : Int32) + (m_draft 4))) r36) (ix ((31 : Int32) + (m_draft 4))) r51) 4) + (1 : Int32)))))]) 2 rfl (vpd (by decide +kernel)) (by decide +kernel) rfl dX5_readsPerson_105 ?_
          refine q_iconst (pc := 106) F (v := 1) dX5_readsPerson_106 (by decide) ?_
          exact q_zretM (pc := 107) F Z dX5_readsPerson_107 (Or.inr rfl) (upd (upd (upd (upd m_draft (ix ((19 : Int32) + (m_draft 4))) y23) (ix ((25 : Int32) + (m_draft 4))) r36) (ix ((31 : Int32) + (m_draft 4))) r51) 4 (((upd (upd (upd m_draft (ix ((19 : Int32) + (m_draft 4))) y23) (ix ((25 : Int32) + (m_draft 4))) r36) (ix ((31 : Int32) + (m_draft 4))) r51) 4) + (1 : Int32)), m_at_51, m_sort_51, m_start_51, m_size_51) h rfl
        · have h := h.1 c60
          refine q_iconst (pc := 63) F (v := 0) dX5_readsPerson_63 (by decide) ?_
          exact q_zretM (pc := 64) F Z dX5_readsPerson_64 (Or.inl rfl) (m_draft, m_at_51, m_sort_51, m_start_51, m_size_51) h rfl
      · have h := h.1 c43
        refine q_iconst (pc := 46) F (v := 0) dX5_readsPerson_46 (by decide) ?_
        exact q_zretM (pc := 47) F Z dX5_readsPerson_47 (Or.inl rfl) (m_draft, m_at_36, m_sort_36, m_start_36, m_size_36) h rfl
    · have h := h.1 c27
      refine q_iconst (pc := 30) F (v := 0) dX5_readsPerson_30 (by decide) ?_
      exact q_zretM (pc := 31) F Z dX5_readsPerson_31 (Or.inl rfl) (m_draft, m_at_23, m_sort_23, m_start_23, m_size_23) h rfl
  · intro K23 J23 h
    refine q_icmp_ne (pc := 10) (tgt := 18) F dX5_readsPerson_10 (by decide) (fun c10 => ?_) (fun c10 => ?_)
    · have h := h.2 c10
      refine q_aload_n (pc := 18) F 1 dX5_readsPerson_18 rfl ?_
      refine q_iconst (pc := 19) F (v := 0) dX5_readsPerson_19 (by decide) ?_
      refine q_cMi (wr := []) (pc := 20) F M (q_runV (As := [.int (0 : Int32)]) (rest := []) (pc := 20) F (fun l sz => ct_X5_place D cI cZ a_M a_M_text a_M_told a_M_draft a_M_s a_M_images a_M_kept a_M_light a_M_may a_M_shine a_M_worth a_M_least m_trace m_typed m_at m_sort m_start m_size m_text m_draft (0 : Int32) h l sz) mc_yX5_place im_yX5_place se_yX5_place mlX5_98 ⟨by decide, by decide⟩ ⟨by decide, by decide⟩ ⟨rfl, rfl⟩ [0, 1, 2] rfl rfl rfl 0 rfl rfl rfl (Nat.le_of_ble_eq_true rfl) dX5_readsPerson_20) [0, 1, 2] [] rfl rfl rfl (by decide) (fun r20 u20 h => ?_)
      obtain ⟨m_at_20, m_sort_20, m_start_20, m_size_20⟩ := u20
      refine q_cs (cs' := [(a_M, .inr (5, [.long m_trace, .ref a_M_text, .int m_typed, .ref a_M_told, .ref a_M_draft, .ref a_M_s, .ref a_M_images, .ref a_M_kept, .int m_at_20, .int m_sort_20, .int m_start_20, .int m_size_20, .ref a_M_light, .ref a_M_may, .ref a_M_shine, .ref a_M_worth, .ref a_M_least])), (a_M_text, .inl (cI, 300, .inl m_text)), (a_M_draft, .inl (cI, 43, .inl m_draft))]) [0, 1, 2] rfl rfl ?_
      refine q_lv (lv' := [(0, .ref a_M), (1, .int (m_draft 4))]) [1, 0] rfl ?_
      exact J23 m_at_20 m_sort_20 m_start_20 m_size_20 r20 h
    · have h := h.1 c10
      refine q_bipush (pc := 13) F (v := -9) dX5_readsPerson_13 (by decide) ?_
      refine q_goto (pc := 15) (tgt := 23) F dX5_readsPerson_15 (by decide) ?_
      refine q_lv (lv' := [(0, .ref a_M), (1, .int (m_draft 4))]) [1, 0] rfl ?_
      exact J23 m_at m_sort m_start m_size (-9 : Int32) h

def wp_X5_readsItem (p0 : Int32) (m_text : Nat → Int32) (m_typed : Int32) (m_draft : Nat → Int32) (m_at : Int32) (m_sort : Int32) (m_start : Int32) (m_size : Int32) (post : Int32 → (Nat → Int32) → Int32 → Int32 → Int32 → Int32 → Prop) : Prop := ((p0 = (5 : Int32) → (jn (fun (K26 : Int32 → Int32 → Int32 → Int32 → Int32 → Prop) => (((m_draft 37) ≤ (0 : Int32) → (wp_X5_number (0 : Int32) (1 : Int32) m_text m_typed m_at m_sort m_start m_size (fun (r23 : Int32) (m_at_23 : Int32) (m_sort_23 : Int32) (m_start_23 : Int32) (m_size_23 : Int32) => K26 m_at_23 m_sort_23 m_start_23 m_size_23 r23))) ∧ (¬ (m_draft 37) ≤ (0 : Int32) → K26 m_at m_sort m_start m_size (-9 : Int32)))) (fun (m_at_26 : Int32) (m_sort_26 : Int32) (m_start_26 : Int32) (m_size_26 : Int32) (y26 : Int32) => ((y26 = (-9 : Int32) → post (0 : Int32) (upd (upd m_draft 2 y26) 37 (1 : Int32)) m_at_26 m_sort_26 m_start_26 m_size_26) ∧ (¬ y26 = (-9 : Int32) → post (1 : Int32) (upd (upd m_draft 2 y26) 37 (1 : Int32)) m_at_26 m_sort_26 m_start_26 m_size_26))))) ∧ (¬ p0 = (5 : Int32) → ((p0 = (0 : Int32) → (wp_X5_readsHall m_text m_typed m_draft m_at m_sort m_start m_size (fun (r59 : Int32) (m_draft_59 : Nat → Int32) (m_at_59 : Int32) (m_sort_59 : Int32) (m_start_59 : Int32) (m_size_59 : Int32) => post r59 m_draft_59 m_at_59 m_sort_59 m_start_59 m_size_59))) ∧ (¬ p0 = (0 : Int32) → ((p0 = (3 : Int32) → (wp_X5_readsLamp m_text m_typed m_draft m_at m_sort m_start m_size (fun (r71 : Int32) (m_draft_71 : Nat → Int32) (m_at_71 : Int32) (m_sort_71 : Int32) (m_start_71 : Int32) (m_size_71 : Int32) => post r71 m_draft_71 m_at_71 m_sort_71 m_start_71 m_size_71))) ∧ (¬ p0 = (3 : Int32) → ((p0 = (4 : Int32) → (wp_X5_readsPerson m_text m_typed m_draft m_at m_sort m_start m_size (fun (r83 : Int32) (m_draft_83 : Nat → Int32) (m_at_83 : Int32) (m_sort_83 : Int32) (m_start_83 : Int32) (m_size_83 : Int32) => post r83 m_draft_83 m_at_83 m_sort_83 m_start_83 m_size_83))) ∧ (¬ p0 = (4 : Int32) → (jn (fun (K107 : (Nat → Int32) → Int32 → Int32 → Int32 → Int32 → Prop) => ((p0 = (-9 : Int32) → K107 m_draft m_at m_sort m_start m_size) ∧ (¬ p0 = (-9 : Int32) → (wp_X5_readsCell p0 m_text m_typed m_draft m_at m_sort m_start m_size (fun (r97 : Int32) (m_draft_97 : Nat → Int32) (m_at_97 : Int32) (m_sort_97 : Int32) (m_start_97 : Int32) (m_size_97 : Int32) => ((r97 = (0 : Int32) → K107 m_draft_97 m_at_97 m_sort_97 m_start_97 m_size_97) ∧ (¬ r97 = (0 : Int32) → post (1 : Int32) m_draft_97 m_at_97 m_sort_97 m_start_97 m_size_97))))))) (fun (m_draft_107 : Nat → Int32) (m_at_107 : Int32) (m_sort_107 : Int32) (m_start_107 : Int32) (m_size_107 : Int32) => post (0 : Int32) m_draft_107 m_at_107 m_sort_107 m_start_107 m_size_107))))))))))
abbrev rm_X5_readsItem : Room := { frames := 6, cells := 0, slots := 0, locals := 133 }
set_option maxRecDepth 100000 in
set_option maxHeartbeats 4000000 in
theorem ct_X5_readsItem (D : va_G) (cI cZ : ClassId) (a_M a_M_text a_M_told a_M_draft a_M_s a_M_images a_M_kept a_M_light a_M_may a_M_shine a_M_worth a_M_least : Nat) (m_trace : Int64) (m_typed : Int32) (m_at : Int32) (m_sort : Int32) (m_start : Int32) (m_size : Int32) (m_text : Nat → Int32) (m_draft : Nat → Int32) (p0 : Int32) {post : Int32 → (Nat → Int32) → Int32 → Int32 → Int32 → Int32 → Prop} (h : wp_X5_readsItem p0 m_text m_typed m_draft m_at m_sort m_start m_size post) (l : Launch) (sz : Nat) : Met l yX5_readsItem (wsM yX5_readsItem cX5_readsItem 3 (some .boolean)) rm_X5_readsItem (va_Pc [.ref a_M, .int p0] (gP D cI cZ [(a_M, .inr (5, [.long m_trace, .ref a_M_text, .int m_typed, .ref a_M_told, .ref a_M_draft, .ref a_M_s, .ref a_M_images, .ref a_M_kept, .int m_at, .int m_sort, .int m_start, .int m_size, .ref a_M_light, .ref a_M_may, .ref a_M_shine, .ref a_M_worth, .ref a_M_least])), (a_M_text, .inl (cI, 300, .inl m_text)), (a_M_draft, .inl (cI, 43, .inl m_draft))] sz)) (gQi D (fun r (u : (Nat → Int32) × Int32 × Int32 × Int32 × Int32) => isB r ∧ post r u.1 u.2.1 u.2.2.1 u.2.2.2.1 u.2.2.2.2) (fun (u : (Nat → Int32) × Int32 × Int32 × Int32 × Int32) => [(a_M, .inr (5, [.long m_trace, .ref a_M_text, .int m_typed, .ref a_M_told, .ref a_M_draft, .ref a_M_s, .ref a_M_images, .ref a_M_kept, .int u.2.1, .int u.2.2.1, .int u.2.2.2.1, .int u.2.2.2.2, .ref a_M_light, .ref a_M_may, .ref a_M_shine, .ref a_M_worth, .ref a_M_least])), (a_M_text, .inl (cI, 300, .inl m_text)), (a_M_draft, .inl (cI, 43, .inl u.1))]) [(a_M, .inr (5, [.long m_trace, .ref a_M_text, .int m_typed, .ref a_M_told, .ref a_M_draft, .ref a_M_s, .ref a_M_images, .ref a_M_kept, .int m_at, .int m_sort, .int m_start, .int m_size, .ref a_M_light, .ref a_M_may, .ref a_M_shine, .ref a_M_worth, .ref a_M_least])), (a_M_text, .inl (cI, 300, .inl m_text)), (a_M_draft, .inl (cI, 43, .inl m_draft))] sz) 0 0 (va_A [(a_M, .inr (5, [.long m_trace, .ref a_M_text, .int m_typed, .ref a_M_told, .ref a_M_draft, .ref a_M_s, .ref a_M_images, .ref a_M_kept, .int m_at, .int m_sort, .int m_start, .int m_size, .ref a_M_light, .ref a_M_may, .ref a_M_shine, .ref a_M_worth, .ref a_M_least])), (a_M_text, .inl (cI, 300, .inl m_text)), (a_M_draft, .inl (cI, 43, .inl m_draft))] sz) := by
  refine q_startM (own := RX5) (Qc := gQi D (fun r (u : (Nat → Int32) × Int32 × Int32 × Int32 × Int32) => isB r ∧ post r u.1 u.2.1 u.2.2.1 u.2.2.2.1 u.2.2.2.2) (fun (u : (Nat → Int32) × Int32 × Int32 × Int32 × Int32) => [(a_M, .inr (5, [.long m_trace, .ref a_M_text, .int m_typed, .ref a_M_told, .ref a_M_draft, .ref a_M_s, .ref a_M_images, .ref a_M_kept, .int u.2.1, .int u.2.2.1, .int u.2.2.2.1, .int u.2.2.2.2, .ref a_M_light, .ref a_M_may, .ref a_M_shine, .ref a_M_worth, .ref a_M_least])), (a_M_text, .inl (cI, 300, .inl m_text)), (a_M_draft, .inl (cI, 43, .inl u.1))]) [(a_M, .inr (5, [.long m_trace, .ref a_M_text, .int m_typed, .ref a_M_told, .ref a_M_draft, .ref a_M_s, .ref a_M_images, .ref a_M_kept, .int m_at, .int m_sort, .int m_start, .int m_size, .ref a_M_light, .ref a_M_may, .ref a_M_shine, .ref a_M_worth, .ref a_M_least])), (a_M_text, .inl (cI, 300, .inl m_text)), (a_M_draft, .inl (cI, 43, .inl m_draft))]) (by decide +kernel) rfl (Nat.le_of_ble_eq_true rfl) (fun E F Z M => ?_)
  show Wg E [(a_M, .inr (5, [.long m_trace, .ref a_M_text, .int m_typed, .ref a_M_told, .ref a_M_draft, .ref a_M_s, .ref a_M_images, .ref a_M_kept, .int m_at, .int m_sort, .int m_start, .int m_size, .ref a_M_light, .ref a_M_may, .ref a_M_shine, .ref a_M_worth, .ref a_M_least])), (a_M_text, .inl (cI, 300, .inl m_text)), (a_M_draft, .inl (cI, 43, .inl m_draft))] 0 0 0 [(0, .ref a_M), (1, .int p0)] []
  unfold wp_X5_readsItem at h
  refine q_iload_n (pc := 0) F 1 dX5_readsItem_0 rfl ?_
  refine q_iconst (pc := 1) F (v := 5) dX5_readsItem_1 (by decide) ?_
  refine q_icmp_ne (pc := 2) (tgt := 54) F dX5_readsItem_2 (by decide) (fun c2 => ?_) (fun c2 => ?_)
  · have h := h.2 c2
    refine q_iload_n (pc := 54) F 1 dX5_readsItem_54 rfl ?_
    refine q_if_ne (pc := 55) (tgt := 65) F dX5_readsItem_55 (by decide) (fun c55 => ?_) (fun c55 => ?_)
    · have h := h.2 c55
      refine q_iload_n (pc := 65) F 1 dX5_readsItem_65 rfl ?_
      refine q_iconst (pc := 66) F (v := 3) dX5_readsItem_66 (by decide) ?_
      refine q_icmp_ne (pc := 67) (tgt := 77) F dX5_readsItem_67 (by decide) (fun c67 => ?_) (fun c67 => ?_)
      · have h := h.2 c67
        refine q_iload_n (pc := 77) F 1 dX5_readsItem_77 rfl ?_
        refine q_iconst (pc := 78) F (v := 4) dX5_readsItem_78 (by decide) ?_
        refine q_icmp_ne (pc := 79) (tgt := 89) F dX5_readsItem_79 (by decide) (fun c79 => ?_) (fun c79 => ?_)
        · have h := h.2 c79
          refine q_iload_n (pc := 89) F 1 dX5_readsItem_89 rfl ?_
          refine q_bipush (pc := 90) F (v := -9) dX5_readsItem_90 (by decide) ?_
          refine jnW h (fun K => ∀ (m_draft_107 : Nat → Int32) (m_at_107 : Int32) (m_sort_107 : Int32) (m_start_107 : Int32) (m_size_107 : Int32), K m_draft_107 m_at_107 m_sort_107 m_start_107 m_size_107 → Wg E [(a_M, .inr (5, [.long m_trace, .ref a_M_text, .int m_typed, .ref a_M_told, .ref a_M_draft, .ref a_M_s, .ref a_M_images, .ref a_M_kept, .int m_at_107, .int m_sort_107, .int m_start_107, .int m_size_107, .ref a_M_light, .ref a_M_may, .ref a_M_shine, .ref a_M_worth, .ref a_M_least])), (a_M_text, .inl (cI, 300, .inl m_text)), (a_M_draft, .inl (cI, 43, .inl m_draft_107))] 0 0 107 [] []) ?_ ?_
          · intro m_draft_107 m_at_107 m_sort_107 m_start_107 m_size_107 h
            refine q_iconst (pc := 107) F (v := 0) dX5_readsItem_107 (by decide) ?_
            exact q_zretM (pc := 108) F Z dX5_readsItem_108 (Or.inl rfl) (m_draft_107, m_at_107, m_sort_107, m_start_107, m_size_107) h rfl
          · intro K107 J107 h
            refine q_icmp_eq (pc := 92) (tgt := 107) F dX5_readsItem_92 (by decide) (fun c92 => ?_) (fun c92 => ?_)
            · have h := h.1 c92
              refine q_lv (lv' := []) [] rfl ?_
              exact J107 m_draft m_at m_sort m_start m_size h
            · have h := h.2 c92
              refine q_aload_n (pc := 95) F 0 dX5_readsItem_95 rfl ?_
              refine q_iload_n (pc := 96) F 1 dX5_readsItem_96 rfl ?_
              refine q_cMi (wr := []) (pc := 97) F M (q_runV (As := [.int p0]) (rest := []) (pc := 97) F (fun l sz => ct_X5_readsCell D cI cZ a_M a_M_text a_M_told a_M_draft a_M_s a_M_images a_M_kept a_M_light a_M_may a_M_shine a_M_worth a_M_least m_trace m_typed m_at m_sort m_start m_size m_text m_draft p0 h l sz) mc_yX5_readsCell im_yX5_readsCell se_yX5_readsCell mlX5_112 ⟨by decide, by decide⟩ ⟨by decide, by decide⟩ ⟨rfl, rfl⟩ [0, 1, 2] rfl rfl rfl 0 rfl rfl rfl (Nat.le_of_ble_eq_true rfl) dX5_readsItem_97) [0, 1, 2] [] rfl rfl rfl (by decide) (fun r97 u97 h => ?_)
              obtain ⟨hb97, h⟩ := h
              obtain ⟨m_draft_97, m_at_97, m_sort_97, m_start_97, m_size_97⟩ := u97
              refine q_cs (cs' := [(a_M, .inr (5, [.long m_trace, .ref a_M_text, .int m_typed, .ref a_M_told, .ref a_M_draft, .ref a_M_s, .ref a_M_images, .ref a_M_kept, .int m_at_97, .int m_sort_97, .int m_start_97, .int m_size_97, .ref a_M_light, .ref a_M_may, .ref a_M_shine, .ref a_M_worth, .ref a_M_least])), (a_M_text, .inl (cI, 300, .inl m_text)), (a_M_draft, .inl (cI, 43, .inl m_draft_97))]) [0, 1, 2] rfl rfl ?_
              refine q_if_eq (pc := 100) (tgt := 107) F dX5_readsItem_100 (by decide) (fun c100 => ?_) (fun c100 => ?_)
              · have h := h.1 c100
                refine q_lv (lv' := []) [] rfl ?_
                exact J107 m_draft_97 m_at_97 m_sort_97 m_start_97 m_size_97 h
              · have h := h.2 c100
                refine q_iconst (pc := 103) F (v := 1) dX5_readsItem_103 (by decide) ?_
                refine q_goto (pc := 104) (tgt := 108) F dX5_readsItem_104 (by decide) ?_
                exact q_zretM (pc := 108) F Z dX5_readsItem_108 (Or.inr rfl) (m_draft_97, m_at_97, m_sort_97, m_start_97, m_size_97) h rfl
        · have h := h.1 c79
          refine q_aload_n (pc := 82) F 0 dX5_readsItem_82 rfl ?_
          refine q_cMi (wr := []) (pc := 83) F M (q_runV (As := []) (rest := []) (pc := 83) F (fun l sz => ct_X5_readsPerson D cI cZ a_M a_M_text a_M_told a_M_draft a_M_s a_M_images a_M_kept a_M_light a_M_may a_M_shine a_M_worth a_M_least m_trace m_typed m_at m_sort m_start m_size m_text m_draft h l sz) mc_yX5_readsPerson im_yX5_readsPerson se_yX5_readsPerson mlX5_109 ⟨by decide, by decide⟩ ⟨by decide, by decide⟩ ⟨rfl, rfl⟩ [0, 1, 2] rfl rfl rfl 0 rfl rfl rfl (Nat.le_of_ble_eq_true rfl) dX5_readsItem_83) [0, 1, 2] [] rfl rfl rfl (by decide) (fun r83 u83 h => ?_)
          obtain ⟨hb83, h⟩ := h
          obtain ⟨m_draft_83, m_at_83, m_sort_83, m_start_83, m_size_83⟩ := u83
          refine q_cs (cs' := [(a_M, .inr (5, [.long m_trace, .ref a_M_text, .int m_typed, .ref a_M_told, .ref a_M_draft, .ref a_M_s, .ref a_M_images, .ref a_M_kept, .int m_at_83, .int m_sort_83, .int m_start_83, .int m_size_83, .ref a_M_light, .ref a_M_may, .ref a_M_shine, .ref a_M_worth, .ref a_M_least])), (a_M_text, .inl (cI, 300, .inl m_text)), (a_M_draft, .inl (cI, 43, .inl m_draft_83))]) [0, 1, 2] rfl rfl ?_
          refine q_goto (pc := 86) (tgt := 108) F dX5_readsItem_86 (by decide) ?_
          exact q_zretM (pc := 108) F Z dX5_readsItem_108 hb83 (m_draft_83, m_at_83, m_sort_83, m_start_83, m_size_83) h rfl
      · have h := h.1 c67
        refine q_aload_n (pc := 70) F 0 dX5_readsItem_70 rfl ?_
        refine q_cMi (wr := []) (pc := 71) F M (q_runV (As := []) (rest := []) (pc := 71) F (fun l sz => ct_X5_readsLamp D cI cZ a_M a_M_text a_M_told a_M_draft a_M_s a_M_images a_M_kept a_M_light a_M_may a_M_shine a_M_worth a_M_least m_trace m_typed m_at m_sort m_start m_size m_text m_draft h l sz) mc_yX5_readsLamp im_yX5_readsLamp se_yX5_readsLamp mlX5_106 ⟨by decide, by decide⟩ ⟨by decide, by decide⟩ ⟨rfl, rfl⟩ [0, 1, 2] rfl rfl rfl 0 rfl rfl rfl (Nat.le_of_ble_eq_true rfl) dX5_readsItem_71) [0, 1, 2] [] rfl rfl rfl (by decide) (fun r71 u71 h => ?_)
        obtain ⟨hb71, h⟩ := h
        obtain ⟨m_draft_71, m_at_71, m_sort_71, m_start_71, m_size_71⟩ := u71
        refine q_cs (cs' := [(a_M, .inr (5, [.long m_trace, .ref a_M_text, .int m_typed, .ref a_M_told, .ref a_M_draft, .ref a_M_s, .ref a_M_images, .ref a_M_kept, .int m_at_71, .int m_sort_71, .int m_start_71, .int m_size_71, .ref a_M_light, .ref a_M_may, .ref a_M_shine, .ref a_M_worth, .ref a_M_least])), (a_M_text, .inl (cI, 300, .inl m_text)), (a_M_draft, .inl (cI, 43, .inl m_draft_71))]) [0, 1, 2] rfl rfl ?_
        refine q_goto (pc := 74) (tgt := 108) F dX5_readsItem_74 (by decide) ?_
        exact q_zretM (pc := 108) F Z dX5_readsItem_108 hb71 (m_draft_71, m_at_71, m_sort_71, m_start_71, m_size_71) h rfl
    · have h := h.1 c55
      refine q_aload_n (pc := 58) F 0 dX5_readsItem_58 rfl ?_
      refine q_cMi (wr := []) (pc := 59) F M (q_runV (As := []) (rest := []) (pc := 59) F (fun l sz => ct_X5_readsHall D cI cZ a_M a_M_text a_M_told a_M_draft a_M_s a_M_images a_M_kept a_M_light a_M_may a_M_shine a_M_worth a_M_least m_trace m_typed m_at m_sort m_start m_size m_text m_draft h l sz) mc_yX5_readsHall im_yX5_readsHall se_yX5_readsHall mlX5_102 ⟨by decide, by decide⟩ ⟨by decide, by decide⟩ ⟨rfl, rfl⟩ [0, 1, 2] rfl rfl rfl 0 rfl rfl rfl (Nat.le_of_ble_eq_true rfl) dX5_readsItem_59) [0, 1, 2] [] rfl rfl rfl (by decide) (fun r59 u59 h => ?_)
      obtain ⟨hb59, h⟩ := h
      obtain ⟨m_draft_59, m_at_59, m_sort_59, m_start_59, m_size_59⟩ := u59
      refine q_cs (cs' := [(a_M, .inr (5, [.long m_trace, .ref a_M_text, .int m_typed, .ref a_M_told, .ref a_M_draft, .ref a_M_s, .ref a_M_images, .ref a_M_kept, .int m_at_59, .int m_sort_59, .int m_start_59, .int m_size_59, .ref a_M_light, .ref a_M_may, .ref a_M_shine, .ref a_M_worth, .ref a_M_least])), (a_M_text, .inl (cI, 300, .inl m_text)), (a_M_draft, .inl (cI, 43, .inl m_draft_59))]) [0, 1, 2] rfl rfl ?_
      refine q_goto (pc := 62) (tgt := 108) F dX5_readsItem_62 (by decide) ?_
      exact q_zretM (pc := 108) F Z dX5_readsItem_108 hb59 (m_draft_59, m_at_59, m_sort_59, m_start_59, m_size_59) h rfl
  · have h := h.1 c2
    refine q_aload_n (pc := 5) F 0 dX5_readsItem_5 rfl ?_
    refine q_get (pc := 6) F fgX5_16 0 rfl rfl dX5_readsItem_6 ?_
    refine q_bipush (pc := 9) F (v := 37) dX5_readsItem_9 (by decide) ?_
    refine q_ialdk (pc := 11) F (k9 := 37) 2 rfl (vpd (by decide +kernel)) (by decide +kernel) dX5_readsItem_11 ?_
    refine jnW h (fun K => ∀ (m_at_26 : Int32) (m_sort_26 : Int32) (m_start_26 : Int32) (m_size_26 : Int32) (y26 : Int32), K m_at_26 m_sort_26 m_start_26 m_size_26 y26 → Wg E [(a_M, .inr (5, [.long m_trace, .ref a_M_text, .int m_typed, .ref a_M_told, .ref a_M_draft, .ref a_M_s, .ref a_M_images, .ref a_M_kept, .int m_at_26, .int m_sort_26, .int m_start_26, .int m_size_26, .ref a_M_light, .ref a_M_may, .ref a_M_shine, .ref a_M_worth, .ref a_M_least])), (a_M_text, .inl (cI, 300, .inl m_text)), (a_M_draft, .inl (cI, 43, .inl m_draft))] 0 0 26 [(0, .ref a_M)] [.int y26]) ?_ ?_
    · intro m_at_26 m_sort_26 m_start_26 m_size_26 y26 h
      refine q_istore_n (pc := 26) F (lv' := [(2, .int y26), (0, .ref a_M)]) dX5_readsItem_26 (by decide) rfl ?_
      refine q_aload_n (pc := 27) F 1 dX5_readsItem_27 rfl ?_
      refine q_get (pc := 28) F fgX5_16 0 rfl rfl dX5_readsItem_28 ?_
      refine q_iconst (pc := 31) F (v := 2) dX5_readsItem_31 (by decide) ?_
      refine q_iload_n (pc := 32) F 0 dX5_readsItem_32 rfl ?_
      refine q_iastk (pc := 33) F M (k9 := 2) (cs' := [(a_M, .inr (5, [.long m_trace, .ref a_M_text, .int m_typed, .ref a_M_told, .ref a_M_draft, .ref a_M_s, .ref a_M_images, .ref a_M_kept, .int m_at_26, .int m_sort_26, .int m_start_26, .int m_size_26, .ref a_M_light, .ref a_M_may, .ref a_M_shine, .ref a_M_worth, .ref a_M_least])), (a_M_text, .inl (cI, 300, .inl m_text)), (a_M_draft, .inl (cI, 43, .inl (upd m_draft 2 y26)))]) 2 rfl (vpd (by decide +kernel)) (by decide +kernel) rfl dX5_readsItem_33 ?_
      refine q_aload_n (pc := 34) F 1 dX5_readsItem_34 rfl ?_
      refine q_get (pc := 35) F fgX5_16 0 rfl rfl dX5_readsItem_35 ?_
      refine q_bipush (pc := 38) F (v := 37) dX5_readsItem_38 (by decide) ?_
      refine q_iconst (pc := 40) F (v := 1) dX5_readsItem_40 (by decide) ?_
      refine q_iastk (pc := 41) F M (k9 := 37) (cs' := [(a_M, .inr (5, [.long m_trace, .ref a_M_text, .int m_typed, .ref a_M_told, .ref a_M_draft, .ref a_M_s, .ref a_M_images, .ref a_M_kept, .int m_at_26, .int m_sort_26, .int m_start_26, .int m_size_26, .ref a_M_light, .ref a_M_may, .ref a_M_shine, .ref a_M_worth, .ref a_M_least])), (a_M_text, .inl (cI, 300, .inl m_text)), (a_M_draft, .inl (cI, 43, .inl (upd (upd m_draft 2 y26) 37 (1 : Int32))))]) 2 rfl (vpd (by decide +kernel)) (by decide +kernel) rfl dX5_readsItem_41 ?_
      refine q_iload_n (pc := 42) F 0 dX5_readsItem_42 rfl ?_
      refine q_bipush (pc := 43) F (v := -9) dX5_readsItem_43 (by decide) ?_
      refine q_icmp_eq (pc := 45) (tgt := 52) F dX5_readsItem_45 (by decide) (fun c45 => ?_) (fun c45 => ?_)
      · have h := h.1 c45
        refine q_iconst (pc := 52) F (v := 0) dX5_readsItem_52 (by decide) ?_
        exact q_zretM (pc := 53) F Z dX5_readsItem_53 (Or.inl rfl) (upd (upd m_draft 2 y26) 37 (1 : Int32), m_at_26, m_sort_26, m_start_26, m_size_26) h rfl
      · have h := h.2 c45
        refine q_iconst (pc := 48) F (v := 1) dX5_readsItem_48 (by decide) ?_
        refine q_goto (pc := 49) (tgt := 53) F dX5_readsItem_49 (by decide) ?_
        exact q_zretM (pc := 53) F Z dX5_readsItem_53 (Or.inr rfl) (upd (upd m_draft 2 y26) 37 (1 : Int32), m_at_26, m_sort_26, m_start_26, m_size_26) h rfl
    · intro K26 J26 h
      refine q_if_le (pc := 12) (tgt := 20) F dX5_readsItem_12 (by decide) (fun c12 => ?_) (fun c12 => ?_)
      · have h := h.1 c12
        refine q_aload_n (pc := 20) F 0 dX5_readsItem_20 rfl ?_
        refine q_iconst (pc := 21) F (v := 0) dX5_readsItem_21 (by decide) ?_
        refine q_iconst (pc := 22) F (v := 1) dX5_readsItem_22 (by decide) ?_
        refine q_cMi (wr := [(a_M_draft, .inl (cI, 43, .inl m_draft))]) (pc := 23) F M (q_runV (As := [.int (0 : Int32), .int (1 : Int32)]) (rest := []) (pc := 23) F (fun l sz => ct_X5_number D cI cZ a_M a_M_text a_M_told a_M_draft a_M_s a_M_images a_M_kept a_M_light a_M_may a_M_shine a_M_worth a_M_least m_trace m_typed m_at m_sort m_start m_size m_text (0 : Int32) (1 : Int32) h l sz) mc_yX5_number im_yX5_number se_yX5_number mlX5_94 ⟨by decide, by decide⟩ ⟨by decide, by decide⟩ ⟨rfl, rfl⟩ [0, 1] rfl rfl rfl 0 rfl rfl rfl (Nat.le_of_ble_eq_true rfl) dX5_readsItem_23) [0, 1] [2] rfl rfl rfl (by decide) (fun r23 u23 h => ?_)
        obtain ⟨m_at_23, m_sort_23, m_start_23, m_size_23⟩ := u23
        refine q_cs (cs' := [(a_M, .inr (5, [.long m_trace, .ref a_M_text, .int m_typed, .ref a_M_told, .ref a_M_draft, .ref a_M_s, .ref a_M_images, .ref a_M_kept, .int m_at_23, .int m_sort_23, .int m_start_23, .int m_size_23, .ref a_M_light, .ref a_M_may, .ref a_M_shine, .ref a_M_worth, .ref a_M_least])), (a_M_text, .inl (cI, 300, .inl m_text)), (a_M_draft, .inl (cI, 43, .inl m_draft))]) [1, 2, 0] rfl rfl ?_
        refine q_lv (lv' := [(0, .ref a_M)]) [0] rfl ?_
        exact J26 m_at_23 m_sort_23 m_start_23 m_size_23 r23 h
      · have h := h.2 c12
        refine q_bipush (pc := 15) F (v := -9) dX5_readsItem_15 (by decide) ?_
        refine q_goto (pc := 17) (tgt := 26) F dX5_readsItem_17 (by decide) ?_
        refine q_lv (lv' := [(0, .ref a_M)]) [0] rfl ?_
        exact J26 m_at m_sort m_start m_size (-9 : Int32) h

def wp_X5_reads_L2 (K21 : (Nat → Int32) → Prop) : Nat → Int32 → (Nat → Int32) → Prop
  | 0, _, _ => False
  | n + 1, x1, m_draft => (((43 : Int32) ≤ x1 → K21 m_draft) ∧ (¬ (43 : Int32) ≤ x1 → (vp_in x1 43 ∧ wp_X5_reads_L2 K21 n (x1 + (1 : Int32)) (upd m_draft (ix x1) (0 : Int32)))))
def wp_X5_reads_L44 (m_text : Nat → Int32) (m_typed : Int32) (post : Int32 → (Nat → Int32) → Int32 → Int32 → Int32 → Int32 → Prop) : Nat → (Nat → Int32) → Int32 → Int32 → Int32 → Int32 → Prop
  | 0, _, _, _, _, _ => False
  | n + 1, m_draft, m_at, m_sort, m_start, m_size => ((m_sort = (0 : Int32) → post (1 : Int32) m_draft m_at m_sort m_start m_size) ∧ (¬ m_sort = (0 : Int32) → (wp_X5_verb m_text m_typed m_sort m_start m_size (fun (r53 : Int32) => (wp_X5_readsItem r53 m_text m_typed m_draft m_at m_sort m_start m_size (fun (r56 : Int32) (m_draft_56 : Nat → Int32) (m_at_56 : Int32) (m_sort_56 : Int32) (m_start_56 : Int32) (m_size_56 : Int32) => ((r56 = (0 : Int32) → post (0 : Int32) m_draft_56 m_at_56 m_sort_56 m_start_56 m_size_56) ∧ (¬ r56 = (0 : Int32) → (wp_X5_token m_text m_typed m_at_56 m_sort_56 m_start_56 m_size_56 (fun (m_at_65 : Int32) (m_sort_65 : Int32) (m_start_65 : Int32) (m_size_65 : Int32) => ((m_sort_65 = (3 : Int32) → (wp_X5_token m_text m_typed m_at_65 m_sort_65 m_start_65 m_size_65 (fun (m_at_90 : Int32) (m_sort_90 : Int32) (m_start_90 : Int32) (m_size_90 : Int32) => wp_X5_reads_L44 m_text m_typed post n (upd m_draft_56 38 ((m_draft_56 38) + (1 : Int32))) m_at_90 m_sort_90 m_start_90 m_size_90))) ∧ (¬ m_sort_65 = (3 : Int32) → post (0 : Int32) m_draft_56 m_at_65 m_sort_65 m_start_65 m_size_65))))))))))))
def wp_X5_reads (m_text : Nat → Int32) (m_typed : Int32) (m_draft : Nat → Int32) (m_at : Int32) (m_sort : Int32) (m_start : Int32) (m_size : Int32) (post : Int32 → (Nat → Int32) → Int32 → Int32 → Int32 → Int32 → Prop) : Prop := (jn (fun (K21 : (Nat → Int32) → Prop) => (∃ n2 : Nat, wp_X5_reads_L2 K21 n2 (0 : Int32) m_draft)) (fun (m_draft_21 : Nat → Int32) => (wp_X5_token m_text m_typed (0 : Int32) m_sort m_start m_size (fun (m_at_41 : Int32) (m_sort_41 : Int32) (m_start_41 : Int32) (m_size_41 : Int32) => (∃ n44 : Nat, wp_X5_reads_L44 m_text m_typed post n44 (upd (upd m_draft_21 0 (4 : Int32)) 1 (3 : Int32)) m_at_41 m_sort_41 m_start_41 m_size_41)))))
abbrev rm_X5_reads : Room := { frames := 7, cells := 0, slots := 0, locals := 155 }
set_option maxRecDepth 100000 in
set_option maxHeartbeats 4000000 in
theorem ct_X5_reads (D : va_G) (cI cZ : ClassId) (a_M a_M_text a_M_told a_M_draft a_M_s a_M_images a_M_kept a_M_light a_M_may a_M_shine a_M_worth a_M_least : Nat) (m_trace : Int64) (m_typed : Int32) (m_at : Int32) (m_sort : Int32) (m_start : Int32) (m_size : Int32) (m_text : Nat → Int32) (m_draft : Nat → Int32) {post : Int32 → (Nat → Int32) → Int32 → Int32 → Int32 → Int32 → Prop} (h : wp_X5_reads m_text m_typed m_draft m_at m_sort m_start m_size post) (l : Launch) (sz : Nat) : Met l yX5_reads (wsM yX5_reads cX5_reads 2 (some .boolean)) rm_X5_reads (va_Pc [.ref a_M] (gP D cI cZ [(a_M, .inr (5, [.long m_trace, .ref a_M_text, .int m_typed, .ref a_M_told, .ref a_M_draft, .ref a_M_s, .ref a_M_images, .ref a_M_kept, .int m_at, .int m_sort, .int m_start, .int m_size, .ref a_M_light, .ref a_M_may, .ref a_M_shine, .ref a_M_worth, .ref a_M_least])), (a_M_text, .inl (cI, 300, .inl m_text)), (a_M_draft, .inl (cI, 43, .inl m_draft))] sz)) (gQi D (fun r (u : (Nat → Int32) × Int32 × Int32 × Int32 × Int32) => isB r ∧ post r u.1 u.2.1 u.2.2.1 u.2.2.2.1 u.2.2.2.2) (fun (u : (Nat → Int32) × Int32 × Int32 × Int32 × Int32) => [(a_M, .inr (5, [.long m_trace, .ref a_M_text, .int m_typed, .ref a_M_told, .ref a_M_draft, .ref a_M_s, .ref a_M_images, .ref a_M_kept, .int u.2.1, .int u.2.2.1, .int u.2.2.2.1, .int u.2.2.2.2, .ref a_M_light, .ref a_M_may, .ref a_M_shine, .ref a_M_worth, .ref a_M_least])), (a_M_text, .inl (cI, 300, .inl m_text)), (a_M_draft, .inl (cI, 43, .inl u.1))]) [(a_M, .inr (5, [.long m_trace, .ref a_M_text, .int m_typed, .ref a_M_told, .ref a_M_draft, .ref a_M_s, .ref a_M_images, .ref a_M_kept, .int m_at, .int m_sort, .int m_start, .int m_size, .ref a_M_light, .ref a_M_may, .ref a_M_shine, .ref a_M_worth, .ref a_M_least])), (a_M_text, .inl (cI, 300, .inl m_text)), (a_M_draft, .inl (cI, 43, .inl m_draft))] sz) 0 0 (va_A [(a_M, .inr (5, [.long m_trace, .ref a_M_text, .int m_typed, .ref a_M_told, .ref a_M_draft, .ref a_M_s, .ref a_M_images, .ref a_M_kept, .int m_at, .int m_sort, .int m_start, .int m_size, .ref a_M_light, .ref a_M_may, .ref a_M_shine, .ref a_M_worth, .ref a_M_least])), (a_M_text, .inl (cI, 300, .inl m_text)), (a_M_draft, .inl (cI, 43, .inl m_draft))] sz) := by
  refine q_startM (own := RX5) (Qc := gQi D (fun r (u : (Nat → Int32) × Int32 × Int32 × Int32 × Int32) => isB r ∧ post r u.1 u.2.1 u.2.2.1 u.2.2.2.1 u.2.2.2.2) (fun (u : (Nat → Int32) × Int32 × Int32 × Int32 × Int32) => [(a_M, .inr (5, [.long m_trace, .ref a_M_text, .int m_typed, .ref a_M_told, .ref a_M_draft, .ref a_M_s, .ref a_M_images, .ref a_M_kept, .int u.2.1, .int u.2.2.1, .int u.2.2.2.1, .int u.2.2.2.2, .ref a_M_light, .ref a_M_may, .ref a_M_shine, .ref a_M_worth, .ref a_M_least])), (a_M_text, .inl (cI, 300, .inl m_text)), (a_M_draft, .inl (cI, 43, .inl u.1))]) [(a_M, .inr (5, [.long m_trace, .ref a_M_text, .int m_typed, .ref a_M_told, .ref a_M_draft, .ref a_M_s, .ref a_M_images, .ref a_M_kept, .int m_at, .int m_sort, .int m_start, .int m_size, .ref a_M_light, .ref a_M_may, .ref a_M_shine, .ref a_M_worth, .ref a_M_least])), (a_M_text, .inl (cI, 300, .inl m_text)), (a_M_draft, .inl (cI, 43, .inl m_draft))]) (by decide +kernel) rfl (Nat.le_of_ble_eq_true rfl) (fun E F Z M => ?_)
  show Wg E [(a_M, .inr (5, [.long m_trace, .ref a_M_text, .int m_typed, .ref a_M_told, .ref a_M_draft, .ref a_M_s, .ref a_M_images, .ref a_M_kept, .int m_at, .int m_sort, .int m_start, .int m_size, .ref a_M_light, .ref a_M_may, .ref a_M_shine, .ref a_M_worth, .ref a_M_least])), (a_M_text, .inl (cI, 300, .inl m_text)), (a_M_draft, .inl (cI, 43, .inl m_draft))] 0 0 0 [(0, .ref a_M)] []
  unfold wp_X5_reads at h
  refine q_iconst (pc := 0) F (v := 0) dX5_reads_0 (by decide) ?_
  refine q_istore_n (pc := 1) F (lv' := [(1, .int (0 : Int32)), (0, .ref a_M)]) dX5_reads_1 (by decide) rfl ?_
  refine jnW h (fun K => ∀ (m_draft_21 : Nat → Int32), K m_draft_21 → Wg E [(a_M, .inr (5, [.long m_trace, .ref a_M_text, .int m_typed, .ref a_M_told, .ref a_M_draft, .ref a_M_s, .ref a_M_images, .ref a_M_kept, .int m_at, .int m_sort, .int m_start, .int m_size, .ref a_M_light, .ref a_M_may, .ref a_M_shine, .ref a_M_worth, .ref a_M_least])), (a_M_text, .inl (cI, 300, .inl m_text)), (a_M_draft, .inl (cI, 43, .inl m_draft_21))] 0 0 21 [(0, .ref a_M)] []) ?_ ?_
  · intro m_draft_21 h
    refine q_aload_n (pc := 21) F 0 dX5_reads_21 rfl ?_
    refine q_get (pc := 22) F fgX5_16 0 rfl rfl dX5_reads_22 ?_
    refine q_iconst (pc := 25) F (v := 0) dX5_reads_25 (by decide) ?_
    refine q_iconst (pc := 26) F (v := 4) dX5_reads_26 (by decide) ?_
    refine q_iastk (pc := 27) F M (k9 := 0) (cs' := [(a_M, .inr (5, [.long m_trace, .ref a_M_text, .int m_typed, .ref a_M_told, .ref a_M_draft, .ref a_M_s, .ref a_M_images, .ref a_M_kept, .int m_at, .int m_sort, .int m_start, .int m_size, .ref a_M_light, .ref a_M_may, .ref a_M_shine, .ref a_M_worth, .ref a_M_least])), (a_M_text, .inl (cI, 300, .inl m_text)), (a_M_draft, .inl (cI, 43, .inl (upd m_draft_21 0 (4 : Int32))))]) 2 rfl (vpd (by decide +kernel)) (by decide +kernel) rfl dX5_reads_27 ?_
    refine q_aload_n (pc := 28) F 0 dX5_reads_28 rfl ?_
    refine q_get (pc := 29) F fgX5_16 0 rfl rfl dX5_reads_29 ?_
    refine q_iconst (pc := 32) F (v := 1) dX5_reads_32 (by decide) ?_
    refine q_iconst (pc := 33) F (v := 3) dX5_reads_33 (by decide) ?_
    refine q_iastk (pc := 34) F M (k9 := 1) (cs' := [(a_M, .inr (5, [.long m_trace, .ref a_M_text, .int m_typed, .ref a_M_told, .ref a_M_draft, .ref a_M_s, .ref a_M_images, .ref a_M_kept, .int m_at, .int m_sort, .int m_start, .int m_size, .ref a_M_light, .ref a_M_may, .ref a_M_shine, .ref a_M_worth, .ref a_M_least])), (a_M_text, .inl (cI, 300, .inl m_text)), (a_M_draft, .inl (cI, 43, .inl (upd (upd m_draft_21 0 (4 : Int32)) 1 (3 : Int32))))]) 2 rfl (vpd (by decide +kernel)) (by decide +kernel) rfl dX5_reads_34 ?_
    refine q_aload_n (pc := 35) F 0 dX5_reads_35 rfl ?_
    refine q_iconst (pc := 36) F (v := 0) dX5_reads_36 (by decide) ?_
    refine q_put (pc := 37) F M (cs' := [(a_M, .inr (5, [.long m_trace, .ref a_M_text, .int m_typed, .ref a_M_told, .ref a_M_draft, .ref a_M_s, .ref a_M_images, .ref a_M_kept, .int (0 : Int32), .int m_sort, .int m_start, .int m_size, .ref a_M_light, .ref a_M_may, .ref a_M_shine, .ref a_M_worth, .ref a_M_least])), (a_M_text, .inl (cI, 300, .inl m_text)), (a_M_draft, .inl (cI, 43, .inl (upd (upd m_draft_21 0 (4 : Int32)) 1 (3 : Int32))))]) fpX5_58 0 rfl rfl rfl (Nat.le_of_ble_eq_true rfl) rfl dX5_reads_37 ?_
    refine q_aload_n (pc := 40) F 0 dX5_reads_40 rfl ?_
    refine q_cMv (wr := [(a_M_draft, .inl (cI, 43, .inl (upd (upd m_draft_21 0 (4 : Int32)) 1 (3 : Int32))))]) (pc := 41) F M (q_runV (As := []) (rest := []) (pc := 41) F (fun l sz => ct_X5_token D cI cZ a_M a_M_text a_M_told a_M_draft a_M_s a_M_images a_M_kept a_M_light a_M_may a_M_shine a_M_worth a_M_least m_trace m_typed (0 : Int32) m_sort m_start m_size m_text h l sz) mc_yX5_token im_yX5_token se_yX5_token mlX5_91 ⟨by decide, by decide⟩ ⟨by decide, by decide⟩ ⟨rfl, rfl⟩ [0, 1] rfl rfl rfl 0 rfl rfl rfl (Nat.le_of_ble_eq_true rfl) dX5_reads_41) [0, 1] [2] rfl rfl rfl (by decide) (fun u41 h => ?_)
    obtain ⟨m_at_41, m_sort_41, m_start_41, m_size_41⟩ := u41
    refine q_cs (cs' := [(a_M, .inr (5, [.long m_trace, .ref a_M_text, .int m_typed, .ref a_M_told, .ref a_M_draft, .ref a_M_s, .ref a_M_images, .ref a_M_kept, .int m_at_41, .int m_sort_41, .int m_start_41, .int m_size_41, .ref a_M_light, .ref a_M_may, .ref a_M_shine, .ref a_M_worth, .ref a_M_least])), (a_M_text, .inl (cI, 300, .inl m_text)), (a_M_draft, .inl (cI, 43, .inl (upd (upd m_draft_21 0 (4 : Int32)) 1 (3 : Int32))))]) [1, 2, 0] rfl rfl ?_
    obtain ⟨n44, h⟩ := h
    have lp44 : ∀ (n : Nat) (m_draft_h44 : Nat → Int32) (m_at_h44 : Int32) (m_sort_h44 : Int32) (m_start_h44 : Int32) (m_size_h44 : Int32), wp_X5_reads_L44 m_text m_typed post n m_draft_h44 m_at_h44 m_sort_h44 m_start_h44 m_size_h44 → Wg E [(a_M, .inr (5, [.long m_trace, .ref a_M_text, .int m_typed, .ref a_M_told, .ref a_M_draft, .ref a_M_s, .ref a_M_images, .ref a_M_kept, .int m_at_h44, .int m_sort_h44, .int m_start_h44, .int m_size_h44, .ref a_M_light, .ref a_M_may, .ref a_M_shine, .ref a_M_worth, .ref a_M_least])), (a_M_text, .inl (cI, 300, .inl m_text)), (a_M_draft, .inl (cI, 43, .inl m_draft_h44))] 0 0 44 [(0, .ref a_M)] [] := by
      intro n
      induction n with
      | zero => intro m_draft_h44 m_at_h44 m_sort_h44 m_start_h44 m_size_h44 h; exact h.elim
      | succ n ih =>
        intro m_draft_h44 m_at_h44 m_sort_h44 m_start_h44 m_size_h44 h
        unfold wp_X5_reads_L44 at h
        refine q_aload_n (pc := 44) F 0 dX5_reads_44 rfl ?_
        refine q_get (pc := 45) F fgX5_71 0 rfl rfl dX5_reads_45 ?_
        refine q_if_eq (pc := 48) (tgt := 96) F dX5_reads_48 (by decide) (fun c48 => ?_) (fun c48 => ?_)
        · have h := h.1 c48
          refine q_iconst (pc := 96) F (v := 1) dX5_reads_96 (by decide) ?_
          exact q_zretM (pc := 97) F Z dX5_reads_97 (Or.inr rfl) (m_draft_h44, m_at_h44, m_sort_h44, m_start_h44, m_size_h44) h rfl
        · have h := h.2 c48
          refine q_aload_n (pc := 51) F 0 dX5_reads_51 rfl ?_
          refine q_aload_n (pc := 52) F 0 dX5_reads_52 rfl ?_
          refine q_cR (q_runV (As := []) (rest := [.ref a_M]) (pc := 53) F (fun l sz => ct_X5_verb D cI cZ a_M a_M_text a_M_told a_M_draft a_M_s a_M_images a_M_kept a_M_light a_M_may a_M_shine a_M_worth a_M_least m_trace m_typed m_at_h44 m_sort_h44 m_start_h44 m_size_h44 m_text h l sz) mc_yX5_verb im_yX5_verb se_yX5_verb mlX5_116 ⟨by decide, by decide⟩ ⟨by decide, by decide⟩ ⟨rfl, rfl⟩ [0, 1] rfl rfl rfl 0 rfl rfl rfl (Nat.le_of_ble_eq_true rfl) dX5_reads_53) (fun r53 h => ?_)
          refine q_cMi (wr := []) (pc := 56) F M (q_runV (As := [.int r53]) (rest := []) (pc := 56) F (fun l sz => ct_X5_readsItem D cI cZ a_M a_M_text a_M_told a_M_draft a_M_s a_M_images a_M_kept a_M_light a_M_may a_M_shine a_M_worth a_M_least m_trace m_typed m_at_h44 m_sort_h44 m_start_h44 m_size_h44 m_text m_draft_h44 r53 h l sz) mc_yX5_readsItem im_yX5_readsItem se_yX5_readsItem mlX5_119 ⟨by decide, by decide⟩ ⟨by decide, by decide⟩ ⟨rfl, rfl⟩ [0, 1, 2] rfl rfl rfl 0 rfl rfl rfl (Nat.le_of_ble_eq_true rfl) dX5_reads_56) [0, 1, 2] [] rfl rfl rfl (by decide) (fun r56 u56 h => ?_)
          obtain ⟨hb56, h⟩ := h
          obtain ⟨m_draft_56, m_at_56, m_sort_56, m_start_56, m_size_56⟩ := u56
          refine q_cs (cs' := [(a_M, .inr (5, [.long m_trace, .ref a_M_text, .int m_typed, .ref a_M_told, .ref a_M_draft, .ref a_M_s, .ref a_M_images, .ref a_M_kept, .int m_at_56, .int m_sort_56, .int m_start_56, .int m_size_56, .ref a_M_light, .ref a_M_may, .ref a_M_shine, .ref a_M_worth, .ref a_M_least])), (a_M_text, .inl (cI, 300, .inl m_text)), (a_M_draft, .inl (cI, 43, .inl m_draft_56))]) [0, 1, 2] rfl rfl ?_
          refine q_if_ne (pc := 59) (tgt := 64) F dX5_reads_59 (by decide) (fun c59 => ?_) (fun c59 => ?_)
          · have h := h.2 c59
            refine q_aload_n (pc := 64) F 0 dX5_reads_64 rfl ?_
            refine q_cMv (wr := [(a_M_draft, .inl (cI, 43, .inl m_draft_56))]) (pc := 65) F M (q_runV (As := []) (rest := []) (pc := 65) F (fun l sz => ct_X5_token D cI cZ a_M a_M_text a_M_told a_M_draft a_M_s a_M_images a_M_kept a_M_light a_M_may a_M_shine a_M_worth a_M_least m_trace m_typed m_at_56 m_sort_56 m_start_56 m_size_56 m_text h l sz) mc_yX5_token im_yX5_token se_yX5_token mlX5_91 ⟨by decide, by decide⟩ ⟨by decide, by decide⟩ ⟨rfl, rfl⟩ [0, 1] rfl rfl rfl 0 rfl rfl rfl (Nat.le_of_ble_eq_true rfl) dX5_reads_65) [0, 1] [2] rfl rfl rfl (by decide) (fun u65 h => ?_)
            obtain ⟨m_at_65, m_sort_65, m_start_65, m_size_65⟩ := u65
            refine q_cs (cs' := [(a_M, .inr (5, [.long m_trace, .ref a_M_text, .int m_typed, .ref a_M_told, .ref a_M_draft, .ref a_M_s, .ref a_M_images, .ref a_M_kept, .int m_at_65, .int m_sort_65, .int m_start_65, .int m_size_65, .ref a_M_light, .ref a_M_may, .ref a_M_shine, .ref a_M_worth, .ref a_M_least])), (a_M_text, .inl (cI, 300, .inl m_text)), (a_M_draft, .inl (cI, 43, .inl m_draft_56))]) [1, 2, 0] rfl rfl ?_
            refine q_aload_n (pc := 68) F 0 dX5_reads_68 rfl ?_
            refine q_get (pc := 69) F fgX5_71 0 rfl rfl dX5_reads_69 ?_
            refine q_iconst (pc := 72) F (v := 3) dX5_reads_72 (by decide) ?_
            refine q_icmp_eq (pc := 73) (tgt := 78) F dX5_reads_73 (by decide) (fun c73 => ?_) (fun c73 => ?_)
            · have h := h.1 c73
              refine q_aload_n (pc := 78) F 0 dX5_reads_78 rfl ?_
              refine q_get (pc := 79) F fgX5_16 0 rfl rfl dX5_reads_79 ?_
              refine q_bipush (pc := 82) F (v := 38) dX5_reads_82 (by decide) ?_
              refine q_dup2 (pc := 84) F dX5_reads_84 rfl rfl ?_
              refine q_ialdk (pc := 85) F (k9 := 38) 2 rfl (vpd (by decide +kernel)) (by decide +kernel) dX5_reads_85 ?_
              refine q_iconst (pc := 86) F (v := 1) dX5_reads_86 (by decide) ?_
              refine q_iadd (pc := 87) F dX5_reads_87 ?_
              refine q_iastk (pc := 88) F M (k9 := 38) (cs' := [(a_M, .inr (5, [.long m_trace, .ref a_M_text, .int m_typed, .ref a_M_told, .ref a_M_draft, .ref a_M_s, .ref a_M_images, .ref a_M_kept, .int m_at_65, .int m_sort_65, .int m_start_65, .int m_size_65, .ref a_M_light, .ref a_M_may, .ref a_M_shine, .ref a_M_worth, .ref a_M_least])), (a_M_text, .inl (cI, 300, .inl m_text)), (a_M_draft, .inl (cI, 43, .inl (upd m_draft_56 38 ((m_draft_56 38) + (1 : Int32)))))]) 2 rfl (vpd (by decide +kernel)) (by decide +kernel) rfl dX5_reads_88 ?_
              refine q_aload_n (pc := 89) F 0 dX5_reads_89 rfl ?_
              refine q_cMv (wr := [(a_M_draft, .inl (cI, 43, .inl (upd m_draft_56 38 ((m_draft_56 38) + (1 : Int32)))))]) (pc := 90) F M (q_runV (As := []) (rest := []) (pc := 90) F (fun l sz => ct_X5_token D cI cZ a_M a_M_text a_M_told a_M_draft a_M_s a_M_images a_M_kept a_M_light a_M_may a_M_shine a_M_worth a_M_least m_trace m_typed m_at_65 m_sort_65 m_start_65 m_size_65 m_text h l sz) mc_yX5_token im_yX5_token se_yX5_token mlX5_91 ⟨by decide, by decide⟩ ⟨by decide, by decide⟩ ⟨rfl, rfl⟩ [0, 1] rfl rfl rfl 0 rfl rfl rfl (Nat.le_of_ble_eq_true rfl) dX5_reads_90) [0, 1] [2] rfl rfl rfl (by decide) (fun u90 h => ?_)
              obtain ⟨m_at_90, m_sort_90, m_start_90, m_size_90⟩ := u90
              refine q_cs (cs' := [(a_M, .inr (5, [.long m_trace, .ref a_M_text, .int m_typed, .ref a_M_told, .ref a_M_draft, .ref a_M_s, .ref a_M_images, .ref a_M_kept, .int m_at_90, .int m_sort_90, .int m_start_90, .int m_size_90, .ref a_M_light, .ref a_M_may, .ref a_M_shine, .ref a_M_worth, .ref a_M_least])), (a_M_text, .inl (cI, 300, .inl m_text)), (a_M_draft, .inl (cI, 43, .inl (upd m_draft_56 38 ((m_draft_56 38) + (1 : Int32)))))]) [1, 2, 0] rfl rfl ?_
              refine q_goto (pc := 93) (tgt := 44) F dX5_reads_93 (by decide) ?_
              exact ih (upd m_draft_56 38 ((m_draft_56 38) + (1 : Int32))) m_at_90 m_sort_90 m_start_90 m_size_90 h
            · have h := h.2 c73
              refine q_iconst (pc := 76) F (v := 0) dX5_reads_76 (by decide) ?_
              exact q_zretM (pc := 77) F Z dX5_reads_77 (Or.inl rfl) (m_draft_56, m_at_65, m_sort_65, m_start_65, m_size_65) h rfl
          · have h := h.1 c59
            refine q_iconst (pc := 62) F (v := 0) dX5_reads_62 (by decide) ?_
            exact q_zretM (pc := 63) F Z dX5_reads_63 (Or.inl rfl) (m_draft_56, m_at_56, m_sort_56, m_start_56, m_size_56) h rfl
    exact lp44 n44 (upd (upd m_draft_21 0 (4 : Int32)) 1 (3 : Int32)) m_at_41 m_sort_41 m_start_41 m_size_41 h
  · intro K21 J21 h
    obtain ⟨n2, h⟩ := h
    have lp2 : ∀ (n : Nat) (x1_h2 : Int32) (m_draft_h2 : Nat → Int32), wp_X5_reads_L2 K21 n x1_h2 m_draft_h2 → Wg E [(a_M, .inr (5, [.long m_trace, .ref a_M_text, .int m_typed, .ref a_M_told, .ref a_M_draft, .ref a_M_s, .ref a_M_images, .ref a_M_kept, .int m_at, .int m_sort, .int m_start, .int m_size, .ref a_M_light, .ref a_M_may, .ref a_M_shine, .ref a_M_worth, .ref a_M_least])), (a_M_text, .inl (cI, 300, .inl m_text)), (a_M_draft, .inl (cI, 43, .inl m_draft_h2))] 0 0 2 [(0, .ref a_M), (1, .int x1_h2)] [] := by
      intro n
      induction n with
      | zero => intro x1_h2 m_draft_h2 h; exact h.elim
      | succ n ih =>
        intro x1_h2 m_draft_h2 h
        unfold wp_X5_reads_L2 at h
        refine q_iload_n (pc := 2) F 1 dX5_reads_2 rfl ?_
        refine q_bipush (pc := 3) F (v := 43) dX5_reads_3 (by decide) ?_
        refine q_icmp_ge (pc := 5) (tgt := 21) F dX5_reads_5 (by decide) (fun c5 => ?_) (fun c5 => ?_)
        · have h := h.1 c5
          refine q_lv (lv' := [(0, .ref a_M)]) [0] rfl ?_
          exact J21 m_draft_h2 h
        · have h := h.2 c5
          refine q_aload_n (pc := 8) F 0 dX5_reads_8 rfl ?_
          refine q_get (pc := 9) F fgX5_16 0 rfl rfl dX5_reads_9 ?_
          refine q_iload_n (pc := 12) F 1 dX5_reads_12 rfl ?_
          refine q_iconst (pc := 13) F (v := 0) dX5_reads_13 (by decide) ?_
          obtain ⟨hi14, h⟩ := h
          refine q_iast (pc := 14) F M (cs' := [(a_M, .inr (5, [.long m_trace, .ref a_M_text, .int m_typed, .ref a_M_told, .ref a_M_draft, .ref a_M_s, .ref a_M_images, .ref a_M_kept, .int m_at, .int m_sort, .int m_start, .int m_size, .ref a_M_light, .ref a_M_may, .ref a_M_shine, .ref a_M_worth, .ref a_M_least])), (a_M_text, .inl (cI, 300, .inl m_text)), (a_M_draft, .inl (cI, 43, .inl (upd m_draft_h2 (ix x1_h2) (0 : Int32))))]) 2 rfl hi14 rfl dX5_reads_14 ?_
          refine q_iinc (pc := 15) F (v := x1_h2 + (1 : Int32)) (lv' := [(1, .int (x1_h2 + (1 : Int32))), (0, .ref a_M)]) 1 dX5_reads_15 rfl rfl (by decide) rfl ?_
          refine q_goto (pc := 18) (tgt := 2) F dX5_reads_18 (by decide) ?_
          refine q_lv (lv' := [(0, .ref a_M), (1, .int (x1_h2 + (1 : Int32)))]) [1, 0] rfl ?_
          exact ih (x1_h2 + (1 : Int32)) (upd m_draft_h2 (ix x1_h2) (0 : Int32)) h
    refine q_lv (lv' := [(0, .ref a_M), (1, .int (0 : Int32))]) [1, 0] rfl ?_
    exact lp2 n2 (0 : Int32) m_draft h

def wp_X5_hall_L17 (m_draft : Nat → Int32) (K41 : (Nat → Int32) → Prop) : Nat → Int32 → (Nat → Int32) → Prop
  | 0, _, _ => False
  | n + 1, x1, m_told => (((43 : Int32) ≤ x1 → K41 m_told) ∧ (¬ (43 : Int32) ≤ x1 → (vp_in x1 43 ∧ (vp_in x1 43 ∧ wp_X5_hall_L17 m_draft K41 n (x1 + (1 : Int32)) (upd m_told (ix x1) (m_draft (ix x1)))))))
def wp_X5_hall_L43 (K62 : (Nat → Int32) → Prop) : Nat → Int32 → (Nat → Int32) → Prop
  | 0, _, _ => False
  | n + 1, x1, m_s => (((38 : Int32) ≤ x1 → K62 m_s) ∧ (¬ (38 : Int32) ≤ x1 → (vp_in x1 38 ∧ wp_X5_hall_L43 K62 n (x1 + (1 : Int32)) (upd m_s (ix x1) (0 : Int32)))))
def wp_X5_hall (m_text : Nat → Int32) (m_typed : Int32) (m_told : Nat → Int32) (m_draft : Nat → Int32) (m_s : Nat → Int32) (m_kept : Nat → Int32) (m_at : Int32) (m_sort : Int32) (m_start : Int32) (m_size : Int32) (post : Int32 → Int32 → (Nat → Int32) → (Nat → Int32) → (Nat → Int32) → (Nat → Int32) → Int32 → Int32 → Int32 → Int32 → Prop) : Prop := (wp_X5_reads m_text m_typed m_draft m_at m_sort m_start m_size (fun (r1 : Int32) (m_draft_1 : Nat → Int32) (m_at_1 : Int32) (m_sort_1 : Int32) (m_start_1 : Int32) (m_size_1 : Int32) => ((r1 = (0 : Int32) → post ((-10 : Int32) - m_start_1) m_typed m_told m_draft_1 m_s m_kept m_at_1 m_sort_1 m_start_1 m_size_1) ∧ (¬ r1 = (0 : Int32) → (jn (fun (K41 : (Nat → Int32) → Prop) => (∃ n17 : Nat, wp_X5_hall_L17 m_draft_1 K41 n17 (0 : Int32) m_told)) (fun (m_told_41 : Nat → Int32) => (jn (fun (K62 : (Nat → Int32) → Prop) => (∃ n43 : Nat, wp_X5_hall_L43 K62 n43 (0 : Int32) m_s)) (fun (m_s_62 : Nat → Int32) => post (m_told_41 38) (0 : Int32) m_told_41 m_draft_1 m_s_62 (upd (upd m_kept 0 (0 : Int32)) 1 (0 : Int32)) m_at_1 m_sort_1 m_start_1 m_size_1))))))))
abbrev rm_X5_hall : Room := { frames := 8, cells := 0, slots := 0, locals := 176 }
set_option maxRecDepth 100000 in
set_option maxHeartbeats 4000000 in
theorem ct_X5_hall (D : va_G) (cI cZ : ClassId) (a_M a_M_text a_M_told a_M_draft a_M_s a_M_images a_M_kept a_M_light a_M_may a_M_shine a_M_worth a_M_least : Nat) (m_trace : Int64) (m_typed : Int32) (m_at : Int32) (m_sort : Int32) (m_start : Int32) (m_size : Int32) (m_text : Nat → Int32) (m_told : Nat → Int32) (m_draft : Nat → Int32) (m_s : Nat → Int32) (m_kept : Nat → Int32) {post : Int32 → Int32 → (Nat → Int32) → (Nat → Int32) → (Nat → Int32) → (Nat → Int32) → Int32 → Int32 → Int32 → Int32 → Prop} (h : wp_X5_hall m_text m_typed m_told m_draft m_s m_kept m_at m_sort m_start m_size post) (l : Launch) (sz : Nat) : Met l yX5_hall (wsM yX5_hall cX5_hall 2 (some .int)) rm_X5_hall (va_Pc [.ref a_M] (gP D cI cZ [(a_M, .inr (5, [.long m_trace, .ref a_M_text, .int m_typed, .ref a_M_told, .ref a_M_draft, .ref a_M_s, .ref a_M_images, .ref a_M_kept, .int m_at, .int m_sort, .int m_start, .int m_size, .ref a_M_light, .ref a_M_may, .ref a_M_shine, .ref a_M_worth, .ref a_M_least])), (a_M_text, .inl (cI, 300, .inl m_text)), (a_M_told, .inl (cI, 43, .inl m_told)), (a_M_draft, .inl (cI, 43, .inl m_draft)), (a_M_s, .inl (cI, 38, .inl m_s)), (a_M_kept, .inl (cZ, 2, .inl m_kept))] sz)) (gQi D (fun r (u : Int32 × (Nat → Int32) × (Nat → Int32) × (Nat → Int32) × (Nat → Int32) × Int32 × Int32 × Int32 × Int32) => post r u.1 u.2.1 u.2.2.1 u.2.2.2.1 u.2.2.2.2.1 u.2.2.2.2.2.1 u.2.2.2.2.2.2.1 u.2.2.2.2.2.2.2.1 u.2.2.2.2.2.2.2.2) (fun (u : Int32 × (Nat → Int32) × (Nat → Int32) × (Nat → Int32) × (Nat → Int32) × Int32 × Int32 × Int32 × Int32) => [(a_M, .inr (5, [.long m_trace, .ref a_M_text, .int u.1, .ref a_M_told, .ref a_M_draft, .ref a_M_s, .ref a_M_images, .ref a_M_kept, .int u.2.2.2.2.2.1, .int u.2.2.2.2.2.2.1, .int u.2.2.2.2.2.2.2.1, .int u.2.2.2.2.2.2.2.2, .ref a_M_light, .ref a_M_may, .ref a_M_shine, .ref a_M_worth, .ref a_M_least])), (a_M_text, .inl (cI, 300, .inl m_text)), (a_M_told, .inl (cI, 43, .inl u.2.1)), (a_M_draft, .inl (cI, 43, .inl u.2.2.1)), (a_M_s, .inl (cI, 38, .inl u.2.2.2.1)), (a_M_kept, .inl (cZ, 2, .inl u.2.2.2.2.1))]) [(a_M, .inr (5, [.long m_trace, .ref a_M_text, .int m_typed, .ref a_M_told, .ref a_M_draft, .ref a_M_s, .ref a_M_images, .ref a_M_kept, .int m_at, .int m_sort, .int m_start, .int m_size, .ref a_M_light, .ref a_M_may, .ref a_M_shine, .ref a_M_worth, .ref a_M_least])), (a_M_text, .inl (cI, 300, .inl m_text)), (a_M_told, .inl (cI, 43, .inl m_told)), (a_M_draft, .inl (cI, 43, .inl m_draft)), (a_M_s, .inl (cI, 38, .inl m_s)), (a_M_kept, .inl (cZ, 2, .inl m_kept))] sz) 0 0 (va_A [(a_M, .inr (5, [.long m_trace, .ref a_M_text, .int m_typed, .ref a_M_told, .ref a_M_draft, .ref a_M_s, .ref a_M_images, .ref a_M_kept, .int m_at, .int m_sort, .int m_start, .int m_size, .ref a_M_light, .ref a_M_may, .ref a_M_shine, .ref a_M_worth, .ref a_M_least])), (a_M_text, .inl (cI, 300, .inl m_text)), (a_M_told, .inl (cI, 43, .inl m_told)), (a_M_draft, .inl (cI, 43, .inl m_draft)), (a_M_s, .inl (cI, 38, .inl m_s)), (a_M_kept, .inl (cZ, 2, .inl m_kept))] sz) := by
  refine q_startM (own := RX5) (Qc := gQi D (fun r (u : Int32 × (Nat → Int32) × (Nat → Int32) × (Nat → Int32) × (Nat → Int32) × Int32 × Int32 × Int32 × Int32) => post r u.1 u.2.1 u.2.2.1 u.2.2.2.1 u.2.2.2.2.1 u.2.2.2.2.2.1 u.2.2.2.2.2.2.1 u.2.2.2.2.2.2.2.1 u.2.2.2.2.2.2.2.2) (fun (u : Int32 × (Nat → Int32) × (Nat → Int32) × (Nat → Int32) × (Nat → Int32) × Int32 × Int32 × Int32 × Int32) => [(a_M, .inr (5, [.long m_trace, .ref a_M_text, .int u.1, .ref a_M_told, .ref a_M_draft, .ref a_M_s, .ref a_M_images, .ref a_M_kept, .int u.2.2.2.2.2.1, .int u.2.2.2.2.2.2.1, .int u.2.2.2.2.2.2.2.1, .int u.2.2.2.2.2.2.2.2, .ref a_M_light, .ref a_M_may, .ref a_M_shine, .ref a_M_worth, .ref a_M_least])), (a_M_text, .inl (cI, 300, .inl m_text)), (a_M_told, .inl (cI, 43, .inl u.2.1)), (a_M_draft, .inl (cI, 43, .inl u.2.2.1)), (a_M_s, .inl (cI, 38, .inl u.2.2.2.1)), (a_M_kept, .inl (cZ, 2, .inl u.2.2.2.2.1))]) [(a_M, .inr (5, [.long m_trace, .ref a_M_text, .int m_typed, .ref a_M_told, .ref a_M_draft, .ref a_M_s, .ref a_M_images, .ref a_M_kept, .int m_at, .int m_sort, .int m_start, .int m_size, .ref a_M_light, .ref a_M_may, .ref a_M_shine, .ref a_M_worth, .ref a_M_least])), (a_M_text, .inl (cI, 300, .inl m_text)), (a_M_told, .inl (cI, 43, .inl m_told)), (a_M_draft, .inl (cI, 43, .inl m_draft)), (a_M_s, .inl (cI, 38, .inl m_s)), (a_M_kept, .inl (cZ, 2, .inl m_kept))]) (by decide +kernel) rfl (Nat.le_of_ble_eq_true rfl) (fun E F Z M => ?_)
  show Wg E [(a_M, .inr (5, [.long m_trace, .ref a_M_text, .int m_typed, .ref a_M_told, .ref a_M_draft, .ref a_M_s, .ref a_M_images, .ref a_M_kept, .int m_at, .int m_sort, .int m_start, .int m_size, .ref a_M_light, .ref a_M_may, .ref a_M_shine, .ref a_M_worth, .ref a_M_least])), (a_M_text, .inl (cI, 300, .inl m_text)), (a_M_told, .inl (cI, 43, .inl m_told)), (a_M_draft, .inl (cI, 43, .inl m_draft)), (a_M_s, .inl (cI, 38, .inl m_s)), (a_M_kept, .inl (cZ, 2, .inl m_kept))] 0 0 0 [(0, .ref a_M)] []
  unfold wp_X5_hall at h
  refine q_aload_n (pc := 0) F 0 dX5_hall_0 rfl ?_
  refine q_cMi (wr := [(a_M_told, .inl (cI, 43, .inl m_told)), (a_M_s, .inl (cI, 38, .inl m_s)), (a_M_kept, .inl (cZ, 2, .inl m_kept))]) (pc := 1) F M (q_runV (As := []) (rest := []) (pc := 1) F (fun l sz => ct_X5_reads D cI cZ a_M a_M_text a_M_told a_M_draft a_M_s a_M_images a_M_kept a_M_light a_M_may a_M_shine a_M_worth a_M_least m_trace m_typed m_at m_sort m_start m_size m_text m_draft h l sz) mc_yX5_reads im_yX5_reads se_yX5_reads mlX5_122 ⟨by decide, by decide⟩ ⟨by decide, by decide⟩ ⟨rfl, rfl⟩ [0, 1, 3] rfl rfl rfl 0 rfl rfl rfl (Nat.le_of_ble_eq_true rfl) dX5_hall_1) [0, 1, 3] [2, 4, 5] rfl rfl rfl (by decide) (fun r1 u1 h => ?_)
  obtain ⟨hb1, h⟩ := h
  obtain ⟨m_draft_1, m_at_1, m_sort_1, m_start_1, m_size_1⟩ := u1
  refine q_cs (cs' := [(a_M, .inr (5, [.long m_trace, .ref a_M_text, .int m_typed, .ref a_M_told, .ref a_M_draft, .ref a_M_s, .ref a_M_images, .ref a_M_kept, .int m_at_1, .int m_sort_1, .int m_start_1, .int m_size_1, .ref a_M_light, .ref a_M_may, .ref a_M_shine, .ref a_M_worth, .ref a_M_least])), (a_M_text, .inl (cI, 300, .inl m_text)), (a_M_told, .inl (cI, 43, .inl m_told)), (a_M_draft, .inl (cI, 43, .inl m_draft_1)), (a_M_s, .inl (cI, 38, .inl m_s)), (a_M_kept, .inl (cZ, 2, .inl m_kept))]) [3, 4, 0, 5, 1, 2] rfl rfl ?_
  refine q_if_ne (pc := 4) (tgt := 15) F dX5_hall_4 (by decide) (fun c4 => ?_) (fun c4 => ?_)
  · have h := h.2 c4
    refine q_iconst (pc := 15) F (v := 0) dX5_hall_15 (by decide) ?_
    refine q_istore_n (pc := 16) F (lv' := [(1, .int (0 : Int32)), (0, .ref a_M)]) dX5_hall_16 (by decide) rfl ?_
    refine jnW h (fun K => ∀ (m_told_41 : Nat → Int32), K m_told_41 → Wg E [(a_M, .inr (5, [.long m_trace, .ref a_M_text, .int m_typed, .ref a_M_told, .ref a_M_draft, .ref a_M_s, .ref a_M_images, .ref a_M_kept, .int m_at_1, .int m_sort_1, .int m_start_1, .int m_size_1, .ref a_M_light, .ref a_M_may, .ref a_M_shine, .ref a_M_worth, .ref a_M_least])), (a_M_text, .inl (cI, 300, .inl m_text)), (a_M_told, .inl (cI, 43, .inl m_told_41)), (a_M_draft, .inl (cI, 43, .inl m_draft_1)), (a_M_s, .inl (cI, 38, .inl m_s)), (a_M_kept, .inl (cZ, 2, .inl m_kept))] 0 0 41 [(0, .ref a_M)] []) ?_ ?_
    · intro m_told_41 h
      refine q_iconst (pc := 41) F (v := 0) dX5_hall_41 (by decide) ?_
      refine q_istore_n (pc := 42) F (lv' := [(1, .int (0 : Int32)), (0, .ref a_M)]) dX5_hall_42 (by decide) rfl ?_
      refine jnW h (fun K => ∀ (m_s_62 : Nat → Int32), K m_s_62 → Wg E [(a_M, .inr (5, [.long m_trace, .ref a_M_text, .int m_typed, .ref a_M_told, .ref a_M_draft, .ref a_M_s, .ref a_M_images, .ref a_M_kept, .int m_at_1, .int m_sort_1, .int m_start_1, .int m_size_1, .ref a_M_light, .ref a_M_may, .ref a_M_shine, .ref a_M_worth, .ref a_M_least])), (a_M_text, .inl (cI, 300, .inl m_text)), (a_M_told, .inl (cI, 43, .inl m_told_41)), (a_M_draft, .inl (cI, 43, .inl m_draft_1)), (a_M_s, .inl (cI, 38, .inl m_s_62)), (a_M_kept, .inl (cZ, 2, .inl m_kept))] 0 0 62 [(0, .ref a_M)] []) ?_ ?_
      · intro m_s_62 h
        refine q_aload_n (pc := 62) F 0 dX5_hall_62 rfl ?_
        refine q_get (pc := 63) F fgX5_25 0 rfl rfl dX5_hall_63 ?_
        refine q_iconst (pc := 66) F (v := 0) dX5_hall_66 (by decide) ?_
        refine q_iconst (pc := 67) F (v := 0) dX5_hall_67 (by decide) ?_
        refine q_zastk (pc := 68) F M (k9 := 0) (cs' := [(a_M, .inr (5, [.long m_trace, .ref a_M_text, .int m_typed, .ref a_M_told, .ref a_M_draft, .ref a_M_s, .ref a_M_images, .ref a_M_kept, .int m_at_1, .int m_sort_1, .int m_start_1, .int m_size_1, .ref a_M_light, .ref a_M_may, .ref a_M_shine, .ref a_M_worth, .ref a_M_least])), (a_M_text, .inl (cI, 300, .inl m_text)), (a_M_told, .inl (cI, 43, .inl m_told_41)), (a_M_draft, .inl (cI, 43, .inl m_draft_1)), (a_M_s, .inl (cI, 38, .inl m_s_62)), (a_M_kept, .inl (cZ, 2, .inl (upd m_kept 0 (0 : Int32))))]) 5 rfl (vpd (by decide +kernel)) (by decide +kernel) rfl rfl dX5_hall_68 ?_
        refine q_aload_n (pc := 69) F 0 dX5_hall_69 rfl ?_
        refine q_get (pc := 70) F fgX5_25 0 rfl rfl dX5_hall_70 ?_
        refine q_iconst (pc := 73) F (v := 1) dX5_hall_73 (by decide) ?_
        refine q_iconst (pc := 74) F (v := 0) dX5_hall_74 (by decide) ?_
        refine q_zastk (pc := 75) F M (k9 := 1) (cs' := [(a_M, .inr (5, [.long m_trace, .ref a_M_text, .int m_typed, .ref a_M_told, .ref a_M_draft, .ref a_M_s, .ref a_M_images, .ref a_M_kept, .int m_at_1, .int m_sort_1, .int m_start_1, .int m_size_1, .ref a_M_light, .ref a_M_may, .ref a_M_shine, .ref a_M_worth, .ref a_M_least])), (a_M_text, .inl (cI, 300, .inl m_text)), (a_M_told, .inl (cI, 43, .inl m_told_41)), (a_M_draft, .inl (cI, 43, .inl m_draft_1)), (a_M_s, .inl (cI, 38, .inl m_s_62)), (a_M_kept, .inl (cZ, 2, .inl (upd (upd m_kept 0 (0 : Int32)) 1 (0 : Int32))))]) 5 rfl (vpd (by decide +kernel)) (by decide +kernel) rfl rfl dX5_hall_75 ?_
        refine q_aload_n (pc := 76) F 0 dX5_hall_76 rfl ?_
        refine q_iconst (pc := 77) F (v := 0) dX5_hall_77 (by decide) ?_
        refine q_put (pc := 78) F M (cs' := [(a_M, .inr (5, [.long m_trace, .ref a_M_text, .int (0 : Int32), .ref a_M_told, .ref a_M_draft, .ref a_M_s, .ref a_M_images, .ref a_M_kept, .int m_at_1, .int m_sort_1, .int m_start_1, .int m_size_1, .ref a_M_light, .ref a_M_may, .ref a_M_shine, .ref a_M_worth, .ref a_M_least])), (a_M_text, .inl (cI, 300, .inl m_text)), (a_M_told, .inl (cI, 43, .inl m_told_41)), (a_M_draft, .inl (cI, 43, .inl m_draft_1)), (a_M_s, .inl (cI, 38, .inl m_s_62)), (a_M_kept, .inl (cZ, 2, .inl (upd (upd m_kept 0 (0 : Int32)) 1 (0 : Int32))))]) fpX5_52 0 rfl rfl rfl (Nat.le_of_ble_eq_true rfl) rfl dX5_hall_78 ?_
        refine q_aload_n (pc := 81) F 0 dX5_hall_81 rfl ?_
        refine q_get (pc := 82) F fgX5_13 0 rfl rfl dX5_hall_82 ?_
        refine q_bipush (pc := 85) F (v := 38) dX5_hall_85 (by decide) ?_
        refine q_ialdk (pc := 87) F (k9 := 38) 2 rfl (vpd (by decide +kernel)) (by decide +kernel) dX5_hall_87 ?_
        exact q_iretM (pc := 88) F Z dX5_hall_88 ((0 : Int32), m_told_41, m_draft_1, m_s_62, upd (upd m_kept 0 (0 : Int32)) 1 (0 : Int32), m_at_1, m_sort_1, m_start_1, m_size_1) h rfl
      · intro K62 J62 h
        obtain ⟨n43, h⟩ := h
        have lp43 : ∀ (n : Nat) (x1_h43 : Int32) (m_s_h43 : Nat → Int32), wp_X5_hall_L43 K62 n x1_h43 m_s_h43 → Wg E [(a_M, .inr (5, [.long m_trace, .ref a_M_text, .int m_typed, .ref a_M_told, .ref a_M_draft, .ref a_M_s, .ref a_M_images, .ref a_M_kept, .int m_at_1, .int m_sort_1, .int m_start_1, .int m_size_1, .ref a_M_light, .ref a_M_may, .ref a_M_shine, .ref a_M_worth, .ref a_M_least])), (a_M_text, .inl (cI, 300, .inl m_text)), (a_M_told, .inl (cI, 43, .inl m_told_41)), (a_M_draft, .inl (cI, 43, .inl m_draft_1)), (a_M_s, .inl (cI, 38, .inl m_s_h43)), (a_M_kept, .inl (cZ, 2, .inl m_kept))] 0 0 43 [(0, .ref a_M), (1, .int x1_h43)] [] := by
          intro n
          induction n with
          | zero => intro x1_h43 m_s_h43 h; exact h.elim
          | succ n ih =>
            intro x1_h43 m_s_h43 h
            unfold wp_X5_hall_L43 at h
            refine q_iload_n (pc := 43) F 1 dX5_hall_43 rfl ?_
            refine q_bipush (pc := 44) F (v := 38) dX5_hall_44 (by decide) ?_
            refine q_icmp_ge (pc := 46) (tgt := 62) F dX5_hall_46 (by decide) (fun c46 => ?_) (fun c46 => ?_)
            · have h := h.1 c46
              refine q_lv (lv' := [(0, .ref a_M)]) [0] rfl ?_
              exact J62 m_s_h43 h
            · have h := h.2 c46
              refine q_aload_n (pc := 49) F 0 dX5_hall_49 rfl ?_
              refine q_get (pc := 50) F fgX5_19 0 rfl rfl dX5_hall_50 ?_
              refine q_iload_n (pc := 53) F 1 dX5_hall_53 rfl ?_
              refine q_iconst (pc := 54) F (v := 0) dX5_hall_54 (by decide) ?_
              obtain ⟨hi55, h⟩ := h
              refine q_iast (pc := 55) F M (cs' := [(a_M, .inr (5, [.long m_trace, .ref a_M_text, .int m_typed, .ref a_M_told, .ref a_M_draft, .ref a_M_s, .ref a_M_images, .ref a_M_kept, .int m_at_1, .int m_sort_1, .int m_start_1, .int m_size_1, .ref a_M_light, .ref a_M_may, .ref a_M_shine, .ref a_M_worth, .ref a_M_least])), (a_M_text, .inl (cI, 300, .inl m_text)), (a_M_told, .inl (cI, 43, .inl m_told_41)), (a_M_draft, .inl (cI, 43, .inl m_draft_1)), (a_M_s, .inl (cI, 38, .inl (upd m_s_h43 (ix x1_h43) (0 : Int32)))), (a_M_kept, .inl (cZ, 2, .inl m_kept))]) 4 rfl hi55 rfl dX5_hall_55 ?_
              refine q_iinc (pc := 56) F (v := x1_h43 + (1 : Int32)) (lv' := [(1, .int (x1_h43 + (1 : Int32))), (0, .ref a_M)]) 1 dX5_hall_56 rfl rfl (by decide) rfl ?_
              refine q_goto (pc := 59) (tgt := 43) F dX5_hall_59 (by decide) ?_
              refine q_lv (lv' := [(0, .ref a_M), (1, .int (x1_h43 + (1 : Int32)))]) [1, 0] rfl ?_
              exact ih (x1_h43 + (1 : Int32)) (upd m_s_h43 (ix x1_h43) (0 : Int32)) h
        refine q_lv (lv' := [(0, .ref a_M), (1, .int (0 : Int32))]) [1, 0] rfl ?_
        exact lp43 n43 (0 : Int32) m_s h
    · intro K41 J41 h
      obtain ⟨n17, h⟩ := h
      have lp17 : ∀ (n : Nat) (x1_h17 : Int32) (m_told_h17 : Nat → Int32), wp_X5_hall_L17 m_draft_1 K41 n x1_h17 m_told_h17 → Wg E [(a_M, .inr (5, [.long m_trace, .ref a_M_text, .int m_typed, .ref a_M_told, .ref a_M_draft, .ref a_M_s, .ref a_M_images, .ref a_M_kept, .int m_at_1, .int m_sort_1, .int m_start_1, .int m_size_1, .ref a_M_light, .ref a_M_may, .ref a_M_shine, .ref a_M_worth, .ref a_M_least])), (a_M_text, .inl (cI, 300, .inl m_text)), (a_M_told, .inl (cI, 43, .inl m_told_h17)), (a_M_draft, .inl (cI, 43, .inl m_draft_1)), (a_M_s, .inl (cI, 38, .inl m_s)), (a_M_kept, .inl (cZ, 2, .inl m_kept))] 0 0 17 [(0, .ref a_M), (1, .int x1_h17)] [] := by
        intro n
        induction n with
        | zero => intro x1_h17 m_told_h17 h; exact h.elim
        | succ n ih =>
          intro x1_h17 m_told_h17 h
          unfold wp_X5_hall_L17 at h
          refine q_iload_n (pc := 17) F 1 dX5_hall_17 rfl ?_
          refine q_bipush (pc := 18) F (v := 43) dX5_hall_18 (by decide) ?_
          refine q_icmp_ge (pc := 20) (tgt := 41) F dX5_hall_20 (by decide) (fun c20 => ?_) (fun c20 => ?_)
          · have h := h.1 c20
            refine q_lv (lv' := [(0, .ref a_M)]) [0] rfl ?_
            exact J41 m_told_h17 h
          · have h := h.2 c20
            refine q_aload_n (pc := 23) F 0 dX5_hall_23 rfl ?_
            refine q_get (pc := 24) F fgX5_13 0 rfl rfl dX5_hall_24 ?_
            refine q_iload_n (pc := 27) F 1 dX5_hall_27 rfl ?_
            refine q_aload_n (pc := 28) F 0 dX5_hall_28 rfl ?_
            refine q_get (pc := 29) F fgX5_16 0 rfl rfl dX5_hall_29 ?_
            refine q_iload_n (pc := 32) F 1 dX5_hall_32 rfl ?_
            obtain ⟨hi33, h⟩ := h
            refine q_iald (pc := 33) F 3 rfl hi33 dX5_hall_33 ?_
            obtain ⟨hi34, h⟩ := h
            refine q_iast (pc := 34) F M (cs' := [(a_M, .inr (5, [.long m_trace, .ref a_M_text, .int m_typed, .ref a_M_told, .ref a_M_draft, .ref a_M_s, .ref a_M_images, .ref a_M_kept, .int m_at_1, .int m_sort_1, .int m_start_1, .int m_size_1, .ref a_M_light, .ref a_M_may, .ref a_M_shine, .ref a_M_worth, .ref a_M_least])), (a_M_text, .inl (cI, 300, .inl m_text)), (a_M_told, .inl (cI, 43, .inl (upd m_told_h17 (ix x1_h17) (m_draft_1 (ix x1_h17))))), (a_M_draft, .inl (cI, 43, .inl m_draft_1)), (a_M_s, .inl (cI, 38, .inl m_s)), (a_M_kept, .inl (cZ, 2, .inl m_kept))]) 2 rfl hi34 rfl dX5_hall_34 ?_
            refine q_iinc (pc := 35) F (v := x1_h17 + (1 : Int32)) (lv' := [(1, .int (x1_h17 + (1 : Int32))), (0, .ref a_M)]) 1 dX5_hall_35 rfl rfl (by decide) rfl ?_
            refine q_goto (pc := 38) (tgt := 17) F dX5_hall_38 (by decide) ?_
            refine q_lv (lv' := [(0, .ref a_M), (1, .int (x1_h17 + (1 : Int32)))]) [1, 0] rfl ?_
            exact ih (x1_h17 + (1 : Int32)) (upd m_told_h17 (ix x1_h17) (m_draft_1 (ix x1_h17))) h
      refine q_lv (lv' := [(0, .ref a_M), (1, .int (0 : Int32))]) [1, 0] rfl ?_
      exact lp17 n17 (0 : Int32) m_told h
  · have h := h.1 c4
    refine q_bipush (pc := 7) F (v := -10) dX5_hall_7 (by decide) ?_
    refine q_aload_n (pc := 9) F 0 dX5_hall_9 rfl ?_
    refine q_get (pc := 10) F fgX5_65 0 rfl rfl dX5_hall_10 ?_
    refine q_isub (pc := 13) F dX5_hall_13 ?_
    exact q_iretM (pc := 14) F Z dX5_hall_14 (m_typed, m_told, m_draft_1, m_s, m_kept, m_at_1, m_sort_1, m_start_1, m_size_1) h rfl

def wp_X5_isWall (p0 : Int32) (m_told : Nat → Int32) (post : Int32 → Prop) : Prop := ((((jshr (m_told 5) p0) &&& (1 : Int32)) = (1 : Int32) → post (1 : Int32)) ∧ (¬ ((jshr (m_told 5) p0) &&& (1 : Int32)) = (1 : Int32) → post (0 : Int32)))
abbrev rm_X5_isWall : Room := { frames := 0, cells := 0, slots := 0, locals := 0 }
set_option maxRecDepth 100000 in
set_option maxHeartbeats 4000000 in
theorem ct_X5_isWall (D : va_G) (cI cZ : ClassId) (a_M a_M_text a_M_told a_M_draft a_M_s a_M_images a_M_kept a_M_light a_M_may a_M_shine a_M_worth a_M_least : Nat) (m_trace : Int64) (m_typed : Int32) (m_at : Int32) (m_sort : Int32) (m_start : Int32) (m_size : Int32) (m_told : Nat → Int32) (p0 : Int32) {post : Int32 → Prop} (h : wp_X5_isWall p0 m_told post) (l : Launch) (sz : Nat) : Met l yX5_isWall (wsM yX5_isWall cX5_isWall 2 (some .boolean)) rm_X5_isWall (va_Pc [.ref a_M, .int p0] (gP D cI cZ [(a_M, .inr (5, [.long m_trace, .ref a_M_text, .int m_typed, .ref a_M_told, .ref a_M_draft, .ref a_M_s, .ref a_M_images, .ref a_M_kept, .int m_at, .int m_sort, .int m_start, .int m_size, .ref a_M_light, .ref a_M_may, .ref a_M_shine, .ref a_M_worth, .ref a_M_least])), (a_M_told, .inl (cI, 43, .inl m_told))] sz)) (gR (fun r => isB r ∧ post r)) 0 0 (fun _ => False) := by
  refine q_startR (own := RX5) (by decide +kernel) rfl (Nat.le_of_ble_eq_true rfl) (fun E F Z => ?_)
  show Wg E [(a_M, .inr (5, [.long m_trace, .ref a_M_text, .int m_typed, .ref a_M_told, .ref a_M_draft, .ref a_M_s, .ref a_M_images, .ref a_M_kept, .int m_at, .int m_sort, .int m_start, .int m_size, .ref a_M_light, .ref a_M_may, .ref a_M_shine, .ref a_M_worth, .ref a_M_least])), (a_M_told, .inl (cI, 43, .inl m_told))] 0 0 0 [(0, .ref a_M), (1, .int p0)] []
  unfold wp_X5_isWall at h
  refine q_aload_n (pc := 0) F 0 dX5_isWall_0 rfl ?_
  refine q_get (pc := 1) F fgX5_13 0 rfl rfl dX5_isWall_1 ?_
  refine q_iconst (pc := 4) F (v := 5) dX5_isWall_4 (by decide) ?_
  refine q_ialdk (pc := 5) F (k9 := 5) 1 rfl (vpd (by decide +kernel)) (by decide +kernel) dX5_isWall_5 ?_
  refine q_iload_n (pc := 6) F 1 dX5_isWall_6 rfl ?_
  refine q_ishr (pc := 7) F dX5_isWall_7 ?_
  refine q_iconst (pc := 8) F (v := 1) dX5_isWall_8 (by decide) ?_
  refine q_iand (pc := 9) F dX5_isWall_9 ?_
  refine q_iconst (pc := 10) F (v := 1) dX5_isWall_10 (by decide) ?_
  refine q_icmp_ne (pc := 11) (tgt := 18) F dX5_isWall_11 (by decide) (fun c11 => ?_) (fun c11 => ?_)
  · have h := h.2 c11
    refine q_iconst (pc := 18) F (v := 0) dX5_isWall_18 (by decide) ?_
    exact q_zretR (pc := 19) F Z dX5_isWall_19 (Or.inl rfl) h
  · have h := h.1 c11
    refine q_iconst (pc := 14) F (v := 1) dX5_isWall_14 (by decide) ?_
    refine q_goto (pc := 15) (tgt := 19) F dX5_isWall_15 (by decide) ?_
    exact q_zretR (pc := 19) F Z dX5_isWall_19 (Or.inr rfl) h

def wp_X5_wider_L13 (x1 : Int32) (x3 : Int32) (m_told : Nat → Int32) (K148 : Int32 → Prop) : Nat → Int32 → Int32 → Prop
  | 0, _, _ => False
  | n + 1, x4, x5 => (wp_X5_cells m_told (fun (r16 : Int32) => ((r16 ≤ x5 → K148 x4) ∧ (¬ r16 ≤ x5 → (jn (fun (K37 : Int32 → Prop) => ((((jshr x1 x5) &&& (1 : Int32)) = (1 : Int32) → K37 (1 : Int32)) ∧ (¬ ((jshr x1 x5) &&& (1 : Int32)) = (1 : Int32) → K37 (0 : Int32)))) (fun (y37 : Int32) => (jn (fun (K63 : Int32 → Prop) => (jn (fun (K62 : Prop) => ((y37 = (0 : Int32) → K62) ∧ (¬ y37 = (0 : Int32) → (¬ x3 = (0 : Int32) ∧ (((jrem x5 x3) ≤ (0 : Int32) → K62) ∧ (¬ (jrem x5 x3) ≤ (0 : Int32) → K63 (jshl (1 : Int32) (x5 - (1 : Int32))))))))) (K63 (0 : Int32)))) (fun (y63 : Int32) => (∀ x4_64 : Int32, x4_64 = x4 ||| y63 → (jn (fun (K93 : Int32 → Prop) => (jn (fun (K92 : Prop) => ((y37 = (0 : Int32) → K92) ∧ (¬ y37 = (0 : Int32) → (¬ x3 = (0 : Int32) ∧ (((x3 - (1 : Int32)) ≤ (jrem x5 x3) → K92) ∧ (¬ (x3 - (1 : Int32)) ≤ (jrem x5 x3) → K93 (jshl (1 : Int32) (x5 + (1 : Int32))))))))) (K93 (0 : Int32)))) (fun (y93 : Int32) => (∀ x4_94 : Int32, x4_94 = x4_64 ||| y93 → (jn (fun (K119 : Int32 → Prop) => (jn (fun (K118 : Prop) => ((y37 = (0 : Int32) → K118) ∧ (¬ y37 = (0 : Int32) → ((x5 < x3 → K118) ∧ (¬ x5 < x3 → K119 (jshl (1 : Int32) (x5 - x3))))))) (K119 (0 : Int32)))) (fun (y119 : Int32) => (∀ x4_120 : Int32, x4_120 = x4_94 ||| y119 → (jn (fun (K139 : Int32 → Prop) => ((y37 = (0 : Int32) → K139 (0 : Int32)) ∧ (¬ y37 = (0 : Int32) → K139 (jshl (1 : Int32) (x5 + x3))))) (fun (y139 : Int32) => (∀ x4_140 : Int32, x4_140 = x4_120 ||| y139 → wp_X5_wider_L13 x1 x3 m_told K148 n x4_140 (x5 + (1 : Int32))))))))))))))))))))
def wp_X5_wider (p0 : Int32) (p1 : Int32) (m_told : Nat → Int32) (post : Int32 → Prop) : Prop := (jn (fun (K148 : Int32 → Prop) => (∃ n13 : Nat, wp_X5_wider_L13 p0 (m_told 0) m_told K148 n13 p0 (0 : Int32))) (fun (x4_148 : Int32) => post (p0 ||| (x4_148 &&& p1))))
abbrev rm_X5_wider : Room := { frames := 1, cells := 0, slots := 0, locals := 20 }
set_option maxRecDepth 100000 in
set_option maxHeartbeats 4000000 in
theorem ct_X5_wider (D : va_G) (cI cZ : ClassId) (a_M a_M_text a_M_told a_M_draft a_M_s a_M_images a_M_kept a_M_light a_M_may a_M_shine a_M_worth a_M_least : Nat) (m_trace : Int64) (m_typed : Int32) (m_at : Int32) (m_sort : Int32) (m_start : Int32) (m_size : Int32) (m_told : Nat → Int32) (p0 : Int32) (p1 : Int32) {post : Int32 → Prop} (h : wp_X5_wider p0 p1 m_told post) (l : Launch) (sz : Nat) : Met l yX5_wider (wsM yX5_wider cX5_wider 7 (some .int)) rm_X5_wider (va_Pc [.ref a_M, .int p0, .int p1] (gP D cI cZ [(a_M, .inr (5, [.long m_trace, .ref a_M_text, .int m_typed, .ref a_M_told, .ref a_M_draft, .ref a_M_s, .ref a_M_images, .ref a_M_kept, .int m_at, .int m_sort, .int m_start, .int m_size, .ref a_M_light, .ref a_M_may, .ref a_M_shine, .ref a_M_worth, .ref a_M_least])), (a_M_told, .inl (cI, 43, .inl m_told))] sz)) (gR post) 0 0 (fun _ => False) := by
  refine q_startR (own := RX5) (by decide +kernel) rfl (Nat.le_of_ble_eq_true rfl) (fun E F Z => ?_)
  show Wg E [(a_M, .inr (5, [.long m_trace, .ref a_M_text, .int m_typed, .ref a_M_told, .ref a_M_draft, .ref a_M_s, .ref a_M_images, .ref a_M_kept, .int m_at, .int m_sort, .int m_start, .int m_size, .ref a_M_light, .ref a_M_may, .ref a_M_shine, .ref a_M_worth, .ref a_M_least])), (a_M_told, .inl (cI, 43, .inl m_told))] 0 0 0 [(0, .ref a_M), (1, .int p0), (2, .int p1)] []
  unfold wp_X5_wider at h
  refine q_aload_n (pc := 0) F 0 dX5_wider_0 rfl ?_
  refine q_get (pc := 1) F fgX5_13 0 rfl rfl dX5_wider_1 ?_
  refine q_iconst (pc := 4) F (v := 0) dX5_wider_4 (by decide) ?_
  refine q_ialdk (pc := 5) F (k9 := 0) 1 rfl (vpd (by decide +kernel)) (by decide +kernel) dX5_wider_5 ?_
  refine q_istore_n (pc := 6) F (lv' := [(3, .int (m_told 0)), (0, .ref a_M), (1, .int p0), (2, .int p1)]) dX5_wider_6 (by decide) rfl ?_
  refine q_iload_n (pc := 7) F 2 dX5_wider_7 rfl ?_
  refine q_istore (pc := 8) F (lv' := [(4, .int p0), (3, .int (m_told 0)), (0, .ref a_M), (1, .int p0), (2, .int p1)]) dX5_wider_8 (by decide) rfl ?_
  refine q_iconst (pc := 10) F (v := 0) dX5_wider_10 (by decide) ?_
  refine q_istore (pc := 11) F (lv' := [(5, .int (0 : Int32)), (4, .int p0), (3, .int (m_told 0)), (0, .ref a_M), (1, .int p0), (2, .int p1)]) dX5_wider_11 (by decide) rfl ?_
  refine jnW h (fun K => ∀ (x4_148 : Int32), K x4_148 → Wg E [(a_M, .inr (5, [.long m_trace, .ref a_M_text, .int m_typed, .ref a_M_told, .ref a_M_draft, .ref a_M_s, .ref a_M_images, .ref a_M_kept, .int m_at, .int m_sort, .int m_start, .int m_size, .ref a_M_light, .ref a_M_may, .ref a_M_shine, .ref a_M_worth, .ref a_M_least])), (a_M_told, .inl (cI, 43, .inl m_told))] 0 0 148 [(1, .int p0), (2, .int p1), (4, .int x4_148)] []) ?_ ?_
  · intro x4_148 h
    refine q_iload_n (pc := 148) F 0 dX5_wider_148 rfl ?_
    refine q_iload (pc := 149) F 2 dX5_wider_149 rfl ?_
    refine q_iload_n (pc := 151) F 1 dX5_wider_151 rfl ?_
    refine q_iand (pc := 152) F dX5_wider_152 ?_
    refine q_ior (pc := 153) F dX5_wider_153 ?_
    exact q_iretR (pc := 154) F Z dX5_wider_154 h
  · intro K148 J148 h
    obtain ⟨n13, h⟩ := h
    have lp13 : ∀ (n : Nat) (x4_h13 : Int32) (x5_h13 : Int32), wp_X5_wider_L13 p0 (m_told 0) m_told K148 n x4_h13 x5_h13 → Wg E [(a_M, .inr (5, [.long m_trace, .ref a_M_text, .int m_typed, .ref a_M_told, .ref a_M_draft, .ref a_M_s, .ref a_M_images, .ref a_M_kept, .int m_at, .int m_sort, .int m_start, .int m_size, .ref a_M_light, .ref a_M_may, .ref a_M_shine, .ref a_M_worth, .ref a_M_least])), (a_M_told, .inl (cI, 43, .inl m_told))] 0 0 13 [(0, .ref a_M), (1, .int p0), (2, .int p1), (3, .int (m_told 0)), (4, .int x4_h13), (5, .int x5_h13)] [] := by
      intro n
      induction n with
      | zero => intro x4_h13 x5_h13 h; exact h.elim
      | succ n ih =>
        intro x4_h13 x5_h13 h
        unfold wp_X5_wider_L13 at h
        refine q_iload (pc := 13) F 5 dX5_wider_13 rfl ?_
        refine q_aload_n (pc := 15) F 0 dX5_wider_15 rfl ?_
        refine q_cR (q_runV (As := []) (rest := [.int x5_h13]) (pc := 16) F (fun l sz => ct_X5_cells D cI cZ a_M a_M_text a_M_told a_M_draft a_M_s a_M_images a_M_kept a_M_light a_M_may a_M_shine a_M_worth a_M_least m_trace m_typed m_at m_sort m_start m_size m_told h l sz) mc_yX5_cells im_yX5_cells se_yX5_cells mlX5_44 ⟨by decide, by decide⟩ ⟨by decide, by decide⟩ ⟨rfl, rfl⟩ [0, 1] rfl rfl rfl 0 rfl rfl rfl (Nat.le_of_ble_eq_true rfl) dX5_wider_16) (fun r16 h => ?_)
        refine q_icmp_ge (pc := 19) (tgt := 148) F dX5_wider_19 (by decide) (fun c19 => ?_) (fun c19 => ?_)
        · have h := h.1 c19
          refine q_lv (lv' := [(1, .int p0), (2, .int p1), (4, .int x4_h13)]) [1, 2, 4] rfl ?_
          exact J148 x4_h13 h
        · have h := h.2 c19
          refine q_iload_n (pc := 22) F 1 dX5_wider_22 rfl ?_
          refine q_iload (pc := 23) F 5 dX5_wider_23 rfl ?_
          refine q_ishr (pc := 25) F dX5_wider_25 ?_
          refine q_iconst (pc := 26) F (v := 1) dX5_wider_26 (by decide) ?_
          refine q_iand (pc := 27) F dX5_wider_27 ?_
          refine q_iconst (pc := 28) F (v := 1) dX5_wider_28 (by decide) ?_
          refine jnW h (fun K => ∀ (y37 : Int32), K y37 → Wg E [(a_M, .inr (5, [.long m_trace, .ref a_M_text, .int m_typed, .ref a_M_told, .ref a_M_draft, .ref a_M_s, .ref a_M_images, .ref a_M_kept, .int m_at, .int m_sort, .int m_start, .int m_size, .ref a_M_light, .ref a_M_may, .ref a_M_shine, .ref a_M_worth, .ref a_M_least])), (a_M_told, .inl (cI, 43, .inl m_told))] 0 0 37 [(0, .ref a_M), (1, .int p0), (2, .int p1), (3, .int (m_told 0)), (4, .int x4_h13), (5, .int x5_h13)] [.int y37]) ?_ ?_
          · intro y37 h
            refine q_istore (pc := 37) F (lv' := [(6, .int y37), (0, .ref a_M), (1, .int p0), (2, .int p1), (3, .int (m_told 0)), (4, .int x4_h13), (5, .int x5_h13)]) dX5_wider_37 (by decide) rfl ?_
            refine q_iload (pc := 39) F 5 dX5_wider_39 rfl ?_
            refine q_iload (pc := 41) F 0 dX5_wider_41 rfl ?_
            refine jnW h (fun K => ∀ (y63 : Int32), K y63 → Wg E [(a_M, .inr (5, [.long m_trace, .ref a_M_text, .int m_typed, .ref a_M_told, .ref a_M_draft, .ref a_M_s, .ref a_M_images, .ref a_M_kept, .int m_at, .int m_sort, .int m_start, .int m_size, .ref a_M_light, .ref a_M_may, .ref a_M_shine, .ref a_M_worth, .ref a_M_least])), (a_M_told, .inl (cI, 43, .inl m_told))] 0 0 63 [(0, .ref a_M), (1, .int p0), (2, .int p1), (3, .int (m_told 0)), (5, .int x5_h13), (6, .int y37)] [.int y63, .int x4_h13]) ?_ ?_
            · intro y63 h
              refine q_ior (pc := 63) F dX5_wider_63 ?_
              refine q_topi (fun x4_64 ex4_64 => ?_)
              have h := h x4_64 ex4_64
              refine q_istore (pc := 64) F (lv' := [(4, .int x4_64), (0, .ref a_M), (1, .int p0), (2, .int p1), (3, .int (m_told 0)), (5, .int x5_h13), (6, .int y37)]) dX5_wider_64 (by decide) rfl ?_
              refine q_iload (pc := 66) F 0 dX5_wider_66 rfl ?_
              refine q_iload (pc := 68) F 6 dX5_wider_68 rfl ?_
              refine jnW h (fun K => ∀ (y93 : Int32), K y93 → Wg E [(a_M, .inr (5, [.long m_trace, .ref a_M_text, .int m_typed, .ref a_M_told, .ref a_M_draft, .ref a_M_s, .ref a_M_images, .ref a_M_kept, .int m_at, .int m_sort, .int m_start, .int m_size, .ref a_M_light, .ref a_M_may, .ref a_M_shine, .ref a_M_worth, .ref a_M_least])), (a_M_told, .inl (cI, 43, .inl m_told))] 0 0 93 [(0, .ref a_M), (1, .int p0), (2, .int p1), (3, .int (m_told 0)), (5, .int x5_h13), (6, .int y37)] [.int y93, .int x4_64]) ?_ ?_
              · intro y93 h
                refine q_ior (pc := 93) F dX5_wider_93 ?_
                refine q_topi (fun x4_94 ex4_94 => ?_)
                have h := h x4_94 ex4_94
                refine q_istore (pc := 94) F (lv' := [(4, .int x4_94), (0, .ref a_M), (1, .int p0), (2, .int p1), (3, .int (m_told 0)), (5, .int x5_h13), (6, .int y37)]) dX5_wider_94 (by decide) rfl ?_
                refine q_iload (pc := 96) F 0 dX5_wider_96 rfl ?_
                refine q_iload (pc := 98) F 6 dX5_wider_98 rfl ?_
                refine jnW h (fun K => ∀ (y119 : Int32), K y119 → Wg E [(a_M, .inr (5, [.long m_trace, .ref a_M_text, .int m_typed, .ref a_M_told, .ref a_M_draft, .ref a_M_s, .ref a_M_images, .ref a_M_kept, .int m_at, .int m_sort, .int m_start, .int m_size, .ref a_M_light, .ref a_M_may, .ref a_M_shine, .ref a_M_worth, .ref a_M_least])), (a_M_told, .inl (cI, 43, .inl m_told))] 0 0 119 [(0, .ref a_M), (1, .int p0), (2, .int p1), (3, .int (m_told 0)), (5, .int x5_h13), (6, .int y37)] [.int y119, .int x4_94]) ?_ ?_
                · intro y119 h
                  refine q_ior (pc := 119) F dX5_wider_119 ?_
                  refine q_topi (fun x4_120 ex4_120 => ?_)
                  have h := h x4_120 ex4_120
                  refine q_istore (pc := 120) F (lv' := [(4, .int x4_120), (0, .ref a_M), (1, .int p0), (2, .int p1), (3, .int (m_told 0)), (5, .int x5_h13), (6, .int y37)]) dX5_wider_120 (by decide) rfl ?_
                  refine q_iload (pc := 122) F 0 dX5_wider_122 rfl ?_
                  refine q_iload (pc := 124) F 6 dX5_wider_124 rfl ?_
                  refine jnW h (fun K => ∀ (y139 : Int32), K y139 → Wg E [(a_M, .inr (5, [.long m_trace, .ref a_M_text, .int m_typed, .ref a_M_told, .ref a_M_draft, .ref a_M_s, .ref a_M_images, .ref a_M_kept, .int m_at, .int m_sort, .int m_start, .int m_size, .ref a_M_light, .ref a_M_may, .ref a_M_shine, .ref a_M_worth, .ref a_M_least])), (a_M_told, .inl (cI, 43, .inl m_told))] 0 0 139 [(0, .ref a_M), (1, .int p0), (2, .int p1), (3, .int (m_told 0)), (5, .int x5_h13)] [.int y139, .int x4_120]) ?_ ?_
                  · intro y139 h
                    refine q_ior (pc := 139) F dX5_wider_139 ?_
                    refine q_topi (fun x4_140 ex4_140 => ?_)
                    have h := h x4_140 ex4_140
                    refine q_istore (pc := 140) F (lv' := [(4, .int x4_140), (0, .ref a_M), (1, .int p0), (2, .int p1), (3, .int (m_told 0)), (5, .int x5_h13)]) dX5_wider_140 (by decide) rfl ?_
                    refine q_iinc (pc := 142) F (v := x5_h13 + (1 : Int32)) (lv' := [(5, .int (x5_h13 + (1 : Int32))), (4, .int x4_140), (0, .ref a_M), (1, .int p0), (2, .int p1), (3, .int (m_told 0))]) 5 dX5_wider_142 rfl rfl (by decide) rfl ?_
                    refine q_goto (pc := 145) (tgt := 13) F dX5_wider_145 (by decide) ?_
                    refine q_lv (lv' := [(0, .ref a_M), (1, .int p0), (2, .int p1), (3, .int (m_told 0)), (4, .int x4_140), (5, .int (x5_h13 + (1 : Int32)))]) [2, 3, 4, 5, 1, 0] rfl ?_
                    exact ih x4_140 (x5_h13 + (1 : Int32)) h
                  · intro K139 J139 h
                    refine q_if_eq (pc := 126) (tgt := 138) F dX5_wider_126 (by decide) (fun c126 => ?_) (fun c126 => ?_)
                    · have h := h.1 c126
                      refine q_iconst (pc := 138) F (v := 0) dX5_wider_138 (by decide) ?_
                      refine q_lv (lv' := [(0, .ref a_M), (1, .int p0), (2, .int p1), (3, .int (m_told 0)), (5, .int x5_h13)]) [1, 2, 3, 4, 5] rfl ?_
                      exact J139 (0 : Int32) h
                    · have h := h.2 c126
                      refine q_iconst (pc := 129) F (v := 1) dX5_wider_129 (by decide) ?_
                      refine q_iload (pc := 130) F 5 dX5_wider_130 rfl ?_
                      refine q_iload_n (pc := 132) F 4 dX5_wider_132 rfl ?_
                      refine q_iadd (pc := 133) F dX5_wider_133 ?_
                      refine q_ishl (pc := 134) F dX5_wider_134 ?_
                      refine q_goto (pc := 135) (tgt := 139) F dX5_wider_135 (by decide) ?_
                      refine q_lv (lv' := [(0, .ref a_M), (1, .int p0), (2, .int p1), (3, .int (m_told 0)), (5, .int x5_h13)]) [1, 2, 3, 4, 5] rfl ?_
                      exact J139 (jshl (1 : Int32) (x5_h13 + (m_told 0))) h
                · intro K119 J119 h
                  refine jnW h (fun K => K → Wg E [(a_M, .inr (5, [.long m_trace, .ref a_M_text, .int m_typed, .ref a_M_told, .ref a_M_draft, .ref a_M_s, .ref a_M_images, .ref a_M_kept, .int m_at, .int m_sort, .int m_start, .int m_size, .ref a_M_light, .ref a_M_may, .ref a_M_shine, .ref a_M_worth, .ref a_M_least])), (a_M_told, .inl (cI, 43, .inl m_told))] 0 0 118 [(0, .ref a_M), (1, .int p0), (2, .int p1), (3, .int (m_told 0)), (5, .int x5_h13), (6, .int y37)] [.int x4_94]) ?_ ?_
                  · intro h
                    refine q_iconst (pc := 118) F (v := 0) dX5_wider_118 (by decide) ?_
                    exact J119 (0 : Int32) h
                  · intro K118 J118 h
                    refine q_if_eq (pc := 100) (tgt := 118) F dX5_wider_100 (by decide) (fun c100 => ?_) (fun c100 => ?_)
                    · have h := h.1 c100
                      refine q_lv (lv' := [(0, .ref a_M), (1, .int p0), (2, .int p1), (3, .int (m_told 0)), (5, .int x5_h13), (6, .int y37)]) [1, 2, 3, 4, 5, 6] rfl ?_
                      exact J118 h
                    · have h := h.2 c100
                      refine q_iload (pc := 103) F 5 dX5_wider_103 rfl ?_
                      refine q_iload_n (pc := 105) F 4 dX5_wider_105 rfl ?_
                      refine q_icmp_lt (pc := 106) (tgt := 118) F dX5_wider_106 (by decide) (fun c106 => ?_) (fun c106 => ?_)
                      · have h := h.1 c106
                        refine q_lv (lv' := [(0, .ref a_M), (1, .int p0), (2, .int p1), (3, .int (m_told 0)), (5, .int x5_h13), (6, .int y37)]) [1, 2, 3, 4, 5, 6] rfl ?_
                        exact J118 h
                      · have h := h.2 c106
                        refine q_iconst (pc := 109) F (v := 1) dX5_wider_109 (by decide) ?_
                        refine q_iload (pc := 110) F 5 dX5_wider_110 rfl ?_
                        refine q_iload_n (pc := 112) F 4 dX5_wider_112 rfl ?_
                        refine q_isub (pc := 113) F dX5_wider_113 ?_
                        refine q_ishl (pc := 114) F dX5_wider_114 ?_
                        refine q_goto (pc := 115) (tgt := 119) F dX5_wider_115 (by decide) ?_
                        refine q_lv (lv' := [(0, .ref a_M), (1, .int p0), (2, .int p1), (3, .int (m_told 0)), (5, .int x5_h13), (6, .int y37)]) [1, 2, 3, 4, 5, 6] rfl ?_
                        exact J119 (jshl (1 : Int32) (x5_h13 - (m_told 0))) h
              · intro K93 J93 h
                refine jnW h (fun K => K → Wg E [(a_M, .inr (5, [.long m_trace, .ref a_M_text, .int m_typed, .ref a_M_told, .ref a_M_draft, .ref a_M_s, .ref a_M_images, .ref a_M_kept, .int m_at, .int m_sort, .int m_start, .int m_size, .ref a_M_light, .ref a_M_may, .ref a_M_shine, .ref a_M_worth, .ref a_M_least])), (a_M_told, .inl (cI, 43, .inl m_told))] 0 0 92 [(0, .ref a_M), (1, .int p0), (2, .int p1), (3, .int (m_told 0)), (5, .int x5_h13), (6, .int y37)] [.int x4_64]) ?_ ?_
                · intro h
                  refine q_iconst (pc := 92) F (v := 0) dX5_wider_92 (by decide) ?_
                  exact J93 (0 : Int32) h
                · intro K92 J92 h
                  refine q_if_eq (pc := 70) (tgt := 92) F dX5_wider_70 (by decide) (fun c70 => ?_) (fun c70 => ?_)
                  · have h := h.1 c70
                    refine q_lv (lv' := [(0, .ref a_M), (1, .int p0), (2, .int p1), (3, .int (m_told 0)), (5, .int x5_h13), (6, .int y37)]) [1, 2, 3, 4, 5, 6] rfl ?_
                    exact J92 h
                  · have h := h.2 c70
                    refine q_iload (pc := 73) F 5 dX5_wider_73 rfl ?_
                    refine q_iload_n (pc := 75) F 4 dX5_wider_75 rfl ?_
                    obtain ⟨hz76, h⟩ := h
                    refine q_irem (pc := 76) F dX5_wider_76 hz76 ?_
                    refine q_iload_n (pc := 77) F 4 dX5_wider_77 rfl ?_
                    refine q_iconst (pc := 78) F (v := 1) dX5_wider_78 (by decide) ?_
                    refine q_isub (pc := 79) F dX5_wider_79 ?_
                    refine q_icmp_ge (pc := 80) (tgt := 92) F dX5_wider_80 (by decide) (fun c80 => ?_) (fun c80 => ?_)
                    · have h := h.1 c80
                      refine q_lv (lv' := [(0, .ref a_M), (1, .int p0), (2, .int p1), (3, .int (m_told 0)), (5, .int x5_h13), (6, .int y37)]) [1, 2, 3, 4, 5, 6] rfl ?_
                      exact J92 h
                    · have h := h.2 c80
                      refine q_iconst (pc := 83) F (v := 1) dX5_wider_83 (by decide) ?_
                      refine q_iload (pc := 84) F 5 dX5_wider_84 rfl ?_
                      refine q_iconst (pc := 86) F (v := 1) dX5_wider_86 (by decide) ?_
                      refine q_iadd (pc := 87) F dX5_wider_87 ?_
                      refine q_ishl (pc := 88) F dX5_wider_88 ?_
                      refine q_goto (pc := 89) (tgt := 93) F dX5_wider_89 (by decide) ?_
                      refine q_lv (lv' := [(0, .ref a_M), (1, .int p0), (2, .int p1), (3, .int (m_told 0)), (5, .int x5_h13), (6, .int y37)]) [1, 2, 3, 4, 5, 6] rfl ?_
                      exact J93 (jshl (1 : Int32) (x5_h13 + (1 : Int32))) h
            · intro K63 J63 h
              refine jnW h (fun K => K → Wg E [(a_M, .inr (5, [.long m_trace, .ref a_M_text, .int m_typed, .ref a_M_told, .ref a_M_draft, .ref a_M_s, .ref a_M_images, .ref a_M_kept, .int m_at, .int m_sort, .int m_start, .int m_size, .ref a_M_light, .ref a_M_may, .ref a_M_shine, .ref a_M_worth, .ref a_M_least])), (a_M_told, .inl (cI, 43, .inl m_told))] 0 0 62 [(0, .ref a_M), (1, .int p0), (2, .int p1), (3, .int (m_told 0)), (5, .int x5_h13), (6, .int y37)] [.int x4_h13]) ?_ ?_
              · intro h
                refine q_iconst (pc := 62) F (v := 0) dX5_wider_62 (by decide) ?_
                exact J63 (0 : Int32) h
              · intro K62 J62 h
                refine q_if_eq (pc := 43) (tgt := 62) F dX5_wider_43 (by decide) (fun c43 => ?_) (fun c43 => ?_)
                · have h := h.1 c43
                  refine q_lv (lv' := [(0, .ref a_M), (1, .int p0), (2, .int p1), (3, .int (m_told 0)), (5, .int x5_h13), (6, .int y37)]) [1, 2, 3, 4, 6, 0] rfl ?_
                  exact J62 h
                · have h := h.2 c43
                  refine q_iload (pc := 46) F 6 dX5_wider_46 rfl ?_
                  refine q_iload_n (pc := 48) F 4 dX5_wider_48 rfl ?_
                  obtain ⟨hz49, h⟩ := h
                  refine q_irem (pc := 49) F dX5_wider_49 hz49 ?_
                  refine q_if_le (pc := 50) (tgt := 62) F dX5_wider_50 (by decide) (fun c50 => ?_) (fun c50 => ?_)
                  · have h := h.1 c50
                    refine q_lv (lv' := [(0, .ref a_M), (1, .int p0), (2, .int p1), (3, .int (m_told 0)), (5, .int x5_h13), (6, .int y37)]) [1, 2, 3, 4, 6, 0] rfl ?_
                    exact J62 h
                  · have h := h.2 c50
                    refine q_iconst (pc := 53) F (v := 1) dX5_wider_53 (by decide) ?_
                    refine q_iload (pc := 54) F 6 dX5_wider_54 rfl ?_
                    refine q_iconst (pc := 56) F (v := 1) dX5_wider_56 (by decide) ?_
                    refine q_isub (pc := 57) F dX5_wider_57 ?_
                    refine q_ishl (pc := 58) F dX5_wider_58 ?_
                    refine q_goto (pc := 59) (tgt := 63) F dX5_wider_59 (by decide) ?_
                    refine q_lv (lv' := [(0, .ref a_M), (1, .int p0), (2, .int p1), (3, .int (m_told 0)), (5, .int x5_h13), (6, .int y37)]) [1, 2, 3, 4, 6, 0] rfl ?_
                    exact J63 (jshl (1 : Int32) (x5_h13 - (1 : Int32))) h
          · intro K37 J37 h
            refine q_icmp_ne (pc := 29) (tgt := 36) F dX5_wider_29 (by decide) (fun c29 => ?_) (fun c29 => ?_)
            · have h := h.2 c29
              refine q_iconst (pc := 36) F (v := 0) dX5_wider_36 (by decide) ?_
              exact J37 (0 : Int32) h
            · have h := h.1 c29
              refine q_iconst (pc := 32) F (v := 1) dX5_wider_32 (by decide) ?_
              refine q_goto (pc := 33) (tgt := 37) F dX5_wider_33 (by decide) ?_
              exact J37 (1 : Int32) h
    refine q_lv (lv' := [(0, .ref a_M), (1, .int p0), (2, .int p1), (3, .int (m_told 0)), (4, .int p0), (5, .int (0 : Int32))]) [3, 4, 5, 2, 1, 0] rfl ?_
    exact lp13 n13 p0 (0 : Int32) h

def wp_X5_shines_L26 (x2 : Int32) (x3 : Int32) (m_told : Nat → Int32) (post : Int32 → Prop) : Nat → Int32 → Int32 → Prop
  | 0, _, _ => False
  | n + 1, x4, x5 => ((x2 ≤ x5 → post x4) ∧ (¬ x2 ≤ x5 → (wp_X5_wider x4 x3 m_told (fun (r36 : Int32) => wp_X5_shines_L26 x2 x3 m_told post n r36 (x5 + (1 : Int32))))))
def wp_X5_shines (p0 : Int32) (p1 : Int32) (m_told : Nat → Int32) (post : Int32 → Prop) : Prop := (wp_X5_cells m_told (fun (r2 : Int32) => (∀ x3_17 : Int32, x3_17 = ((jshl (1 : Int32) r2) - (1 : Int32)) &&& ((m_told 5) ^^^ (-1 : Int32)) → (∃ n26 : Nat, wp_X5_shines_L26 p1 x3_17 m_told post n26 (jshl (1 : Int32) p0) (0 : Int32)))))
abbrev rm_X5_shines : Room := { frames := 2, cells := 0, slots := 0, locals := 46 }
set_option maxRecDepth 100000 in
set_option maxHeartbeats 4000000 in
theorem ct_X5_shines (D : va_G) (cI cZ : ClassId) (a_M a_M_text a_M_told a_M_draft a_M_s a_M_images a_M_kept a_M_light a_M_may a_M_shine a_M_worth a_M_least : Nat) (m_trace : Int64) (m_typed : Int32) (m_at : Int32) (m_sort : Int32) (m_start : Int32) (m_size : Int32) (m_told : Nat → Int32) (p0 : Int32) (p1 : Int32) {post : Int32 → Prop} (h : wp_X5_shines p0 p1 m_told post) (l : Launch) (sz : Nat) : Met l yX5_shines (wsM yX5_shines cX5_shines 6 (some .int)) rm_X5_shines (va_Pc [.ref a_M, .int p0, .int p1] (gP D cI cZ [(a_M, .inr (5, [.long m_trace, .ref a_M_text, .int m_typed, .ref a_M_told, .ref a_M_draft, .ref a_M_s, .ref a_M_images, .ref a_M_kept, .int m_at, .int m_sort, .int m_start, .int m_size, .ref a_M_light, .ref a_M_may, .ref a_M_shine, .ref a_M_worth, .ref a_M_least])), (a_M_told, .inl (cI, 43, .inl m_told))] sz)) (gR post) 0 0 (fun _ => False) := by
  refine q_startR (own := RX5) (by decide +kernel) rfl (Nat.le_of_ble_eq_true rfl) (fun E F Z => ?_)
  show Wg E [(a_M, .inr (5, [.long m_trace, .ref a_M_text, .int m_typed, .ref a_M_told, .ref a_M_draft, .ref a_M_s, .ref a_M_images, .ref a_M_kept, .int m_at, .int m_sort, .int m_start, .int m_size, .ref a_M_light, .ref a_M_may, .ref a_M_shine, .ref a_M_worth, .ref a_M_least])), (a_M_told, .inl (cI, 43, .inl m_told))] 0 0 0 [(0, .ref a_M), (1, .int p0), (2, .int p1)] []
  unfold wp_X5_shines at h
  refine q_iconst (pc := 0) F (v := 1) dX5_shines_0 (by decide) ?_
  refine q_aload_n (pc := 1) F 0 dX5_shines_1 rfl ?_
  refine q_cR (q_runV (As := []) (rest := [.int (1 : Int32)]) (pc := 2) F (fun l sz => ct_X5_cells D cI cZ a_M a_M_text a_M_told a_M_draft a_M_s a_M_images a_M_kept a_M_light a_M_may a_M_shine a_M_worth a_M_least m_trace m_typed m_at m_sort m_start m_size m_told h l sz) mc_yX5_cells im_yX5_cells se_yX5_cells mlX5_44 ⟨by decide, by decide⟩ ⟨by decide, by decide⟩ ⟨rfl, rfl⟩ [0, 1] rfl rfl rfl 0 rfl rfl rfl (Nat.le_of_ble_eq_true rfl) dX5_shines_2) (fun r2 h => ?_)
  refine q_ishl (pc := 5) F dX5_shines_5 ?_
  refine q_iconst (pc := 6) F (v := 1) dX5_shines_6 (by decide) ?_
  refine q_isub (pc := 7) F dX5_shines_7 ?_
  refine q_aload_n (pc := 8) F 0 dX5_shines_8 rfl ?_
  refine q_get (pc := 9) F fgX5_13 0 rfl rfl dX5_shines_9 ?_
  refine q_iconst (pc := 12) F (v := 5) dX5_shines_12 (by decide) ?_
  refine q_ialdk (pc := 13) F (k9 := 5) 1 rfl (vpd (by decide +kernel)) (by decide +kernel) dX5_shines_13 ?_
  refine q_iconst (pc := 14) F (v := -1) dX5_shines_14 (by decide) ?_
  refine q_ixor (pc := 15) F dX5_shines_15 ?_
  refine q_iand (pc := 16) F dX5_shines_16 ?_
  refine q_topi (fun x3_17 ex3_17 => ?_)
  have h := h x3_17 ex3_17
  refine q_istore_n (pc := 17) F (lv' := [(3, .int x3_17), (0, .ref a_M), (1, .int p0), (2, .int p1)]) dX5_shines_17 (by decide) rfl ?_
  refine q_iconst (pc := 18) F (v := 1) dX5_shines_18 (by decide) ?_
  refine q_iload_n (pc := 19) F 2 dX5_shines_19 rfl ?_
  refine q_ishl (pc := 20) F dX5_shines_20 ?_
  refine q_istore (pc := 21) F (lv' := [(4, .int (jshl (1 : Int32) p0)), (3, .int x3_17), (0, .ref a_M), (1, .int p0), (2, .int p1)]) dX5_shines_21 (by decide) rfl ?_
  refine q_iconst (pc := 23) F (v := 0) dX5_shines_23 (by decide) ?_
  refine q_istore (pc := 24) F (lv' := [(5, .int (0 : Int32)), (4, .int (jshl (1 : Int32) p0)), (3, .int x3_17), (0, .ref a_M), (1, .int p0), (2, .int p1)]) dX5_shines_24 (by decide) rfl ?_
  obtain ⟨n26, h⟩ := h
  have lp26 : ∀ (n : Nat) (x4_h26 : Int32) (x5_h26 : Int32), wp_X5_shines_L26 p1 x3_17 m_told post n x4_h26 x5_h26 → Wg E [(a_M, .inr (5, [.long m_trace, .ref a_M_text, .int m_typed, .ref a_M_told, .ref a_M_draft, .ref a_M_s, .ref a_M_images, .ref a_M_kept, .int m_at, .int m_sort, .int m_start, .int m_size, .ref a_M_light, .ref a_M_may, .ref a_M_shine, .ref a_M_worth, .ref a_M_least])), (a_M_told, .inl (cI, 43, .inl m_told))] 0 0 26 [(0, .ref a_M), (2, .int p1), (3, .int x3_17), (4, .int x4_h26), (5, .int x5_h26)] [] := by
    intro n
    induction n with
    | zero => intro x4_h26 x5_h26 h; exact h.elim
    | succ n ih =>
      intro x4_h26 x5_h26 h
      unfold wp_X5_shines_L26 at h
      refine q_iload (pc := 26) F 4 dX5_shines_26 rfl ?_
      refine q_iload_n (pc := 28) F 1 dX5_shines_28 rfl ?_
      refine q_icmp_ge (pc := 29) (tgt := 47) F dX5_shines_29 (by decide) (fun c29 => ?_) (fun c29 => ?_)
      · have h := h.1 c29
        refine q_iload (pc := 47) F 3 dX5_shines_47 rfl ?_
        exact q_iretR (pc := 49) F Z dX5_shines_49 h
      · have h := h.2 c29
        refine q_aload_n (pc := 32) F 0 dX5_shines_32 rfl ?_
        refine q_iload (pc := 33) F 3 dX5_shines_33 rfl ?_
        refine q_iload_n (pc := 35) F 2 dX5_shines_35 rfl ?_
        refine q_cR (q_runV (As := [.int x4_h26, .int x3_17]) (rest := []) (pc := 36) F (fun l sz => ct_X5_wider D cI cZ a_M a_M_text a_M_told a_M_draft a_M_s a_M_images a_M_kept a_M_light a_M_may a_M_shine a_M_worth a_M_least m_trace m_typed m_at m_sort m_start m_size m_told x4_h26 x3_17 h l sz) mc_yX5_wider im_yX5_wider se_yX5_wider mlX5_125 ⟨by decide, by decide⟩ ⟨by decide, by decide⟩ ⟨rfl, rfl⟩ [0, 1] rfl rfl rfl 0 rfl rfl rfl (Nat.le_of_ble_eq_true rfl) dX5_shines_36) (fun r36 h => ?_)
        refine q_istore (pc := 39) F (lv' := [(4, .int r36), (0, .ref a_M), (2, .int p1), (3, .int x3_17), (5, .int x5_h26)]) dX5_shines_39 (by decide) rfl ?_
        refine q_iinc (pc := 41) F (v := x5_h26 + (1 : Int32)) (lv' := [(5, .int (x5_h26 + (1 : Int32))), (4, .int r36), (0, .ref a_M), (2, .int p1), (3, .int x3_17)]) 4 dX5_shines_41 rfl rfl (by decide) rfl ?_
        refine q_goto (pc := 44) (tgt := 26) F dX5_shines_44 (by decide) ?_
        refine q_lv (lv' := [(0, .ref a_M), (2, .int p1), (3, .int x3_17), (4, .int r36), (5, .int (x5_h26 + (1 : Int32)))]) [2, 3, 4, 1, 0] rfl ?_
        exact ih r36 (x5_h26 + (1 : Int32)) h
  refine q_lv (lv' := [(0, .ref a_M), (2, .int p1), (3, .int x3_17), (4, .int (jshl (1 : Int32) p0)), (5, .int (0 : Int32))]) [3, 5, 2, 1, 0] rfl ?_
  exact lp26 n26 (jshl (1 : Int32) p0) (0 : Int32) h

def wp_X5_toDoors_L12 (x1 : Int32) (m_told : Nat → Int32) (post : Int32 → Prop) : Nat → Int32 → Int32 → Prop
  | 0, _, _ => False
  | n + 1, x2, x3 => ((x3 = (0 : Int32) → post x2) ∧ (¬ x3 = (0 : Int32) → (wp_X5_wider x2 x1 m_told (fun (r19 : Int32) => (jn (fun (K35 : Int32 → Prop) => ((r19 = x2 → K35 (0 : Int32)) ∧ (¬ r19 = x2 → K35 (1 : Int32)))) (fun (y35 : Int32) => wp_X5_toDoors_L12 x1 m_told post n r19 y35))))))
def wp_X5_toDoors (p0 : Int32) (m_told : Nat → Int32) (post : Int32 → Prop) : Prop := (∀ x2_9 : Int32, x2_9 = p0 &&& (m_told 6) → (∃ n12 : Nat, wp_X5_toDoors_L12 p0 m_told post n12 x2_9 (1 : Int32)))
abbrev rm_X5_toDoors : Room := { frames := 2, cells := 0, slots := 0, locals := 46 }
set_option maxRecDepth 100000 in
set_option maxHeartbeats 4000000 in
theorem ct_X5_toDoors (D : va_G) (cI cZ : ClassId) (a_M a_M_text a_M_told a_M_draft a_M_s a_M_images a_M_kept a_M_light a_M_may a_M_shine a_M_worth a_M_least : Nat) (m_trace : Int64) (m_typed : Int32) (m_at : Int32) (m_sort : Int32) (m_start : Int32) (m_size : Int32) (m_told : Nat → Int32) (p0 : Int32) {post : Int32 → Prop} (h : wp_X5_toDoors p0 m_told post) (l : Launch) (sz : Nat) : Met l yX5_toDoors (wsM yX5_toDoors cX5_toDoors 5 (some .int)) rm_X5_toDoors (va_Pc [.ref a_M, .int p0] (gP D cI cZ [(a_M, .inr (5, [.long m_trace, .ref a_M_text, .int m_typed, .ref a_M_told, .ref a_M_draft, .ref a_M_s, .ref a_M_images, .ref a_M_kept, .int m_at, .int m_sort, .int m_start, .int m_size, .ref a_M_light, .ref a_M_may, .ref a_M_shine, .ref a_M_worth, .ref a_M_least])), (a_M_told, .inl (cI, 43, .inl m_told))] sz)) (gR post) 0 0 (fun _ => False) := by
  refine q_startR (own := RX5) (by decide +kernel) rfl (Nat.le_of_ble_eq_true rfl) (fun E F Z => ?_)
  show Wg E [(a_M, .inr (5, [.long m_trace, .ref a_M_text, .int m_typed, .ref a_M_told, .ref a_M_draft, .ref a_M_s, .ref a_M_images, .ref a_M_kept, .int m_at, .int m_sort, .int m_start, .int m_size, .ref a_M_light, .ref a_M_may, .ref a_M_shine, .ref a_M_worth, .ref a_M_least])), (a_M_told, .inl (cI, 43, .inl m_told))] 0 0 0 [(0, .ref a_M), (1, .int p0)] []
  unfold wp_X5_toDoors at h
  refine q_iload_n (pc := 0) F 1 dX5_toDoors_0 rfl ?_
  refine q_aload_n (pc := 1) F 0 dX5_toDoors_1 rfl ?_
  refine q_get (pc := 2) F fgX5_13 0 rfl rfl dX5_toDoors_2 ?_
  refine q_bipush (pc := 5) F (v := 6) dX5_toDoors_5 (by decide) ?_
  refine q_ialdk (pc := 7) F (k9 := 6) 1 rfl (vpd (by decide +kernel)) (by decide +kernel) dX5_toDoors_7 ?_
  refine q_iand (pc := 8) F dX5_toDoors_8 ?_
  refine q_topi (fun x2_9 ex2_9 => ?_)
  have h := h x2_9 ex2_9
  refine q_istore_n (pc := 9) F (lv' := [(2, .int x2_9), (0, .ref a_M), (1, .int p0)]) dX5_toDoors_9 (by decide) rfl ?_
  refine q_iconst (pc := 10) F (v := 1) dX5_toDoors_10 (by decide) ?_
  refine q_istore_n (pc := 11) F (lv' := [(3, .int (1 : Int32)), (2, .int x2_9), (0, .ref a_M), (1, .int p0)]) dX5_toDoors_11 (by decide) rfl ?_
  obtain ⟨n12, h⟩ := h
  have lp12 : ∀ (n : Nat) (x2_h12 : Int32) (x3_h12 : Int32), wp_X5_toDoors_L12 p0 m_told post n x2_h12 x3_h12 → Wg E [(a_M, .inr (5, [.long m_trace, .ref a_M_text, .int m_typed, .ref a_M_told, .ref a_M_draft, .ref a_M_s, .ref a_M_images, .ref a_M_kept, .int m_at, .int m_sort, .int m_start, .int m_size, .ref a_M_light, .ref a_M_may, .ref a_M_shine, .ref a_M_worth, .ref a_M_least])), (a_M_told, .inl (cI, 43, .inl m_told))] 0 0 12 [(0, .ref a_M), (1, .int p0), (2, .int x2_h12), (3, .int x3_h12)] [] := by
    intro n
    induction n with
    | zero => intro x2_h12 x3_h12 h; exact h.elim
    | succ n ih =>
      intro x2_h12 x3_h12 h
      unfold wp_X5_toDoors_L12 at h
      refine q_iload_n (pc := 12) F 3 dX5_toDoors_12 rfl ?_
      refine q_if_eq (pc := 13) (tgt := 42) F dX5_toDoors_13 (by decide) (fun c13 => ?_) (fun c13 => ?_)
      · have h := h.1 c13
        refine q_iload_n (pc := 42) F 2 dX5_toDoors_42 rfl ?_
        exact q_iretR (pc := 43) F Z dX5_toDoors_43 h
      · have h := h.2 c13
        refine q_aload_n (pc := 16) F 0 dX5_toDoors_16 rfl ?_
        refine q_iload_n (pc := 17) F 2 dX5_toDoors_17 rfl ?_
        refine q_iload_n (pc := 18) F 1 dX5_toDoors_18 rfl ?_
        refine q_cR (q_runV (As := [.int x2_h12, .int p0]) (rest := []) (pc := 19) F (fun l sz => ct_X5_wider D cI cZ a_M a_M_text a_M_told a_M_draft a_M_s a_M_images a_M_kept a_M_light a_M_may a_M_shine a_M_worth a_M_least m_trace m_typed m_at m_sort m_start m_size m_told x2_h12 p0 h l sz) mc_yX5_wider im_yX5_wider se_yX5_wider mlX5_125 ⟨by decide, by decide⟩ ⟨by decide, by decide⟩ ⟨rfl, rfl⟩ [0, 1] rfl rfl rfl 0 rfl rfl rfl (Nat.le_of_ble_eq_true rfl) dX5_toDoors_19) (fun r19 h => ?_)
        refine q_istore (pc := 22) F (lv' := [(4, .int r19), (0, .ref a_M), (1, .int p0), (2, .int x2_h12), (3, .int x3_h12)]) dX5_toDoors_22 (by decide) rfl ?_
        refine q_iload (pc := 24) F 0 dX5_toDoors_24 rfl ?_
        refine q_iload_n (pc := 26) F 3 dX5_toDoors_26 rfl ?_
        refine jnW h (fun K => ∀ (y35 : Int32), K y35 → Wg E [(a_M, .inr (5, [.long m_trace, .ref a_M_text, .int m_typed, .ref a_M_told, .ref a_M_draft, .ref a_M_s, .ref a_M_images, .ref a_M_kept, .int m_at, .int m_sort, .int m_start, .int m_size, .ref a_M_light, .ref a_M_may, .ref a_M_shine, .ref a_M_worth, .ref a_M_least])), (a_M_told, .inl (cI, 43, .inl m_told))] 0 0 35 [(0, .ref a_M), (1, .int p0), (4, .int r19)] [.int y35]) ?_ ?_
        · intro y35 h
          refine q_istore_n (pc := 35) F (lv' := [(3, .int y35), (0, .ref a_M), (1, .int p0), (4, .int r19)]) dX5_toDoors_35 (by decide) rfl ?_
          refine q_iload (pc := 36) F 3 dX5_toDoors_36 rfl ?_
          refine q_istore_n (pc := 38) F (lv' := [(2, .int r19), (3, .int y35), (0, .ref a_M), (1, .int p0), (4, .int r19)]) dX5_toDoors_38 (by decide) rfl ?_
          refine q_goto (pc := 39) (tgt := 12) F dX5_toDoors_39 (by decide) ?_
          refine q_lv (lv' := [(0, .ref a_M), (1, .int p0), (2, .int r19), (3, .int y35)]) [2, 3, 0, 1] rfl ?_
          exact ih r19 y35 h
        · intro K35 J35 h
          refine q_icmp_eq (pc := 27) (tgt := 34) F dX5_toDoors_27 (by decide) (fun c27 => ?_) (fun c27 => ?_)
          · have h := h.1 c27
            refine q_iconst (pc := 34) F (v := 0) dX5_toDoors_34 (by decide) ?_
            refine q_lv (lv' := [(0, .ref a_M), (1, .int p0), (4, .int r19)]) [1, 2, 0] rfl ?_
            exact J35 (0 : Int32) h
          · have h := h.2 c27
            refine q_iconst (pc := 30) F (v := 1) dX5_toDoors_30 (by decide) ?_
            refine q_goto (pc := 31) (tgt := 35) F dX5_toDoors_31 (by decide) ?_
            refine q_lv (lv' := [(0, .ref a_M), (1, .int p0), (4, .int r19)]) [1, 2, 0] rfl ?_
            exact J35 (1 : Int32) h
  refine q_lv (lv' := [(0, .ref a_M), (1, .int p0), (2, .int x2_9), (3, .int (1 : Int32))]) [2, 3, 1, 0] rfl ?_
  exact lp12 n12 x2_9 (1 : Int32) h

def wp_X5_allLit (m_told : Nat → Int32) (post : Int32 → Prop) : Prop := post ((jshl (1 : Int32) (m_told 3)) - (1 : Int32))
abbrev rm_X5_allLit : Room := { frames := 0, cells := 0, slots := 0, locals := 0 }
set_option maxRecDepth 100000 in
set_option maxHeartbeats 4000000 in
theorem ct_X5_allLit (D : va_G) (cI cZ : ClassId) (a_M a_M_text a_M_told a_M_draft a_M_s a_M_images a_M_kept a_M_light a_M_may a_M_shine a_M_worth a_M_least : Nat) (m_trace : Int64) (m_typed : Int32) (m_at : Int32) (m_sort : Int32) (m_start : Int32) (m_size : Int32) (m_told : Nat → Int32) {post : Int32 → Prop} (h : wp_X5_allLit m_told post) (l : Launch) (sz : Nat) : Met l yX5_allLit (wsM yX5_allLit cX5_allLit 1 (some .int)) rm_X5_allLit (va_Pc [.ref a_M] (gP D cI cZ [(a_M, .inr (5, [.long m_trace, .ref a_M_text, .int m_typed, .ref a_M_told, .ref a_M_draft, .ref a_M_s, .ref a_M_images, .ref a_M_kept, .int m_at, .int m_sort, .int m_start, .int m_size, .ref a_M_light, .ref a_M_may, .ref a_M_shine, .ref a_M_worth, .ref a_M_least])), (a_M_told, .inl (cI, 43, .inl m_told))] sz)) (gR post) 0 0 (fun _ => False) := by
  refine q_startR (own := RX5) (by decide +kernel) rfl (Nat.le_of_ble_eq_true rfl) (fun E F Z => ?_)
  show Wg E [(a_M, .inr (5, [.long m_trace, .ref a_M_text, .int m_typed, .ref a_M_told, .ref a_M_draft, .ref a_M_s, .ref a_M_images, .ref a_M_kept, .int m_at, .int m_sort, .int m_start, .int m_size, .ref a_M_light, .ref a_M_may, .ref a_M_shine, .ref a_M_worth, .ref a_M_least])), (a_M_told, .inl (cI, 43, .inl m_told))] 0 0 0 [(0, .ref a_M)] []
  unfold wp_X5_allLit at h
  refine q_iconst (pc := 0) F (v := 1) dX5_allLit_0 (by decide) ?_
  refine q_aload_n (pc := 1) F 0 dX5_allLit_1 rfl ?_
  refine q_get (pc := 2) F fgX5_13 0 rfl rfl dX5_allLit_2 ?_
  refine q_iconst (pc := 5) F (v := 3) dX5_allLit_5 (by decide) ?_
  refine q_ialdk (pc := 6) F (k9 := 3) 1 rfl (vpd (by decide +kernel)) (by decide +kernel) dX5_allLit_6 ?_
  refine q_ishl (pc := 7) F dX5_allLit_7 ?_
  refine q_iconst (pc := 8) F (v := 1) dX5_allLit_8 (by decide) ?_
  refine q_isub (pc := 9) F dX5_allLit_9 ?_
  exact q_iretR (pc := 10) F Z dX5_allLit_10 h

def wp_X5_all (m_told : Nat → Int32) (post : Int32 → Prop) : Prop := post ((jshl (1 : Int32) (m_told 4)) - (1 : Int32))
abbrev rm_X5_all : Room := { frames := 0, cells := 0, slots := 0, locals := 0 }
set_option maxRecDepth 100000 in
set_option maxHeartbeats 4000000 in
theorem ct_X5_all (D : va_G) (cI cZ : ClassId) (a_M a_M_text a_M_told a_M_draft a_M_s a_M_images a_M_kept a_M_light a_M_may a_M_shine a_M_worth a_M_least : Nat) (m_trace : Int64) (m_typed : Int32) (m_at : Int32) (m_sort : Int32) (m_start : Int32) (m_size : Int32) (m_told : Nat → Int32) {post : Int32 → Prop} (h : wp_X5_all m_told post) (l : Launch) (sz : Nat) : Met l yX5_all (wsM yX5_all cX5_all 1 (some .int)) rm_X5_all (va_Pc [.ref a_M] (gP D cI cZ [(a_M, .inr (5, [.long m_trace, .ref a_M_text, .int m_typed, .ref a_M_told, .ref a_M_draft, .ref a_M_s, .ref a_M_images, .ref a_M_kept, .int m_at, .int m_sort, .int m_start, .int m_size, .ref a_M_light, .ref a_M_may, .ref a_M_shine, .ref a_M_worth, .ref a_M_least])), (a_M_told, .inl (cI, 43, .inl m_told))] sz)) (gR post) 0 0 (fun _ => False) := by
  refine q_startR (own := RX5) (by decide +kernel) rfl (Nat.le_of_ble_eq_true rfl) (fun E F Z => ?_)
  show Wg E [(a_M, .inr (5, [.long m_trace, .ref a_M_text, .int m_typed, .ref a_M_told, .ref a_M_draft, .ref a_M_s, .ref a_M_images, .ref a_M_kept, .int m_at, .int m_sort, .int m_start, .int m_size, .ref a_M_light, .ref a_M_may, .ref a_M_shine, .ref a_M_worth, .ref a_M_least])), (a_M_told, .inl (cI, 43, .inl m_told))] 0 0 0 [(0, .ref a_M)] []
  unfold wp_X5_all at h
  refine q_iconst (pc := 0) F (v := 1) dX5_all_0 (by decide) ?_
  refine q_aload_n (pc := 1) F 0 dX5_all_1 rfl ?_
  refine q_get (pc := 2) F fgX5_13 0 rfl rfl dX5_all_2 ?_
  refine q_iconst (pc := 5) F (v := 4) dX5_all_5 (by decide) ?_
  refine q_ialdk (pc := 6) F (k9 := 4) 1 rfl (vpd (by decide +kernel)) (by decide +kernel) dX5_all_6 ?_
  refine q_ishl (pc := 7) F dX5_all_7 ?_
  refine q_iconst (pc := 8) F (v := 1) dX5_all_8 (by decide) ?_
  refine q_isub (pc := 9) F dX5_all_9 ?_
  exact q_iretR (pc := 10) F Z dX5_all_10 h

def wp_X5_many (p0 : Int32) (m_told : Nat → Int32) (post : Int32 → Prop) : Prop := ((p0 = (0 : Int32) → (wp_X5_allLit m_told (fun (r16 : Int32) => post (r16 + (1 : Int32))))) ∧ (¬ p0 = (0 : Int32) → (wp_X5_allLit m_told (fun (r6 : Int32) => post (((2 : Int32) * r6) + (2 : Int32))))))
abbrev rm_X5_many : Room := { frames := 1, cells := 0, slots := 0, locals := 20 }
set_option maxRecDepth 100000 in
set_option maxHeartbeats 4000000 in
theorem ct_X5_many (D : va_G) (cI cZ : ClassId) (a_M a_M_text a_M_told a_M_draft a_M_s a_M_images a_M_kept a_M_light a_M_may a_M_shine a_M_worth a_M_least : Nat) (m_trace : Int64) (m_typed : Int32) (m_at : Int32) (m_sort : Int32) (m_start : Int32) (m_size : Int32) (m_told : Nat → Int32) (p0 : Int32) {post : Int32 → Prop} (h : wp_X5_many p0 m_told post) (l : Launch) (sz : Nat) : Met l yX5_many (wsM yX5_many cX5_many 2 (some .int)) rm_X5_many (va_Pc [.ref a_M, .int p0] (gP D cI cZ [(a_M, .inr (5, [.long m_trace, .ref a_M_text, .int m_typed, .ref a_M_told, .ref a_M_draft, .ref a_M_s, .ref a_M_images, .ref a_M_kept, .int m_at, .int m_sort, .int m_start, .int m_size, .ref a_M_light, .ref a_M_may, .ref a_M_shine, .ref a_M_worth, .ref a_M_least])), (a_M_told, .inl (cI, 43, .inl m_told))] sz)) (gR post) 0 0 (fun _ => False) := by
  refine q_startR (own := RX5) (by decide +kernel) rfl (Nat.le_of_ble_eq_true rfl) (fun E F Z => ?_)
  show Wg E [(a_M, .inr (5, [.long m_trace, .ref a_M_text, .int m_typed, .ref a_M_told, .ref a_M_draft, .ref a_M_s, .ref a_M_images, .ref a_M_kept, .int m_at, .int m_sort, .int m_start, .int m_size, .ref a_M_light, .ref a_M_may, .ref a_M_shine, .ref a_M_worth, .ref a_M_least])), (a_M_told, .inl (cI, 43, .inl m_told))] 0 0 0 [(0, .ref a_M), (1, .int p0)] []
  unfold wp_X5_many at h
  refine q_iload_n (pc := 0) F 1 dX5_many_0 rfl ?_
  refine q_if_eq (pc := 1) (tgt := 15) F dX5_many_1 (by decide) (fun c1 => ?_) (fun c1 => ?_)
  · have h := h.1 c1
    refine q_aload_n (pc := 15) F 0 dX5_many_15 rfl ?_
    refine q_cR (q_runV (As := []) (rest := []) (pc := 16) F (fun l sz => ct_X5_allLit D cI cZ a_M a_M_text a_M_told a_M_draft a_M_s a_M_images a_M_kept a_M_light a_M_may a_M_shine a_M_worth a_M_least m_trace m_typed m_at m_sort m_start m_size m_told h l sz) mc_yX5_allLit im_yX5_allLit se_yX5_allLit mlX5_128 ⟨by decide, by decide⟩ ⟨by decide, by decide⟩ ⟨rfl, rfl⟩ [0, 1] rfl rfl rfl 0 rfl rfl rfl (Nat.le_of_ble_eq_true rfl) dX5_many_16) (fun r16 h => ?_)
    refine q_iconst (pc := 19) F (v := 1) dX5_many_19 (by decide) ?_
    refine q_iadd (pc := 20) F dX5_many_20 ?_
    exact q_iretR (pc := 21) F Z dX5_many_21 h
  · have h := h.2 c1
    refine q_iconst (pc := 4) F (v := 2) dX5_many_4 (by decide) ?_
    refine q_aload_n (pc := 5) F 0 dX5_many_5 rfl ?_
    refine q_cR (q_runV (As := []) (rest := [.int (2 : Int32)]) (pc := 6) F (fun l sz => ct_X5_allLit D cI cZ a_M a_M_text a_M_told a_M_draft a_M_s a_M_images a_M_kept a_M_light a_M_may a_M_shine a_M_worth a_M_least m_trace m_typed m_at m_sort m_start m_size m_told h l sz) mc_yX5_allLit im_yX5_allLit se_yX5_allLit mlX5_128 ⟨by decide, by decide⟩ ⟨by decide, by decide⟩ ⟨rfl, rfl⟩ [0, 1] rfl rfl rfl 0 rfl rfl rfl (Nat.le_of_ble_eq_true rfl) dX5_many_6) (fun r6 h => ?_)
    refine q_imul (pc := 9) F dX5_many_9 ?_
    refine q_iconst (pc := 10) F (v := 2) dX5_many_10 (by decide) ?_
    refine q_iadd (pc := 11) F dX5_many_11 ?_
    refine q_goto (pc := 12) (tgt := 21) F dX5_many_12 (by decide) ?_
    exact q_iretR (pc := 21) F Z dX5_many_21 h

def wp_X5_litOf (p0 : Int32) (m_told : Nat → Int32) (post : Int32 → Prop) : Prop := (wp_X5_allLit m_told (fun (r2 : Int32) => ((r2 < p0 → (wp_X5_allLit m_told (fun (r16 : Int32) => post ((64 : Int32) ||| ((p0 - r16) - (1 : Int32)))))) ∧ (¬ r2 < p0 → post p0))))
abbrev rm_X5_litOf : Room := { frames := 1, cells := 0, slots := 0, locals := 20 }
set_option maxRecDepth 100000 in
set_option maxHeartbeats 4000000 in
theorem ct_X5_litOf (D : va_G) (cI cZ : ClassId) (a_M a_M_text a_M_told a_M_draft a_M_s a_M_images a_M_kept a_M_light a_M_may a_M_shine a_M_worth a_M_least : Nat) (m_trace : Int64) (m_typed : Int32) (m_at : Int32) (m_sort : Int32) (m_start : Int32) (m_size : Int32) (m_told : Nat → Int32) (p0 : Int32) {post : Int32 → Prop} (h : wp_X5_litOf p0 m_told post) (l : Launch) (sz : Nat) : Met l yX5_litOf (wsM yX5_litOf cX5_litOf 2 (some .int)) rm_X5_litOf (va_Pc [.ref a_M, .int p0] (gP D cI cZ [(a_M, .inr (5, [.long m_trace, .ref a_M_text, .int m_typed, .ref a_M_told, .ref a_M_draft, .ref a_M_s, .ref a_M_images, .ref a_M_kept, .int m_at, .int m_sort, .int m_start, .int m_size, .ref a_M_light, .ref a_M_may, .ref a_M_shine, .ref a_M_worth, .ref a_M_least])), (a_M_told, .inl (cI, 43, .inl m_told))] sz)) (gR post) 0 0 (fun _ => False) := by
  refine q_startR (own := RX5) (by decide +kernel) rfl (Nat.le_of_ble_eq_true rfl) (fun E F Z => ?_)
  show Wg E [(a_M, .inr (5, [.long m_trace, .ref a_M_text, .int m_typed, .ref a_M_told, .ref a_M_draft, .ref a_M_s, .ref a_M_images, .ref a_M_kept, .int m_at, .int m_sort, .int m_start, .int m_size, .ref a_M_light, .ref a_M_may, .ref a_M_shine, .ref a_M_worth, .ref a_M_least])), (a_M_told, .inl (cI, 43, .inl m_told))] 0 0 0 [(0, .ref a_M), (1, .int p0)] []
  unfold wp_X5_litOf at h
  refine q_iload_n (pc := 0) F 1 dX5_litOf_0 rfl ?_
  refine q_aload_n (pc := 1) F 0 dX5_litOf_1 rfl ?_
  refine q_cR (q_runV (As := []) (rest := [.int p0]) (pc := 2) F (fun l sz => ct_X5_allLit D cI cZ a_M a_M_text a_M_told a_M_draft a_M_s a_M_images a_M_kept a_M_light a_M_may a_M_shine a_M_worth a_M_least m_trace m_typed m_at m_sort m_start m_size m_told h l sz) mc_yX5_allLit im_yX5_allLit se_yX5_allLit mlX5_128 ⟨by decide, by decide⟩ ⟨by decide, by decide⟩ ⟨rfl, rfl⟩ [0, 1] rfl rfl rfl 0 rfl rfl rfl (Nat.le_of_ble_eq_true rfl) dX5_litOf_2) (fun r2 h => ?_)
  refine q_icmp_gt (pc := 5) (tgt := 12) F dX5_litOf_5 (by decide) (fun c5 => ?_) (fun c5 => ?_)
  · have h := h.1 c5
    refine q_bipush (pc := 12) F (v := 64) dX5_litOf_12 (by decide) ?_
    refine q_iload_n (pc := 14) F 1 dX5_litOf_14 rfl ?_
    refine q_aload_n (pc := 15) F 0 dX5_litOf_15 rfl ?_
    refine q_cR (q_runV (As := []) (rest := [.int p0, .int (64 : Int32)]) (pc := 16) F (fun l sz => ct_X5_allLit D cI cZ a_M a_M_text a_M_told a_M_draft a_M_s a_M_images a_M_kept a_M_light a_M_may a_M_shine a_M_worth a_M_least m_trace m_typed m_at m_sort m_start m_size m_told h l sz) mc_yX5_allLit im_yX5_allLit se_yX5_allLit mlX5_128 ⟨by decide, by decide⟩ ⟨by decide, by decide⟩ ⟨rfl, rfl⟩ [0, 1] rfl rfl rfl 0 rfl rfl rfl (Nat.le_of_ble_eq_true rfl) dX5_litOf_16) (fun r16 h => ?_)
    refine q_isub (pc := 19) F dX5_litOf_19 ?_
    refine q_iconst (pc := 20) F (v := 1) dX5_litOf_20 (by decide) ?_
    refine q_isub (pc := 21) F dX5_litOf_21 ?_
    refine q_ior (pc := 22) F dX5_litOf_22 ?_
    exact q_iretR (pc := 23) F Z dX5_litOf_23 h
  · have h := h.2 c5
    refine q_iload_n (pc := 8) F 1 dX5_litOf_8 rfl ?_
    refine q_goto (pc := 9) (tgt := 23) F dX5_litOf_9 (by decide) ?_
    exact q_iretR (pc := 23) F Z dX5_litOf_23 h

def wp_X5_lights_L2 (m_told : Nat → Int32) (K46 : (Nat → Int32) → Prop) : Nat → Int32 → (Nat → Int32) → Prop
  | 0, _, _ => False
  | n + 1, x2, m_shine => (((m_told 3) ≤ x2 → K46 m_shine) ∧ (¬ (m_told 3) ≤ x2 → (vp_in ((7 : Int32) + x2) 43 ∧ (vp_in ((13 : Int32) + x2) 43 ∧ (wp_X5_shines (m_told (ix ((7 : Int32) + x2))) (m_told (ix ((13 : Int32) + x2))) m_told (fun (r36 : Int32) => (vp_in x2 7 ∧ wp_X5_lights_L2 m_told K46 n (x2 + (1 : Int32)) (upd m_shine (ix x2) r36))))))))
def wp_X5_lights_L85 (x3 : Int32) (m_shine : Nat → Int32) (K124 : Int32 → Prop) : Nat → Int32 → Int32 → Prop
  | 0, _, _ => False
  | n + 1, x4, x5 => (((6 : Int32) < x5 → K124 x4) ∧ (¬ (6 : Int32) < x5 → (jn (fun (K115 : Int32 → Prop) => ((((jshr x3 x5) &&& (1 : Int32)) = (1 : Int32) → (vp_in x5 7 ∧ K115 (m_shine (ix x5)))) ∧ (¬ ((jshr x3 x5) &&& (1 : Int32)) = (1 : Int32) → K115 (0 : Int32)))) (fun (y115 : Int32) => (∀ x4_116 : Int32, x4_116 = x4 ||| y115 → wp_X5_lights_L85 x3 m_shine K124 n x4_116 (x5 + (1 : Int32)))))))
def wp_X5_lights_L165 (x3 : Int32) (x5 : Int32) (m_told : Nat → Int32) (K218 : (Nat → Int32) → Prop) : Nat → Int32 → (Nat → Int32) → Prop
  | 0, _, _ => False
  | n + 1, x6, m_may => (((m_told 4) ≤ x6 → K218 m_may) ∧ (¬ (m_told 4) ≤ x6 → (vp_in x3 128 ∧ (vp_in ((19 : Int32) + x6) 43 ∧ (jn (fun (K210 : Int32 → Prop) => ((((jshr x5 (m_told (ix ((19 : Int32) + x6)))) &&& (1 : Int32)) = (1 : Int32) → K210 (jshl (1 : Int32) x6)) ∧ (¬ ((jshr x5 (m_told (ix ((19 : Int32) + x6)))) &&& (1 : Int32)) = (1 : Int32) → K210 (0 : Int32)))) (fun (y210 : Int32) => (vp_in x3 128 ∧ wp_X5_lights_L165 x3 x5 m_told K218 n (x6 + (1 : Int32)) (upd m_may (ix x3) ((m_may (ix x3)) ||| y210)))))))))
def wp_X5_lights_L56 (x1 : Int32) (m_told : Nat → Int32) (m_shine : Nat → Int32) (post : (Nat → Int32) → (Nat → Int32) → (Nat → Int32) → Prop) : Nat → Int32 → (Nat → Int32) → (Nat → Int32) → Prop
  | 0, _, _, _ => False
  | n + 1, x2, m_light, m_may => (jn (fun (K67 : Int32 → Prop) => ((x1 = (0 : Int32) → K67 (0 : Int32)) ∧ (¬ x1 = (0 : Int32) → K67 (1 : Int32)))) (fun (y67 : Int32) => (wp_X5_many y67 m_told (fun (r67 : Int32) => ((r67 ≤ x2 → post m_light m_may m_shine) ∧ (¬ r67 ≤ x2 → (wp_X5_litOf x2 m_told (fun (r75 : Int32) => (jn (fun (K124 : Int32 → Prop) => (∃ n85 : Nat, wp_X5_lights_L85 r75 m_shine K124 n85 (0 : Int32) (0 : Int32))) (fun (x4_124 : Int32) => (vp_in r75 128 ∧ (jn (fun (K153 : Int32 → Prop) => (((m_told 2) = (1 : Int32) → (wp_X5_toDoors x4_124 m_told (fun (r145 : Int32) => K153 r145))) ∧ (¬ (m_told 2) = (1 : Int32) → K153 x4_124))) (fun (y153 : Int32) => (vp_in r75 128 ∧ (jn (fun (K218 : (Nat → Int32) → Prop) => (∃ n165 : Nat, wp_X5_lights_L165 r75 y153 m_told K218 n165 (0 : Int32) (upd m_may (ix r75) (0 : Int32)))) (fun (m_may_218 : Nat → Int32) => wp_X5_lights_L56 x1 m_told m_shine post n (x2 + (1 : Int32)) (upd m_light (ix r75) x4_124) m_may_218))))))))))))))))
def wp_X5_lights (p0 : Int32) (m_told : Nat → Int32) (m_light : Nat → Int32) (m_may : Nat → Int32) (m_shine : Nat → Int32) (post : (Nat → Int32) → (Nat → Int32) → (Nat → Int32) → Prop) : Prop := (jn (fun (K46 : (Nat → Int32) → Prop) => (∃ n2 : Nat, wp_X5_lights_L2 m_told K46 n2 (0 : Int32) m_shine)) (fun (m_shine_46 : Nat → Int32) => (∃ n56 : Nat, wp_X5_lights_L56 p0 m_told (upd m_shine_46 6 p0) post n56 (0 : Int32) m_light m_may)))
abbrev rm_X5_lights : Room := { frames := 3, cells := 0, slots := 0, locals := 71 }
set_option maxRecDepth 100000 in
set_option maxHeartbeats 4000000 in
theorem ct_X5_lights (D : va_G) (cI cZ : ClassId) (a_M a_M_text a_M_told a_M_draft a_M_s a_M_images a_M_kept a_M_light a_M_may a_M_shine a_M_worth a_M_least : Nat) (m_trace : Int64) (m_typed : Int32) (m_at : Int32) (m_sort : Int32) (m_start : Int32) (m_size : Int32) (m_told : Nat → Int32) (m_light : Nat → Int32) (m_may : Nat → Int32) (m_shine : Nat → Int32) (p0 : Int32) {post : (Nat → Int32) → (Nat → Int32) → (Nat → Int32) → Prop} (h : wp_X5_lights p0 m_told m_light m_may m_shine post) (l : Launch) (sz : Nat) : Met l yX5_lights (wsM yX5_lights cX5_lights 7 none) rm_X5_lights (va_Pc [.ref a_M, .int p0] (gP D cI cZ [(a_M, .inr (5, [.long m_trace, .ref a_M_text, .int m_typed, .ref a_M_told, .ref a_M_draft, .ref a_M_s, .ref a_M_images, .ref a_M_kept, .int m_at, .int m_sort, .int m_start, .int m_size, .ref a_M_light, .ref a_M_may, .ref a_M_shine, .ref a_M_worth, .ref a_M_least])), (a_M_told, .inl (cI, 43, .inl m_told)), (a_M_light, .inl (cI, 128, .inl m_light)), (a_M_may, .inl (cI, 128, .inl m_may)), (a_M_shine, .inl (cI, 7, .inl m_shine))] sz)) (gQv D (fun (u : (Nat → Int32) × (Nat → Int32) × (Nat → Int32)) => post u.1 u.2.1 u.2.2) (fun (u : (Nat → Int32) × (Nat → Int32) × (Nat → Int32)) => [(a_M, .inr (5, [.long m_trace, .ref a_M_text, .int m_typed, .ref a_M_told, .ref a_M_draft, .ref a_M_s, .ref a_M_images, .ref a_M_kept, .int m_at, .int m_sort, .int m_start, .int m_size, .ref a_M_light, .ref a_M_may, .ref a_M_shine, .ref a_M_worth, .ref a_M_least])), (a_M_told, .inl (cI, 43, .inl m_told)), (a_M_light, .inl (cI, 128, .inl u.1)), (a_M_may, .inl (cI, 128, .inl u.2.1)), (a_M_shine, .inl (cI, 7, .inl u.2.2))]) [(a_M, .inr (5, [.long m_trace, .ref a_M_text, .int m_typed, .ref a_M_told, .ref a_M_draft, .ref a_M_s, .ref a_M_images, .ref a_M_kept, .int m_at, .int m_sort, .int m_start, .int m_size, .ref a_M_light, .ref a_M_may, .ref a_M_shine, .ref a_M_worth, .ref a_M_least])), (a_M_told, .inl (cI, 43, .inl m_told)), (a_M_light, .inl (cI, 128, .inl m_light)), (a_M_may, .inl (cI, 128, .inl m_may)), (a_M_shine, .inl (cI, 7, .inl m_shine))] sz) 0 0 (va_A [(a_M, .inr (5, [.long m_trace, .ref a_M_text, .int m_typed, .ref a_M_told, .ref a_M_draft, .ref a_M_s, .ref a_M_images, .ref a_M_kept, .int m_at, .int m_sort, .int m_start, .int m_size, .ref a_M_light, .ref a_M_may, .ref a_M_shine, .ref a_M_worth, .ref a_M_least])), (a_M_told, .inl (cI, 43, .inl m_told)), (a_M_light, .inl (cI, 128, .inl m_light)), (a_M_may, .inl (cI, 128, .inl m_may)), (a_M_shine, .inl (cI, 7, .inl m_shine))] sz) := by
  refine q_startM (own := RX5) (Qc := gQv D (fun (u : (Nat → Int32) × (Nat → Int32) × (Nat → Int32)) => post u.1 u.2.1 u.2.2) (fun (u : (Nat → Int32) × (Nat → Int32) × (Nat → Int32)) => [(a_M, .inr (5, [.long m_trace, .ref a_M_text, .int m_typed, .ref a_M_told, .ref a_M_draft, .ref a_M_s, .ref a_M_images, .ref a_M_kept, .int m_at, .int m_sort, .int m_start, .int m_size, .ref a_M_light, .ref a_M_may, .ref a_M_shine, .ref a_M_worth, .ref a_M_least])), (a_M_told, .inl (cI, 43, .inl m_told)), (a_M_light, .inl (cI, 128, .inl u.1)), (a_M_may, .inl (cI, 128, .inl u.2.1)), (a_M_shine, .inl (cI, 7, .inl u.2.2))]) [(a_M, .inr (5, [.long m_trace, .ref a_M_text, .int m_typed, .ref a_M_told, .ref a_M_draft, .ref a_M_s, .ref a_M_images, .ref a_M_kept, .int m_at, .int m_sort, .int m_start, .int m_size, .ref a_M_light, .ref a_M_may, .ref a_M_shine, .ref a_M_worth, .ref a_M_least])), (a_M_told, .inl (cI, 43, .inl m_told)), (a_M_light, .inl (cI, 128, .inl m_light)), (a_M_may, .inl (cI, 128, .inl m_may)), (a_M_shine, .inl (cI, 7, .inl m_shine))]) (by decide +kernel) rfl (Nat.le_of_ble_eq_true rfl) (fun E F Z M => ?_)
  show Wg E [(a_M, .inr (5, [.long m_trace, .ref a_M_text, .int m_typed, .ref a_M_told, .ref a_M_draft, .ref a_M_s, .ref a_M_images, .ref a_M_kept, .int m_at, .int m_sort, .int m_start, .int m_size, .ref a_M_light, .ref a_M_may, .ref a_M_shine, .ref a_M_worth, .ref a_M_least])), (a_M_told, .inl (cI, 43, .inl m_told)), (a_M_light, .inl (cI, 128, .inl m_light)), (a_M_may, .inl (cI, 128, .inl m_may)), (a_M_shine, .inl (cI, 7, .inl m_shine))] 0 0 0 [(0, .ref a_M), (1, .int p0)] []
  unfold wp_X5_lights at h
  refine q_iconst (pc := 0) F (v := 0) dX5_lights_0 (by decide) ?_
  refine q_istore_n (pc := 1) F (lv' := [(2, .int (0 : Int32)), (0, .ref a_M), (1, .int p0)]) dX5_lights_1 (by decide) rfl ?_
  refine jnW h (fun K => ∀ (m_shine_46 : Nat → Int32), K m_shine_46 → Wg E [(a_M, .inr (5, [.long m_trace, .ref a_M_text, .int m_typed, .ref a_M_told, .ref a_M_draft, .ref a_M_s, .ref a_M_images, .ref a_M_kept, .int m_at, .int m_sort, .int m_start, .int m_size, .ref a_M_light, .ref a_M_may, .ref a_M_shine, .ref a_M_worth, .ref a_M_least])), (a_M_told, .inl (cI, 43, .inl m_told)), (a_M_light, .inl (cI, 128, .inl m_light)), (a_M_may, .inl (cI, 128, .inl m_may)), (a_M_shine, .inl (cI, 7, .inl m_shine_46))] 0 0 46 [(0, .ref a_M), (1, .int p0)] []) ?_ ?_
  · intro m_shine_46 h
    refine q_aload_n (pc := 46) F 0 dX5_lights_46 rfl ?_
    refine q_get (pc := 47) F fgX5_35 0 rfl rfl dX5_lights_47 ?_
    refine q_bipush (pc := 50) F (v := 6) dX5_lights_50 (by decide) ?_
    refine q_iload_n (pc := 52) F 1 dX5_lights_52 rfl ?_
    refine q_iastk (pc := 53) F M (k9 := 6) (cs' := [(a_M, .inr (5, [.long m_trace, .ref a_M_text, .int m_typed, .ref a_M_told, .ref a_M_draft, .ref a_M_s, .ref a_M_images, .ref a_M_kept, .int m_at, .int m_sort, .int m_start, .int m_size, .ref a_M_light, .ref a_M_may, .ref a_M_shine, .ref a_M_worth, .ref a_M_least])), (a_M_told, .inl (cI, 43, .inl m_told)), (a_M_light, .inl (cI, 128, .inl m_light)), (a_M_may, .inl (cI, 128, .inl m_may)), (a_M_shine, .inl (cI, 7, .inl (upd m_shine_46 6 p0)))]) 4 rfl (vpd (by decide +kernel)) (by decide +kernel) rfl dX5_lights_53 ?_
    refine q_iconst (pc := 54) F (v := 0) dX5_lights_54 (by decide) ?_
    refine q_istore_n (pc := 55) F (lv' := [(2, .int (0 : Int32)), (0, .ref a_M), (1, .int p0)]) dX5_lights_55 (by decide) rfl ?_
    obtain ⟨n56, h⟩ := h
    have lp56 : ∀ (n : Nat) (x2_h56 : Int32) (m_light_h56 : Nat → Int32) (m_may_h56 : Nat → Int32), wp_X5_lights_L56 p0 m_told (upd m_shine_46 6 p0) post n x2_h56 m_light_h56 m_may_h56 → Wg E [(a_M, .inr (5, [.long m_trace, .ref a_M_text, .int m_typed, .ref a_M_told, .ref a_M_draft, .ref a_M_s, .ref a_M_images, .ref a_M_kept, .int m_at, .int m_sort, .int m_start, .int m_size, .ref a_M_light, .ref a_M_may, .ref a_M_shine, .ref a_M_worth, .ref a_M_least])), (a_M_told, .inl (cI, 43, .inl m_told)), (a_M_light, .inl (cI, 128, .inl m_light_h56)), (a_M_may, .inl (cI, 128, .inl m_may_h56)), (a_M_shine, .inl (cI, 7, .inl (upd m_shine_46 6 p0)))] 0 0 56 [(0, .ref a_M), (1, .int p0), (2, .int x2_h56)] [] := by
      intro n
      induction n with
      | zero => intro x2_h56 m_light_h56 m_may_h56 h; exact h.elim
      | succ n ih =>
        intro x2_h56 m_light_h56 m_may_h56 h
        unfold wp_X5_lights_L56 at h
        refine q_iload_n (pc := 56) F 2 dX5_lights_56 rfl ?_
        refine q_aload_n (pc := 57) F 0 dX5_lights_57 rfl ?_
        refine q_iload_n (pc := 58) F 1 dX5_lights_58 rfl ?_
        refine jnW h (fun K => ∀ (y67 : Int32), K y67 → Wg E [(a_M, .inr (5, [.long m_trace, .ref a_M_text, .int m_typed, .ref a_M_told, .ref a_M_draft, .ref a_M_s, .ref a_M_images, .ref a_M_kept, .int m_at, .int m_sort, .int m_start, .int m_size, .ref a_M_light, .ref a_M_may, .ref a_M_shine, .ref a_M_worth, .ref a_M_least])), (a_M_told, .inl (cI, 43, .inl m_told)), (a_M_light, .inl (cI, 128, .inl m_light_h56)), (a_M_may, .inl (cI, 128, .inl m_may_h56)), (a_M_shine, .inl (cI, 7, .inl (upd m_shine_46 6 p0)))] 0 0 67 [(0, .ref a_M), (1, .int p0), (2, .int x2_h56)] [.int y67, .ref a_M, .int x2_h56]) ?_ ?_
        · intro y67 h
          refine q_cR (q_runV (As := [.int y67]) (rest := [.int x2_h56]) (pc := 67) F (fun l sz => ct_X5_many D cI cZ a_M a_M_text a_M_told a_M_draft a_M_s a_M_images a_M_kept a_M_light a_M_may a_M_shine a_M_worth a_M_least m_trace m_typed m_at m_sort m_start m_size m_told y67 h l sz) mc_yX5_many im_yX5_many se_yX5_many mlX5_134 ⟨by decide, by decide⟩ ⟨by decide, by decide⟩ ⟨rfl, rfl⟩ [0, 1] rfl rfl rfl 0 rfl rfl rfl (Nat.le_of_ble_eq_true rfl) dX5_lights_67) (fun r67 h => ?_)
          refine q_icmp_ge (pc := 70) (tgt := 224) F dX5_lights_70 (by decide) (fun c70 => ?_) (fun c70 => ?_)
          · have h := h.1 c70
            exact q_vretM (pc := 224) F Z dX5_lights_224 (m_light_h56, m_may_h56, upd m_shine_46 6 p0) h rfl
          · have h := h.2 c70
            refine q_aload_n (pc := 73) F 0 dX5_lights_73 rfl ?_
            refine q_iload_n (pc := 74) F 2 dX5_lights_74 rfl ?_
            refine q_cR (q_runV (As := [.int x2_h56]) (rest := []) (pc := 75) F (fun l sz => ct_X5_litOf D cI cZ a_M a_M_text a_M_told a_M_draft a_M_s a_M_images a_M_kept a_M_light a_M_may a_M_shine a_M_worth a_M_least m_trace m_typed m_at m_sort m_start m_size m_told x2_h56 h l sz) mc_yX5_litOf im_yX5_litOf se_yX5_litOf mlX5_137 ⟨by decide, by decide⟩ ⟨by decide, by decide⟩ ⟨rfl, rfl⟩ [0, 1] rfl rfl rfl 0 rfl rfl rfl (Nat.le_of_ble_eq_true rfl) dX5_lights_75) (fun r75 h => ?_)
            refine q_istore_n (pc := 78) F (lv' := [(3, .int r75), (0, .ref a_M), (1, .int p0), (2, .int x2_h56)]) dX5_lights_78 (by decide) rfl ?_
            refine q_iconst (pc := 79) F (v := 0) dX5_lights_79 (by decide) ?_
            refine q_istore (pc := 80) F (lv' := [(4, .int (0 : Int32)), (3, .int r75), (0, .ref a_M), (1, .int p0), (2, .int x2_h56)]) dX5_lights_80 (by decide) rfl ?_
            refine q_iconst (pc := 82) F (v := 0) dX5_lights_82 (by decide) ?_
            refine q_istore (pc := 83) F (lv' := [(5, .int (0 : Int32)), (4, .int (0 : Int32)), (3, .int r75), (0, .ref a_M), (1, .int p0), (2, .int x2_h56)]) dX5_lights_83 (by decide) rfl ?_
            refine jnW h (fun K => ∀ (x4_124 : Int32), K x4_124 → Wg E [(a_M, .inr (5, [.long m_trace, .ref a_M_text, .int m_typed, .ref a_M_told, .ref a_M_draft, .ref a_M_s, .ref a_M_images, .ref a_M_kept, .int m_at, .int m_sort, .int m_start, .int m_size, .ref a_M_light, .ref a_M_may, .ref a_M_shine, .ref a_M_worth, .ref a_M_least])), (a_M_told, .inl (cI, 43, .inl m_told)), (a_M_light, .inl (cI, 128, .inl m_light_h56)), (a_M_may, .inl (cI, 128, .inl m_may_h56)), (a_M_shine, .inl (cI, 7, .inl (upd m_shine_46 6 p0)))] 0 0 124 [(0, .ref a_M), (1, .int p0), (2, .int x2_h56), (3, .int r75), (4, .int x4_124)] []) ?_ ?_
            · intro x4_124 h
              refine q_aload_n (pc := 124) F 0 dX5_lights_124 rfl ?_
              refine q_get (pc := 125) F fgX5_29 0 rfl rfl dX5_lights_125 ?_
              refine q_iload_n (pc := 128) F 3 dX5_lights_128 rfl ?_
              refine q_iload (pc := 129) F 4 dX5_lights_129 rfl ?_
              obtain ⟨hi131, h⟩ := h
              refine q_iast (pc := 131) F M (cs' := [(a_M, .inr (5, [.long m_trace, .ref a_M_text, .int m_typed, .ref a_M_told, .ref a_M_draft, .ref a_M_s, .ref a_M_images, .ref a_M_kept, .int m_at, .int m_sort, .int m_start, .int m_size, .ref a_M_light, .ref a_M_may, .ref a_M_shine, .ref a_M_worth, .ref a_M_least])), (a_M_told, .inl (cI, 43, .inl m_told)), (a_M_light, .inl (cI, 128, .inl (upd m_light_h56 (ix r75) x4_124))), (a_M_may, .inl (cI, 128, .inl m_may_h56)), (a_M_shine, .inl (cI, 7, .inl (upd m_shine_46 6 p0)))]) 2 rfl hi131 rfl dX5_lights_131 ?_
              refine q_aload_n (pc := 132) F 0 dX5_lights_132 rfl ?_
              refine q_get (pc := 133) F fgX5_13 0 rfl rfl dX5_lights_133 ?_
              refine q_iconst (pc := 136) F (v := 2) dX5_lights_136 (by decide) ?_
              refine q_ialdk (pc := 137) F (k9 := 2) 1 rfl (vpd (by decide +kernel)) (by decide +kernel) dX5_lights_137 ?_
              refine q_iconst (pc := 138) F (v := 1) dX5_lights_138 (by decide) ?_
              refine jnW h (fun K => ∀ (y153 : Int32), K y153 → Wg E [(a_M, .inr (5, [.long m_trace, .ref a_M_text, .int m_typed, .ref a_M_told, .ref a_M_draft, .ref a_M_s, .ref a_M_images, .ref a_M_kept, .int m_at, .int m_sort, .int m_start, .int m_size, .ref a_M_light, .ref a_M_may, .ref a_M_shine, .ref a_M_worth, .ref a_M_least])), (a_M_told, .inl (cI, 43, .inl m_told)), (a_M_light, .inl (cI, 128, .inl (upd m_light_h56 (ix r75) x4_124))), (a_M_may, .inl (cI, 128, .inl m_may_h56)), (a_M_shine, .inl (cI, 7, .inl (upd m_shine_46 6 p0)))] 0 0 153 [(0, .ref a_M), (1, .int p0), (2, .int x2_h56), (3, .int r75)] [.int y153]) ?_ ?_
              · intro y153 h
                refine q_istore (pc := 153) F (lv' := [(5, .int y153), (0, .ref a_M), (1, .int p0), (2, .int x2_h56), (3, .int r75)]) dX5_lights_153 (by decide) rfl ?_
                refine q_aload_n (pc := 155) F 1 dX5_lights_155 rfl ?_
                refine q_get (pc := 156) F fgX5_32 0 rfl rfl dX5_lights_156 ?_
                refine q_iload_n (pc := 159) F 4 dX5_lights_159 rfl ?_
                refine q_iconst (pc := 160) F (v := 0) dX5_lights_160 (by decide) ?_
                obtain ⟨hi161, h⟩ := h
                refine q_iast (pc := 161) F M (cs' := [(a_M, .inr (5, [.long m_trace, .ref a_M_text, .int m_typed, .ref a_M_told, .ref a_M_draft, .ref a_M_s, .ref a_M_images, .ref a_M_kept, .int m_at, .int m_sort, .int m_start, .int m_size, .ref a_M_light, .ref a_M_may, .ref a_M_shine, .ref a_M_worth, .ref a_M_least])), (a_M_told, .inl (cI, 43, .inl m_told)), (a_M_light, .inl (cI, 128, .inl (upd m_light_h56 (ix r75) x4_124))), (a_M_may, .inl (cI, 128, .inl (upd m_may_h56 (ix r75) (0 : Int32)))), (a_M_shine, .inl (cI, 7, .inl (upd m_shine_46 6 p0)))]) 3 rfl hi161 rfl dX5_lights_161 ?_
                refine q_iconst (pc := 162) F (v := 0) dX5_lights_162 (by decide) ?_
                refine q_istore (pc := 163) F (lv' := [(6, .int (0 : Int32)), (5, .int y153), (0, .ref a_M), (1, .int p0), (2, .int x2_h56), (3, .int r75)]) dX5_lights_163 (by decide) rfl ?_
                refine jnW h (fun K => ∀ (m_may_218 : Nat → Int32), K m_may_218 → Wg E [(a_M, .inr (5, [.long m_trace, .ref a_M_text, .int m_typed, .ref a_M_told, .ref a_M_draft, .ref a_M_s, .ref a_M_images, .ref a_M_kept, .int m_at, .int m_sort, .int m_start, .int m_size, .ref a_M_light, .ref a_M_may, .ref a_M_shine, .ref a_M_worth, .ref a_M_least])), (a_M_told, .inl (cI, 43, .inl m_told)), (a_M_light, .inl (cI, 128, .inl (upd m_light_h56 (ix r75) x4_124))), (a_M_may, .inl (cI, 128, .inl m_may_218)), (a_M_shine, .inl (cI, 7, .inl (upd m_shine_46 6 p0)))] 0 0 218 [(0, .ref a_M), (1, .int p0), (2, .int x2_h56)] []) ?_ ?_
                · intro m_may_218 h
                  refine q_iinc (pc := 218) F (v := x2_h56 + (1 : Int32)) (lv' := [(2, .int (x2_h56 + (1 : Int32))), (0, .ref a_M), (1, .int p0)]) 2 dX5_lights_218 rfl rfl (by decide) rfl ?_
                  refine q_goto (pc := 221) (tgt := 56) F dX5_lights_221 (by decide) ?_
                  refine q_lv (lv' := [(0, .ref a_M), (1, .int p0), (2, .int (x2_h56 + (1 : Int32)))]) [1, 2, 0] rfl ?_
                  exact ih (x2_h56 + (1 : Int32)) (upd m_light_h56 (ix r75) x4_124) m_may_218 h
                · intro K218 J218 h
                  obtain ⟨n165, h⟩ := h
                  have lp165 : ∀ (n : Nat) (x6_h165 : Int32) (m_may_h165 : Nat → Int32), wp_X5_lights_L165 r75 y153 m_told K218 n x6_h165 m_may_h165 → Wg E [(a_M, .inr (5, [.long m_trace, .ref a_M_text, .int m_typed, .ref a_M_told, .ref a_M_draft, .ref a_M_s, .ref a_M_images, .ref a_M_kept, .int m_at, .int m_sort, .int m_start, .int m_size, .ref a_M_light, .ref a_M_may, .ref a_M_shine, .ref a_M_worth, .ref a_M_least])), (a_M_told, .inl (cI, 43, .inl m_told)), (a_M_light, .inl (cI, 128, .inl (upd m_light_h56 (ix r75) x4_124))), (a_M_may, .inl (cI, 128, .inl m_may_h165)), (a_M_shine, .inl (cI, 7, .inl (upd m_shine_46 6 p0)))] 0 0 165 [(0, .ref a_M), (1, .int p0), (2, .int x2_h56), (3, .int r75), (5, .int y153), (6, .int x6_h165)] [] := by
                    intro n
                    induction n with
                    | zero => intro x6_h165 m_may_h165 h; exact h.elim
                    | succ n ih =>
                      intro x6_h165 m_may_h165 h
                      unfold wp_X5_lights_L165 at h
                      refine q_iload (pc := 165) F 5 dX5_lights_165 rfl ?_
                      refine q_aload_n (pc := 167) F 0 dX5_lights_167 rfl ?_
                      refine q_get (pc := 168) F fgX5_13 0 rfl rfl dX5_lights_168 ?_
                      refine q_iconst (pc := 171) F (v := 4) dX5_lights_171 (by decide) ?_
                      refine q_ialdk (pc := 172) F (k9 := 4) 1 rfl (vpd (by decide +kernel)) (by decide +kernel) dX5_lights_172 ?_
                      refine q_icmp_ge (pc := 173) (tgt := 218) F dX5_lights_173 (by decide) (fun c173 => ?_) (fun c173 => ?_)
                      · have h := h.1 c173
                        refine q_lv (lv' := [(0, .ref a_M), (1, .int p0), (2, .int x2_h56)]) [0, 1, 2] rfl ?_
                        exact J218 m_may_h165 h
                      · have h := h.2 c173
                        refine q_aload_n (pc := 176) F 0 dX5_lights_176 rfl ?_
                        refine q_get (pc := 177) F fgX5_32 0 rfl rfl dX5_lights_177 ?_
                        refine q_iload_n (pc := 180) F 3 dX5_lights_180 rfl ?_
                        refine q_dup2 (pc := 181) F dX5_lights_181 rfl rfl ?_
                        obtain ⟨hi182, h⟩ := h
                        refine q_iald (pc := 182) F 3 rfl hi182 dX5_lights_182 ?_
                        refine q_iload (pc := 183) F 4 dX5_lights_183 rfl ?_
                        refine q_aload_n (pc := 185) F 0 dX5_lights_185 rfl ?_
                        refine q_get (pc := 186) F fgX5_13 0 rfl rfl dX5_lights_186 ?_
                        refine q_bipush (pc := 189) F (v := 19) dX5_lights_189 (by decide) ?_
                        refine q_iload (pc := 191) F 5 dX5_lights_191 rfl ?_
                        refine q_iadd (pc := 193) F dX5_lights_193 ?_
                        obtain ⟨hi194, h⟩ := h
                        refine q_iald (pc := 194) F 1 rfl hi194 dX5_lights_194 ?_
                        refine q_ishr (pc := 195) F dX5_lights_195 ?_
                        refine q_iconst (pc := 196) F (v := 1) dX5_lights_196 (by decide) ?_
                        refine q_iand (pc := 197) F dX5_lights_197 ?_
                        refine q_iconst (pc := 198) F (v := 1) dX5_lights_198 (by decide) ?_
                        refine jnW h (fun K => ∀ (y210 : Int32), K y210 → Wg E [(a_M, .inr (5, [.long m_trace, .ref a_M_text, .int m_typed, .ref a_M_told, .ref a_M_draft, .ref a_M_s, .ref a_M_images, .ref a_M_kept, .int m_at, .int m_sort, .int m_start, .int m_size, .ref a_M_light, .ref a_M_may, .ref a_M_shine, .ref a_M_worth, .ref a_M_least])), (a_M_told, .inl (cI, 43, .inl m_told)), (a_M_light, .inl (cI, 128, .inl (upd m_light_h56 (ix r75) x4_124))), (a_M_may, .inl (cI, 128, .inl m_may_h165)), (a_M_shine, .inl (cI, 7, .inl (upd m_shine_46 6 p0)))] 0 0 210 [(0, .ref a_M), (1, .int p0), (2, .int x2_h56), (3, .int r75), (5, .int y153), (6, .int x6_h165)] [.int y210, .int (m_may_h165 (ix r75)), .int r75, .ref a_M_may]) ?_ ?_
                        · intro y210 h
                          refine q_ior (pc := 210) F dX5_lights_210 ?_
                          obtain ⟨hi211, h⟩ := h
                          refine q_iast (pc := 211) F M (cs' := [(a_M, .inr (5, [.long m_trace, .ref a_M_text, .int m_typed, .ref a_M_told, .ref a_M_draft, .ref a_M_s, .ref a_M_images, .ref a_M_kept, .int m_at, .int m_sort, .int m_start, .int m_size, .ref a_M_light, .ref a_M_may, .ref a_M_shine, .ref a_M_worth, .ref a_M_least])), (a_M_told, .inl (cI, 43, .inl m_told)), (a_M_light, .inl (cI, 128, .inl (upd m_light_h56 (ix r75) x4_124))), (a_M_may, .inl (cI, 128, .inl (upd m_may_h165 (ix r75) ((m_may_h165 (ix r75)) ||| y210)))), (a_M_shine, .inl (cI, 7, .inl (upd m_shine_46 6 p0)))]) 3 rfl hi211 rfl dX5_lights_211 ?_
                          refine q_iinc (pc := 212) F (v := x6_h165 + (1 : Int32)) (lv' := [(6, .int (x6_h165 + (1 : Int32))), (0, .ref a_M), (1, .int p0), (2, .int x2_h56), (3, .int r75), (5, .int y153)]) 5 dX5_lights_212 rfl rfl (by decide) rfl ?_
                          refine q_goto (pc := 215) (tgt := 165) F dX5_lights_215 (by decide) ?_
                          refine q_lv (lv' := [(0, .ref a_M), (1, .int p0), (2, .int x2_h56), (3, .int r75), (5, .int y153), (6, .int (x6_h165 + (1 : Int32)))]) [1, 2, 3, 4, 5, 0] rfl ?_
                          exact ih (x6_h165 + (1 : Int32)) (upd m_may_h165 (ix r75) ((m_may_h165 (ix r75)) ||| y210)) h
                        · intro K210 J210 h
                          refine q_icmp_ne (pc := 199) (tgt := 209) F dX5_lights_199 (by decide) (fun c199 => ?_) (fun c199 => ?_)
                          · have h := h.2 c199
                            refine q_iconst (pc := 209) F (v := 0) dX5_lights_209 (by decide) ?_
                            exact J210 (0 : Int32) h
                          · have h := h.1 c199
                            refine q_iconst (pc := 202) F (v := 1) dX5_lights_202 (by decide) ?_
                            refine q_iload (pc := 203) F 5 dX5_lights_203 rfl ?_
                            refine q_ishl (pc := 205) F dX5_lights_205 ?_
                            refine q_goto (pc := 206) (tgt := 210) F dX5_lights_206 (by decide) ?_
                            exact J210 (jshl (1 : Int32) x6_h165) h
                  refine q_lv (lv' := [(0, .ref a_M), (1, .int p0), (2, .int x2_h56), (3, .int r75), (5, .int y153), (6, .int (0 : Int32))]) [2, 3, 4, 5, 1, 0] rfl ?_
                  exact lp165 n165 (0 : Int32) (upd m_may_h56 (ix r75) (0 : Int32)) h
              · intro K153 J153 h
                refine q_icmp_ne (pc := 139) (tgt := 151) F dX5_lights_139 (by decide) (fun c139 => ?_) (fun c139 => ?_)
                · have h := h.2 c139
                  refine q_iload (pc := 151) F 4 dX5_lights_151 rfl ?_
                  refine q_lv (lv' := [(0, .ref a_M), (1, .int p0), (2, .int x2_h56), (3, .int r75)]) [0, 1, 2, 3] rfl ?_
                  exact J153 x4_124 h
                · have h := h.1 c139
                  refine q_aload_n (pc := 142) F 0 dX5_lights_142 rfl ?_
                  refine q_iload (pc := 143) F 4 dX5_lights_143 rfl ?_
                  refine q_cR (q_runV (As := [.int x4_124]) (rest := []) (pc := 145) F (fun l sz => ct_X5_toDoors D cI cZ a_M a_M_text a_M_told a_M_draft a_M_s a_M_images a_M_kept a_M_light a_M_may a_M_shine a_M_worth a_M_least m_trace m_typed m_at m_sort m_start m_size m_told x4_124 h l sz) mc_yX5_toDoors im_yX5_toDoors se_yX5_toDoors mlX5_140 ⟨by decide, by decide⟩ ⟨by decide, by decide⟩ ⟨rfl, rfl⟩ [0, 1] rfl rfl rfl 0 rfl rfl rfl (Nat.le_of_ble_eq_true rfl) dX5_lights_145) (fun r145 h => ?_)
                  refine q_goto (pc := 148) (tgt := 153) F dX5_lights_148 (by decide) ?_
                  refine q_lv (lv' := [(0, .ref a_M), (1, .int p0), (2, .int x2_h56), (3, .int r75)]) [0, 1, 2, 3] rfl ?_
                  exact J153 r145 h
            · intro K124 J124 h
              obtain ⟨n85, h⟩ := h
              have lp85 : ∀ (n : Nat) (x4_h85 : Int32) (x5_h85 : Int32), wp_X5_lights_L85 r75 (upd m_shine_46 6 p0) K124 n x4_h85 x5_h85 → Wg E [(a_M, .inr (5, [.long m_trace, .ref a_M_text, .int m_typed, .ref a_M_told, .ref a_M_draft, .ref a_M_s, .ref a_M_images, .ref a_M_kept, .int m_at, .int m_sort, .int m_start, .int m_size, .ref a_M_light, .ref a_M_may, .ref a_M_shine, .ref a_M_worth, .ref a_M_least])), (a_M_told, .inl (cI, 43, .inl m_told)), (a_M_light, .inl (cI, 128, .inl m_light_h56)), (a_M_may, .inl (cI, 128, .inl m_may_h56)), (a_M_shine, .inl (cI, 7, .inl (upd m_shine_46 6 p0)))] 0 0 85 [(0, .ref a_M), (1, .int p0), (2, .int x2_h56), (3, .int r75), (4, .int x4_h85), (5, .int x5_h85)] [] := by
                intro n
                induction n with
                | zero => intro x4_h85 x5_h85 h; exact h.elim
                | succ n ih =>
                  intro x4_h85 x5_h85 h
                  unfold wp_X5_lights_L85 at h
                  refine q_iload (pc := 85) F 5 dX5_lights_85 rfl ?_
                  refine q_bipush (pc := 87) F (v := 6) dX5_lights_87 (by decide) ?_
                  refine q_icmp_gt (pc := 89) (tgt := 124) F dX5_lights_89 (by decide) (fun c89 => ?_) (fun c89 => ?_)
                  · have h := h.1 c89
                    refine q_lv (lv' := [(0, .ref a_M), (1, .int p0), (2, .int x2_h56), (3, .int r75), (4, .int x4_h85)]) [0, 1, 2, 3, 4] rfl ?_
                    exact J124 x4_h85 h
                  · have h := h.2 c89
                    refine q_iload (pc := 92) F 4 dX5_lights_92 rfl ?_
                    refine q_iload_n (pc := 94) F 3 dX5_lights_94 rfl ?_
                    refine q_iload (pc := 95) F 5 dX5_lights_95 rfl ?_
                    refine q_ishr (pc := 97) F dX5_lights_97 ?_
                    refine q_iconst (pc := 98) F (v := 1) dX5_lights_98 (by decide) ?_
                    refine q_iand (pc := 99) F dX5_lights_99 ?_
                    refine q_iconst (pc := 100) F (v := 1) dX5_lights_100 (by decide) ?_
                    refine jnW h (fun K => ∀ (y115 : Int32), K y115 → Wg E [(a_M, .inr (5, [.long m_trace, .ref a_M_text, .int m_typed, .ref a_M_told, .ref a_M_draft, .ref a_M_s, .ref a_M_images, .ref a_M_kept, .int m_at, .int m_sort, .int m_start, .int m_size, .ref a_M_light, .ref a_M_may, .ref a_M_shine, .ref a_M_worth, .ref a_M_least])), (a_M_told, .inl (cI, 43, .inl m_told)), (a_M_light, .inl (cI, 128, .inl m_light_h56)), (a_M_may, .inl (cI, 128, .inl m_may_h56)), (a_M_shine, .inl (cI, 7, .inl (upd m_shine_46 6 p0)))] 0 0 115 [(0, .ref a_M), (1, .int p0), (2, .int x2_h56), (3, .int r75), (5, .int x5_h85)] [.int y115, .int x4_h85]) ?_ ?_
                    · intro y115 h
                      refine q_ior (pc := 115) F dX5_lights_115 ?_
                      refine q_topi (fun x4_116 ex4_116 => ?_)
                      have h := h x4_116 ex4_116
                      refine q_istore (pc := 116) F (lv' := [(4, .int x4_116), (0, .ref a_M), (1, .int p0), (2, .int x2_h56), (3, .int r75), (5, .int x5_h85)]) dX5_lights_116 (by decide) rfl ?_
                      refine q_iinc (pc := 118) F (v := x5_h85 + (1 : Int32)) (lv' := [(5, .int (x5_h85 + (1 : Int32))), (4, .int x4_116), (0, .ref a_M), (1, .int p0), (2, .int x2_h56), (3, .int r75)]) 5 dX5_lights_118 rfl rfl (by decide) rfl ?_
                      refine q_goto (pc := 121) (tgt := 85) F dX5_lights_121 (by decide) ?_
                      refine q_lv (lv' := [(0, .ref a_M), (1, .int p0), (2, .int x2_h56), (3, .int r75), (4, .int x4_116), (5, .int (x5_h85 + (1 : Int32)))]) [2, 3, 4, 5, 1, 0] rfl ?_
                      exact ih x4_116 (x5_h85 + (1 : Int32)) h
                    · intro K115 J115 h
                      refine q_icmp_ne (pc := 101) (tgt := 114) F dX5_lights_101 (by decide) (fun c101 => ?_) (fun c101 => ?_)
                      · have h := h.2 c101
                        refine q_iconst (pc := 114) F (v := 0) dX5_lights_114 (by decide) ?_
                        refine q_lv (lv' := [(0, .ref a_M), (1, .int p0), (2, .int x2_h56), (3, .int r75), (5, .int x5_h85)]) [0, 1, 2, 3, 5] rfl ?_
                        exact J115 (0 : Int32) h
                      · have h := h.1 c101
                        refine q_aload_n (pc := 104) F 0 dX5_lights_104 rfl ?_
                        refine q_get (pc := 105) F fgX5_35 0 rfl rfl dX5_lights_105 ?_
                        refine q_iload (pc := 108) F 5 dX5_lights_108 rfl ?_
                        obtain ⟨hi110, h⟩ := h
                        refine q_iald (pc := 110) F 4 rfl hi110 dX5_lights_110 ?_
                        refine q_goto (pc := 111) (tgt := 115) F dX5_lights_111 (by decide) ?_
                        refine q_lv (lv' := [(0, .ref a_M), (1, .int p0), (2, .int x2_h56), (3, .int r75), (5, .int x5_h85)]) [0, 1, 2, 3, 5] rfl ?_
                        exact J115 ((upd m_shine_46 6 p0) (ix x5_h85)) h
              refine q_lv (lv' := [(0, .ref a_M), (1, .int p0), (2, .int x2_h56), (3, .int r75), (4, .int (0 : Int32)), (5, .int (0 : Int32))]) [3, 4, 5, 2, 1, 0] rfl ?_
              exact lp85 n85 (0 : Int32) (0 : Int32) h
        · intro K67 J67 h
          refine q_if_eq (pc := 59) (tgt := 66) F dX5_lights_59 (by decide) (fun c59 => ?_) (fun c59 => ?_)
          · have h := h.1 c59
            refine q_iconst (pc := 66) F (v := 0) dX5_lights_66 (by decide) ?_
            exact J67 (0 : Int32) h
          · have h := h.2 c59
            refine q_iconst (pc := 62) F (v := 1) dX5_lights_62 (by decide) ?_
            refine q_goto (pc := 63) (tgt := 67) F dX5_lights_63 (by decide) ?_
            exact J67 (1 : Int32) h
    refine q_lv (lv' := [(0, .ref a_M), (1, .int p0), (2, .int (0 : Int32))]) [1, 2, 0] rfl ?_
    exact lp56 n56 (0 : Int32) m_light m_may h
  · intro K46 J46 h
    obtain ⟨n2, h⟩ := h
    have lp2 : ∀ (n : Nat) (x2_h2 : Int32) (m_shine_h2 : Nat → Int32), wp_X5_lights_L2 m_told K46 n x2_h2 m_shine_h2 → Wg E [(a_M, .inr (5, [.long m_trace, .ref a_M_text, .int m_typed, .ref a_M_told, .ref a_M_draft, .ref a_M_s, .ref a_M_images, .ref a_M_kept, .int m_at, .int m_sort, .int m_start, .int m_size, .ref a_M_light, .ref a_M_may, .ref a_M_shine, .ref a_M_worth, .ref a_M_least])), (a_M_told, .inl (cI, 43, .inl m_told)), (a_M_light, .inl (cI, 128, .inl m_light)), (a_M_may, .inl (cI, 128, .inl m_may)), (a_M_shine, .inl (cI, 7, .inl m_shine_h2))] 0 0 2 [(0, .ref a_M), (1, .int p0), (2, .int x2_h2)] [] := by
      intro n
      induction n with
      | zero => intro x2_h2 m_shine_h2 h; exact h.elim
      | succ n ih =>
        intro x2_h2 m_shine_h2 h
        unfold wp_X5_lights_L2 at h
        refine q_iload_n (pc := 2) F 2 dX5_lights_2 rfl ?_
        refine q_aload_n (pc := 3) F 0 dX5_lights_3 rfl ?_
        refine q_get (pc := 4) F fgX5_13 0 rfl rfl dX5_lights_4 ?_
        refine q_iconst (pc := 7) F (v := 3) dX5_lights_7 (by decide) ?_
        refine q_ialdk (pc := 8) F (k9 := 3) 1 rfl (vpd (by decide +kernel)) (by decide +kernel) dX5_lights_8 ?_
        refine q_icmp_ge (pc := 9) (tgt := 46) F dX5_lights_9 (by decide) (fun c9 => ?_) (fun c9 => ?_)
        · have h := h.1 c9
          refine q_lv (lv' := [(0, .ref a_M), (1, .int p0)]) [0, 1] rfl ?_
          exact J46 m_shine_h2 h
        · have h := h.2 c9
          refine q_aload_n (pc := 12) F 0 dX5_lights_12 rfl ?_
          refine q_get (pc := 13) F fgX5_35 0 rfl rfl dX5_lights_13 ?_
          refine q_iload_n (pc := 16) F 2 dX5_lights_16 rfl ?_
          refine q_aload_n (pc := 17) F 0 dX5_lights_17 rfl ?_
          refine q_aload_n (pc := 18) F 0 dX5_lights_18 rfl ?_
          refine q_get (pc := 19) F fgX5_13 0 rfl rfl dX5_lights_19 ?_
          refine q_bipush (pc := 22) F (v := 7) dX5_lights_22 (by decide) ?_
          refine q_iload_n (pc := 24) F 2 dX5_lights_24 rfl ?_
          refine q_iadd (pc := 25) F dX5_lights_25 ?_
          obtain ⟨hi26, h⟩ := h
          refine q_iald (pc := 26) F 1 rfl hi26 dX5_lights_26 ?_
          refine q_aload_n (pc := 27) F 0 dX5_lights_27 rfl ?_
          refine q_get (pc := 28) F fgX5_13 0 rfl rfl dX5_lights_28 ?_
          refine q_bipush (pc := 31) F (v := 13) dX5_lights_31 (by decide) ?_
          refine q_iload_n (pc := 33) F 2 dX5_lights_33 rfl ?_
          refine q_iadd (pc := 34) F dX5_lights_34 ?_
          obtain ⟨hi35, h⟩ := h
          refine q_iald (pc := 35) F 1 rfl hi35 dX5_lights_35 ?_
          refine q_cR (q_runV (As := [.int (m_told (ix ((7 : Int32) + x2_h2))), .int (m_told (ix ((13 : Int32) + x2_h2)))]) (rest := [.int x2_h2, .ref a_M_shine]) (pc := 36) F (fun l sz => ct_X5_shines D cI cZ a_M a_M_text a_M_told a_M_draft a_M_s a_M_images a_M_kept a_M_light a_M_may a_M_shine a_M_worth a_M_least m_trace m_typed m_at m_sort m_start m_size m_told (m_told (ix ((7 : Int32) + x2_h2))) (m_told (ix ((13 : Int32) + x2_h2))) h l sz) mc_yX5_shines im_yX5_shines se_yX5_shines mlX5_131 ⟨by decide, by decide⟩ ⟨by decide, by decide⟩ ⟨rfl, rfl⟩ [0, 1] rfl rfl rfl 0 rfl rfl rfl (Nat.le_of_ble_eq_true rfl) dX5_lights_36) (fun r36 h => ?_)
          obtain ⟨hi39, h⟩ := h
          refine q_iast (pc := 39) F M (cs' := [(a_M, .inr (5, [.long m_trace, .ref a_M_text, .int m_typed, .ref a_M_told, .ref a_M_draft, .ref a_M_s, .ref a_M_images, .ref a_M_kept, .int m_at, .int m_sort, .int m_start, .int m_size, .ref a_M_light, .ref a_M_may, .ref a_M_shine, .ref a_M_worth, .ref a_M_least])), (a_M_told, .inl (cI, 43, .inl m_told)), (a_M_light, .inl (cI, 128, .inl m_light)), (a_M_may, .inl (cI, 128, .inl m_may)), (a_M_shine, .inl (cI, 7, .inl (upd m_shine_h2 (ix x2_h2) r36)))]) 4 rfl hi39 rfl dX5_lights_39 ?_
          refine q_iinc (pc := 40) F (v := x2_h2 + (1 : Int32)) (lv' := [(2, .int (x2_h2 + (1 : Int32))), (0, .ref a_M), (1, .int p0)]) 2 dX5_lights_40 rfl rfl (by decide) rfl ?_
          refine q_goto (pc := 43) (tgt := 2) F dX5_lights_43 (by decide) ?_
          refine q_lv (lv' := [(0, .ref a_M), (1, .int p0), (2, .int (x2_h2 + (1 : Int32)))]) [1, 2, 0] rfl ?_
          exact ih (x2_h2 + (1 : Int32)) (upd m_shine_h2 (ix x2_h2) r36) h
    refine q_lv (lv' := [(0, .ref a_M), (1, .int p0), (2, .int (0 : Int32))]) [1, 2, 0] rfl ?_
    exact lp2 n2 (0 : Int32) m_shine h

def wp_X5_gone_L4 (m_s : Nat → Int32) (post : Int32 → Prop) : Nat → Int32 → Int32 → Prop
  | 0, _, _ => False
  | n + 1, x1, x2 => (((m_s 0) ≤ x2 → post x1) ∧ (¬ (m_s 0) ≤ x2 → (vp_in ((1 : Int32) + x2) 38 ∧ (∀ x1_26 : Int32, x1_26 = x1 ||| (jshl (1 : Int32) (m_s (ix ((1 : Int32) + x2)))) → wp_X5_gone_L4 m_s post n x1_26 (x2 + (1 : Int32))))))
def wp_X5_gone (m_s : Nat → Int32) (post : Int32 → Prop) : Prop := (∃ n4 : Nat, wp_X5_gone_L4 m_s post n4 (0 : Int32) (0 : Int32))
abbrev rm_X5_gone : Room := { frames := 0, cells := 0, slots := 0, locals := 0 }
set_option maxRecDepth 100000 in
set_option maxHeartbeats 4000000 in
theorem ct_X5_gone (D : va_G) (cI cZ : ClassId) (a_M a_M_text a_M_told a_M_draft a_M_s a_M_images a_M_kept a_M_light a_M_may a_M_shine a_M_worth a_M_least : Nat) (m_trace : Int64) (m_typed : Int32) (m_at : Int32) (m_sort : Int32) (m_start : Int32) (m_size : Int32) (m_s : Nat → Int32) {post : Int32 → Prop} (h : wp_X5_gone m_s post) (l : Launch) (sz : Nat) : Met l yX5_gone (wsM yX5_gone cX5_gone 3 (some .int)) rm_X5_gone (va_Pc [.ref a_M] (gP D cI cZ [(a_M, .inr (5, [.long m_trace, .ref a_M_text, .int m_typed, .ref a_M_told, .ref a_M_draft, .ref a_M_s, .ref a_M_images, .ref a_M_kept, .int m_at, .int m_sort, .int m_start, .int m_size, .ref a_M_light, .ref a_M_may, .ref a_M_shine, .ref a_M_worth, .ref a_M_least])), (a_M_s, .inl (cI, 38, .inl m_s))] sz)) (gR post) 0 0 (fun _ => False) := by
  refine q_startR (own := RX5) (by decide +kernel) rfl (Nat.le_of_ble_eq_true rfl) (fun E F Z => ?_)
  show Wg E [(a_M, .inr (5, [.long m_trace, .ref a_M_text, .int m_typed, .ref a_M_told, .ref a_M_draft, .ref a_M_s, .ref a_M_images, .ref a_M_kept, .int m_at, .int m_sort, .int m_start, .int m_size, .ref a_M_light, .ref a_M_may, .ref a_M_shine, .ref a_M_worth, .ref a_M_least])), (a_M_s, .inl (cI, 38, .inl m_s))] 0 0 0 [(0, .ref a_M)] []
  unfold wp_X5_gone at h
  refine q_iconst (pc := 0) F (v := 0) dX5_gone_0 (by decide) ?_
  refine q_istore_n (pc := 1) F (lv' := [(1, .int (0 : Int32)), (0, .ref a_M)]) dX5_gone_1 (by decide) rfl ?_
  refine q_iconst (pc := 2) F (v := 0) dX5_gone_2 (by decide) ?_
  refine q_istore_n (pc := 3) F (lv' := [(2, .int (0 : Int32)), (1, .int (0 : Int32)), (0, .ref a_M)]) dX5_gone_3 (by decide) rfl ?_
  obtain ⟨n4, h⟩ := h
  have lp4 : ∀ (n : Nat) (x1_h4 : Int32) (x2_h4 : Int32), wp_X5_gone_L4 m_s post n x1_h4 x2_h4 → Wg E [(a_M, .inr (5, [.long m_trace, .ref a_M_text, .int m_typed, .ref a_M_told, .ref a_M_draft, .ref a_M_s, .ref a_M_images, .ref a_M_kept, .int m_at, .int m_sort, .int m_start, .int m_size, .ref a_M_light, .ref a_M_may, .ref a_M_shine, .ref a_M_worth, .ref a_M_least])), (a_M_s, .inl (cI, 38, .inl m_s))] 0 0 4 [(0, .ref a_M), (1, .int x1_h4), (2, .int x2_h4)] [] := by
    intro n
    induction n with
    | zero => intro x1_h4 x2_h4 h; exact h.elim
    | succ n ih =>
      intro x1_h4 x2_h4 h
      unfold wp_X5_gone_L4 at h
      refine q_iload_n (pc := 4) F 2 dX5_gone_4 rfl ?_
      refine q_aload_n (pc := 5) F 0 dX5_gone_5 rfl ?_
      refine q_get (pc := 6) F fgX5_19 0 rfl rfl dX5_gone_6 ?_
      refine q_iconst (pc := 9) F (v := 0) dX5_gone_9 (by decide) ?_
      refine q_ialdk (pc := 10) F (k9 := 0) 1 rfl (vpd (by decide +kernel)) (by decide +kernel) dX5_gone_10 ?_
      refine q_icmp_ge (pc := 11) (tgt := 33) F dX5_gone_11 (by decide) (fun c11 => ?_) (fun c11 => ?_)
      · have h := h.1 c11
        refine q_iload_n (pc := 33) F 1 dX5_gone_33 rfl ?_
        exact q_iretR (pc := 34) F Z dX5_gone_34 h
      · have h := h.2 c11
        refine q_iload_n (pc := 14) F 1 dX5_gone_14 rfl ?_
        refine q_iconst (pc := 15) F (v := 1) dX5_gone_15 (by decide) ?_
        refine q_aload_n (pc := 16) F 0 dX5_gone_16 rfl ?_
        refine q_get (pc := 17) F fgX5_19 0 rfl rfl dX5_gone_17 ?_
        refine q_iconst (pc := 20) F (v := 1) dX5_gone_20 (by decide) ?_
        refine q_iload_n (pc := 21) F 2 dX5_gone_21 rfl ?_
        refine q_iadd (pc := 22) F dX5_gone_22 ?_
        obtain ⟨hi23, h⟩ := h
        refine q_iald (pc := 23) F 1 rfl hi23 dX5_gone_23 ?_
        refine q_ishl (pc := 24) F dX5_gone_24 ?_
        refine q_ior (pc := 25) F dX5_gone_25 ?_
        refine q_topi (fun x1_26 ex1_26 => ?_)
        have h := h x1_26 ex1_26
        refine q_istore_n (pc := 26) F (lv' := [(1, .int x1_26), (0, .ref a_M), (2, .int x2_h4)]) dX5_gone_26 (by decide) rfl ?_
        refine q_iinc (pc := 27) F (v := x2_h4 + (1 : Int32)) (lv' := [(2, .int (x2_h4 + (1 : Int32))), (1, .int x1_26), (0, .ref a_M)]) 2 dX5_gone_27 rfl rfl (by decide) rfl ?_
        refine q_goto (pc := 30) (tgt := 4) F dX5_gone_30 (by decide) ?_
        refine q_lv (lv' := [(0, .ref a_M), (1, .int x1_26), (2, .int (x2_h4 + (1 : Int32)))]) [2, 1, 0] rfl ?_
        exact ih x1_26 (x2_h4 + (1 : Int32)) h
  refine q_lv (lv' := [(0, .ref a_M), (1, .int (0 : Int32)), (2, .int (0 : Int32))]) [2, 1, 0] rfl ?_
  exact lp4 n4 (0 : Int32) (0 : Int32) h

def wp_X5_lit_L7 (m_s : Nat → Int32) (post : Int32 → Prop) : Nat → Int32 → Int32 → Prop
  | 0, _, _ => False
  | n + 1, x1, x2 => (((m_s 0) ≤ x2 → post x1) ∧ (¬ (m_s 0) ≤ x2 → (vp_in ((7 : Int32) + x2) 38 ∧ (∀ x1_32 : Int32, x1_32 = x1 &&& ((jshl (1 : Int32) (m_s (ix ((7 : Int32) + x2)))) ^^^ (-1 : Int32)) → wp_X5_lit_L7 m_s post n x1_32 (x2 + (1 : Int32))))))
def wp_X5_lit (m_told : Nat → Int32) (m_s : Nat → Int32) (post : Int32 → Prop) : Prop := (wp_X5_allLit m_told (fun (r1 : Int32) => (∃ n7 : Nat, wp_X5_lit_L7 m_s post n7 r1 (0 : Int32))))
abbrev rm_X5_lit : Room := { frames := 1, cells := 0, slots := 0, locals := 20 }
set_option maxRecDepth 100000 in
set_option maxHeartbeats 4000000 in
theorem ct_X5_lit (D : va_G) (cI cZ : ClassId) (a_M a_M_text a_M_told a_M_draft a_M_s a_M_images a_M_kept a_M_light a_M_may a_M_shine a_M_worth a_M_least : Nat) (m_trace : Int64) (m_typed : Int32) (m_at : Int32) (m_sort : Int32) (m_start : Int32) (m_size : Int32) (m_told : Nat → Int32) (m_s : Nat → Int32) {post : Int32 → Prop} (h : wp_X5_lit m_told m_s post) (l : Launch) (sz : Nat) : Met l yX5_lit (wsM yX5_lit cX5_lit 3 (some .int)) rm_X5_lit (va_Pc [.ref a_M] (gP D cI cZ [(a_M, .inr (5, [.long m_trace, .ref a_M_text, .int m_typed, .ref a_M_told, .ref a_M_draft, .ref a_M_s, .ref a_M_images, .ref a_M_kept, .int m_at, .int m_sort, .int m_start, .int m_size, .ref a_M_light, .ref a_M_may, .ref a_M_shine, .ref a_M_worth, .ref a_M_least])), (a_M_told, .inl (cI, 43, .inl m_told)), (a_M_s, .inl (cI, 38, .inl m_s))] sz)) (gR post) 0 0 (fun _ => False) := by
  refine q_startR (own := RX5) (by decide +kernel) rfl (Nat.le_of_ble_eq_true rfl) (fun E F Z => ?_)
  show Wg E [(a_M, .inr (5, [.long m_trace, .ref a_M_text, .int m_typed, .ref a_M_told, .ref a_M_draft, .ref a_M_s, .ref a_M_images, .ref a_M_kept, .int m_at, .int m_sort, .int m_start, .int m_size, .ref a_M_light, .ref a_M_may, .ref a_M_shine, .ref a_M_worth, .ref a_M_least])), (a_M_told, .inl (cI, 43, .inl m_told)), (a_M_s, .inl (cI, 38, .inl m_s))] 0 0 0 [(0, .ref a_M)] []
  unfold wp_X5_lit at h
  refine q_aload_n (pc := 0) F 0 dX5_lit_0 rfl ?_
  refine q_cR (q_runV (As := []) (rest := []) (pc := 1) F (fun l sz => ct_X5_allLit D cI cZ a_M a_M_text a_M_told a_M_draft a_M_s a_M_images a_M_kept a_M_light a_M_may a_M_shine a_M_worth a_M_least m_trace m_typed m_at m_sort m_start m_size m_told h l sz) mc_yX5_allLit im_yX5_allLit se_yX5_allLit mlX5_128 ⟨by decide, by decide⟩ ⟨by decide, by decide⟩ ⟨rfl, rfl⟩ [0, 1] rfl rfl rfl 0 rfl rfl rfl (Nat.le_of_ble_eq_true rfl) dX5_lit_1) (fun r1 h => ?_)
  refine q_istore_n (pc := 4) F (lv' := [(1, .int r1), (0, .ref a_M)]) dX5_lit_4 (by decide) rfl ?_
  refine q_iconst (pc := 5) F (v := 0) dX5_lit_5 (by decide) ?_
  refine q_istore_n (pc := 6) F (lv' := [(2, .int (0 : Int32)), (1, .int r1), (0, .ref a_M)]) dX5_lit_6 (by decide) rfl ?_
  obtain ⟨n7, h⟩ := h
  have lp7 : ∀ (n : Nat) (x1_h7 : Int32) (x2_h7 : Int32), wp_X5_lit_L7 m_s post n x1_h7 x2_h7 → Wg E [(a_M, .inr (5, [.long m_trace, .ref a_M_text, .int m_typed, .ref a_M_told, .ref a_M_draft, .ref a_M_s, .ref a_M_images, .ref a_M_kept, .int m_at, .int m_sort, .int m_start, .int m_size, .ref a_M_light, .ref a_M_may, .ref a_M_shine, .ref a_M_worth, .ref a_M_least])), (a_M_told, .inl (cI, 43, .inl m_told)), (a_M_s, .inl (cI, 38, .inl m_s))] 0 0 7 [(0, .ref a_M), (1, .int x1_h7), (2, .int x2_h7)] [] := by
    intro n
    induction n with
    | zero => intro x1_h7 x2_h7 h; exact h.elim
    | succ n ih =>
      intro x1_h7 x2_h7 h
      unfold wp_X5_lit_L7 at h
      refine q_iload_n (pc := 7) F 2 dX5_lit_7 rfl ?_
      refine q_aload_n (pc := 8) F 0 dX5_lit_8 rfl ?_
      refine q_get (pc := 9) F fgX5_19 0 rfl rfl dX5_lit_9 ?_
      refine q_iconst (pc := 12) F (v := 0) dX5_lit_12 (by decide) ?_
      refine q_ialdk (pc := 13) F (k9 := 0) 2 rfl (vpd (by decide +kernel)) (by decide +kernel) dX5_lit_13 ?_
      refine q_icmp_ge (pc := 14) (tgt := 39) F dX5_lit_14 (by decide) (fun c14 => ?_) (fun c14 => ?_)
      · have h := h.1 c14
        refine q_iload_n (pc := 39) F 1 dX5_lit_39 rfl ?_
        exact q_iretR (pc := 40) F Z dX5_lit_40 h
      · have h := h.2 c14
        refine q_iload_n (pc := 17) F 1 dX5_lit_17 rfl ?_
        refine q_iconst (pc := 18) F (v := 1) dX5_lit_18 (by decide) ?_
        refine q_aload_n (pc := 19) F 0 dX5_lit_19 rfl ?_
        refine q_get (pc := 20) F fgX5_19 0 rfl rfl dX5_lit_20 ?_
        refine q_bipush (pc := 23) F (v := 7) dX5_lit_23 (by decide) ?_
        refine q_iload_n (pc := 25) F 2 dX5_lit_25 rfl ?_
        refine q_iadd (pc := 26) F dX5_lit_26 ?_
        obtain ⟨hi27, h⟩ := h
        refine q_iald (pc := 27) F 2 rfl hi27 dX5_lit_27 ?_
        refine q_ishl (pc := 28) F dX5_lit_28 ?_
        refine q_iconst (pc := 29) F (v := -1) dX5_lit_29 (by decide) ?_
        refine q_ixor (pc := 30) F dX5_lit_30 ?_
        refine q_iand (pc := 31) F dX5_lit_31 ?_
        refine q_topi (fun x1_32 ex1_32 => ?_)
        have h := h x1_32 ex1_32
        refine q_istore_n (pc := 32) F (lv' := [(1, .int x1_32), (0, .ref a_M), (2, .int x2_h7)]) dX5_lit_32 (by decide) rfl ?_
        refine q_iinc (pc := 33) F (v := x2_h7 + (1 : Int32)) (lv' := [(2, .int (x2_h7 + (1 : Int32))), (1, .int x1_32), (0, .ref a_M)]) 2 dX5_lit_33 rfl rfl (by decide) rfl ?_
        refine q_goto (pc := 36) (tgt := 7) F dX5_lit_36 (by decide) ?_
        refine q_lv (lv' := [(0, .ref a_M), (1, .int x1_32), (2, .int (x2_h7 + (1 : Int32)))]) [2, 1, 0] rfl ?_
        exact ih x1_32 (x2_h7 + (1 : Int32)) h
  refine q_lv (lv' := [(0, .ref a_M), (1, .int r1), (2, .int (0 : Int32))]) [2, 1, 0] rfl ?_
  exact lp7 n7 r1 (0 : Int32) h

def wp_X5_ones_L4 (x0 : Int32) (post : Int32 → Prop) : Nat → Int32 → Int32 → Prop
  | 0, _, _ => False
  | n + 1, x1, x2 => (((12 : Int32) ≤ x2 → post x1) ∧ (¬ (12 : Int32) ≤ x2 → (∀ x1_17 : Int32, x1_17 = x1 + ((jshr x0 x2) &&& (1 : Int32)) → wp_X5_ones_L4 x0 post n x1_17 (x2 + (1 : Int32)))))
def wp_X5_ones (p0 : Int32) (post : Int32 → Prop) : Prop := (∃ n4 : Nat, wp_X5_ones_L4 p0 post n4 (0 : Int32) (0 : Int32))
abbrev rm_X5_ones : Room := { frames := 0, cells := 0, slots := 0, locals := 0 }
set_option maxRecDepth 100000 in
set_option maxHeartbeats 4000000 in
theorem ct_X5_ones (D : va_G) (cI cZ : ClassId) (p0 : Int32) {post : Int32 → Prop} (h : wp_X5_ones p0 post) (l : Launch) (sz : Nat) : Met l yX5_ones (wsM yX5_ones cX5_ones 3 (some .int)) rm_X5_ones (va_Pc [.int p0] (gP D cI cZ [] sz)) (gR post) 0 0 (fun _ => False) := by
  refine q_startR (own := RX5) (by decide +kernel) rfl (Nat.le_of_ble_eq_true rfl) (fun E F Z => ?_)
  show Wg E [] 0 0 0 [(0, .int p0)] []
  unfold wp_X5_ones at h
  refine q_iconst (pc := 0) F (v := 0) dX5_ones_0 (by decide) ?_
  refine q_istore_n (pc := 1) F (lv' := [(1, .int (0 : Int32)), (0, .int p0)]) dX5_ones_1 (by decide) rfl ?_
  refine q_iconst (pc := 2) F (v := 0) dX5_ones_2 (by decide) ?_
  refine q_istore_n (pc := 3) F (lv' := [(2, .int (0 : Int32)), (1, .int (0 : Int32)), (0, .int p0)]) dX5_ones_3 (by decide) rfl ?_
  obtain ⟨n4, h⟩ := h
  have lp4 : ∀ (n : Nat) (x1_h4 : Int32) (x2_h4 : Int32), wp_X5_ones_L4 p0 post n x1_h4 x2_h4 → Wg E [] 0 0 4 [(0, .int p0), (1, .int x1_h4), (2, .int x2_h4)] [] := by
    intro n
    induction n with
    | zero => intro x1_h4 x2_h4 h; exact h.elim
    | succ n ih =>
      intro x1_h4 x2_h4 h
      unfold wp_X5_ones_L4 at h
      refine q_iload_n (pc := 4) F 2 dX5_ones_4 rfl ?_
      refine q_bipush (pc := 5) F (v := 12) dX5_ones_5 (by decide) ?_
      refine q_icmp_ge (pc := 7) (tgt := 24) F dX5_ones_7 (by decide) (fun c7 => ?_) (fun c7 => ?_)
      · have h := h.1 c7
        refine q_iload_n (pc := 24) F 1 dX5_ones_24 rfl ?_
        exact q_iretR (pc := 25) F Z dX5_ones_25 h
      · have h := h.2 c7
        refine q_iload_n (pc := 10) F 1 dX5_ones_10 rfl ?_
        refine q_iload_n (pc := 11) F 0 dX5_ones_11 rfl ?_
        refine q_iload_n (pc := 12) F 2 dX5_ones_12 rfl ?_
        refine q_ishr (pc := 13) F dX5_ones_13 ?_
        refine q_iconst (pc := 14) F (v := 1) dX5_ones_14 (by decide) ?_
        refine q_iand (pc := 15) F dX5_ones_15 ?_
        refine q_iadd (pc := 16) F dX5_ones_16 ?_
        refine q_topi (fun x1_17 ex1_17 => ?_)
        have h := h x1_17 ex1_17
        refine q_istore_n (pc := 17) F (lv' := [(1, .int x1_17), (0, .int p0), (2, .int x2_h4)]) dX5_ones_17 (by decide) rfl ?_
        refine q_iinc (pc := 18) F (v := x2_h4 + (1 : Int32)) (lv' := [(2, .int (x2_h4 + (1 : Int32))), (1, .int x1_17), (0, .int p0)]) 2 dX5_ones_18 rfl rfl (by decide) rfl ?_
        refine q_goto (pc := 21) (tgt := 4) F dX5_ones_21 (by decide) ?_
        refine q_lv (lv' := [(0, .int p0), (1, .int x1_17), (2, .int (x2_h4 + (1 : Int32)))]) [2, 1, 0] rfl ?_
        exact ih x1_17 (x2_h4 + (1 : Int32)) h
  refine q_lv (lv' := [(0, .int p0), (1, .int (0 : Int32)), (2, .int (0 : Int32))]) [2, 1, 0] rfl ?_
  exact lp4 n4 (0 : Int32) (0 : Int32) h

def wp_X5_cell (p0 : Int32) (p1 : Int32) (m_told : Nat → Int32) (m_s : Nat → Int32) (m_light : Nat → Int32) (m_may : Nat → Int32) (m_shine : Nat → Int32) (post : Int32 → (Nat → Int32) → (Nat → Int32) → (Nat → Int32) → Prop) : Prop := (wp_X5_isCell p0 m_told (fun (r2 : Int32) => ((r2 = (0 : Int32) → post (-1 : Int32) m_light m_may m_shine) ∧ (¬ r2 = (0 : Int32) → (wp_X5_in p1 (0 : Int32) (2 : Int32) (fun (r11 : Int32) => ((r11 = (0 : Int32) → post (-1 : Int32) m_light m_may m_shine) ∧ (¬ r11 = (0 : Int32) → (wp_X5_lights (0 : Int32) m_told m_light m_may m_shine (fun (m_light_21 : Nat → Int32) (m_may_21 : Nat → Int32) (m_shine_21 : Nat → Int32) => ((p1 = (0 : Int32) → post ((jshr (m_told 5) p0) &&& (1 : Int32)) m_light_21 m_may_21 m_shine_21) ∧ (¬ p1 = (0 : Int32) → ((p1 = (1 : Int32) → post ((jshr (m_told 6) p0) &&& (1 : Int32)) m_light_21 m_may_21 m_shine_21) ∧ (¬ p1 = (1 : Int32) → (wp_X5_lit m_told m_s (fun (r65 : Int32) => (vp_in r65 128 ∧ post ((jshr (m_light_21 (ix r65)) p0) &&& (1 : Int32)) m_light_21 m_may_21 m_shine_21)))))))))))))))))
abbrev rm_X5_cell : Room := { frames := 4, cells := 0, slots := 0, locals := 97 }
set_option maxRecDepth 100000 in
set_option maxHeartbeats 4000000 in
theorem ct_X5_cell (D : va_G) (cI cZ : ClassId) (a_M a_M_text a_M_told a_M_draft a_M_s a_M_images a_M_kept a_M_light a_M_may a_M_shine a_M_worth a_M_least : Nat) (m_trace : Int64) (m_typed : Int32) (m_at : Int32) (m_sort : Int32) (m_start : Int32) (m_size : Int32) (m_told : Nat → Int32) (m_s : Nat → Int32) (m_light : Nat → Int32) (m_may : Nat → Int32) (m_shine : Nat → Int32) (p0 : Int32) (p1 : Int32) {post : Int32 → (Nat → Int32) → (Nat → Int32) → (Nat → Int32) → Prop} (h : wp_X5_cell p0 p1 m_told m_s m_light m_may m_shine post) (l : Launch) (sz : Nat) : Met l yX5_cell (wsM yX5_cell cX5_cell 3 (some .int)) rm_X5_cell (va_Pc [.ref a_M, .int p0, .int p1] (gP D cI cZ [(a_M, .inr (5, [.long m_trace, .ref a_M_text, .int m_typed, .ref a_M_told, .ref a_M_draft, .ref a_M_s, .ref a_M_images, .ref a_M_kept, .int m_at, .int m_sort, .int m_start, .int m_size, .ref a_M_light, .ref a_M_may, .ref a_M_shine, .ref a_M_worth, .ref a_M_least])), (a_M_told, .inl (cI, 43, .inl m_told)), (a_M_s, .inl (cI, 38, .inl m_s)), (a_M_light, .inl (cI, 128, .inl m_light)), (a_M_may, .inl (cI, 128, .inl m_may)), (a_M_shine, .inl (cI, 7, .inl m_shine))] sz)) (gQi D (fun r (u : (Nat → Int32) × (Nat → Int32) × (Nat → Int32)) => post r u.1 u.2.1 u.2.2) (fun (u : (Nat → Int32) × (Nat → Int32) × (Nat → Int32)) => [(a_M, .inr (5, [.long m_trace, .ref a_M_text, .int m_typed, .ref a_M_told, .ref a_M_draft, .ref a_M_s, .ref a_M_images, .ref a_M_kept, .int m_at, .int m_sort, .int m_start, .int m_size, .ref a_M_light, .ref a_M_may, .ref a_M_shine, .ref a_M_worth, .ref a_M_least])), (a_M_told, .inl (cI, 43, .inl m_told)), (a_M_s, .inl (cI, 38, .inl m_s)), (a_M_light, .inl (cI, 128, .inl u.1)), (a_M_may, .inl (cI, 128, .inl u.2.1)), (a_M_shine, .inl (cI, 7, .inl u.2.2))]) [(a_M, .inr (5, [.long m_trace, .ref a_M_text, .int m_typed, .ref a_M_told, .ref a_M_draft, .ref a_M_s, .ref a_M_images, .ref a_M_kept, .int m_at, .int m_sort, .int m_start, .int m_size, .ref a_M_light, .ref a_M_may, .ref a_M_shine, .ref a_M_worth, .ref a_M_least])), (a_M_told, .inl (cI, 43, .inl m_told)), (a_M_s, .inl (cI, 38, .inl m_s)), (a_M_light, .inl (cI, 128, .inl m_light)), (a_M_may, .inl (cI, 128, .inl m_may)), (a_M_shine, .inl (cI, 7, .inl m_shine))] sz) 0 0 (va_A [(a_M, .inr (5, [.long m_trace, .ref a_M_text, .int m_typed, .ref a_M_told, .ref a_M_draft, .ref a_M_s, .ref a_M_images, .ref a_M_kept, .int m_at, .int m_sort, .int m_start, .int m_size, .ref a_M_light, .ref a_M_may, .ref a_M_shine, .ref a_M_worth, .ref a_M_least])), (a_M_told, .inl (cI, 43, .inl m_told)), (a_M_s, .inl (cI, 38, .inl m_s)), (a_M_light, .inl (cI, 128, .inl m_light)), (a_M_may, .inl (cI, 128, .inl m_may)), (a_M_shine, .inl (cI, 7, .inl m_shine))] sz) := by
  refine q_startM (own := RX5) (Qc := gQi D (fun r (u : (Nat → Int32) × (Nat → Int32) × (Nat → Int32)) => post r u.1 u.2.1 u.2.2) (fun (u : (Nat → Int32) × (Nat → Int32) × (Nat → Int32)) => [(a_M, .inr (5, [.long m_trace, .ref a_M_text, .int m_typed, .ref a_M_told, .ref a_M_draft, .ref a_M_s, .ref a_M_images, .ref a_M_kept, .int m_at, .int m_sort, .int m_start, .int m_size, .ref a_M_light, .ref a_M_may, .ref a_M_shine, .ref a_M_worth, .ref a_M_least])), (a_M_told, .inl (cI, 43, .inl m_told)), (a_M_s, .inl (cI, 38, .inl m_s)), (a_M_light, .inl (cI, 128, .inl u.1)), (a_M_may, .inl (cI, 128, .inl u.2.1)), (a_M_shine, .inl (cI, 7, .inl u.2.2))]) [(a_M, .inr (5, [.long m_trace, .ref a_M_text, .int m_typed, .ref a_M_told, .ref a_M_draft, .ref a_M_s, .ref a_M_images, .ref a_M_kept, .int m_at, .int m_sort, .int m_start, .int m_size, .ref a_M_light, .ref a_M_may, .ref a_M_shine, .ref a_M_worth, .ref a_M_least])), (a_M_told, .inl (cI, 43, .inl m_told)), (a_M_s, .inl (cI, 38, .inl m_s)), (a_M_light, .inl (cI, 128, .inl m_light)), (a_M_may, .inl (cI, 128, .inl m_may)), (a_M_shine, .inl (cI, 7, .inl m_shine))]) (by decide +kernel) rfl (Nat.le_of_ble_eq_true rfl) (fun E F Z M => ?_)
  show Wg E [(a_M, .inr (5, [.long m_trace, .ref a_M_text, .int m_typed, .ref a_M_told, .ref a_M_draft, .ref a_M_s, .ref a_M_images, .ref a_M_kept, .int m_at, .int m_sort, .int m_start, .int m_size, .ref a_M_light, .ref a_M_may, .ref a_M_shine, .ref a_M_worth, .ref a_M_least])), (a_M_told, .inl (cI, 43, .inl m_told)), (a_M_s, .inl (cI, 38, .inl m_s)), (a_M_light, .inl (cI, 128, .inl m_light)), (a_M_may, .inl (cI, 128, .inl m_may)), (a_M_shine, .inl (cI, 7, .inl m_shine))] 0 0 0 [(0, .ref a_M), (1, .int p0), (2, .int p1)] []
  unfold wp_X5_cell at h
  refine q_aload_n (pc := 0) F 0 dX5_cell_0 rfl ?_
  refine q_iload_n (pc := 1) F 1 dX5_cell_1 rfl ?_
  refine q_cR (q_runV (As := [.int p0]) (rest := []) (pc := 2) F (fun l sz => ct_X5_isCell D cI cZ a_M a_M_text a_M_told a_M_draft a_M_s a_M_images a_M_kept a_M_light a_M_may a_M_shine a_M_worth a_M_least m_trace m_typed m_at m_sort m_start m_size m_told p0 h l sz) mc_yX5_isCell im_yX5_isCell se_yX5_isCell mlX5_143 ⟨by decide, by decide⟩ ⟨by decide, by decide⟩ ⟨rfl, rfl⟩ [0, 1] rfl rfl rfl 0 rfl rfl rfl (Nat.le_of_ble_eq_true rfl) dX5_cell_2) (fun r2 h => ?_)
  obtain ⟨hb2, h⟩ := h
  refine q_if_eq (pc := 5) (tgt := 17) F dX5_cell_5 (by decide) (fun c5 => ?_) (fun c5 => ?_)
  · have h := h.1 c5
    refine q_iconst (pc := 17) F (v := -1) dX5_cell_17 (by decide) ?_
    exact q_iretM (pc := 18) F Z dX5_cell_18 (m_light, m_may, m_shine) h rfl
  · have h := h.2 c5
    refine q_iload_n (pc := 8) F 2 dX5_cell_8 rfl ?_
    refine q_iconst (pc := 9) F (v := 0) dX5_cell_9 (by decide) ?_
    refine q_iconst (pc := 10) F (v := 2) dX5_cell_10 (by decide) ?_
    refine q_cR (q_runS (As := [.int p1, .int (0 : Int32), .int (2 : Int32)]) (rest := []) (pc := 11) F (fun l sz => ct_X5_in D cI cZ p1 (0 : Int32) (2 : Int32) h l sz) mc_yX5_in sm_yX5_in mlX5_48 ⟨by decide, by decide⟩ ⟨by decide, by decide⟩ ⟨rfl, rfl⟩ [] rfl rfl rfl rfl (Nat.le_of_ble_eq_true rfl) dX5_cell_11) (fun r11 h => ?_)
    obtain ⟨hb11, h⟩ := h
    refine q_if_ne (pc := 14) (tgt := 19) F dX5_cell_14 (by decide) (fun c14 => ?_) (fun c14 => ?_)
    · have h := h.2 c14
      refine q_aload_n (pc := 19) F 0 dX5_cell_19 rfl ?_
      refine q_iconst (pc := 20) F (v := 0) dX5_cell_20 (by decide) ?_
      refine q_cMv (wr := [(a_M_s, .inl (cI, 38, .inl m_s))]) (pc := 21) F M (q_runV (As := [.int (0 : Int32)]) (rest := []) (pc := 21) F (fun l sz => ct_X5_lights D cI cZ a_M a_M_text a_M_told a_M_draft a_M_s a_M_images a_M_kept a_M_light a_M_may a_M_shine a_M_worth a_M_least m_trace m_typed m_at m_sort m_start m_size m_told m_light m_may m_shine (0 : Int32) h l sz) mc_yX5_lights im_yX5_lights se_yX5_lights mlX5_146 ⟨by decide, by decide⟩ ⟨by decide, by decide⟩ ⟨rfl, rfl⟩ [0, 1, 3, 4, 5] rfl rfl rfl 0 rfl rfl rfl (Nat.le_of_ble_eq_true rfl) dX5_cell_21) [0, 1, 3, 4, 5] [2] rfl rfl rfl (by decide) (fun u21 h => ?_)
      obtain ⟨m_light_21, m_may_21, m_shine_21⟩ := u21
      refine q_cs (cs' := [(a_M, .inr (5, [.long m_trace, .ref a_M_text, .int m_typed, .ref a_M_told, .ref a_M_draft, .ref a_M_s, .ref a_M_images, .ref a_M_kept, .int m_at, .int m_sort, .int m_start, .int m_size, .ref a_M_light, .ref a_M_may, .ref a_M_shine, .ref a_M_worth, .ref a_M_least])), (a_M_told, .inl (cI, 43, .inl m_told)), (a_M_s, .inl (cI, 38, .inl m_s)), (a_M_light, .inl (cI, 128, .inl m_light_21)), (a_M_may, .inl (cI, 128, .inl m_may_21)), (a_M_shine, .inl (cI, 7, .inl m_shine_21))]) [1, 2, 0, 3, 4, 5] rfl rfl ?_
      refine q_iload_n (pc := 24) F 2 dX5_cell_24 rfl ?_
      refine q_if_ne (pc := 25) (tgt := 41) F dX5_cell_25 (by decide) (fun c25 => ?_) (fun c25 => ?_)
      · have h := h.2 c25
        refine q_iload_n (pc := 41) F 2 dX5_cell_41 rfl ?_
        refine q_iconst (pc := 42) F (v := 1) dX5_cell_42 (by decide) ?_
        refine q_icmp_ne (pc := 43) (tgt := 60) F dX5_cell_43 (by decide) (fun c43 => ?_) (fun c43 => ?_)
        · have h := h.2 c43
          refine q_aload_n (pc := 60) F 0 dX5_cell_60 rfl ?_
          refine q_get (pc := 61) F fgX5_29 0 rfl rfl dX5_cell_61 ?_
          refine q_aload_n (pc := 64) F 0 dX5_cell_64 rfl ?_
          refine q_cR (q_runV (As := []) (rest := [.ref a_M_light]) (pc := 65) F (fun l sz => ct_X5_lit D cI cZ a_M a_M_text a_M_told a_M_draft a_M_s a_M_images a_M_kept a_M_light a_M_may a_M_shine a_M_worth a_M_least m_trace m_typed m_at m_sort m_start m_size m_told m_s h l sz) mc_yX5_lit im_yX5_lit se_yX5_lit mlX5_150 ⟨by decide, by decide⟩ ⟨by decide, by decide⟩ ⟨rfl, rfl⟩ [0, 1, 2] rfl rfl rfl 0 rfl rfl rfl (Nat.le_of_ble_eq_true rfl) dX5_cell_65) (fun r65 h => ?_)
          obtain ⟨hi68, h⟩ := h
          refine q_iald (pc := 68) F 3 rfl hi68 dX5_cell_68 ?_
          refine q_iload_n (pc := 69) F 1 dX5_cell_69 rfl ?_
          refine q_ishr (pc := 70) F dX5_cell_70 ?_
          refine q_iconst (pc := 71) F (v := 1) dX5_cell_71 (by decide) ?_
          refine q_iand (pc := 72) F dX5_cell_72 ?_
          exact q_iretM (pc := 73) F Z dX5_cell_73 (m_light_21, m_may_21, m_shine_21) h rfl
        · have h := h.1 c43
          refine q_aload_n (pc := 46) F 0 dX5_cell_46 rfl ?_
          refine q_get (pc := 47) F fgX5_13 0 rfl rfl dX5_cell_47 ?_
          refine q_bipush (pc := 50) F (v := 6) dX5_cell_50 (by decide) ?_
          refine q_ialdk (pc := 52) F (k9 := 6) 1 rfl (vpd (by decide +kernel)) (by decide +kernel) dX5_cell_52 ?_
          refine q_iload_n (pc := 53) F 1 dX5_cell_53 rfl ?_
          refine q_ishr (pc := 54) F dX5_cell_54 ?_
          refine q_iconst (pc := 55) F (v := 1) dX5_cell_55 (by decide) ?_
          refine q_iand (pc := 56) F dX5_cell_56 ?_
          refine q_goto (pc := 57) (tgt := 73) F dX5_cell_57 (by decide) ?_
          exact q_iretM (pc := 73) F Z dX5_cell_73 (m_light_21, m_may_21, m_shine_21) h rfl
      · have h := h.1 c25
        refine q_aload_n (pc := 28) F 0 dX5_cell_28 rfl ?_
        refine q_get (pc := 29) F fgX5_13 0 rfl rfl dX5_cell_29 ?_
        refine q_iconst (pc := 32) F (v := 5) dX5_cell_32 (by decide) ?_
        refine q_ialdk (pc := 33) F (k9 := 5) 1 rfl (vpd (by decide +kernel)) (by decide +kernel) dX5_cell_33 ?_
        refine q_iload_n (pc := 34) F 1 dX5_cell_34 rfl ?_
        refine q_ishr (pc := 35) F dX5_cell_35 ?_
        refine q_iconst (pc := 36) F (v := 1) dX5_cell_36 (by decide) ?_
        refine q_iand (pc := 37) F dX5_cell_37 ?_
        refine q_goto (pc := 38) (tgt := 73) F dX5_cell_38 (by decide) ?_
        exact q_iretM (pc := 73) F Z dX5_cell_73 (m_light_21, m_may_21, m_shine_21) h rfl
    · have h := h.1 c14
      refine q_iconst (pc := 17) F (v := -1) dX5_cell_17 (by decide) ?_
      exact q_iretM (pc := 18) F Z dX5_cell_18 (m_light, m_may, m_shine) h rfl

def wp_X5_lamp (p0 : Int32) (p1 : Int32) (m_told : Nat → Int32) (m_s : Nat → Int32) (post : Int32 → Prop) : Prop := (wp_X5_isLamp p0 m_told (fun (r2 : Int32) => ((r2 = (0 : Int32) → post (-1 : Int32)) ∧ (¬ r2 = (0 : Int32) → (wp_X5_in p1 (0 : Int32) (3 : Int32) (fun (r11 : Int32) => ((r11 = (0 : Int32) → post (-1 : Int32)) ∧ (¬ r11 = (0 : Int32) → ((p1 = (0 : Int32) → (vp_in ((7 : Int32) + p0) 43 ∧ post (m_told (ix ((7 : Int32) + p0))))) ∧ (¬ p1 = (0 : Int32) → ((p1 = (1 : Int32) → (vp_in ((13 : Int32) + p0) 43 ∧ post (m_told (ix ((13 : Int32) + p0))))) ∧ (¬ p1 = (1 : Int32) → ((p1 = (2 : Int32) → (wp_X5_lit m_told m_s (fun (r58 : Int32) => post ((jshr r58 p0) &&& (1 : Int32))))) ∧ (¬ p1 = (2 : Int32) → (vp_in ((7 : Int32) + p0) 43 ∧ (vp_in ((13 : Int32) + p0) 43 ∧ (wp_X5_shines (m_told (ix ((7 : Int32) + p0))) (m_told (ix ((13 : Int32) + p0))) m_told (fun (r87 : Int32) => post r87))))))))))))))))))
abbrev rm_X5_lamp : Room := { frames := 3, cells := 0, slots := 0, locals := 71 }
set_option maxRecDepth 100000 in
set_option maxHeartbeats 4000000 in
theorem ct_X5_lamp (D : va_G) (cI cZ : ClassId) (a_M a_M_text a_M_told a_M_draft a_M_s a_M_images a_M_kept a_M_light a_M_may a_M_shine a_M_worth a_M_least : Nat) (m_trace : Int64) (m_typed : Int32) (m_at : Int32) (m_sort : Int32) (m_start : Int32) (m_size : Int32) (m_told : Nat → Int32) (m_s : Nat → Int32) (p0 : Int32) (p1 : Int32) {post : Int32 → Prop} (h : wp_X5_lamp p0 p1 m_told m_s post) (l : Launch) (sz : Nat) : Met l yX5_lamp (wsM yX5_lamp cX5_lamp 3 (some .int)) rm_X5_lamp (va_Pc [.ref a_M, .int p0, .int p1] (gP D cI cZ [(a_M, .inr (5, [.long m_trace, .ref a_M_text, .int m_typed, .ref a_M_told, .ref a_M_draft, .ref a_M_s, .ref a_M_images, .ref a_M_kept, .int m_at, .int m_sort, .int m_start, .int m_size, .ref a_M_light, .ref a_M_may, .ref a_M_shine, .ref a_M_worth, .ref a_M_least])), (a_M_told, .inl (cI, 43, .inl m_told)), (a_M_s, .inl (cI, 38, .inl m_s))] sz)) (gR post) 0 0 (fun _ => False) := by
  refine q_startR (own := RX5) (by decide +kernel) rfl (Nat.le_of_ble_eq_true rfl) (fun E F Z => ?_)
  show Wg E [(a_M, .inr (5, [.long m_trace, .ref a_M_text, .int m_typed, .ref a_M_told, .ref a_M_draft, .ref a_M_s, .ref a_M_images, .ref a_M_kept, .int m_at, .int m_sort, .int m_start, .int m_size, .ref a_M_light, .ref a_M_may, .ref a_M_shine, .ref a_M_worth, .ref a_M_least])), (a_M_told, .inl (cI, 43, .inl m_told)), (a_M_s, .inl (cI, 38, .inl m_s))] 0 0 0 [(0, .ref a_M), (1, .int p0), (2, .int p1)] []
  unfold wp_X5_lamp at h
  refine q_aload_n (pc := 0) F 0 dX5_lamp_0 rfl ?_
  refine q_iload_n (pc := 1) F 1 dX5_lamp_1 rfl ?_
  refine q_cR (q_runV (As := [.int p0]) (rest := []) (pc := 2) F (fun l sz => ct_X5_isLamp D cI cZ a_M a_M_text a_M_told a_M_draft a_M_s a_M_images a_M_kept a_M_light a_M_may a_M_shine a_M_worth a_M_least m_trace m_typed m_at m_sort m_start m_size m_told p0 h l sz) mc_yX5_isLamp im_yX5_isLamp se_yX5_isLamp mlX5_153 ⟨by decide, by decide⟩ ⟨by decide, by decide⟩ ⟨rfl, rfl⟩ [0, 1] rfl rfl rfl 0 rfl rfl rfl (Nat.le_of_ble_eq_true rfl) dX5_lamp_2) (fun r2 h => ?_)
  obtain ⟨hb2, h⟩ := h
  refine q_if_eq (pc := 5) (tgt := 17) F dX5_lamp_5 (by decide) (fun c5 => ?_) (fun c5 => ?_)
  · have h := h.1 c5
    refine q_iconst (pc := 17) F (v := -1) dX5_lamp_17 (by decide) ?_
    exact q_iretR (pc := 18) F Z dX5_lamp_18 h
  · have h := h.2 c5
    refine q_iload_n (pc := 8) F 2 dX5_lamp_8 rfl ?_
    refine q_iconst (pc := 9) F (v := 0) dX5_lamp_9 (by decide) ?_
    refine q_iconst (pc := 10) F (v := 3) dX5_lamp_10 (by decide) ?_
    refine q_cR (q_runS (As := [.int p1, .int (0 : Int32), .int (3 : Int32)]) (rest := []) (pc := 11) F (fun l sz => ct_X5_in D cI cZ p1 (0 : Int32) (3 : Int32) h l sz) mc_yX5_in sm_yX5_in mlX5_48 ⟨by decide, by decide⟩ ⟨by decide, by decide⟩ ⟨rfl, rfl⟩ [] rfl rfl rfl rfl (Nat.le_of_ble_eq_true rfl) dX5_lamp_11) (fun r11 h => ?_)
    obtain ⟨hb11, h⟩ := h
    refine q_if_ne (pc := 14) (tgt := 19) F dX5_lamp_14 (by decide) (fun c14 => ?_) (fun c14 => ?_)
    · have h := h.2 c14
      refine q_iload_n (pc := 19) F 2 dX5_lamp_19 rfl ?_
      refine q_if_ne (pc := 20) (tgt := 35) F dX5_lamp_20 (by decide) (fun c20 => ?_) (fun c20 => ?_)
      · have h := h.2 c20
        refine q_iload_n (pc := 35) F 2 dX5_lamp_35 rfl ?_
        refine q_iconst (pc := 36) F (v := 1) dX5_lamp_36 (by decide) ?_
        refine q_icmp_ne (pc := 37) (tgt := 52) F dX5_lamp_37 (by decide) (fun c37 => ?_) (fun c37 => ?_)
        · have h := h.2 c37
          refine q_iload_n (pc := 52) F 2 dX5_lamp_52 rfl ?_
          refine q_iconst (pc := 53) F (v := 2) dX5_lamp_53 (by decide) ?_
          refine q_icmp_ne (pc := 54) (tgt := 68) F dX5_lamp_54 (by decide) (fun c54 => ?_) (fun c54 => ?_)
          · have h := h.2 c54
            refine q_aload_n (pc := 68) F 0 dX5_lamp_68 rfl ?_
            refine q_aload_n (pc := 69) F 0 dX5_lamp_69 rfl ?_
            refine q_get (pc := 70) F fgX5_13 0 rfl rfl dX5_lamp_70 ?_
            refine q_bipush (pc := 73) F (v := 7) dX5_lamp_73 (by decide) ?_
            refine q_iload_n (pc := 75) F 1 dX5_lamp_75 rfl ?_
            refine q_iadd (pc := 76) F dX5_lamp_76 ?_
            obtain ⟨hi77, h⟩ := h
            refine q_iald (pc := 77) F 1 rfl hi77 dX5_lamp_77 ?_
            refine q_aload_n (pc := 78) F 0 dX5_lamp_78 rfl ?_
            refine q_get (pc := 79) F fgX5_13 0 rfl rfl dX5_lamp_79 ?_
            refine q_bipush (pc := 82) F (v := 13) dX5_lamp_82 (by decide) ?_
            refine q_iload_n (pc := 84) F 1 dX5_lamp_84 rfl ?_
            refine q_iadd (pc := 85) F dX5_lamp_85 ?_
            obtain ⟨hi86, h⟩ := h
            refine q_iald (pc := 86) F 1 rfl hi86 dX5_lamp_86 ?_
            refine q_cR (q_runV (As := [.int (m_told (ix ((7 : Int32) + p0))), .int (m_told (ix ((13 : Int32) + p0)))]) (rest := []) (pc := 87) F (fun l sz => ct_X5_shines D cI cZ a_M a_M_text a_M_told a_M_draft a_M_s a_M_images a_M_kept a_M_light a_M_may a_M_shine a_M_worth a_M_least m_trace m_typed m_at m_sort m_start m_size m_told (m_told (ix ((7 : Int32) + p0))) (m_told (ix ((13 : Int32) + p0))) h l sz) mc_yX5_shines im_yX5_shines se_yX5_shines mlX5_131 ⟨by decide, by decide⟩ ⟨by decide, by decide⟩ ⟨rfl, rfl⟩ [0, 1] rfl rfl rfl 0 rfl rfl rfl (Nat.le_of_ble_eq_true rfl) dX5_lamp_87) (fun r87 h => ?_)
            exact q_iretR (pc := 90) F Z dX5_lamp_90 h
          · have h := h.1 c54
            refine q_aload_n (pc := 57) F 0 dX5_lamp_57 rfl ?_
            refine q_cR (q_runV (As := []) (rest := []) (pc := 58) F (fun l sz => ct_X5_lit D cI cZ a_M a_M_text a_M_told a_M_draft a_M_s a_M_images a_M_kept a_M_light a_M_may a_M_shine a_M_worth a_M_least m_trace m_typed m_at m_sort m_start m_size m_told m_s h l sz) mc_yX5_lit im_yX5_lit se_yX5_lit mlX5_150 ⟨by decide, by decide⟩ ⟨by decide, by decide⟩ ⟨rfl, rfl⟩ [0, 1, 2] rfl rfl rfl 0 rfl rfl rfl (Nat.le_of_ble_eq_true rfl) dX5_lamp_58) (fun r58 h => ?_)
            refine q_iload_n (pc := 61) F 1 dX5_lamp_61 rfl ?_
            refine q_ishr (pc := 62) F dX5_lamp_62 ?_
            refine q_iconst (pc := 63) F (v := 1) dX5_lamp_63 (by decide) ?_
            refine q_iand (pc := 64) F dX5_lamp_64 ?_
            refine q_goto (pc := 65) (tgt := 90) F dX5_lamp_65 (by decide) ?_
            exact q_iretR (pc := 90) F Z dX5_lamp_90 h
        · have h := h.1 c37
          refine q_aload_n (pc := 40) F 0 dX5_lamp_40 rfl ?_
          refine q_get (pc := 41) F fgX5_13 0 rfl rfl dX5_lamp_41 ?_
          refine q_bipush (pc := 44) F (v := 13) dX5_lamp_44 (by decide) ?_
          refine q_iload_n (pc := 46) F 1 dX5_lamp_46 rfl ?_
          refine q_iadd (pc := 47) F dX5_lamp_47 ?_
          obtain ⟨hi48, h⟩ := h
          refine q_iald (pc := 48) F 1 rfl hi48 dX5_lamp_48 ?_
          refine q_goto (pc := 49) (tgt := 90) F dX5_lamp_49 (by decide) ?_
          exact q_iretR (pc := 90) F Z dX5_lamp_90 h
      · have h := h.1 c20
        refine q_aload_n (pc := 23) F 0 dX5_lamp_23 rfl ?_
        refine q_get (pc := 24) F fgX5_13 0 rfl rfl dX5_lamp_24 ?_
        refine q_bipush (pc := 27) F (v := 7) dX5_lamp_27 (by decide) ?_
        refine q_iload_n (pc := 29) F 1 dX5_lamp_29 rfl ?_
        refine q_iadd (pc := 30) F dX5_lamp_30 ?_
        obtain ⟨hi31, h⟩ := h
        refine q_iald (pc := 31) F 1 rfl hi31 dX5_lamp_31 ?_
        refine q_goto (pc := 32) (tgt := 90) F dX5_lamp_32 (by decide) ?_
        exact q_iretR (pc := 90) F Z dX5_lamp_90 h
    · have h := h.1 c14
      refine q_iconst (pc := 17) F (v := -1) dX5_lamp_17 (by decide) ?_
      exact q_iretR (pc := 18) F Z dX5_lamp_18 h

def wp_X5_person_L25 (x1 : Int32) (m_s : Nat → Int32) (K62 : Int32 → Prop) : Nat → Int32 → Int32 → Prop
  | 0, _, _ => False
  | n + 1, x3, x4 => (((m_s 0) ≤ x4 → K62 x3) ∧ (¬ (m_s 0) ≤ x4 → (vp_in ((1 : Int32) + x4) 38 ∧ (jn (fun (K55 : Int32 → Prop) => (((m_s (ix ((1 : Int32) + x4))) = x1 → K55 x4) ∧ (¬ (m_s (ix ((1 : Int32) + x4))) = x1 → K55 x3))) (fun (y55 : Int32) => wp_X5_person_L25 x1 m_s K62 n y55 (x4 + (1 : Int32)))))))
def wp_X5_person (p0 : Int32) (p1 : Int32) (m_told : Nat → Int32) (m_s : Nat → Int32) (post : Int32 → Prop) : Prop := (wp_X5_isPerson p0 m_told (fun (r2 : Int32) => ((r2 = (0 : Int32) → post (-1 : Int32)) ∧ (¬ r2 = (0 : Int32) → (wp_X5_in p1 (0 : Int32) (3 : Int32) (fun (r11 : Int32) => ((r11 = (0 : Int32) → post (-1 : Int32)) ∧ (¬ r11 = (0 : Int32) → (jn (fun (K62 : Int32 → Prop) => (∃ n25 : Nat, wp_X5_person_L25 p0 m_s K62 n25 (-9 : Int32) (0 : Int32))) (fun (x3_62 : Int32) => (((3 : Int32) ≤ p1 → post x3_62) ∧ (¬ (3 : Int32) ≤ p1 → (vp_in (((19 : Int32) + ((6 : Int32) * p1)) + p0) 43 ∧ post (m_told (ix (((19 : Int32) + ((6 : Int32) * p1)) + p0))))))))))))))))
abbrev rm_X5_person : Room := { frames := 2, cells := 0, slots := 0, locals := 43 }
set_option maxRecDepth 100000 in
set_option maxHeartbeats 4000000 in
theorem ct_X5_person (D : va_G) (cI cZ : ClassId) (a_M a_M_text a_M_told a_M_draft a_M_s a_M_images a_M_kept a_M_light a_M_may a_M_shine a_M_worth a_M_least : Nat) (m_trace : Int64) (m_typed : Int32) (m_at : Int32) (m_sort : Int32) (m_start : Int32) (m_size : Int32) (m_told : Nat → Int32) (m_s : Nat → Int32) (p0 : Int32) (p1 : Int32) {post : Int32 → Prop} (h : wp_X5_person p0 p1 m_told m_s post) (l : Launch) (sz : Nat) : Met l yX5_person (wsM yX5_person cX5_person 5 (some .int)) rm_X5_person (va_Pc [.ref a_M, .int p0, .int p1] (gP D cI cZ [(a_M, .inr (5, [.long m_trace, .ref a_M_text, .int m_typed, .ref a_M_told, .ref a_M_draft, .ref a_M_s, .ref a_M_images, .ref a_M_kept, .int m_at, .int m_sort, .int m_start, .int m_size, .ref a_M_light, .ref a_M_may, .ref a_M_shine, .ref a_M_worth, .ref a_M_least])), (a_M_told, .inl (cI, 43, .inl m_told)), (a_M_s, .inl (cI, 38, .inl m_s))] sz)) (gR post) 0 0 (fun _ => False) := by
  refine q_startR (own := RX5) (by decide +kernel) rfl (Nat.le_of_ble_eq_true rfl) (fun E F Z => ?_)
  show Wg E [(a_M, .inr (5, [.long m_trace, .ref a_M_text, .int m_typed, .ref a_M_told, .ref a_M_draft, .ref a_M_s, .ref a_M_images, .ref a_M_kept, .int m_at, .int m_sort, .int m_start, .int m_size, .ref a_M_light, .ref a_M_may, .ref a_M_shine, .ref a_M_worth, .ref a_M_least])), (a_M_told, .inl (cI, 43, .inl m_told)), (a_M_s, .inl (cI, 38, .inl m_s))] 0 0 0 [(0, .ref a_M), (1, .int p0), (2, .int p1)] []
  unfold wp_X5_person at h
  refine q_aload_n (pc := 0) F 0 dX5_person_0 rfl ?_
  refine q_iload_n (pc := 1) F 1 dX5_person_1 rfl ?_
  refine q_cR (q_runV (As := [.int p0]) (rest := []) (pc := 2) F (fun l sz => ct_X5_isPerson D cI cZ a_M a_M_text a_M_told a_M_draft a_M_s a_M_images a_M_kept a_M_light a_M_may a_M_shine a_M_worth a_M_least m_trace m_typed m_at m_sort m_start m_size m_told p0 h l sz) mc_yX5_isPerson im_yX5_isPerson se_yX5_isPerson mlX5_156 ⟨by decide, by decide⟩ ⟨by decide, by decide⟩ ⟨rfl, rfl⟩ [0, 1] rfl rfl rfl 0 rfl rfl rfl (Nat.le_of_ble_eq_true rfl) dX5_person_2) (fun r2 h => ?_)
  obtain ⟨hb2, h⟩ := h
  refine q_if_eq (pc := 5) (tgt := 17) F dX5_person_5 (by decide) (fun c5 => ?_) (fun c5 => ?_)
  · have h := h.1 c5
    refine q_iconst (pc := 17) F (v := -1) dX5_person_17 (by decide) ?_
    exact q_iretR (pc := 18) F Z dX5_person_18 h
  · have h := h.2 c5
    refine q_iload_n (pc := 8) F 2 dX5_person_8 rfl ?_
    refine q_iconst (pc := 9) F (v := 0) dX5_person_9 (by decide) ?_
    refine q_iconst (pc := 10) F (v := 3) dX5_person_10 (by decide) ?_
    refine q_cR (q_runS (As := [.int p1, .int (0 : Int32), .int (3 : Int32)]) (rest := []) (pc := 11) F (fun l sz => ct_X5_in D cI cZ p1 (0 : Int32) (3 : Int32) h l sz) mc_yX5_in sm_yX5_in mlX5_48 ⟨by decide, by decide⟩ ⟨by decide, by decide⟩ ⟨rfl, rfl⟩ [] rfl rfl rfl rfl (Nat.le_of_ble_eq_true rfl) dX5_person_11) (fun r11 h => ?_)
    obtain ⟨hb11, h⟩ := h
    refine q_if_ne (pc := 14) (tgt := 19) F dX5_person_14 (by decide) (fun c14 => ?_) (fun c14 => ?_)
    · have h := h.2 c14
      refine q_bipush (pc := 19) F (v := -9) dX5_person_19 (by decide) ?_
      refine q_istore_n (pc := 21) F (lv' := [(3, .int (-9 : Int32)), (0, .ref a_M), (1, .int p0), (2, .int p1)]) dX5_person_21 (by decide) rfl ?_
      refine q_iconst (pc := 22) F (v := 0) dX5_person_22 (by decide) ?_
      refine q_istore (pc := 23) F (lv' := [(4, .int (0 : Int32)), (3, .int (-9 : Int32)), (0, .ref a_M), (1, .int p0), (2, .int p1)]) dX5_person_23 (by decide) rfl ?_
      refine jnW h (fun K => ∀ (x3_62 : Int32), K x3_62 → Wg E [(a_M, .inr (5, [.long m_trace, .ref a_M_text, .int m_typed, .ref a_M_told, .ref a_M_draft, .ref a_M_s, .ref a_M_images, .ref a_M_kept, .int m_at, .int m_sort, .int m_start, .int m_size, .ref a_M_light, .ref a_M_may, .ref a_M_shine, .ref a_M_worth, .ref a_M_least])), (a_M_told, .inl (cI, 43, .inl m_told)), (a_M_s, .inl (cI, 38, .inl m_s))] 0 0 62 [(0, .ref a_M), (1, .int p0), (2, .int p1), (3, .int x3_62)] []) ?_ ?_
      · intro x3_62 h
        refine q_iload_n (pc := 62) F 2 dX5_person_62 rfl ?_
        refine q_iconst (pc := 63) F (v := 3) dX5_person_63 (by decide) ?_
        refine q_icmp_ge (pc := 64) (tgt := 84) F dX5_person_64 (by decide) (fun c64 => ?_) (fun c64 => ?_)
        · have h := h.1 c64
          refine q_iload_n (pc := 84) F 3 dX5_person_84 rfl ?_
          exact q_iretR (pc := 85) F Z dX5_person_85 h
        · have h := h.2 c64
          refine q_aload_n (pc := 67) F 0 dX5_person_67 rfl ?_
          refine q_get (pc := 68) F fgX5_13 0 rfl rfl dX5_person_68 ?_
          refine q_bipush (pc := 71) F (v := 19) dX5_person_71 (by decide) ?_
          refine q_bipush (pc := 73) F (v := 6) dX5_person_73 (by decide) ?_
          refine q_iload_n (pc := 75) F 2 dX5_person_75 rfl ?_
          refine q_imul (pc := 76) F dX5_person_76 ?_
          refine q_iadd (pc := 77) F dX5_person_77 ?_
          refine q_iload_n (pc := 78) F 1 dX5_person_78 rfl ?_
          refine q_iadd (pc := 79) F dX5_person_79 ?_
          obtain ⟨hi80, h⟩ := h
          refine q_iald (pc := 80) F 1 rfl hi80 dX5_person_80 ?_
          refine q_goto (pc := 81) (tgt := 85) F dX5_person_81 (by decide) ?_
          exact q_iretR (pc := 85) F Z dX5_person_85 h
      · intro K62 J62 h
        obtain ⟨n25, h⟩ := h
        have lp25 : ∀ (n : Nat) (x3_h25 : Int32) (x4_h25 : Int32), wp_X5_person_L25 p0 m_s K62 n x3_h25 x4_h25 → Wg E [(a_M, .inr (5, [.long m_trace, .ref a_M_text, .int m_typed, .ref a_M_told, .ref a_M_draft, .ref a_M_s, .ref a_M_images, .ref a_M_kept, .int m_at, .int m_sort, .int m_start, .int m_size, .ref a_M_light, .ref a_M_may, .ref a_M_shine, .ref a_M_worth, .ref a_M_least])), (a_M_told, .inl (cI, 43, .inl m_told)), (a_M_s, .inl (cI, 38, .inl m_s))] 0 0 25 [(0, .ref a_M), (1, .int p0), (2, .int p1), (3, .int x3_h25), (4, .int x4_h25)] [] := by
          intro n
          induction n with
          | zero => intro x3_h25 x4_h25 h; exact h.elim
          | succ n ih =>
            intro x3_h25 x4_h25 h
            unfold wp_X5_person_L25 at h
            refine q_iload (pc := 25) F 4 dX5_person_25 rfl ?_
            refine q_aload_n (pc := 27) F 0 dX5_person_27 rfl ?_
            refine q_get (pc := 28) F fgX5_19 0 rfl rfl dX5_person_28 ?_
            refine q_iconst (pc := 31) F (v := 0) dX5_person_31 (by decide) ?_
            refine q_ialdk (pc := 32) F (k9 := 0) 2 rfl (vpd (by decide +kernel)) (by decide +kernel) dX5_person_32 ?_
            refine q_icmp_ge (pc := 33) (tgt := 62) F dX5_person_33 (by decide) (fun c33 => ?_) (fun c33 => ?_)
            · have h := h.1 c33
              refine q_lv (lv' := [(0, .ref a_M), (1, .int p0), (2, .int p1), (3, .int x3_h25)]) [0, 1, 2, 3] rfl ?_
              exact J62 x3_h25 h
            · have h := h.2 c33
              refine q_aload_n (pc := 36) F 0 dX5_person_36 rfl ?_
              refine q_get (pc := 37) F fgX5_19 0 rfl rfl dX5_person_37 ?_
              refine q_iconst (pc := 40) F (v := 1) dX5_person_40 (by decide) ?_
              refine q_iload (pc := 41) F 4 dX5_person_41 rfl ?_
              refine q_iadd (pc := 43) F dX5_person_43 ?_
              obtain ⟨hi44, h⟩ := h
              refine q_iald (pc := 44) F 2 rfl hi44 dX5_person_44 ?_
              refine q_iload_n (pc := 45) F 1 dX5_person_45 rfl ?_
              refine jnW h (fun K => ∀ (y55 : Int32), K y55 → Wg E [(a_M, .inr (5, [.long m_trace, .ref a_M_text, .int m_typed, .ref a_M_told, .ref a_M_draft, .ref a_M_s, .ref a_M_images, .ref a_M_kept, .int m_at, .int m_sort, .int m_start, .int m_size, .ref a_M_light, .ref a_M_may, .ref a_M_shine, .ref a_M_worth, .ref a_M_least])), (a_M_told, .inl (cI, 43, .inl m_told)), (a_M_s, .inl (cI, 38, .inl m_s))] 0 0 55 [(0, .ref a_M), (1, .int p0), (2, .int p1), (4, .int x4_h25)] [.int y55]) ?_ ?_
              · intro y55 h
                refine q_istore_n (pc := 55) F (lv' := [(3, .int y55), (0, .ref a_M), (1, .int p0), (2, .int p1), (4, .int x4_h25)]) dX5_person_55 (by decide) rfl ?_
                refine q_iinc (pc := 56) F (v := x4_h25 + (1 : Int32)) (lv' := [(4, .int (x4_h25 + (1 : Int32))), (3, .int y55), (0, .ref a_M), (1, .int p0), (2, .int p1)]) 4 dX5_person_56 rfl rfl (by decide) rfl ?_
                refine q_goto (pc := 59) (tgt := 25) F dX5_person_59 (by decide) ?_
                refine q_lv (lv' := [(0, .ref a_M), (1, .int p0), (2, .int p1), (3, .int y55), (4, .int (x4_h25 + (1 : Int32)))]) [2, 3, 4, 1, 0] rfl ?_
                exact ih y55 (x4_h25 + (1 : Int32)) h
              · intro K55 J55 h
                refine q_icmp_ne (pc := 46) (tgt := 54) F dX5_person_46 (by decide) (fun c46 => ?_) (fun c46 => ?_)
                · have h := h.2 c46
                  refine q_iload_n (pc := 54) F 3 dX5_person_54 rfl ?_
                  refine q_lv (lv' := [(0, .ref a_M), (1, .int p0), (2, .int p1), (4, .int x4_h25)]) [0, 1, 2, 4] rfl ?_
                  exact J55 x3_h25 h
                · have h := h.1 c46
                  refine q_iload (pc := 49) F 4 dX5_person_49 rfl ?_
                  refine q_goto (pc := 51) (tgt := 55) F dX5_person_51 (by decide) ?_
                  refine q_lv (lv' := [(0, .ref a_M), (1, .int p0), (2, .int p1), (4, .int x4_h25)]) [0, 1, 2, 4] rfl ?_
                  exact J55 x4_h25 h
        refine q_lv (lv' := [(0, .ref a_M), (1, .int p0), (2, .int p1), (3, .int (-9 : Int32)), (4, .int (0 : Int32))]) [2, 3, 4, 1, 0] rfl ?_
        exact lp25 n25 (-9 : Int32) (0 : Int32) h
    · have h := h.1 c14
      refine q_iconst (pc := 17) F (v := -1) dX5_person_17 (by decide) ?_
      exact q_iretR (pc := 18) F Z dX5_person_18 h

def wp_X5_can (p0 : Int32) (m_told : Nat → Int32) (m_s : Nat → Int32) (m_light : Nat → Int32) (m_may : Nat → Int32) (m_shine : Nat → Int32) (post : Int32 → (Nat → Int32) → (Nat → Int32) → (Nat → Int32) → Prop) : Prop := (wp_X5_isPerson p0 m_told (fun (r2 : Int32) => ((r2 = (0 : Int32) → post (-1 : Int32) m_light m_may m_shine) ∧ (¬ r2 = (0 : Int32) → (wp_X5_gone m_s (fun (r11 : Int32) => ((((jshr r11 p0) &&& (1 : Int32)) = (1 : Int32) → post (-2 : Int32) m_light m_may m_shine) ∧ (¬ ((jshr r11 p0) &&& (1 : Int32)) = (1 : Int32) → (wp_X5_lights (0 : Int32) m_told m_light m_may m_shine (fun (m_light_27 : Nat → Int32) (m_may_27 : Nat → Int32) (m_shine_27 : Nat → Int32) => (wp_X5_lit m_told m_s (fun (r35 : Int32) => (vp_in r35 128 ∧ post ((jshr (m_may_27 (ix r35)) p0) &&& (1 : Int32)) m_light_27 m_may_27 m_shine_27)))))))))))))
abbrev rm_X5_can : Room := { frames := 4, cells := 0, slots := 0, locals := 97 }
set_option maxRecDepth 100000 in
set_option maxHeartbeats 4000000 in
theorem ct_X5_can (D : va_G) (cI cZ : ClassId) (a_M a_M_text a_M_told a_M_draft a_M_s a_M_images a_M_kept a_M_light a_M_may a_M_shine a_M_worth a_M_least : Nat) (m_trace : Int64) (m_typed : Int32) (m_at : Int32) (m_sort : Int32) (m_start : Int32) (m_size : Int32) (m_told : Nat → Int32) (m_s : Nat → Int32) (m_light : Nat → Int32) (m_may : Nat → Int32) (m_shine : Nat → Int32) (p0 : Int32) {post : Int32 → (Nat → Int32) → (Nat → Int32) → (Nat → Int32) → Prop} (h : wp_X5_can p0 m_told m_s m_light m_may m_shine post) (l : Launch) (sz : Nat) : Met l yX5_can (wsM yX5_can cX5_can 2 (some .int)) rm_X5_can (va_Pc [.ref a_M, .int p0] (gP D cI cZ [(a_M, .inr (5, [.long m_trace, .ref a_M_text, .int m_typed, .ref a_M_told, .ref a_M_draft, .ref a_M_s, .ref a_M_images, .ref a_M_kept, .int m_at, .int m_sort, .int m_start, .int m_size, .ref a_M_light, .ref a_M_may, .ref a_M_shine, .ref a_M_worth, .ref a_M_least])), (a_M_told, .inl (cI, 43, .inl m_told)), (a_M_s, .inl (cI, 38, .inl m_s)), (a_M_light, .inl (cI, 128, .inl m_light)), (a_M_may, .inl (cI, 128, .inl m_may)), (a_M_shine, .inl (cI, 7, .inl m_shine))] sz)) (gQi D (fun r (u : (Nat → Int32) × (Nat → Int32) × (Nat → Int32)) => post r u.1 u.2.1 u.2.2) (fun (u : (Nat → Int32) × (Nat → Int32) × (Nat → Int32)) => [(a_M, .inr (5, [.long m_trace, .ref a_M_text, .int m_typed, .ref a_M_told, .ref a_M_draft, .ref a_M_s, .ref a_M_images, .ref a_M_kept, .int m_at, .int m_sort, .int m_start, .int m_size, .ref a_M_light, .ref a_M_may, .ref a_M_shine, .ref a_M_worth, .ref a_M_least])), (a_M_told, .inl (cI, 43, .inl m_told)), (a_M_s, .inl (cI, 38, .inl m_s)), (a_M_light, .inl (cI, 128, .inl u.1)), (a_M_may, .inl (cI, 128, .inl u.2.1)), (a_M_shine, .inl (cI, 7, .inl u.2.2))]) [(a_M, .inr (5, [.long m_trace, .ref a_M_text, .int m_typed, .ref a_M_told, .ref a_M_draft, .ref a_M_s, .ref a_M_images, .ref a_M_kept, .int m_at, .int m_sort, .int m_start, .int m_size, .ref a_M_light, .ref a_M_may, .ref a_M_shine, .ref a_M_worth, .ref a_M_least])), (a_M_told, .inl (cI, 43, .inl m_told)), (a_M_s, .inl (cI, 38, .inl m_s)), (a_M_light, .inl (cI, 128, .inl m_light)), (a_M_may, .inl (cI, 128, .inl m_may)), (a_M_shine, .inl (cI, 7, .inl m_shine))] sz) 0 0 (va_A [(a_M, .inr (5, [.long m_trace, .ref a_M_text, .int m_typed, .ref a_M_told, .ref a_M_draft, .ref a_M_s, .ref a_M_images, .ref a_M_kept, .int m_at, .int m_sort, .int m_start, .int m_size, .ref a_M_light, .ref a_M_may, .ref a_M_shine, .ref a_M_worth, .ref a_M_least])), (a_M_told, .inl (cI, 43, .inl m_told)), (a_M_s, .inl (cI, 38, .inl m_s)), (a_M_light, .inl (cI, 128, .inl m_light)), (a_M_may, .inl (cI, 128, .inl m_may)), (a_M_shine, .inl (cI, 7, .inl m_shine))] sz) := by
  refine q_startM (own := RX5) (Qc := gQi D (fun r (u : (Nat → Int32) × (Nat → Int32) × (Nat → Int32)) => post r u.1 u.2.1 u.2.2) (fun (u : (Nat → Int32) × (Nat → Int32) × (Nat → Int32)) => [(a_M, .inr (5, [.long m_trace, .ref a_M_text, .int m_typed, .ref a_M_told, .ref a_M_draft, .ref a_M_s, .ref a_M_images, .ref a_M_kept, .int m_at, .int m_sort, .int m_start, .int m_size, .ref a_M_light, .ref a_M_may, .ref a_M_shine, .ref a_M_worth, .ref a_M_least])), (a_M_told, .inl (cI, 43, .inl m_told)), (a_M_s, .inl (cI, 38, .inl m_s)), (a_M_light, .inl (cI, 128, .inl u.1)), (a_M_may, .inl (cI, 128, .inl u.2.1)), (a_M_shine, .inl (cI, 7, .inl u.2.2))]) [(a_M, .inr (5, [.long m_trace, .ref a_M_text, .int m_typed, .ref a_M_told, .ref a_M_draft, .ref a_M_s, .ref a_M_images, .ref a_M_kept, .int m_at, .int m_sort, .int m_start, .int m_size, .ref a_M_light, .ref a_M_may, .ref a_M_shine, .ref a_M_worth, .ref a_M_least])), (a_M_told, .inl (cI, 43, .inl m_told)), (a_M_s, .inl (cI, 38, .inl m_s)), (a_M_light, .inl (cI, 128, .inl m_light)), (a_M_may, .inl (cI, 128, .inl m_may)), (a_M_shine, .inl (cI, 7, .inl m_shine))]) (by decide +kernel) rfl (Nat.le_of_ble_eq_true rfl) (fun E F Z M => ?_)
  show Wg E [(a_M, .inr (5, [.long m_trace, .ref a_M_text, .int m_typed, .ref a_M_told, .ref a_M_draft, .ref a_M_s, .ref a_M_images, .ref a_M_kept, .int m_at, .int m_sort, .int m_start, .int m_size, .ref a_M_light, .ref a_M_may, .ref a_M_shine, .ref a_M_worth, .ref a_M_least])), (a_M_told, .inl (cI, 43, .inl m_told)), (a_M_s, .inl (cI, 38, .inl m_s)), (a_M_light, .inl (cI, 128, .inl m_light)), (a_M_may, .inl (cI, 128, .inl m_may)), (a_M_shine, .inl (cI, 7, .inl m_shine))] 0 0 0 [(0, .ref a_M), (1, .int p0)] []
  unfold wp_X5_can at h
  refine q_aload_n (pc := 0) F 0 dX5_can_0 rfl ?_
  refine q_iload_n (pc := 1) F 1 dX5_can_1 rfl ?_
  refine q_cR (q_runV (As := [.int p0]) (rest := []) (pc := 2) F (fun l sz => ct_X5_isPerson D cI cZ a_M a_M_text a_M_told a_M_draft a_M_s a_M_images a_M_kept a_M_light a_M_may a_M_shine a_M_worth a_M_least m_trace m_typed m_at m_sort m_start m_size m_told p0 h l sz) mc_yX5_isPerson im_yX5_isPerson se_yX5_isPerson mlX5_156 ⟨by decide, by decide⟩ ⟨by decide, by decide⟩ ⟨rfl, rfl⟩ [0, 1] rfl rfl rfl 0 rfl rfl rfl (Nat.le_of_ble_eq_true rfl) dX5_can_2) (fun r2 h => ?_)
  obtain ⟨hb2, h⟩ := h
  refine q_if_ne (pc := 5) (tgt := 10) F dX5_can_5 (by decide) (fun c5 => ?_) (fun c5 => ?_)
  · have h := h.2 c5
    refine q_aload_n (pc := 10) F 0 dX5_can_10 rfl ?_
    refine q_cR (q_runV (As := []) (rest := []) (pc := 11) F (fun l sz => ct_X5_gone D cI cZ a_M a_M_text a_M_told a_M_draft a_M_s a_M_images a_M_kept a_M_light a_M_may a_M_shine a_M_worth a_M_least m_trace m_typed m_at m_sort m_start m_size m_s h l sz) mc_yX5_gone im_yX5_gone se_yX5_gone mlX5_159 ⟨by decide, by decide⟩ ⟨by decide, by decide⟩ ⟨rfl, rfl⟩ [0, 2] rfl rfl rfl 0 rfl rfl rfl (Nat.le_of_ble_eq_true rfl) dX5_can_11) (fun r11 h => ?_)
    refine q_iload_n (pc := 14) F 1 dX5_can_14 rfl ?_
    refine q_ishr (pc := 15) F dX5_can_15 ?_
    refine q_iconst (pc := 16) F (v := 1) dX5_can_16 (by decide) ?_
    refine q_iand (pc := 17) F dX5_can_17 ?_
    refine q_iconst (pc := 18) F (v := 1) dX5_can_18 (by decide) ?_
    refine q_icmp_ne (pc := 19) (tgt := 25) F dX5_can_19 (by decide) (fun c19 => ?_) (fun c19 => ?_)
    · have h := h.2 c19
      refine q_aload_n (pc := 25) F 0 dX5_can_25 rfl ?_
      refine q_iconst (pc := 26) F (v := 0) dX5_can_26 (by decide) ?_
      refine q_cMv (wr := [(a_M_s, .inl (cI, 38, .inl m_s))]) (pc := 27) F M (q_runV (As := [.int (0 : Int32)]) (rest := []) (pc := 27) F (fun l sz => ct_X5_lights D cI cZ a_M a_M_text a_M_told a_M_draft a_M_s a_M_images a_M_kept a_M_light a_M_may a_M_shine a_M_worth a_M_least m_trace m_typed m_at m_sort m_start m_size m_told m_light m_may m_shine (0 : Int32) h l sz) mc_yX5_lights im_yX5_lights se_yX5_lights mlX5_146 ⟨by decide, by decide⟩ ⟨by decide, by decide⟩ ⟨rfl, rfl⟩ [0, 1, 3, 4, 5] rfl rfl rfl 0 rfl rfl rfl (Nat.le_of_ble_eq_true rfl) dX5_can_27) [0, 1, 3, 4, 5] [2] rfl rfl rfl (by decide) (fun u27 h => ?_)
      obtain ⟨m_light_27, m_may_27, m_shine_27⟩ := u27
      refine q_cs (cs' := [(a_M, .inr (5, [.long m_trace, .ref a_M_text, .int m_typed, .ref a_M_told, .ref a_M_draft, .ref a_M_s, .ref a_M_images, .ref a_M_kept, .int m_at, .int m_sort, .int m_start, .int m_size, .ref a_M_light, .ref a_M_may, .ref a_M_shine, .ref a_M_worth, .ref a_M_least])), (a_M_told, .inl (cI, 43, .inl m_told)), (a_M_s, .inl (cI, 38, .inl m_s)), (a_M_light, .inl (cI, 128, .inl m_light_27)), (a_M_may, .inl (cI, 128, .inl m_may_27)), (a_M_shine, .inl (cI, 7, .inl m_shine_27))]) [1, 2, 0, 3, 4, 5] rfl rfl ?_
      refine q_aload_n (pc := 30) F 0 dX5_can_30 rfl ?_
      refine q_get (pc := 31) F fgX5_32 0 rfl rfl dX5_can_31 ?_
      refine q_aload_n (pc := 34) F 0 dX5_can_34 rfl ?_
      refine q_cR (q_runV (As := []) (rest := [.ref a_M_may]) (pc := 35) F (fun l sz => ct_X5_lit D cI cZ a_M a_M_text a_M_told a_M_draft a_M_s a_M_images a_M_kept a_M_light a_M_may a_M_shine a_M_worth a_M_least m_trace m_typed m_at m_sort m_start m_size m_told m_s h l sz) mc_yX5_lit im_yX5_lit se_yX5_lit mlX5_150 ⟨by decide, by decide⟩ ⟨by decide, by decide⟩ ⟨rfl, rfl⟩ [0, 1, 2] rfl rfl rfl 0 rfl rfl rfl (Nat.le_of_ble_eq_true rfl) dX5_can_35) (fun r35 h => ?_)
      obtain ⟨hi38, h⟩ := h
      refine q_iald (pc := 38) F 4 rfl hi38 dX5_can_38 ?_
      refine q_iload_n (pc := 39) F 1 dX5_can_39 rfl ?_
      refine q_ishr (pc := 40) F dX5_can_40 ?_
      refine q_iconst (pc := 41) F (v := 1) dX5_can_41 (by decide) ?_
      refine q_iand (pc := 42) F dX5_can_42 ?_
      exact q_iretM (pc := 43) F Z dX5_can_43 (m_light_27, m_may_27, m_shine_27) h rfl
    · have h := h.1 c19
      refine q_bipush (pc := 22) F (v := -2) dX5_can_22 (by decide) ?_
      exact q_iretM (pc := 24) F Z dX5_can_24 (m_light, m_may, m_shine) h rfl
  · have h := h.1 c5
    refine q_iconst (pc := 8) F (v := -1) dX5_can_8 (by decide) ?_
    exact q_iretM (pc := 9) F Z dX5_can_9 (m_light, m_may, m_shine) h rfl

def wp_X5_leaves (p0 : Int32) (p1 : Int32) (m_told : Nat → Int32) (m_s : Nat → Int32) (m_light : Nat → Int32) (m_may : Nat → Int32) (m_shine : Nat → Int32) (post : Int32 → (Nat → Int32) → (Nat → Int32) → (Nat → Int32) → (Nat → Int32) → Prop) : Prop := (wp_X5_isPerson p0 m_told (fun (r2 : Int32) => ((r2 = (0 : Int32) → post (-1 : Int32) m_s m_light m_may m_shine) ∧ (¬ r2 = (0 : Int32) → (wp_X5_isLamp p1 m_told (fun (r10 : Int32) => ((r10 = (0 : Int32) → post (-1 : Int32) m_s m_light m_may m_shine) ∧ (¬ r10 = (0 : Int32) → (wp_X5_lights (0 : Int32) m_told m_light m_may m_shine (fun (m_light_20 : Nat → Int32) (m_may_20 : Nat → Int32) (m_shine_20 : Nat → Int32) => (wp_X5_gone m_s (fun (r24 : Int32) => ((((jshr r24 p0) &&& (1 : Int32)) = (1 : Int32) → post (-2 : Int32) m_s m_light_20 m_may_20 m_shine_20) ∧ (¬ ((jshr r24 p0) &&& (1 : Int32)) = (1 : Int32) → (wp_X5_lit m_told m_s (fun (r40 : Int32) => (vp_in r40 128 ∧ ((((jshr (m_may_20 (ix r40)) p0) &&& (1 : Int32)) = (0 : Int32) → post (-2 : Int32) m_s m_light_20 m_may_20 m_shine_20) ∧ (¬ ((jshr (m_may_20 (ix r40)) p0) &&& (1 : Int32)) = (0 : Int32) → (wp_X5_lit m_told m_s (fun (r52 : Int32) => ((((jshr r52 p1) &&& (1 : Int32)) = (0 : Int32) → post (-2 : Int32) m_s m_light_20 m_may_20 m_shine_20) ∧ (¬ ((jshr r52 p1) &&& (1 : Int32)) = (0 : Int32) → (vp_in ((1 : Int32) + (m_s 0)) 38 ∧ (vp_in ((7 : Int32) + ((upd m_s (ix ((1 : Int32) + (m_s 0))) p0) 0)) 38 ∧ post ((upd (upd (upd m_s (ix ((1 : Int32) + (m_s 0))) p0) (ix ((7 : Int32) + ((upd m_s (ix ((1 : Int32) + (m_s 0))) p0) 0))) p1) 0 (((upd (upd m_s (ix ((1 : Int32) + (m_s 0))) p0) (ix ((7 : Int32) + ((upd m_s (ix ((1 : Int32) + (m_s 0))) p0) 0))) p1) 0) + (1 : Int32))) 0) (upd (upd (upd m_s (ix ((1 : Int32) + (m_s 0))) p0) (ix ((7 : Int32) + ((upd m_s (ix ((1 : Int32) + (m_s 0))) p0) 0))) p1) 0 (((upd (upd m_s (ix ((1 : Int32) + (m_s 0))) p0) (ix ((7 : Int32) + ((upd m_s (ix ((1 : Int32) + (m_s 0))) p0) 0))) p1) 0) + (1 : Int32))) m_light_20 m_may_20 m_shine_20)))))))))))))))))))))))))
abbrev rm_X5_leaves : Room := { frames := 4, cells := 0, slots := 0, locals := 97 }
set_option maxRecDepth 100000 in
set_option maxHeartbeats 4000000 in
theorem ct_X5_leaves (D : va_G) (cI cZ : ClassId) (a_M a_M_text a_M_told a_M_draft a_M_s a_M_images a_M_kept a_M_light a_M_may a_M_shine a_M_worth a_M_least : Nat) (m_trace : Int64) (m_typed : Int32) (m_at : Int32) (m_sort : Int32) (m_start : Int32) (m_size : Int32) (m_told : Nat → Int32) (m_s : Nat → Int32) (m_light : Nat → Int32) (m_may : Nat → Int32) (m_shine : Nat → Int32) (p0 : Int32) (p1 : Int32) {post : Int32 → (Nat → Int32) → (Nat → Int32) → (Nat → Int32) → (Nat → Int32) → Prop} (h : wp_X5_leaves p0 p1 m_told m_s m_light m_may m_shine post) (l : Launch) (sz : Nat) : Met l yX5_leaves (wsM yX5_leaves cX5_leaves 3 (some .int)) rm_X5_leaves (va_Pc [.ref a_M, .int p0, .int p1] (gP D cI cZ [(a_M, .inr (5, [.long m_trace, .ref a_M_text, .int m_typed, .ref a_M_told, .ref a_M_draft, .ref a_M_s, .ref a_M_images, .ref a_M_kept, .int m_at, .int m_sort, .int m_start, .int m_size, .ref a_M_light, .ref a_M_may, .ref a_M_shine, .ref a_M_worth, .ref a_M_least])), (a_M_told, .inl (cI, 43, .inl m_told)), (a_M_s, .inl (cI, 38, .inl m_s)), (a_M_light, .inl (cI, 128, .inl m_light)), (a_M_may, .inl (cI, 128, .inl m_may)), (a_M_shine, .inl (cI, 7, .inl m_shine))] sz)) (gQi D (fun r (u : (Nat → Int32) × (Nat → Int32) × (Nat → Int32) × (Nat → Int32)) => post r u.1 u.2.1 u.2.2.1 u.2.2.2) (fun (u : (Nat → Int32) × (Nat → Int32) × (Nat → Int32) × (Nat → Int32)) => [(a_M, .inr (5, [.long m_trace, .ref a_M_text, .int m_typed, .ref a_M_told, .ref a_M_draft, .ref a_M_s, .ref a_M_images, .ref a_M_kept, .int m_at, .int m_sort, .int m_start, .int m_size, .ref a_M_light, .ref a_M_may, .ref a_M_shine, .ref a_M_worth, .ref a_M_least])), (a_M_told, .inl (cI, 43, .inl m_told)), (a_M_s, .inl (cI, 38, .inl u.1)), (a_M_light, .inl (cI, 128, .inl u.2.1)), (a_M_may, .inl (cI, 128, .inl u.2.2.1)), (a_M_shine, .inl (cI, 7, .inl u.2.2.2))]) [(a_M, .inr (5, [.long m_trace, .ref a_M_text, .int m_typed, .ref a_M_told, .ref a_M_draft, .ref a_M_s, .ref a_M_images, .ref a_M_kept, .int m_at, .int m_sort, .int m_start, .int m_size, .ref a_M_light, .ref a_M_may, .ref a_M_shine, .ref a_M_worth, .ref a_M_least])), (a_M_told, .inl (cI, 43, .inl m_told)), (a_M_s, .inl (cI, 38, .inl m_s)), (a_M_light, .inl (cI, 128, .inl m_light)), (a_M_may, .inl (cI, 128, .inl m_may)), (a_M_shine, .inl (cI, 7, .inl m_shine))] sz) 0 0 (va_A [(a_M, .inr (5, [.long m_trace, .ref a_M_text, .int m_typed, .ref a_M_told, .ref a_M_draft, .ref a_M_s, .ref a_M_images, .ref a_M_kept, .int m_at, .int m_sort, .int m_start, .int m_size, .ref a_M_light, .ref a_M_may, .ref a_M_shine, .ref a_M_worth, .ref a_M_least])), (a_M_told, .inl (cI, 43, .inl m_told)), (a_M_s, .inl (cI, 38, .inl m_s)), (a_M_light, .inl (cI, 128, .inl m_light)), (a_M_may, .inl (cI, 128, .inl m_may)), (a_M_shine, .inl (cI, 7, .inl m_shine))] sz) := by
  refine q_startM (own := RX5) (Qc := gQi D (fun r (u : (Nat → Int32) × (Nat → Int32) × (Nat → Int32) × (Nat → Int32)) => post r u.1 u.2.1 u.2.2.1 u.2.2.2) (fun (u : (Nat → Int32) × (Nat → Int32) × (Nat → Int32) × (Nat → Int32)) => [(a_M, .inr (5, [.long m_trace, .ref a_M_text, .int m_typed, .ref a_M_told, .ref a_M_draft, .ref a_M_s, .ref a_M_images, .ref a_M_kept, .int m_at, .int m_sort, .int m_start, .int m_size, .ref a_M_light, .ref a_M_may, .ref a_M_shine, .ref a_M_worth, .ref a_M_least])), (a_M_told, .inl (cI, 43, .inl m_told)), (a_M_s, .inl (cI, 38, .inl u.1)), (a_M_light, .inl (cI, 128, .inl u.2.1)), (a_M_may, .inl (cI, 128, .inl u.2.2.1)), (a_M_shine, .inl (cI, 7, .inl u.2.2.2))]) [(a_M, .inr (5, [.long m_trace, .ref a_M_text, .int m_typed, .ref a_M_told, .ref a_M_draft, .ref a_M_s, .ref a_M_images, .ref a_M_kept, .int m_at, .int m_sort, .int m_start, .int m_size, .ref a_M_light, .ref a_M_may, .ref a_M_shine, .ref a_M_worth, .ref a_M_least])), (a_M_told, .inl (cI, 43, .inl m_told)), (a_M_s, .inl (cI, 38, .inl m_s)), (a_M_light, .inl (cI, 128, .inl m_light)), (a_M_may, .inl (cI, 128, .inl m_may)), (a_M_shine, .inl (cI, 7, .inl m_shine))]) (by decide +kernel) rfl (Nat.le_of_ble_eq_true rfl) (fun E F Z M => ?_)
  show Wg E [(a_M, .inr (5, [.long m_trace, .ref a_M_text, .int m_typed, .ref a_M_told, .ref a_M_draft, .ref a_M_s, .ref a_M_images, .ref a_M_kept, .int m_at, .int m_sort, .int m_start, .int m_size, .ref a_M_light, .ref a_M_may, .ref a_M_shine, .ref a_M_worth, .ref a_M_least])), (a_M_told, .inl (cI, 43, .inl m_told)), (a_M_s, .inl (cI, 38, .inl m_s)), (a_M_light, .inl (cI, 128, .inl m_light)), (a_M_may, .inl (cI, 128, .inl m_may)), (a_M_shine, .inl (cI, 7, .inl m_shine))] 0 0 0 [(0, .ref a_M), (1, .int p0), (2, .int p1)] []
  unfold wp_X5_leaves at h
  refine q_aload_n (pc := 0) F 0 dX5_leaves_0 rfl ?_
  refine q_iload_n (pc := 1) F 1 dX5_leaves_1 rfl ?_
  refine q_cR (q_runV (As := [.int p0]) (rest := []) (pc := 2) F (fun l sz => ct_X5_isPerson D cI cZ a_M a_M_text a_M_told a_M_draft a_M_s a_M_images a_M_kept a_M_light a_M_may a_M_shine a_M_worth a_M_least m_trace m_typed m_at m_sort m_start m_size m_told p0 h l sz) mc_yX5_isPerson im_yX5_isPerson se_yX5_isPerson mlX5_156 ⟨by decide, by decide⟩ ⟨by decide, by decide⟩ ⟨rfl, rfl⟩ [0, 1] rfl rfl rfl 0 rfl rfl rfl (Nat.le_of_ble_eq_true rfl) dX5_leaves_2) (fun r2 h => ?_)
  obtain ⟨hb2, h⟩ := h
  refine q_if_eq (pc := 5) (tgt := 16) F dX5_leaves_5 (by decide) (fun c5 => ?_) (fun c5 => ?_)
  · have h := h.1 c5
    refine q_iconst (pc := 16) F (v := -1) dX5_leaves_16 (by decide) ?_
    exact q_iretM (pc := 17) F Z dX5_leaves_17 (m_s, m_light, m_may, m_shine) h rfl
  · have h := h.2 c5
    refine q_aload_n (pc := 8) F 0 dX5_leaves_8 rfl ?_
    refine q_iload_n (pc := 9) F 2 dX5_leaves_9 rfl ?_
    refine q_cR (q_runV (As := [.int p1]) (rest := []) (pc := 10) F (fun l sz => ct_X5_isLamp D cI cZ a_M a_M_text a_M_told a_M_draft a_M_s a_M_images a_M_kept a_M_light a_M_may a_M_shine a_M_worth a_M_least m_trace m_typed m_at m_sort m_start m_size m_told p1 h l sz) mc_yX5_isLamp im_yX5_isLamp se_yX5_isLamp mlX5_153 ⟨by decide, by decide⟩ ⟨by decide, by decide⟩ ⟨rfl, rfl⟩ [0, 1] rfl rfl rfl 0 rfl rfl rfl (Nat.le_of_ble_eq_true rfl) dX5_leaves_10) (fun r10 h => ?_)
    obtain ⟨hb10, h⟩ := h
    refine q_if_ne (pc := 13) (tgt := 18) F dX5_leaves_13 (by decide) (fun c13 => ?_) (fun c13 => ?_)
    · have h := h.2 c13
      refine q_aload_n (pc := 18) F 0 dX5_leaves_18 rfl ?_
      refine q_iconst (pc := 19) F (v := 0) dX5_leaves_19 (by decide) ?_
      refine q_cMv (wr := [(a_M_s, .inl (cI, 38, .inl m_s))]) (pc := 20) F M (q_runV (As := [.int (0 : Int32)]) (rest := []) (pc := 20) F (fun l sz => ct_X5_lights D cI cZ a_M a_M_text a_M_told a_M_draft a_M_s a_M_images a_M_kept a_M_light a_M_may a_M_shine a_M_worth a_M_least m_trace m_typed m_at m_sort m_start m_size m_told m_light m_may m_shine (0 : Int32) h l sz) mc_yX5_lights im_yX5_lights se_yX5_lights mlX5_146 ⟨by decide, by decide⟩ ⟨by decide, by decide⟩ ⟨rfl, rfl⟩ [0, 1, 3, 4, 5] rfl rfl rfl 0 rfl rfl rfl (Nat.le_of_ble_eq_true rfl) dX5_leaves_20) [0, 1, 3, 4, 5] [2] rfl rfl rfl (by decide) (fun u20 h => ?_)
      obtain ⟨m_light_20, m_may_20, m_shine_20⟩ := u20
      refine q_cs (cs' := [(a_M, .inr (5, [.long m_trace, .ref a_M_text, .int m_typed, .ref a_M_told, .ref a_M_draft, .ref a_M_s, .ref a_M_images, .ref a_M_kept, .int m_at, .int m_sort, .int m_start, .int m_size, .ref a_M_light, .ref a_M_may, .ref a_M_shine, .ref a_M_worth, .ref a_M_least])), (a_M_told, .inl (cI, 43, .inl m_told)), (a_M_s, .inl (cI, 38, .inl m_s)), (a_M_light, .inl (cI, 128, .inl m_light_20)), (a_M_may, .inl (cI, 128, .inl m_may_20)), (a_M_shine, .inl (cI, 7, .inl m_shine_20))]) [1, 2, 0, 3, 4, 5] rfl rfl ?_
      refine q_aload_n (pc := 23) F 0 dX5_leaves_23 rfl ?_
      refine q_cR (q_runV (As := []) (rest := []) (pc := 24) F (fun l sz => ct_X5_gone D cI cZ a_M a_M_text a_M_told a_M_draft a_M_s a_M_images a_M_kept a_M_light a_M_may a_M_shine a_M_worth a_M_least m_trace m_typed m_at m_sort m_start m_size m_s h l sz) mc_yX5_gone im_yX5_gone se_yX5_gone mlX5_159 ⟨by decide, by decide⟩ ⟨by decide, by decide⟩ ⟨rfl, rfl⟩ [0, 2] rfl rfl rfl 0 rfl rfl rfl (Nat.le_of_ble_eq_true rfl) dX5_leaves_24) (fun r24 h => ?_)
      refine q_iload_n (pc := 27) F 1 dX5_leaves_27 rfl ?_
      refine q_ishr (pc := 28) F dX5_leaves_28 ?_
      refine q_iconst (pc := 29) F (v := 1) dX5_leaves_29 (by decide) ?_
      refine q_iand (pc := 30) F dX5_leaves_30 ?_
      refine q_iconst (pc := 31) F (v := 1) dX5_leaves_31 (by decide) ?_
      refine q_icmp_eq (pc := 32) (tgt := 62) F dX5_leaves_32 (by decide) (fun c32 => ?_) (fun c32 => ?_)
      · have h := h.1 c32
        refine q_bipush (pc := 62) F (v := -2) dX5_leaves_62 (by decide) ?_
        exact q_iretM (pc := 64) F Z dX5_leaves_64 (m_s, m_light_20, m_may_20, m_shine_20) h rfl
      · have h := h.2 c32
        refine q_aload_n (pc := 35) F 0 dX5_leaves_35 rfl ?_
        refine q_get (pc := 36) F fgX5_32 0 rfl rfl dX5_leaves_36 ?_
        refine q_aload_n (pc := 39) F 0 dX5_leaves_39 rfl ?_
        refine q_cR (q_runV (As := []) (rest := [.ref a_M_may]) (pc := 40) F (fun l sz => ct_X5_lit D cI cZ a_M a_M_text a_M_told a_M_draft a_M_s a_M_images a_M_kept a_M_light a_M_may a_M_shine a_M_worth a_M_least m_trace m_typed m_at m_sort m_start m_size m_told m_s h l sz) mc_yX5_lit im_yX5_lit se_yX5_lit mlX5_150 ⟨by decide, by decide⟩ ⟨by decide, by decide⟩ ⟨rfl, rfl⟩ [0, 1, 2] rfl rfl rfl 0 rfl rfl rfl (Nat.le_of_ble_eq_true rfl) dX5_leaves_40) (fun r40 h => ?_)
        obtain ⟨hi43, h⟩ := h
        refine q_iald (pc := 43) F 4 rfl hi43 dX5_leaves_43 ?_
        refine q_iload_n (pc := 44) F 1 dX5_leaves_44 rfl ?_
        refine q_ishr (pc := 45) F dX5_leaves_45 ?_
        refine q_iconst (pc := 46) F (v := 1) dX5_leaves_46 (by decide) ?_
        refine q_iand (pc := 47) F dX5_leaves_47 ?_
        refine q_if_eq (pc := 48) (tgt := 62) F dX5_leaves_48 (by decide) (fun c48 => ?_) (fun c48 => ?_)
        · have h := h.1 c48
          refine q_bipush (pc := 62) F (v := -2) dX5_leaves_62 (by decide) ?_
          exact q_iretM (pc := 64) F Z dX5_leaves_64 (m_s, m_light_20, m_may_20, m_shine_20) h rfl
        · have h := h.2 c48
          refine q_aload_n (pc := 51) F 0 dX5_leaves_51 rfl ?_
          refine q_cR (q_runV (As := []) (rest := []) (pc := 52) F (fun l sz => ct_X5_lit D cI cZ a_M a_M_text a_M_told a_M_draft a_M_s a_M_images a_M_kept a_M_light a_M_may a_M_shine a_M_worth a_M_least m_trace m_typed m_at m_sort m_start m_size m_told m_s h l sz) mc_yX5_lit im_yX5_lit se_yX5_lit mlX5_150 ⟨by decide, by decide⟩ ⟨by decide, by decide⟩ ⟨rfl, rfl⟩ [0, 1, 2] rfl rfl rfl 0 rfl rfl rfl (Nat.le_of_ble_eq_true rfl) dX5_leaves_52) (fun r52 h => ?_)
          refine q_iload_n (pc := 55) F 2 dX5_leaves_55 rfl ?_
          refine q_ishr (pc := 56) F dX5_leaves_56 ?_
          refine q_iconst (pc := 57) F (v := 1) dX5_leaves_57 (by decide) ?_
          refine q_iand (pc := 58) F dX5_leaves_58 ?_
          refine q_if_ne (pc := 59) (tgt := 65) F dX5_leaves_59 (by decide) (fun c59 => ?_) (fun c59 => ?_)
          · have h := h.2 c59
            refine q_aload_n (pc := 65) F 0 dX5_leaves_65 rfl ?_
            refine q_get (pc := 66) F fgX5_19 0 rfl rfl dX5_leaves_66 ?_
            refine q_iconst (pc := 69) F (v := 1) dX5_leaves_69 (by decide) ?_
            refine q_aload_n (pc := 70) F 0 dX5_leaves_70 rfl ?_
            refine q_get (pc := 71) F fgX5_19 0 rfl rfl dX5_leaves_71 ?_
            refine q_iconst (pc := 74) F (v := 0) dX5_leaves_74 (by decide) ?_
            refine q_ialdk (pc := 75) F (k9 := 0) 2 rfl (vpd (by decide +kernel)) (by decide +kernel) dX5_leaves_75 ?_
            refine q_iadd (pc := 76) F dX5_leaves_76 ?_
            refine q_iload_n (pc := 77) F 1 dX5_leaves_77 rfl ?_
            obtain ⟨hi78, h⟩ := h
            refine q_iast (pc := 78) F M (cs' := [(a_M, .inr (5, [.long m_trace, .ref a_M_text, .int m_typed, .ref a_M_told, .ref a_M_draft, .ref a_M_s, .ref a_M_images, .ref a_M_kept, .int m_at, .int m_sort, .int m_start, .int m_size, .ref a_M_light, .ref a_M_may, .ref a_M_shine, .ref a_M_worth, .ref a_M_least])), (a_M_told, .inl (cI, 43, .inl m_told)), (a_M_s, .inl (cI, 38, .inl (upd m_s (ix ((1 : Int32) + (m_s 0))) p0))), (a_M_light, .inl (cI, 128, .inl m_light_20)), (a_M_may, .inl (cI, 128, .inl m_may_20)), (a_M_shine, .inl (cI, 7, .inl m_shine_20))]) 2 rfl hi78 rfl dX5_leaves_78 ?_
            refine q_aload_n (pc := 79) F 0 dX5_leaves_79 rfl ?_
            refine q_get (pc := 80) F fgX5_19 0 rfl rfl dX5_leaves_80 ?_
            refine q_bipush (pc := 83) F (v := 7) dX5_leaves_83 (by decide) ?_
            refine q_aload_n (pc := 85) F 0 dX5_leaves_85 rfl ?_
            refine q_get (pc := 86) F fgX5_19 0 rfl rfl dX5_leaves_86 ?_
            refine q_iconst (pc := 89) F (v := 0) dX5_leaves_89 (by decide) ?_
            refine q_ialdk (pc := 90) F (k9 := 0) 2 rfl (vpd (by decide +kernel)) (by decide +kernel) dX5_leaves_90 ?_
            refine q_iadd (pc := 91) F dX5_leaves_91 ?_
            refine q_iload_n (pc := 92) F 2 dX5_leaves_92 rfl ?_
            obtain ⟨hi93, h⟩ := h
            refine q_iast (pc := 93) F M (cs' := [(a_M, .inr (5, [.long m_trace, .ref a_M_text, .int m_typed, .ref a_M_told, .ref a_M_draft, .ref a_M_s, .ref a_M_images, .ref a_M_kept, .int m_at, .int m_sort, .int m_start, .int m_size, .ref a_M_light, .ref a_M_may, .ref a_M_shine, .ref a_M_worth, .ref a_M_least])), (a_M_told, .inl (cI, 43, .inl m_told)), (a_M_s, .inl (cI, 38, .inl (upd (upd m_s (ix ((1 : Int32) + (m_s 0))) p0) (ix ((7 : Int32) + ((upd m_s (ix ((1 : Int32) + (m_s 0))) p0) 0))) p1))), (a_M_light, .inl (cI, 128, .inl m_light_20)), (a_M_may, .inl (cI, 128, .inl m_may_20)), (a_M_shine, .inl (cI, 7, .inl m_shine_20))]) 2 rfl hi93 rfl dX5_leaves_93 ?_
            refine q_aload_n (pc := 94) F 0 dX5_leaves_94 rfl ?_
            refine q_get (pc := 95) F fgX5_19 0 rfl rfl dX5_leaves_95 ?_
            refine q_iconst (pc := 98) F (v := 0) dX5_leaves_98 (by decide) ?_
            refine q_dup2 (pc := 99) F dX5_leaves_99 rfl rfl ?_
            refine q_ialdk (pc := 100) F (k9 := 0) 2 rfl (vpd (by decide +kernel)) (by decide +kernel) dX5_leaves_100 ?_
            refine q_iconst (pc := 101) F (v := 1) dX5_leaves_101 (by decide) ?_
            refine q_iadd (pc := 102) F dX5_leaves_102 ?_
            refine q_iastk (pc := 103) F M (k9 := 0) (cs' := [(a_M, .inr (5, [.long m_trace, .ref a_M_text, .int m_typed, .ref a_M_told, .ref a_M_draft, .ref a_M_s, .ref a_M_images, .ref a_M_kept, .int m_at, .int m_sort, .int m_start, .int m_size, .ref a_M_light, .ref a_M_may, .ref a_M_shine, .ref a_M_worth, .ref a_M_least])), (a_M_told, .inl (cI, 43, .inl m_told)), (a_M_s, .inl (cI, 38, .inl (upd (upd (upd m_s (ix ((1 : Int32) + (m_s 0))) p0) (ix ((7 : Int32) + ((upd m_s (ix ((1 : Int32) + (m_s 0))) p0) 0))) p1) 0 (((upd (upd m_s (ix ((1 : Int32) + (m_s 0))) p0) (ix ((7 : Int32) + ((upd m_s (ix ((1 : Int32) + (m_s 0))) p0) 0))) p1) 0) + (1 : Int32))))), (a_M_light, .inl (cI, 128, .inl m_light_20)), (a_M_may, .inl (cI, 128, .inl m_may_20)), (a_M_shine, .inl (cI, 7, .inl m_shine_20))]) 2 rfl (vpd (by decide +kernel)) (by decide +kernel) rfl dX5_leaves_103 ?_
            refine q_aload_n (pc := 104) F 0 dX5_leaves_104 rfl ?_
            refine q_get (pc := 105) F fgX5_19 0 rfl rfl dX5_leaves_105 ?_
            refine q_iconst (pc := 108) F (v := 0) dX5_leaves_108 (by decide) ?_
            refine q_ialdk (pc := 109) F (k9 := 0) 2 rfl (vpd (by decide +kernel)) (by decide +kernel) dX5_leaves_109 ?_
            exact q_iretM (pc := 110) F Z dX5_leaves_110 (upd (upd (upd m_s (ix ((1 : Int32) + (m_s 0))) p0) (ix ((7 : Int32) + ((upd m_s (ix ((1 : Int32) + (m_s 0))) p0) 0))) p1) 0 (((upd (upd m_s (ix ((1 : Int32) + (m_s 0))) p0) (ix ((7 : Int32) + ((upd m_s (ix ((1 : Int32) + (m_s 0))) p0) 0))) p1) 0) + (1 : Int32)), m_light_20, m_may_20, m_shine_20) h rfl
          · have h := h.1 c59
            refine q_bipush (pc := 62) F (v := -2) dX5_leaves_62 (by decide) ?_
            exact q_iretM (pc := 64) F Z dX5_leaves_64 (m_s, m_light_20, m_may_20, m_shine_20) h rfl
    · have h := h.1 c13
      refine q_iconst (pc := 16) F (v := -1) dX5_leaves_16 (by decide) ?_
      exact q_iretM (pc := 17) F Z dX5_leaves_17 (m_s, m_light, m_may, m_shine) h rfl

def wp_X5_undo (m_s : Nat → Int32) (post : Int32 → (Nat → Int32) → Prop) : Prop := (((m_s 0) = (0 : Int32) → post (-2 : Int32) m_s) ∧ (¬ (m_s 0) = (0 : Int32) → post ((upd m_s 0 ((m_s 0) - (1 : Int32))) 0) (upd m_s 0 ((m_s 0) - (1 : Int32)))))
abbrev rm_X5_undo : Room := { frames := 0, cells := 0, slots := 0, locals := 0 }
set_option maxRecDepth 100000 in
set_option maxHeartbeats 4000000 in
theorem ct_X5_undo (D : va_G) (cI cZ : ClassId) (a_M a_M_text a_M_told a_M_draft a_M_s a_M_images a_M_kept a_M_light a_M_may a_M_shine a_M_worth a_M_least : Nat) (m_trace : Int64) (m_typed : Int32) (m_at : Int32) (m_sort : Int32) (m_start : Int32) (m_size : Int32) (m_s : Nat → Int32) {post : Int32 → (Nat → Int32) → Prop} (h : wp_X5_undo m_s post) (l : Launch) (sz : Nat) : Met l yX5_undo (wsM yX5_undo cX5_undo 1 (some .int)) rm_X5_undo (va_Pc [.ref a_M] (gP D cI cZ [(a_M, .inr (5, [.long m_trace, .ref a_M_text, .int m_typed, .ref a_M_told, .ref a_M_draft, .ref a_M_s, .ref a_M_images, .ref a_M_kept, .int m_at, .int m_sort, .int m_start, .int m_size, .ref a_M_light, .ref a_M_may, .ref a_M_shine, .ref a_M_worth, .ref a_M_least])), (a_M_s, .inl (cI, 38, .inl m_s))] sz)) (gQi D (fun r (u : (Nat → Int32)) => post r u) (fun (u : (Nat → Int32)) => [(a_M, .inr (5, [.long m_trace, .ref a_M_text, .int m_typed, .ref a_M_told, .ref a_M_draft, .ref a_M_s, .ref a_M_images, .ref a_M_kept, .int m_at, .int m_sort, .int m_start, .int m_size, .ref a_M_light, .ref a_M_may, .ref a_M_shine, .ref a_M_worth, .ref a_M_least])), (a_M_s, .inl (cI, 38, .inl u))]) [(a_M, .inr (5, [.long m_trace, .ref a_M_text, .int m_typed, .ref a_M_told, .ref a_M_draft, .ref a_M_s, .ref a_M_images, .ref a_M_kept, .int m_at, .int m_sort, .int m_start, .int m_size, .ref a_M_light, .ref a_M_may, .ref a_M_shine, .ref a_M_worth, .ref a_M_least])), (a_M_s, .inl (cI, 38, .inl m_s))] sz) 0 0 (va_A [(a_M, .inr (5, [.long m_trace, .ref a_M_text, .int m_typed, .ref a_M_told, .ref a_M_draft, .ref a_M_s, .ref a_M_images, .ref a_M_kept, .int m_at, .int m_sort, .int m_start, .int m_size, .ref a_M_light, .ref a_M_may, .ref a_M_shine, .ref a_M_worth, .ref a_M_least])), (a_M_s, .inl (cI, 38, .inl m_s))] sz) := by
  refine q_startM (own := RX5) (Qc := gQi D (fun r (u : (Nat → Int32)) => post r u) (fun (u : (Nat → Int32)) => [(a_M, .inr (5, [.long m_trace, .ref a_M_text, .int m_typed, .ref a_M_told, .ref a_M_draft, .ref a_M_s, .ref a_M_images, .ref a_M_kept, .int m_at, .int m_sort, .int m_start, .int m_size, .ref a_M_light, .ref a_M_may, .ref a_M_shine, .ref a_M_worth, .ref a_M_least])), (a_M_s, .inl (cI, 38, .inl u))]) [(a_M, .inr (5, [.long m_trace, .ref a_M_text, .int m_typed, .ref a_M_told, .ref a_M_draft, .ref a_M_s, .ref a_M_images, .ref a_M_kept, .int m_at, .int m_sort, .int m_start, .int m_size, .ref a_M_light, .ref a_M_may, .ref a_M_shine, .ref a_M_worth, .ref a_M_least])), (a_M_s, .inl (cI, 38, .inl m_s))]) (by decide +kernel) rfl (Nat.le_of_ble_eq_true rfl) (fun E F Z M => ?_)
  show Wg E [(a_M, .inr (5, [.long m_trace, .ref a_M_text, .int m_typed, .ref a_M_told, .ref a_M_draft, .ref a_M_s, .ref a_M_images, .ref a_M_kept, .int m_at, .int m_sort, .int m_start, .int m_size, .ref a_M_light, .ref a_M_may, .ref a_M_shine, .ref a_M_worth, .ref a_M_least])), (a_M_s, .inl (cI, 38, .inl m_s))] 0 0 0 [(0, .ref a_M)] []
  unfold wp_X5_undo at h
  refine q_aload_n (pc := 0) F 0 dX5_undo_0 rfl ?_
  refine q_get (pc := 1) F fgX5_19 0 rfl rfl dX5_undo_1 ?_
  refine q_iconst (pc := 4) F (v := 0) dX5_undo_4 (by decide) ?_
  refine q_ialdk (pc := 5) F (k9 := 0) 1 rfl (vpd (by decide +kernel)) (by decide +kernel) dX5_undo_5 ?_
  refine q_if_ne (pc := 6) (tgt := 12) F dX5_undo_6 (by decide) (fun c6 => ?_) (fun c6 => ?_)
  · have h := h.2 c6
    refine q_aload_n (pc := 12) F 0 dX5_undo_12 rfl ?_
    refine q_get (pc := 13) F fgX5_19 0 rfl rfl dX5_undo_13 ?_
    refine q_iconst (pc := 16) F (v := 0) dX5_undo_16 (by decide) ?_
    refine q_dup2 (pc := 17) F dX5_undo_17 rfl rfl ?_
    refine q_ialdk (pc := 18) F (k9 := 0) 1 rfl (vpd (by decide +kernel)) (by decide +kernel) dX5_undo_18 ?_
    refine q_iconst (pc := 19) F (v := 1) dX5_undo_19 (by decide) ?_
    refine q_isub (pc := 20) F dX5_undo_20 ?_
    refine q_iastk (pc := 21) F M (k9 := 0) (cs' := [(a_M, .inr (5, [.long m_trace, .ref a_M_text, .int m_typed, .ref a_M_told, .ref a_M_draft, .ref a_M_s, .ref a_M_images, .ref a_M_kept, .int m_at, .int m_sort, .int m_start, .int m_size, .ref a_M_light, .ref a_M_may, .ref a_M_shine, .ref a_M_worth, .ref a_M_least])), (a_M_s, .inl (cI, 38, .inl (upd m_s 0 ((m_s 0) - (1 : Int32)))))]) 1 rfl (vpd (by decide +kernel)) (by decide +kernel) rfl dX5_undo_21 ?_
    refine q_aload_n (pc := 22) F 0 dX5_undo_22 rfl ?_
    refine q_get (pc := 23) F fgX5_19 0 rfl rfl dX5_undo_23 ?_
    refine q_iconst (pc := 26) F (v := 0) dX5_undo_26 (by decide) ?_
    refine q_ialdk (pc := 27) F (k9 := 0) 1 rfl (vpd (by decide +kernel)) (by decide +kernel) dX5_undo_27 ?_
    exact q_iretM (pc := 28) F Z dX5_undo_28 (upd m_s 0 ((m_s 0) - (1 : Int32))) h rfl
  · have h := h.1 c6
    refine q_bipush (pc := 9) F (v := -2) dX5_undo_9 (by decide) ?_
    exact q_iretM (pc := 11) F Z dX5_undo_11 m_s h rfl
