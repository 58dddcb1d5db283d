def wp_X5_state (p0 : Int32) (p1 : Int32) (post : Int32 → Prop) : Prop := post (((128 : Int32) * p0) + p1)
abbrev rm_X5_state : Room := { frames := 0, cells := 0, slots := 0, locals := 0 }
set_option maxRecDepth 100000 in
set_option maxHeartbeats 4000000 in
theorem ct_X5_state (D : va_G) (cI cZ : ClassId) (p0 : Int32) (p1 : Int32) {post : Int32 → Prop} (h : wp_X5_state p0 p1 post) (l : Launch) (sz : Nat) : Met l yX5_state (wsM yX5_state cX5_state 2 (some .int)) rm_X5_state (va_Pc [.int p0, .int p1] (gP D cI cZ [] sz)) (gR post) 0 0 (fun _ => False) := by
  refine q_startR (own := RX5) (by decide +kernel) rfl (Nat.le_of_ble_eq_true rfl) (fun E F Z => ?_)
  show Wg E [] 0 0 0 [(0, .int p0), (1, .int p1)] []
  unfold wp_X5_state at h
  refine q_sipush (pc := 0) F (v := 128) dX5_state_0 (by decide) ?_
  refine q_iload_n (pc := 3) F 0 dX5_state_3 rfl ?_
  refine q_imul (pc := 4) F dX5_state_4 ?_
  refine q_iload_n (pc := 5) F 1 dX5_state_5 rfl ?_
  refine q_iadd (pc := 6) F dX5_state_6 ?_
  exact q_iretR (pc := 7) F Z dX5_state_7 h

def wp_X5_then (p0 : Int32) (p1 : Int32) (p2 : Int32) (p3 : Int32) (post : Int32 → Prop) : Prop := (wp_X5_state (p0 ||| (jshl (1 : Int32) p2)) (p1 &&& ((jshl (1 : Int32) p3) ^^^ (-1 : Int32))) (fun (r12 : Int32) => post r12))
abbrev rm_X5_then : Room := { frames := 1, cells := 0, slots := 0, locals := 21 }
set_option maxRecDepth 100000 in
set_option maxHeartbeats 4000000 in
theorem ct_X5_then (D : va_G) (cI cZ : ClassId) (p0 : Int32) (p1 : Int32) (p2 : Int32) (p3 : Int32) {post : Int32 → Prop} (h : wp_X5_then p0 p1 p2 p3 post) (l : Launch) (sz : Nat) : Met l yX5_then (wsM yX5_then cX5_then 4 (some .int)) rm_X5_then (va_Pc [.int p0, .int p1, .int p2, .int p3] (gP D cI cZ [] sz)) (gR post) 0 0 (fun _ => False) := by
  refine q_startR (own := RX5) (by decide +kernel) rfl (Nat.le_of_ble_eq_true rfl) (fun E F Z => ?_)
  show Wg E [] 0 0 0 [(0, .int p0), (1, .int p1), (2, .int p2), (3, .int p3)] []
  unfold wp_X5_then at h
  refine q_iload_n (pc := 0) F 0 dX5_then_0 rfl ?_
  refine q_iconst (pc := 1) F (v := 1) dX5_then_1 (by decide) ?_
  refine q_iload_n (pc := 2) F 2 dX5_then_2 rfl ?_
  refine q_ishl (pc := 3) F dX5_then_3 ?_
  refine q_ior (pc := 4) F dX5_then_4 ?_
  refine q_iload_n (pc := 5) F 1 dX5_then_5 rfl ?_
  refine q_iconst (pc := 6) F (v := 1) dX5_then_6 (by decide) ?_
  refine q_iload_n (pc := 7) F 3 dX5_then_7 rfl ?_
  refine q_ishl (pc := 8) F dX5_then_8 ?_
  refine q_iconst (pc := 9) F (v := -1) dX5_then_9 (by decide) ?_
  refine q_ixor (pc := 10) F dX5_then_10 ?_
  refine q_iand (pc := 11) F dX5_then_11 ?_
  refine q_cR (q_runS (As := [.int (p0 ||| (jshl (1 : Int32) p2)), .int (p1 &&& ((jshl (1 : Int32) p3) ^^^ (-1 : Int32)))]) (rest := []) (pc := 12) F (fun l sz => ct_X5_state D cI cZ (p0 ||| (jshl (1 : Int32) p2)) (p1 &&& ((jshl (1 : Int32) p3) ^^^ (-1 : Int32))) h l sz) mc_yX5_state sm_yX5_state mlX5_162 ⟨by decide, by decide⟩ ⟨by decide, by decide⟩ ⟨rfl, rfl⟩ [] rfl rfl rfl rfl (Nat.le_of_ble_eq_true rfl) dX5_then_12) (fun r12 h => ?_)
  exact q_iretR (pc := 15) F Z dX5_then_15 h

def wp_X5_mosts_L99 (x4 : Int32) (x5 : Int32) (x7 : Int32) (x8 : Int32) (m_worth : Nat → Int32) (K168 : Int32 → Prop) : Nat → Int32 → Int32 → Prop
  | 0, _, _ => False
  | n + 1, x6, x9 => (((6 : Int32) < x9 → K168 x6) ∧ (¬ (6 : Int32) < x9 → ((x8 = (0 : Int32) → K168 x6) ∧ (¬ x8 = (0 : Int32) → (jn (fun (K144 : Int32 → Prop) => ((((jshr x5 x9) &&& (1 : Int32)) = (1 : Int32) → (wp_X5_then x4 x5 x7 x9 (fun (r135 : Int32) => (vp_in r135 8192 ∧ K144 ((1 : Int32) + (m_worth (ix r135))))))) ∧ (¬ ((jshr x5 x9) &&& (1 : Int32)) = (1 : Int32) → K144 (0 : Int32)))) (fun (y144 : Int32) => (jn (fun (K160 : Int32 → Prop) => ((y144 ≤ x6 → K160 x6) ∧ (¬ y144 ≤ x6 → K160 y144))) (fun (y160 : Int32) => wp_X5_mosts_L99 x4 x5 x7 x8 m_worth K168 n y160 (x9 + (1 : Int32))))))))))
def wp_X5_mosts_L58 (x4 : Int32) (x5 : Int32) (m_told : Nat → Int32) (m_may : Nat → Int32) (m_worth : Nat → Int32) (K174 : Int32 → Prop) : Nat → Int32 → Int32 → Prop
  | 0, _, _ => False
  | n + 1, x6, x7 => (((m_told 4) ≤ x7 → K174 x6) ∧ (¬ (m_told 4) ≤ x7 → (vp_in x5 128 ∧ (jn (fun (K94 : Int32 → Prop) => (((((m_may (ix x5)) &&& (x4 ^^^ (-1 : Int32))) &&& (jshl (1 : Int32) x7)) = (0 : Int32) → K94 (0 : Int32)) ∧ (¬ (((m_may (ix x5)) &&& (x4 ^^^ (-1 : Int32))) &&& (jshl (1 : Int32) x7)) = (0 : Int32) → K94 (1 : Int32)))) (fun (y94 : Int32) => (jn (fun (K168 : Int32 → Prop) => (∃ n99 : Nat, wp_X5_mosts_L99 x4 x5 x7 y94 m_worth K168 n99 x6 (0 : Int32))) (fun (x6_168 : Int32) => wp_X5_mosts_L58 x4 x5 m_told m_may m_worth K174 n x6_168 (x7 + (1 : Int32)))))))))
def wp_X5_mosts_L30 (x2 : Int32) (m_told : Nat → Int32) (m_light : Nat → Int32) (m_may : Nat → Int32) (m_shine : Nat → Int32) (post : (Nat → Int32) → (Nat → Int32) → (Nat → Int32) → (Nat → Int32) → Prop) : Nat → Int32 → (Nat → Int32) → Prop
  | 0, _, _ => False
  | n + 1, x3, m_worth => ((x3 < (0 : Int32) → post m_light m_may m_shine m_worth) ∧ (¬ x3 < (0 : Int32) → (¬ x2 = (0 : Int32) ∧ (∀ x4_37 : Int32, x4_37 = x3 / x2 → (¬ x2 = (0 : Int32) ∧ (wp_X5_litOf ((x2 - (1 : Int32)) - (jrem x3 x2)) m_told (fun (r47 : Int32) => (jn (fun (K174 : Int32 → Prop) => (∃ n58 : Nat, wp_X5_mosts_L58 x4_37 r47 m_told m_may m_worth K174 n58 (0 : Int32) (0 : Int32))) (fun (x6_174 : Int32) => (wp_X5_state x4_37 r47 (fun (r182 : Int32) => (vp_in r182 8192 ∧ wp_X5_mosts_L30 x2 m_told m_light m_may m_shine post n (x3 + (-1 : Int32)) (upd m_worth (ix r182) x6_174)))))))))))))
def wp_X5_mosts (p0 : Int32) (m_told : Nat → Int32) (m_light : Nat → Int32) (m_may : Nat → Int32) (m_shine : Nat → Int32) (m_worth : Nat → Int32) (post : (Nat → Int32) → (Nat → Int32) → (Nat → Int32) → (Nat → Int32) → Prop) : Prop := (wp_X5_lights p0 m_told m_light m_may m_shine (fun (m_light_2 : Nat → Int32) (m_may_2 : Nat → Int32) (m_shine_2 : Nat → Int32) => (jn (fun (K15 : Int32 → Prop) => ((p0 = (0 : Int32) → K15 (0 : Int32)) ∧ (¬ p0 = (0 : Int32) → K15 (1 : Int32)))) (fun (y15 : Int32) => (wp_X5_many y15 m_told (fun (r15 : Int32) => (wp_X5_all m_told (fun (r21 : Int32) => (∀ x3_29 : Int32, x3_29 = (r15 * (r21 + (1 : Int32))) - (1 : Int32) → (∃ n30 : Nat, wp_X5_mosts_L30 r15 m_told m_light_2 m_may_2 m_shine_2 post n30 x3_29 m_worth))))))))))
abbrev rm_X5_mosts : Room := { frames := 4, cells := 0, slots := 0, locals := 97 }
set_option maxRecDepth 100000 in
set_option maxHeartbeats 4000000 in
theorem ct_X5_mosts (D : va_G) (cI cZ : ClassId) (a_M a_M_text a_M_told a_M_draft a_M_s a_M_images a_M_kept a_M_light a_M_may a_M_shine a_M_worth a_M_least : Nat) (m_trace : Int64) (m_typed : Int32) (m_at : Int32) (m_sort : Int32) (m_start : Int32) (m_size : Int32) (m_told : Nat → Int32) (m_light : Nat → Int32) (m_may : Nat → Int32) (m_shine : Nat → Int32) (m_worth : Nat → Int32) (p0 : Int32) {post : (Nat → Int32) → (Nat → Int32) → (Nat → Int32) → (Nat → Int32) → Prop} (h : wp_X5_mosts p0 m_told m_light m_may m_shine m_worth post) (l : Launch) (sz : Nat) : Met l yX5_mosts (wsM yX5_mosts cX5_mosts 11 none) rm_X5_mosts (va_Pc [.ref a_M, .int p0] (gP D cI cZ [(a_M, .inr (5, [.long m_trace, .ref a_M_text, .int m_typed, .ref a_M_told, .ref a_M_draft, .ref a_M_s, .ref a_M_images, .ref a_M_kept, .int m_at, .int m_sort, .int m_start, .int m_size, .ref a_M_light, .ref a_M_may, .ref a_M_shine, .ref a_M_worth, .ref a_M_least])), (a_M_told, .inl (cI, 43, .inl m_told)), (a_M_light, .inl (cI, 128, .inl m_light)), (a_M_may, .inl (cI, 128, .inl m_may)), (a_M_shine, .inl (cI, 7, .inl m_shine)), (a_M_worth, .inl (cI, 8192, .inl m_worth))] sz)) (gQv D (fun (u : (Nat → Int32) × (Nat → Int32) × (Nat → Int32) × (Nat → Int32)) => post u.1 u.2.1 u.2.2.1 u.2.2.2) (fun (u : (Nat → Int32) × (Nat → Int32) × (Nat → Int32) × (Nat → Int32)) => [(a_M, .inr (5, [.long m_trace, .ref a_M_text, .int m_typed, .ref a_M_told, .ref a_M_draft, .ref a_M_s, .ref a_M_images, .ref a_M_kept, .int m_at, .int m_sort, .int m_start, .int m_size, .ref a_M_light, .ref a_M_may, .ref a_M_shine, .ref a_M_worth, .ref a_M_least])), (a_M_told, .inl (cI, 43, .inl m_told)), (a_M_light, .inl (cI, 128, .inl u.1)), (a_M_may, .inl (cI, 128, .inl u.2.1)), (a_M_shine, .inl (cI, 7, .inl u.2.2.1)), (a_M_worth, .inl (cI, 8192, .inl u.2.2.2))]) [(a_M, .inr (5, [.long m_trace, .ref a_M_text, .int m_typed, .ref a_M_told, .ref a_M_draft, .ref a_M_s, .ref a_M_images, .ref a_M_kept, .int m_at, .int m_sort, .int m_start, .int m_size, .ref a_M_light, .ref a_M_may, .ref a_M_shine, .ref a_M_worth, .ref a_M_least])), (a_M_told, .inl (cI, 43, .inl m_told)), (a_M_light, .inl (cI, 128, .inl m_light)), (a_M_may, .inl (cI, 128, .inl m_may)), (a_M_shine, .inl (cI, 7, .inl m_shine)), (a_M_worth, .inl (cI, 8192, .inl m_worth))] sz) 0 0 (va_A [(a_M, .inr (5, [.long m_trace, .ref a_M_text, .int m_typed, .ref a_M_told, .ref a_M_draft, .ref a_M_s, .ref a_M_images, .ref a_M_kept, .int m_at, .int m_sort, .int m_start, .int m_size, .ref a_M_light, .ref a_M_may, .ref a_M_shine, .ref a_M_worth, .ref a_M_least])), (a_M_told, .inl (cI, 43, .inl m_told)), (a_M_light, .inl (cI, 128, .inl m_light)), (a_M_may, .inl (cI, 128, .inl m_may)), (a_M_shine, .inl (cI, 7, .inl m_shine)), (a_M_worth, .inl (cI, 8192, .inl m_worth))] sz) := by
  refine q_startM (own := RX5) (Qc := gQv D (fun (u : (Nat → Int32) × (Nat → Int32) × (Nat → Int32) × (Nat → Int32)) => post u.1 u.2.1 u.2.2.1 u.2.2.2) (fun (u : (Nat → Int32) × (Nat → Int32) × (Nat → Int32) × (Nat → Int32)) => [(a_M, .inr (5, [.long m_trace, .ref a_M_text, .int m_typed, .ref a_M_told, .ref a_M_draft, .ref a_M_s, .ref a_M_images, .ref a_M_kept, .int m_at, .int m_sort, .int m_start, .int m_size, .ref a_M_light, .ref a_M_may, .ref a_M_shine, .ref a_M_worth, .ref a_M_least])), (a_M_told, .inl (cI, 43, .inl m_told)), (a_M_light, .inl (cI, 128, .inl u.1)), (a_M_may, .inl (cI, 128, .inl u.2.1)), (a_M_shine, .inl (cI, 7, .inl u.2.2.1)), (a_M_worth, .inl (cI, 8192, .inl u.2.2.2))]) [(a_M, .inr (5, [.long m_trace, .ref a_M_text, .int m_typed, .ref a_M_told, .ref a_M_draft, .ref a_M_s, .ref a_M_images, .ref a_M_kept, .int m_at, .int m_sort, .int m_start, .int m_size, .ref a_M_light, .ref a_M_may, .ref a_M_shine, .ref a_M_worth, .ref a_M_least])), (a_M_told, .inl (cI, 43, .inl m_told)), (a_M_light, .inl (cI, 128, .inl m_light)), (a_M_may, .inl (cI, 128, .inl m_may)), (a_M_shine, .inl (cI, 7, .inl m_shine)), (a_M_worth, .inl (cI, 8192, .inl m_worth))]) (by decide +kernel) rfl (Nat.le_of_ble_eq_true rfl) (fun E F Z M => ?_)
  show Wg E [(a_M, .inr (5, [.long m_trace, .ref a_M_text, .int m_typed, .ref a_M_told, .ref a_M_draft, .ref a_M_s, .ref a_M_images, .ref a_M_kept, .int m_at, .int m_sort, .int m_start, .int m_size, .ref a_M_light, .ref a_M_may, .ref a_M_shine, .ref a_M_worth, .ref a_M_least])), (a_M_told, .inl (cI, 43, .inl m_told)), (a_M_light, .inl (cI, 128, .inl m_light)), (a_M_may, .inl (cI, 128, .inl m_may)), (a_M_shine, .inl (cI, 7, .inl m_shine)), (a_M_worth, .inl (cI, 8192, .inl m_worth))] 0 0 0 [(0, .ref a_M), (1, .int p0)] []
  unfold wp_X5_mosts at h
  refine q_aload_n (pc := 0) F 0 dX5_mosts_0 rfl ?_
  refine q_iload_n (pc := 1) F 1 dX5_mosts_1 rfl ?_
  refine q_cMv (wr := [(a_M_worth, .inl (cI, 8192, .inl m_worth))]) (pc := 2) F M (q_runV (As := [.int p0]) (rest := []) (pc := 2) F (fun l sz => ct_X5_lights D cI cZ a_M a_M_text a_M_told a_M_draft a_M_s a_M_images a_M_kept a_M_light a_M_may a_M_shine a_M_worth a_M_least m_trace m_typed m_at m_sort m_start m_size m_told m_light m_may m_shine p0 h l sz) mc_yX5_lights im_yX5_lights se_yX5_lights mlX5_146 ⟨by decide, by decide⟩ ⟨by decide, by decide⟩ ⟨rfl, rfl⟩ [0, 1, 2, 3, 4] rfl rfl rfl 0 rfl rfl rfl (Nat.le_of_ble_eq_true rfl) dX5_mosts_2) [0, 1, 2, 3, 4] [5] rfl rfl rfl (by decide) (fun u2 h => ?_)
  obtain ⟨m_light_2, m_may_2, m_shine_2⟩ := u2
  refine q_cs (cs' := [(a_M, .inr (5, [.long m_trace, .ref a_M_text, .int m_typed, .ref a_M_told, .ref a_M_draft, .ref a_M_s, .ref a_M_images, .ref a_M_kept, .int m_at, .int m_sort, .int m_start, .int m_size, .ref a_M_light, .ref a_M_may, .ref a_M_shine, .ref a_M_worth, .ref a_M_least])), (a_M_told, .inl (cI, 43, .inl m_told)), (a_M_light, .inl (cI, 128, .inl m_light_2)), (a_M_may, .inl (cI, 128, .inl m_may_2)), (a_M_shine, .inl (cI, 7, .inl m_shine_2)), (a_M_worth, .inl (cI, 8192, .inl m_worth))]) [1, 2, 3, 4, 5, 0] rfl rfl ?_
  refine q_aload_n (pc := 5) F 0 dX5_mosts_5 rfl ?_
  refine q_iload_n (pc := 6) F 1 dX5_mosts_6 rfl ?_
  refine jnW h (fun K => ∀ (y15 : Int32), K y15 → Wg E [(a_M, .inr (5, [.long m_trace, .ref a_M_text, .int m_typed, .ref a_M_told, .ref a_M_draft, .ref a_M_s, .ref a_M_images, .ref a_M_kept, .int m_at, .int m_sort, .int m_start, .int m_size, .ref a_M_light, .ref a_M_may, .ref a_M_shine, .ref a_M_worth, .ref a_M_least])), (a_M_told, .inl (cI, 43, .inl m_told)), (a_M_light, .inl (cI, 128, .inl m_light_2)), (a_M_may, .inl (cI, 128, .inl m_may_2)), (a_M_shine, .inl (cI, 7, .inl m_shine_2)), (a_M_worth, .inl (cI, 8192, .inl m_worth))] 0 0 15 [(0, .ref a_M)] [.int y15, .ref a_M]) ?_ ?_
  · intro y15 h
    refine q_cR (q_runV (As := [.int y15]) (rest := []) (pc := 15) F (fun l sz => ct_X5_many D cI cZ a_M a_M_text a_M_told a_M_draft a_M_s a_M_images a_M_kept a_M_light a_M_may a_M_shine a_M_worth a_M_least m_trace m_typed m_at m_sort m_start m_size m_told y15 h l sz) mc_yX5_many im_yX5_many se_yX5_many mlX5_134 ⟨by decide, by decide⟩ ⟨by decide, by decide⟩ ⟨rfl, rfl⟩ [0, 1] rfl rfl rfl 0 rfl rfl rfl (Nat.le_of_ble_eq_true rfl) dX5_mosts_15) (fun r15 h => ?_)
    refine q_istore_n (pc := 18) F (lv' := [(2, .int r15), (0, .ref a_M)]) dX5_mosts_18 (by decide) rfl ?_
    refine q_iload_n (pc := 19) F 0 dX5_mosts_19 rfl ?_
    refine q_aload_n (pc := 20) F 1 dX5_mosts_20 rfl ?_
    refine q_cR (q_runV (As := []) (rest := [.int r15]) (pc := 21) F (fun l sz => ct_X5_all D cI cZ a_M a_M_text a_M_told a_M_draft a_M_s a_M_images a_M_kept a_M_light a_M_may a_M_shine a_M_worth a_M_least m_trace m_typed m_at m_sort m_start m_size m_told h l sz) mc_yX5_all im_yX5_all se_yX5_all mlX5_165 ⟨by decide, by decide⟩ ⟨by decide, by decide⟩ ⟨rfl, rfl⟩ [0, 1] rfl rfl rfl 0 rfl rfl rfl (Nat.le_of_ble_eq_true rfl) dX5_mosts_21) (fun r21 h => ?_)
    refine q_iconst (pc := 24) F (v := 1) dX5_mosts_24 (by decide) ?_
    refine q_iadd (pc := 25) F dX5_mosts_25 ?_
    refine q_imul (pc := 26) F dX5_mosts_26 ?_
    refine q_iconst (pc := 27) F (v := 1) dX5_mosts_27 (by decide) ?_
    refine q_isub (pc := 28) F dX5_mosts_28 ?_
    refine q_topi (fun x3_29 ex3_29 => ?_)
    have h := h x3_29 ex3_29
    refine q_istore_n (pc := 29) F (lv' := [(3, .int x3_29), (2, .int r15), (0, .ref a_M)]) dX5_mosts_29 (by decide) rfl ?_
    obtain ⟨n30, h⟩ := h
    have lp30 : ∀ (n : Nat) (x3_h30 : Int32) (m_worth_h30 : Nat → Int32), wp_X5_mosts_L30 r15 m_told m_light_2 m_may_2 m_shine_2 post n x3_h30 m_worth_h30 → Wg E [(a_M, .inr (5, [.long m_trace, .ref a_M_text, .int m_typed, .ref a_M_told, .ref a_M_draft, .ref a_M_s, .ref a_M_images, .ref a_M_kept, .int m_at, .int m_sort, .int m_start, .int m_size, .ref a_M_light, .ref a_M_may, .ref a_M_shine, .ref a_M_worth, .ref a_M_least])), (a_M_told, .inl (cI, 43, .inl m_told)), (a_M_light, .inl (cI, 128, .inl m_light_2)), (a_M_may, .inl (cI, 128, .inl m_may_2)), (a_M_shine, .inl (cI, 7, .inl m_shine_2)), (a_M_worth, .inl (cI, 8192, .inl m_worth_h30))] 0 0 30 [(0, .ref a_M), (2, .int r15), (3, .int x3_h30)] [] := by
      intro n
      induction n with
      | zero => intro x3_h30 m_worth_h30 h; exact h.elim
      | succ n ih =>
        intro x3_h30 m_worth_h30 h
        unfold wp_X5_mosts_L30 at h
        refine q_iload_n (pc := 30) F 2 dX5_mosts_30 rfl ?_
        refine q_if_lt (pc := 31) (tgt := 194) F dX5_mosts_31 (by decide) (fun c31 => ?_) (fun c31 => ?_)
        · have h := h.1 c31
          exact q_vretM (pc := 194) F Z dX5_mosts_194 (m_light_2, m_may_2, m_shine_2, m_worth_h30) h rfl
        · have h := h.2 c31
          refine q_iload_n (pc := 34) F 2 dX5_mosts_34 rfl ?_
          refine q_iload_n (pc := 35) F 1 dX5_mosts_35 rfl ?_
          obtain ⟨hz36, h⟩ := h
          refine q_idiv (pc := 36) F dX5_mosts_36 hz36 ?_
          refine q_topi (fun x4_37 ex4_37 => ?_)
          have h := h x4_37 ex4_37
          refine q_istore (pc := 37) F (lv' := [(4, .int x4_37), (0, .ref a_M), (2, .int r15), (3, .int x3_h30)]) dX5_mosts_37 (by decide) rfl ?_
          refine q_aload_n (pc := 39) F 1 dX5_mosts_39 rfl ?_
          refine q_iload_n (pc := 40) F 2 dX5_mosts_40 rfl ?_
          refine q_iconst (pc := 41) F (v := 1) dX5_mosts_41 (by decide) ?_
          refine q_isub (pc := 42) F dX5_mosts_42 ?_
          refine q_iload_n (pc := 43) F 3 dX5_mosts_43 rfl ?_
          refine q_iload_n (pc := 44) F 2 dX5_mosts_44 rfl ?_
          obtain ⟨hz45, h⟩ := h
          refine q_irem (pc := 45) F dX5_mosts_45 hz45 ?_
          refine q_isub (pc := 46) F dX5_mosts_46 ?_
          refine q_cR (q_runV (As := [.int ((r15 - (1 : Int32)) - (jrem x3_h30 r15))]) (rest := []) (pc := 47) F (fun l sz => ct_X5_litOf D cI cZ a_M a_M_text a_M_told a_M_draft a_M_s a_M_images a_M_kept a_M_light a_M_may a_M_shine a_M_worth a_M_least m_trace m_typed m_at m_sort m_start m_size m_told ((r15 - (1 : Int32)) - (jrem x3_h30 r15)) h l sz) mc_yX5_litOf im_yX5_litOf se_yX5_litOf mlX5_137 ⟨by decide, by decide⟩ ⟨by decide, by decide⟩ ⟨rfl, rfl⟩ [0, 1] rfl rfl rfl 0 rfl rfl rfl (Nat.le_of_ble_eq_true rfl) dX5_mosts_47) (fun r47 h => ?_)
          refine q_istore (pc := 50) F (lv' := [(5, .int r47), (4, .int x4_37), (0, .ref a_M), (2, .int r15), (3, .int x3_h30)]) dX5_mosts_50 (by decide) rfl ?_
          refine q_iconst (pc := 52) F (v := 0) dX5_mosts_52 (by decide) ?_
          refine q_istore (pc := 53) F (lv' := [(6, .int (0 : Int32)), (5, .int r47), (4, .int x4_37), (0, .ref a_M), (2, .int r15), (3, .int x3_h30)]) dX5_mosts_53 (by decide) rfl ?_
          refine q_iconst (pc := 55) F (v := 0) dX5_mosts_55 (by decide) ?_
          refine q_istore (pc := 56) F (lv' := [(7, .int (0 : Int32)), (6, .int (0 : Int32)), (5, .int r47), (4, .int x4_37), (0, .ref a_M), (2, .int r15), (3, .int x3_h30)]) dX5_mosts_56 (by decide) rfl ?_
          refine jnW h (fun K => ∀ (x6_174 : Int32), K x6_174 → Wg E [(a_M, .inr (5, [.long m_trace, .ref a_M_text, .int m_typed, .ref a_M_told, .ref a_M_draft, .ref a_M_s, .ref a_M_images, .ref a_M_kept, .int m_at, .int m_sort, .int m_start, .int m_size, .ref a_M_light, .ref a_M_may, .ref a_M_shine, .ref a_M_worth, .ref a_M_least])), (a_M_told, .inl (cI, 43, .inl m_told)), (a_M_light, .inl (cI, 128, .inl m_light_2)), (a_M_may, .inl (cI, 128, .inl m_may_2)), (a_M_shine, .inl (cI, 7, .inl m_shine_2)), (a_M_worth, .inl (cI, 8192, .inl m_worth_h30))] 0 0 174 [(0, .ref a_M), (2, .int r15), (3, .int x3_h30), (4, .int x4_37), (5, .int r47), (6, .int x6_174)] []) ?_ ?_
          · intro x6_174 h
            refine q_aload_n (pc := 174) F 0 dX5_mosts_174 rfl ?_
            refine q_get (pc := 175) F fgX5_38 0 rfl rfl dX5_mosts_175 ?_
            refine q_iload (pc := 178) F 3 dX5_mosts_178 rfl ?_
            refine q_iload (pc := 180) F 4 dX5_mosts_180 rfl ?_
            refine q_cR (q_runS (As := [.int x4_37, .int r47]) (rest := [.ref a_M_worth]) (pc := 182) F (fun l sz => ct_X5_state D cI cZ x4_37 r47 h l sz) mc_yX5_state sm_yX5_state mlX5_162 ⟨by decide, by decide⟩ ⟨by decide, by decide⟩ ⟨rfl, rfl⟩ [] rfl rfl rfl rfl (Nat.le_of_ble_eq_true rfl) dX5_mosts_182) (fun r182 h => ?_)
            refine q_iload (pc := 185) F 5 dX5_mosts_185 rfl ?_
            obtain ⟨hi187, h⟩ := h
            refine q_iast (pc := 187) F M (cs' := [(a_M, .inr (5, [.long m_trace, .ref a_M_text, .int m_typed, .ref a_M_told, .ref a_M_draft, .ref a_M_s, .ref a_M_images, .ref a_M_kept, .int m_at, .int m_sort, .int m_start, .int m_size, .ref a_M_light, .ref a_M_may, .ref a_M_shine, .ref a_M_worth, .ref a_M_least])), (a_M_told, .inl (cI, 43, .inl m_told)), (a_M_light, .inl (cI, 128, .inl m_light_2)), (a_M_may, .inl (cI, 128, .inl m_may_2)), (a_M_shine, .inl (cI, 7, .inl m_shine_2)), (a_M_worth, .inl (cI, 8192, .inl (upd m_worth_h30 (ix r182) x6_174)))]) 5 rfl hi187 rfl dX5_mosts_187 ?_
            refine q_iinc (pc := 188) F (v := x3_h30 + (-1 : Int32)) (lv' := [(3, .int (x3_h30 + (-1 : Int32))), (0, .ref a_M), (2, .int r15), (4, .int x4_37), (5, .int r47), (6, .int x6_174)]) 2 dX5_mosts_188 rfl rfl (by decide) rfl ?_
            refine q_goto (pc := 191) (tgt := 30) F dX5_mosts_191 (by decide) ?_
            refine q_lv (lv' := [(0, .ref a_M), (2, .int r15), (3, .int (x3_h30 + (-1 : Int32)))]) [1, 2, 0] rfl ?_
            exact ih (x3_h30 + (-1 : Int32)) (upd m_worth_h30 (ix r182) x6_174) h
          · intro K174 J174 h
            obtain ⟨n58, h⟩ := h
            have lp58 : ∀ (n : Nat) (x6_h58 : Int32) (x7_h58 : Int32), wp_X5_mosts_L58 x4_37 r47 m_told m_may_2 m_worth_h30 K174 n x6_h58 x7_h58 → Wg E [(a_M, .inr (5, [.long m_trace, .ref a_M_text, .int m_typed, .ref a_M_told, .ref a_M_draft, .ref a_M_s, .ref a_M_images, .ref a_M_kept, .int m_at, .int m_sort, .int m_start, .int m_size, .ref a_M_light, .ref a_M_may, .ref a_M_shine, .ref a_M_worth, .ref a_M_least])), (a_M_told, .inl (cI, 43, .inl m_told)), (a_M_light, .inl (cI, 128, .inl m_light_2)), (a_M_may, .inl (cI, 128, .inl m_may_2)), (a_M_shine, .inl (cI, 7, .inl m_shine_2)), (a_M_worth, .inl (cI, 8192, .inl m_worth_h30))] 0 0 58 [(0, .ref a_M), (2, .int r15), (3, .int x3_h30), (4, .int x4_37), (5, .int r47), (6, .int x6_h58), (7, .int x7_h58)] [] := by
              intro n
              induction n with
              | zero => intro x6_h58 x7_h58 h; exact h.elim
              | succ n ih =>
                intro x6_h58 x7_h58 h
                unfold wp_X5_mosts_L58 at h
                refine q_iload (pc := 58) F 6 dX5_mosts_58 rfl ?_
                refine q_aload_n (pc := 60) F 0 dX5_mosts_60 rfl ?_
                refine q_get (pc := 61) F fgX5_13 0 rfl rfl dX5_mosts_61 ?_
                refine q_iconst (pc := 64) F (v := 4) dX5_mosts_64 (by decide) ?_
                refine q_ialdk (pc := 65) F (k9 := 4) 1 rfl (vpd (by decide +kernel)) (by decide +kernel) dX5_mosts_65 ?_
                refine q_icmp_ge (pc := 66) (tgt := 174) F dX5_mosts_66 (by decide) (fun c66 => ?_) (fun c66 => ?_)
                · have h := h.1 c66
                  refine q_lv (lv' := [(0, .ref a_M), (2, .int r15), (3, .int x3_h30), (4, .int x4_37), (5, .int r47), (6, .int x6_h58)]) [0, 1, 2, 3, 4, 5] rfl ?_
                  exact J174 x6_h58 h
                · have h := h.2 c66
                  refine q_aload_n (pc := 69) F 0 dX5_mosts_69 rfl ?_
                  refine q_get (pc := 70) F fgX5_32 0 rfl rfl dX5_mosts_70 ?_
                  refine q_iload (pc := 73) F 4 dX5_mosts_73 rfl ?_
                  obtain ⟨hi75, h⟩ := h
                  refine q_iald (pc := 75) F 3 rfl hi75 dX5_mosts_75 ?_
                  refine q_iload (pc := 76) F 3 dX5_mosts_76 rfl ?_
                  refine q_iconst (pc := 78) F (v := -1) dX5_mosts_78 (by decide) ?_
                  refine q_ixor (pc := 79) F dX5_mosts_79 ?_
                  refine q_iand (pc := 80) F dX5_mosts_80 ?_
                  refine q_iconst (pc := 81) F (v := 1) dX5_mosts_81 (by decide) ?_
                  refine q_iload (pc := 82) F 6 dX5_mosts_82 rfl ?_
                  refine q_ishl (pc := 84) F dX5_mosts_84 ?_
                  refine q_iand (pc := 85) F dX5_mosts_85 ?_
                  refine jnW h (fun K => ∀ (y94 : Int32), K y94 → Wg E [(a_M, .inr (5, [.long m_trace, .ref a_M_text, .int m_typed, .ref a_M_told, .ref a_M_draft, .ref a_M_s, .ref a_M_images, .ref a_M_kept, .int m_at, .int m_sort, .int m_start, .int m_size, .ref a_M_light, .ref a_M_may, .ref a_M_shine, .ref a_M_worth, .ref a_M_least])), (a_M_told, .inl (cI, 43, .inl m_told)), (a_M_light, .inl (cI, 128, .inl m_light_2)), (a_M_may, .inl (cI, 128, .inl m_may_2)), (a_M_shine, .inl (cI, 7, .inl m_shine_2)), (a_M_worth, .inl (cI, 8192, .inl m_worth_h30))] 0 0 94 [(0, .ref a_M), (2, .int r15), (3, .int x3_h30), (4, .int x4_37), (5, .int r47), (6, .int x6_h58), (7, .int x7_h58)] [.int y94]) ?_ ?_
                  · intro y94 h
                    refine q_istore (pc := 94) F (lv' := [(8, .int y94), (0, .ref a_M), (2, .int r15), (3, .int x3_h30), (4, .int x4_37), (5, .int r47), (6, .int x6_h58), (7, .int x7_h58)]) dX5_mosts_94 (by decide) rfl ?_
                    refine q_iconst (pc := 96) F (v := 0) dX5_mosts_96 (by decide) ?_
                    refine q_istore (pc := 97) F (lv' := [(9, .int (0 : Int32)), (8, .int y94), (0, .ref a_M), (2, .int r15), (3, .int x3_h30), (4, .int x4_37), (5, .int r47), (6, .int x6_h58), (7, .int x7_h58)]) dX5_mosts_97 (by decide) rfl ?_
                    refine jnW h (fun K => ∀ (x6_168 : Int32), K x6_168 → Wg E [(a_M, .inr (5, [.long m_trace, .ref a_M_text, .int m_typed, .ref a_M_told, .ref a_M_draft, .ref a_M_s, .ref a_M_images, .ref a_M_kept, .int m_at, .int m_sort, .int m_start, .int m_size, .ref a_M_light, .ref a_M_may, .ref a_M_shine, .ref a_M_worth, .ref a_M_least])), (a_M_told, .inl (cI, 43, .inl m_told)), (a_M_light, .inl (cI, 128, .inl m_light_2)), (a_M_may, .inl (cI, 128, .inl m_may_2)), (a_M_shine, .inl (cI, 7, .inl m_shine_2)), (a_M_worth, .inl (cI, 8192, .inl m_worth_h30))] 0 0 168 [(0, .ref a_M), (2, .int r15), (3, .int x3_h30), (4, .int x4_37), (5, .int r47), (6, .int x6_168), (7, .int x7_h58)] []) ?_ ?_
                    · intro x6_168 h
                      refine q_iinc (pc := 168) F (v := x7_h58 + (1 : Int32)) (lv' := [(7, .int (x7_h58 + (1 : Int32))), (0, .ref a_M), (2, .int r15), (3, .int x3_h30), (4, .int x4_37), (5, .int r47), (6, .int x6_168)]) 6 dX5_mosts_168 rfl rfl (by decide) rfl ?_
                      refine q_goto (pc := 171) (tgt := 58) F dX5_mosts_171 (by decide) ?_
                      refine q_lv (lv' := [(0, .ref a_M), (2, .int r15), (3, .int x3_h30), (4, .int x4_37), (5, .int r47), (6, .int x6_168), (7, .int (x7_h58 + (1 : Int32)))]) [1, 2, 3, 4, 5, 6, 0] rfl ?_
                      exact ih x6_168 (x7_h58 + (1 : Int32)) h
                    · intro K168 J168 h
                      obtain ⟨n99, h⟩ := h
                      have lp99 : ∀ (n : Nat) (x6_h99 : Int32) (x9_h99 : Int32), wp_X5_mosts_L99 x4_37 r47 x7_h58 y94 m_worth_h30 K168 n x6_h99 x9_h99 → Wg E [(a_M, .inr (5, [.long m_trace, .ref a_M_text, .int m_typed, .ref a_M_told, .ref a_M_draft, .ref a_M_s, .ref a_M_images, .ref a_M_kept, .int m_at, .int m_sort, .int m_start, .int m_size, .ref a_M_light, .ref a_M_may, .ref a_M_shine, .ref a_M_worth, .ref a_M_least])), (a_M_told, .inl (cI, 43, .inl m_told)), (a_M_light, .inl (cI, 128, .inl m_light_2)), (a_M_may, .inl (cI, 128, .inl m_may_2)), (a_M_shine, .inl (cI, 7, .inl m_shine_2)), (a_M_worth, .inl (cI, 8192, .inl m_worth_h30))] 0 0 99 [(0, .ref a_M), (2, .int r15), (3, .int x3_h30), (4, .int x4_37), (5, .int r47), (6, .int x6_h99), (7, .int x7_h58), (8, .int y94), (9, .int x9_h99)] [] := by
                        intro n
                        induction n with
                        | zero => intro x6_h99 x9_h99 h; exact h.elim
                        | succ n ih =>
                          intro x6_h99 x9_h99 h
                          unfold wp_X5_mosts_L99 at h
                          refine q_iload (pc := 99) F 8 dX5_mosts_99 rfl ?_
                          refine q_bipush (pc := 101) F (v := 6) dX5_mosts_101 (by decide) ?_
                          refine q_icmp_gt (pc := 103) (tgt := 168) F dX5_mosts_103 (by decide) (fun c103 => ?_) (fun c103 => ?_)
                          · have h := h.1 c103
                            refine q_lv (lv' := [(0, .ref a_M), (2, .int r15), (3, .int x3_h30), (4, .int x4_37), (5, .int r47), (6, .int x6_h99), (7, .int x7_h58)]) [0, 1, 2, 3, 4, 5, 6] rfl ?_
                            exact J168 x6_h99 h
                          · have h := h.2 c103
                            refine q_iload (pc := 106) F 7 dX5_mosts_106 rfl ?_
                            refine q_if_eq (pc := 108) (tgt := 168) F dX5_mosts_108 (by decide) (fun c108 => ?_) (fun c108 => ?_)
                            · have h := h.1 c108
                              refine q_lv (lv' := [(0, .ref a_M), (2, .int r15), (3, .int x3_h30), (4, .int x4_37), (5, .int r47), (6, .int x6_h99), (7, .int x7_h58)]) [0, 1, 2, 3, 4, 5, 6] rfl ?_
                              exact J168 x6_h99 h
                            · have h := h.2 c108
                              refine q_iload (pc := 111) F 4 dX5_mosts_111 rfl ?_
                              refine q_iload (pc := 113) F 8 dX5_mosts_113 rfl ?_
                              refine q_ishr (pc := 115) F dX5_mosts_115 ?_
                              refine q_iconst (pc := 116) F (v := 1) dX5_mosts_116 (by decide) ?_
                              refine q_iand (pc := 117) F dX5_mosts_117 ?_
                              refine q_iconst (pc := 118) F (v := 1) dX5_mosts_118 (by decide) ?_
                              refine jnW h (fun K => ∀ (y144 : Int32), K y144 → Wg E [(a_M, .inr (5, [.long m_trace, .ref a_M_text, .int m_typed, .ref a_M_told, .ref a_M_draft, .ref a_M_s, .ref a_M_images, .ref a_M_kept, .int m_at, .int m_sort, .int m_start, .int m_size, .ref a_M_light, .ref a_M_may, .ref a_M_shine, .ref a_M_worth, .ref a_M_least])), (a_M_told, .inl (cI, 43, .inl m_told)), (a_M_light, .inl (cI, 128, .inl m_light_2)), (a_M_may, .inl (cI, 128, .inl m_may_2)), (a_M_shine, .inl (cI, 7, .inl m_shine_2)), (a_M_worth, .inl (cI, 8192, .inl m_worth_h30))] 0 0 144 [(0, .ref a_M), (2, .int r15), (3, .int x3_h30), (4, .int x4_37), (5, .int r47), (6, .int x6_h99), (7, .int x7_h58), (8, .int y94), (9, .int x9_h99)] [.int y144]) ?_ ?_
                              · intro y144 h
                                refine q_istore (pc := 144) F (lv' := [(10, .int y144), (0, .ref a_M), (2, .int r15), (3, .int x3_h30), (4, .int x4_37), (5, .int r47), (6, .int x6_h99), (7, .int x7_h58), (8, .int y94), (9, .int x9_h99)]) dX5_mosts_144 (by decide) rfl ?_
                                refine q_iload (pc := 146) F 0 dX5_mosts_146 rfl ?_
                                refine q_iload (pc := 148) F 6 dX5_mosts_148 rfl ?_
                                refine jnW h (fun K => ∀ (y160 : Int32), K y160 → Wg E [(a_M, .inr (5, [.long m_trace, .ref a_M_text, .int m_typed, .ref a_M_told, .ref a_M_draft, .ref a_M_s, .ref a_M_images, .ref a_M_kept, .int m_at, .int m_sort, .int m_start, .int m_size, .ref a_M_light, .ref a_M_may, .ref a_M_shine, .ref a_M_worth, .ref a_M_least])), (a_M_told, .inl (cI, 43, .inl m_told)), (a_M_light, .inl (cI, 128, .inl m_light_2)), (a_M_may, .inl (cI, 128, .inl m_may_2)), (a_M_shine, .inl (cI, 7, .inl m_shine_2)), (a_M_worth, .inl (cI, 8192, .inl m_worth_h30))] 0 0 160 [(0, .ref a_M), (2, .int r15), (3, .int x3_h30), (4, .int x4_37), (5, .int r47), (7, .int x7_h58), (8, .int y94), (9, .int x9_h99)] [.int y160]) ?_ ?_
                                · intro y160 h
                                  refine q_istore (pc := 160) F (lv' := [(6, .int y160), (0, .ref a_M), (2, .int r15), (3, .int x3_h30), (4, .int x4_37), (5, .int r47), (7, .int x7_h58), (8, .int y94), (9, .int x9_h99)]) dX5_mosts_160 (by decide) rfl ?_
                                  refine q_iinc (pc := 162) F (v := x9_h99 + (1 : Int32)) (lv' := [(9, .int (x9_h99 + (1 : Int32))), (6, .int y160), (0, .ref a_M), (2, .int r15), (3, .int x3_h30), (4, .int x4_37), (5, .int r47), (7, .int x7_h58), (8, .int y94)]) 8 dX5_mosts_162 rfl rfl (by decide) rfl ?_
                                  refine q_goto (pc := 165) (tgt := 99) F dX5_mosts_165 (by decide) ?_
                                  refine q_lv (lv' := [(0, .ref a_M), (2, .int r15), (3, .int x3_h30), (4, .int x4_37), (5, .int r47), (6, .int y160), (7, .int x7_h58), (8, .int y94), (9, .int (x9_h99 + (1 : Int32)))]) [2, 3, 4, 5, 6, 1, 7, 8, 0] rfl ?_
                                  exact ih y160 (x9_h99 + (1 : Int32)) h
                                · intro K160 J160 h
                                  refine q_icmp_le (pc := 150) (tgt := 158) F dX5_mosts_150 (by decide) (fun c150 => ?_) (fun c150 => ?_)
                                  · have h := h.1 c150
                                    refine q_iload (pc := 158) F 6 dX5_mosts_158 rfl ?_
                                    refine q_lv (lv' := [(0, .ref a_M), (2, .int r15), (3, .int x3_h30), (4, .int x4_37), (5, .int r47), (7, .int x7_h58), (8, .int y94), (9, .int x9_h99)]) [1, 2, 3, 4, 5, 7, 8, 9] rfl ?_
                                    exact J160 x6_h99 h
                                  · have h := h.2 c150
                                    refine q_iload (pc := 153) F 0 dX5_mosts_153 rfl ?_
                                    refine q_goto (pc := 155) (tgt := 160) F dX5_mosts_155 (by decide) ?_
                                    refine q_lv (lv' := [(0, .ref a_M), (2, .int r15), (3, .int x3_h30), (4, .int x4_37), (5, .int r47), (7, .int x7_h58), (8, .int y94), (9, .int x9_h99)]) [1, 2, 3, 4, 5, 7, 8, 9] rfl ?_
                                    exact J160 y144 h
                              · intro K144 J144 h
                                refine q_icmp_ne (pc := 119) (tgt := 143) F dX5_mosts_119 (by decide) (fun c119 => ?_) (fun c119 => ?_)
                                · have h := h.2 c119
                                  refine q_iconst (pc := 143) F (v := 0) dX5_mosts_143 (by decide) ?_
                                  exact J144 (0 : Int32) h
                                · have h := h.1 c119
                                  refine q_iconst (pc := 122) F (v := 1) dX5_mosts_122 (by decide) ?_
                                  refine q_aload_n (pc := 123) F 0 dX5_mosts_123 rfl ?_
                                  refine q_get (pc := 124) F fgX5_38 0 rfl rfl dX5_mosts_124 ?_
                                  refine q_iload (pc := 127) F 3 dX5_mosts_127 rfl ?_
                                  refine q_iload (pc := 129) F 4 dX5_mosts_129 rfl ?_
                                  refine q_iload (pc := 131) F 6 dX5_mosts_131 rfl ?_
                                  refine q_iload (pc := 133) F 8 dX5_mosts_133 rfl ?_
                                  refine q_cR (q_runS (As := [.int x4_37, .int r47, .int x7_h58, .int x9_h99]) (rest := [.ref a_M_worth, .int (1 : Int32)]) (pc := 135) F (fun l sz => ct_X5_then D cI cZ x4_37 r47 x7_h58 x9_h99 h l sz) mc_yX5_then sm_yX5_then mlX5_168 ⟨by decide, by decide⟩ ⟨by decide, by decide⟩ ⟨rfl, rfl⟩ [] rfl rfl rfl rfl (Nat.le_of_ble_eq_true rfl) dX5_mosts_135) (fun r135 h => ?_)
                                  obtain ⟨hi138, h⟩ := h
                                  refine q_iald (pc := 138) F 5 rfl hi138 dX5_mosts_138 ?_
                                  refine q_iadd (pc := 139) F dX5_mosts_139 ?_
                                  refine q_goto (pc := 140) (tgt := 144) F dX5_mosts_140 (by decide) ?_
                                  exact J144 ((1 : Int32) + (m_worth_h30 (ix r135))) h
                      refine q_lv (lv' := [(0, .ref a_M), (2, .int r15), (3, .int x3_h30), (4, .int x4_37), (5, .int r47), (6, .int x6_h58), (7, .int x7_h58), (8, .int y94), (9, .int (0 : Int32))]) [2, 3, 4, 5, 6, 7, 8, 1, 0] rfl ?_
                      exact lp99 n99 x6_h58 (0 : Int32) h
                  · intro K94 J94 h
                    refine q_if_eq (pc := 86) (tgt := 93) F dX5_mosts_86 (by decide) (fun c86 => ?_) (fun c86 => ?_)
                    · have h := h.1 c86
                      refine q_iconst (pc := 93) F (v := 0) dX5_mosts_93 (by decide) ?_
                      exact J94 (0 : Int32) h
                    · have h := h.2 c86
                      refine q_iconst (pc := 89) F (v := 1) dX5_mosts_89 (by decide) ?_
                      refine q_goto (pc := 90) (tgt := 94) F dX5_mosts_90 (by decide) ?_
                      exact J94 (1 : Int32) h
            refine q_lv (lv' := [(0, .ref a_M), (2, .int r15), (3, .int x3_h30), (4, .int x4_37), (5, .int r47), (6, .int (0 : Int32)), (7, .int (0 : Int32))]) [4, 5, 6, 3, 2, 1, 0] rfl ?_
            exact lp58 n58 (0 : Int32) (0 : Int32) h
    refine q_lv (lv' := [(0, .ref a_M), (2, .int r15), (3, .int x3_29)]) [2, 1, 0] rfl ?_
    exact lp30 n30 x3_29 m_worth h
  · intro K15 J15 h
    refine q_if_eq (pc := 7) (tgt := 14) F dX5_mosts_7 (by decide) (fun c7 => ?_) (fun c7 => ?_)
    · have h := h.1 c7
      refine q_iconst (pc := 14) F (v := 0) dX5_mosts_14 (by decide) ?_
      refine q_lv (lv' := [(0, .ref a_M)]) [0] rfl ?_
      exact J15 (0 : Int32) h
    · have h := h.2 c7
      refine q_iconst (pc := 10) F (v := 1) dX5_mosts_10 (by decide) ?_
      refine q_goto (pc := 11) (tgt := 15) F dX5_mosts_11 (by decide) ?_
      refine q_lv (lv' := [(0, .ref a_M)]) [0] rfl ?_
      exact J15 (1 : Int32) h

def wp_X5_most (m_told : Nat → Int32) (m_s : Nat → Int32) (m_light : Nat → Int32) (m_may : Nat → Int32) (m_shine : Nat → Int32) (m_worth : Nat → Int32) (post : Int32 → (Nat → Int32) → (Nat → Int32) → (Nat → Int32) → (Nat → Int32) → Prop) : Prop := (wp_X5_mosts (0 : Int32) m_told m_light m_may m_shine m_worth (fun (m_light_2 : Nat → Int32) (m_may_2 : Nat → Int32) (m_shine_2 : Nat → Int32) (m_worth_2 : Nat → Int32) => (wp_X5_gone m_s (fun (r10 : Int32) => (wp_X5_lit m_told m_s (fun (r14 : Int32) => (wp_X5_state r10 r14 (fun (r17 : Int32) => (vp_in r17 8192 ∧ post (m_worth_2 (ix r17)) m_light_2 m_may_2 m_shine_2 m_worth_2)))))))))
abbrev rm_X5_most : Room := { frames := 5, cells := 0, slots := 0, locals := 127 }
set_option maxRecDepth 100000 in
set_option maxHeartbeats 4000000 in
theorem ct_X5_most (D : va_G) (cI cZ : ClassId) (a_M a_M_text a_M_told a_M_draft a_M_s a_M_images a_M_kept a_M_light a_M_may a_M_shine a_M_worth a_M_least : Nat) (m_trace : Int64) (m_typed : Int32) (m_at : Int32) (m_sort : Int32) (m_start : Int32) (m_size : Int32) (m_told : Nat → Int32) (m_s : Nat → Int32) (m_light : Nat → Int32) (m_may : Nat → Int32) (m_shine : Nat → Int32) (m_worth : Nat → Int32) {post : Int32 → (Nat → Int32) → (Nat → Int32) → (Nat → Int32) → (Nat → Int32) → Prop} (h : wp_X5_most m_told m_s m_light m_may m_shine m_worth post) (l : Launch) (sz : Nat) : Met l yX5_most (wsM yX5_most cX5_most 1 (some .int)) rm_X5_most (va_Pc [.ref a_M] (gP D cI cZ [(a_M, .inr (5, [.long m_trace, .ref a_M_text, .int m_typed, .ref a_M_told, .ref a_M_draft, .ref a_M_s, .ref a_M_images, .ref a_M_kept, .int m_at, .int m_sort, .int m_start, .int m_size, .ref a_M_light, .ref a_M_may, .ref a_M_shine, .ref a_M_worth, .ref a_M_least])), (a_M_told, .inl (cI, 43, .inl m_told)), (a_M_s, .inl (cI, 38, .inl m_s)), (a_M_light, .inl (cI, 128, .inl m_light)), (a_M_may, .inl (cI, 128, .inl m_may)), (a_M_shine, .inl (cI, 7, .inl m_shine)), (a_M_worth, .inl (cI, 8192, .inl m_worth))] sz)) (gQi D (fun r (u : (Nat → Int32) × (Nat → Int32) × (Nat → Int32) × (Nat → Int32)) => post r u.1 u.2.1 u.2.2.1 u.2.2.2) (fun (u : (Nat → Int32) × (Nat → Int32) × (Nat → Int32) × (Nat → Int32)) => [(a_M, .inr (5, [.long m_trace, .ref a_M_text, .int m_typed, .ref a_M_told, .ref a_M_draft, .ref a_M_s, .ref a_M_images, .ref a_M_kept, .int m_at, .int m_sort, .int m_start, .int m_size, .ref a_M_light, .ref a_M_may, .ref a_M_shine, .ref a_M_worth, .ref a_M_least])), (a_M_told, .inl (cI, 43, .inl m_told)), (a_M_s, .inl (cI, 38, .inl m_s)), (a_M_light, .inl (cI, 128, .inl u.1)), (a_M_may, .inl (cI, 128, .inl u.2.1)), (a_M_shine, .inl (cI, 7, .inl u.2.2.1)), (a_M_worth, .inl (cI, 8192, .inl u.2.2.2))]) [(a_M, .inr (5, [.long m_trace, .ref a_M_text, .int m_typed, .ref a_M_told, .ref a_M_draft, .ref a_M_s, .ref a_M_images, .ref a_M_kept, .int m_at, .int m_sort, .int m_start, .int m_size, .ref a_M_light, .ref a_M_may, .ref a_M_shine, .ref a_M_worth, .ref a_M_least])), (a_M_told, .inl (cI, 43, .inl m_told)), (a_M_s, .inl (cI, 38, .inl m_s)), (a_M_light, .inl (cI, 128, .inl m_light)), (a_M_may, .inl (cI, 128, .inl m_may)), (a_M_shine, .inl (cI, 7, .inl m_shine)), (a_M_worth, .inl (cI, 8192, .inl m_worth))] sz) 0 0 (va_A [(a_M, .inr (5, [.long m_trace, .ref a_M_text, .int m_typed, .ref a_M_told, .ref a_M_draft, .ref a_M_s, .ref a_M_images, .ref a_M_kept, .int m_at, .int m_sort, .int m_start, .int m_size, .ref a_M_light, .ref a_M_may, .ref a_M_shine, .ref a_M_worth, .ref a_M_least])), (a_M_told, .inl (cI, 43, .inl m_told)), (a_M_s, .inl (cI, 38, .inl m_s)), (a_M_light, .inl (cI, 128, .inl m_light)), (a_M_may, .inl (cI, 128, .inl m_may)), (a_M_shine, .inl (cI, 7, .inl m_shine)), (a_M_worth, .inl (cI, 8192, .inl m_worth))] sz) := by
  refine q_startM (own := RX5) (Qc := gQi D (fun r (u : (Nat → Int32) × (Nat → Int32) × (Nat → Int32) × (Nat → Int32)) => post r u.1 u.2.1 u.2.2.1 u.2.2.2) (fun (u : (Nat → Int32) × (Nat → Int32) × (Nat → Int32) × (Nat → Int32)) => [(a_M, .inr (5, [.long m_trace, .ref a_M_text, .int m_typed, .ref a_M_told, .ref a_M_draft, .ref a_M_s, .ref a_M_images, .ref a_M_kept, .int m_at, .int m_sort, .int m_start, .int m_size, .ref a_M_light, .ref a_M_may, .ref a_M_shine, .ref a_M_worth, .ref a_M_least])), (a_M_told, .inl (cI, 43, .inl m_told)), (a_M_s, .inl (cI, 38, .inl m_s)), (a_M_light, .inl (cI, 128, .inl u.1)), (a_M_may, .inl (cI, 128, .inl u.2.1)), (a_M_shine, .inl (cI, 7, .inl u.2.2.1)), (a_M_worth, .inl (cI, 8192, .inl u.2.2.2))]) [(a_M, .inr (5, [.long m_trace, .ref a_M_text, .int m_typed, .ref a_M_told, .ref a_M_draft, .ref a_M_s, .ref a_M_images, .ref a_M_kept, .int m_at, .int m_sort, .int m_start, .int m_size, .ref a_M_light, .ref a_M_may, .ref a_M_shine, .ref a_M_worth, .ref a_M_least])), (a_M_told, .inl (cI, 43, .inl m_told)), (a_M_s, .inl (cI, 38, .inl m_s)), (a_M_light, .inl (cI, 128, .inl m_light)), (a_M_may, .inl (cI, 128, .inl m_may)), (a_M_shine, .inl (cI, 7, .inl m_shine)), (a_M_worth, .inl (cI, 8192, .inl m_worth))]) (by decide +kernel) rfl (Nat.le_of_ble_eq_true rfl) (fun E F Z M => ?_)
  show Wg E [(a_M, .inr (5, [.long m_trace, .ref a_M_text, .int m_typed, .ref a_M_told, .ref a_M_draft, .ref a_M_s, .ref a_M_images, .ref a_M_kept, .int m_at, .int m_sort, .int m_start, .int m_size, .ref a_M_light, .ref a_M_may, .ref a_M_shine, .ref a_M_worth, .ref a_M_least])), (a_M_told, .inl (cI, 43, .inl m_told)), (a_M_s, .inl (cI, 38, .inl m_s)), (a_M_light, .inl (cI, 128, .inl m_light)), (a_M_may, .inl (cI, 128, .inl m_may)), (a_M_shine, .inl (cI, 7, .inl m_shine)), (a_M_worth, .inl (cI, 8192, .inl m_worth))] 0 0 0 [(0, .ref a_M)] []
  unfold wp_X5_most at h
  refine q_aload_n (pc := 0) F 0 dX5_most_0 rfl ?_
  refine q_iconst (pc := 1) F (v := 0) dX5_most_1 (by decide) ?_
  refine q_cMv (wr := [(a_M_s, .inl (cI, 38, .inl m_s))]) (pc := 2) F M (q_runV (As := [.int (0 : Int32)]) (rest := []) (pc := 2) F (fun l sz => ct_X5_mosts D cI cZ a_M a_M_text a_M_told a_M_draft a_M_s a_M_images a_M_kept a_M_light a_M_may a_M_shine a_M_worth a_M_least m_trace m_typed m_at m_sort m_start m_size m_told m_light m_may m_shine m_worth (0 : Int32) h l sz) mc_yX5_mosts im_yX5_mosts se_yX5_mosts mlX5_172 ⟨by decide, by decide⟩ ⟨by decide, by decide⟩ ⟨rfl, rfl⟩ [0, 1, 3, 4, 5, 6] rfl rfl rfl 0 rfl rfl rfl (Nat.le_of_ble_eq_true rfl) dX5_most_2) [0, 1, 3, 4, 5, 6] [2] rfl rfl rfl (by decide) (fun u2 h => ?_)
  obtain ⟨m_light_2, m_may_2, m_shine_2, m_worth_2⟩ := u2
  refine q_cs (cs' := [(a_M, .inr (5, [.long m_trace, .ref a_M_text, .int m_typed, .ref a_M_told, .ref a_M_draft, .ref a_M_s, .ref a_M_images, .ref a_M_kept, .int m_at, .int m_sort, .int m_start, .int m_size, .ref a_M_light, .ref a_M_may, .ref a_M_shine, .ref a_M_worth, .ref a_M_least])), (a_M_told, .inl (cI, 43, .inl m_told)), (a_M_s, .inl (cI, 38, .inl m_s)), (a_M_light, .inl (cI, 128, .inl m_light_2)), (a_M_may, .inl (cI, 128, .inl m_may_2)), (a_M_shine, .inl (cI, 7, .inl m_shine_2)), (a_M_worth, .inl (cI, 8192, .inl m_worth_2))]) [1, 2, 0, 3, 4, 5, 6] rfl rfl ?_
  refine q_aload_n (pc := 5) F 0 dX5_most_5 rfl ?_
  refine q_get (pc := 6) F fgX5_38 0 rfl rfl dX5_most_6 ?_
  refine q_aload_n (pc := 9) F 0 dX5_most_9 rfl ?_
  refine q_cR (q_runV (As := []) (rest := [.ref a_M_worth]) (pc := 10) F (fun l sz => ct_X5_gone D cI cZ a_M a_M_text a_M_told a_M_draft a_M_s a_M_images a_M_kept a_M_light a_M_may a_M_shine a_M_worth a_M_least m_trace m_typed m_at m_sort m_start m_size m_s h l sz) mc_yX5_gone im_yX5_gone se_yX5_gone mlX5_159 ⟨by decide, by decide⟩ ⟨by decide, by decide⟩ ⟨rfl, rfl⟩ [0, 2] rfl rfl rfl 0 rfl rfl rfl (Nat.le_of_ble_eq_true rfl) dX5_most_10) (fun r10 h => ?_)
  refine q_aload_n (pc := 13) F 0 dX5_most_13 rfl ?_
  refine q_cR (q_runV (As := []) (rest := [.int r10, .ref a_M_worth]) (pc := 14) F (fun l sz => ct_X5_lit D cI cZ a_M a_M_text a_M_told a_M_draft a_M_s a_M_images a_M_kept a_M_light a_M_may a_M_shine a_M_worth a_M_least m_trace m_typed m_at m_sort m_start m_size m_told m_s h l sz) mc_yX5_lit im_yX5_lit se_yX5_lit mlX5_150 ⟨by decide, by decide⟩ ⟨by decide, by decide⟩ ⟨rfl, rfl⟩ [0, 1, 2] rfl rfl rfl 0 rfl rfl rfl (Nat.le_of_ble_eq_true rfl) dX5_most_14) (fun r14 h => ?_)
  refine q_cR (q_runS (As := [.int r10, .int r14]) (rest := [.ref a_M_worth]) (pc := 17) F (fun l sz => ct_X5_state D cI cZ r10 r14 h l sz) mc_yX5_state sm_yX5_state mlX5_162 ⟨by decide, by decide⟩ ⟨by decide, by decide⟩ ⟨rfl, rfl⟩ [] rfl rfl rfl rfl (Nat.le_of_ble_eq_true rfl) dX5_most_17) (fun r17 h => ?_)
  obtain ⟨hi20, h⟩ := h
  refine q_iald (pc := 20) F 6 rfl hi20 dX5_most_20 ?_
  exact q_iretM (pc := 21) F Z dX5_most_21 (m_light_2, m_may_2, m_shine_2, m_worth_2) h rfl

def wp_X5_order_L66 (x3 : Int32) (x4 : Int32) (m_may : Nat → Int32) (m_worth : Nat → Int32) (K173 : Int32 → Prop) : Nat → Int32 → Int32 → Prop
  | 0, _, _ => False
  | n + 1, x7, x8 => ((x8 < (0 : Int32) → K173 x7) ∧ (¬ x8 < (0 : Int32) → (vp_in x4 128 ∧ (jn (fun (K120 : Int32 → Prop) => (jn (fun (K119 : Prop) => (((((m_may (ix x4)) &&& (x3 ^^^ (-1 : Int32))) &&& (jshl (1 : Int32) (x8 / (6 : Int32)))) = (0 : Int32) → K119) ∧ (¬ (((m_may (ix x4)) &&& (x3 ^^^ (-1 : Int32))) &&& (jshl (1 : Int32) (x8 / (6 : Int32)))) = (0 : Int32) → ((((jshr x4 (jrem x8 (6 : Int32))) &&& (1 : Int32)) = (1 : Int32) → K120 (1 : Int32)) ∧ (¬ ((jshr x4 (jrem x8 (6 : Int32))) &&& (1 : Int32)) = (1 : Int32) → K119))))) (K120 (0 : Int32)))) (fun (y120 : Int32) => (jn (fun (K165 : Int32 → Prop) => (jn (fun (K163 : Prop) => ((y120 = (0 : Int32) → K163) ∧ (¬ y120 = (0 : Int32) → (wp_X5_then x3 x4 (x8 / (6 : Int32)) (jrem x8 (6 : Int32)) (fun (r138 : Int32) => (vp_in r138 8192 ∧ (wp_X5_state x3 x4 (fun (r149 : Int32) => (vp_in r149 8192 ∧ (((m_worth (ix r138)) = ((m_worth (ix r149)) - (1 : Int32)) → K165 x8) ∧ (¬ (m_worth (ix r138)) = ((m_worth (ix r149)) - (1 : Int32)) → K163))))))))))) (K165 x7))) (fun (y165 : Int32) => wp_X5_order_L66 x3 x4 m_may m_worth K173 n y165 (x8 + (-1 : Int32)))))))))
def wp_X5_order_L38 (x1 : Int32) (x2 : Int32) (m_light : Nat → Int32) (m_may : Nat → Int32) (m_shine : Nat → Int32) (m_worth : Nat → Int32) (post : Int32 → (Nat → Int32) → (Nat → Int32) → (Nat → Int32) → (Nat → Int32) → Prop) : Nat → Int32 → Int32 → Int32 → Int32 → Prop
  | 0, _, _, _, _ => False
  | n + 1, x3, x4, x5, x6 => (wp_X5_state x3 x4 (fun (r45 : Int32) => (vp_in r45 8192 ∧ (((m_worth (ix r45)) ≤ (0 : Int32) → post x5 m_light m_may m_shine m_worth) ∧ (¬ (m_worth (ix r45)) ≤ (0 : Int32) → ((x1 < x6 → post x5 m_light m_may m_shine m_worth) ∧ (¬ x1 < x6 → (jn (fun (K173 : Int32 → Prop) => (∃ n66 : Nat, wp_X5_order_L66 x3 x4 m_may m_worth K173 n66 (-9 : Int32) (35 : Int32))) (fun (x7_173 : Int32) => (jn (fun (K201 : Int32 → Prop) => ((x6 = x1 → ((x2 = (0 : Int32) → K201 (x7_173 / (6 : Int32))) ∧ (¬ x2 = (0 : Int32) → K201 (jrem x7_173 (6 : Int32))))) ∧ (¬ x6 = x1 → K201 x5))) (fun (y201 : Int32) => (∀ x3_212 : Int32, x3_212 = x3 ||| (jshl (1 : Int32) (x7_173 / (6 : Int32))) → (∀ x4_225 : Int32, x4_225 = x4 &&& ((jshl (1 : Int32) (jrem x7_173 (6 : Int32))) ^^^ (-1 : Int32)) → wp_X5_order_L38 x1 x2 m_light m_may m_shine m_worth post n x3_212 x4_225 y201 (x6 + (1 : Int32)))))))))))))))
def wp_X5_order (p0 : Int32) (p1 : Int32) (m_told : Nat → Int32) (m_s : Nat → Int32) (m_light : Nat → Int32) (m_may : Nat → Int32) (m_shine : Nat → Int32) (m_worth : Nat → Int32) (post : Int32 → (Nat → Int32) → (Nat → Int32) → (Nat → Int32) → (Nat → Int32) → Prop) : Prop := ((p0 < (0 : Int32) → post (-1 : Int32) m_light m_may m_shine m_worth) ∧ (¬ p0 < (0 : Int32) → (wp_X5_in p1 (0 : Int32) (1 : Int32) (fun (r7 : Int32) => ((r7 = (0 : Int32) → post (-1 : Int32) m_light m_may m_shine m_worth) ∧ (¬ r7 = (0 : Int32) → (wp_X5_mosts (0 : Int32) m_told m_light m_may m_shine m_worth (fun (m_light_17 : Nat → Int32) (m_may_17 : Nat → Int32) (m_shine_17 : Nat → Int32) (m_worth_17 : Nat → Int32) => (wp_X5_gone m_s (fun (r21 : Int32) => (wp_X5_lit m_told m_s (fun (r26 : Int32) => (∃ n38 : Nat, wp_X5_order_L38 p0 p1 m_light_17 m_may_17 m_shine_17 m_worth_17 post n38 r21 r26 (-5 : Int32) (0 : Int32))))))))))))))
abbrev rm_X5_order : Room := { frames := 5, cells := 0, slots := 0, locals := 127 }
set_option maxRecDepth 100000 in
set_option maxHeartbeats 4000000 in
theorem ct_X5_order (D : va_G) (cI cZ : ClassId) (a_M a_M_text a_M_told a_M_draft a_M_s a_M_images a_M_kept a_M_light a_M_may a_M_shine a_M_worth a_M_least : Nat) (m_trace : Int64) (m_typed : Int32) (m_at : Int32) (m_sort : Int32) (m_start : Int32) (m_size : Int32) (m_told : Nat → Int32) (m_s : Nat → Int32) (m_light : Nat → Int32) (m_may : Nat → Int32) (m_shine : Nat → Int32) (m_worth : Nat → Int32) (p0 : Int32) (p1 : Int32) {post : Int32 → (Nat → Int32) → (Nat → Int32) → (Nat → Int32) → (Nat → Int32) → Prop} (h : wp_X5_order p0 p1 m_told m_s m_light m_may m_shine m_worth post) (l : Launch) (sz : Nat) : Met l yX5_order (wsM yX5_order cX5_order 12 (some .int)) rm_X5_order (va_Pc [.ref a_M, .int p0, .int p1] (gP D cI cZ [(a_M, .inr (5, [.long m_trace, .ref a_M_text, .int m_typed, .ref a_M_told, .ref a_M_draft, .ref a_M_s, .ref a_M_images, .ref a_M_kept, .int m_at, .int m_sort, .int m_start, .int m_size, .ref a_M_light, .ref a_M_may, .ref a_M_shine, .ref a_M_worth, .ref a_M_least])), (a_M_told, .inl (cI, 43, .inl m_told)), (a_M_s, .inl (cI, 38, .inl m_s)), (a_M_light, .inl (cI, 128, .inl m_light)), (a_M_may, .inl (cI, 128, .inl m_may)), (a_M_shine, .inl (cI, 7, .inl m_shine)), (a_M_worth, .inl (cI, 8192, .inl m_worth))] sz)) (gQi D (fun r (u : (Nat → Int32) × (Nat → Int32) × (Nat → Int32) × (Nat → Int32)) => post r u.1 u.2.1 u.2.2.1 u.2.2.2) (fun (u : (Nat → Int32) × (Nat → Int32) × (Nat → Int32) × (Nat → Int32)) => [(a_M, .inr (5, [.long m_trace, .ref a_M_text, .int m_typed, .ref a_M_told, .ref a_M_draft, .ref a_M_s, .ref a_M_images, .ref a_M_kept, .int m_at, .int m_sort, .int m_start, .int m_size, .ref a_M_light, .ref a_M_may, .ref a_M_shine, .ref a_M_worth, .ref a_M_least])), (a_M_told, .inl (cI, 43, .inl m_told)), (a_M_s, .inl (cI, 38, .inl m_s)), (a_M_light, .inl (cI, 128, .inl u.1)), (a_M_may, .inl (cI, 128, .inl u.2.1)), (a_M_shine, .inl (cI, 7, .inl u.2.2.1)), (a_M_worth, .inl (cI, 8192, .inl u.2.2.2))]) [(a_M, .inr (5, [.long m_trace, .ref a_M_text, .int m_typed, .ref a_M_told, .ref a_M_draft, .ref a_M_s, .ref a_M_images, .ref a_M_kept, .int m_at, .int m_sort, .int m_start, .int m_size, .ref a_M_light, .ref a_M_may, .ref a_M_shine, .ref a_M_worth, .ref a_M_least])), (a_M_told, .inl (cI, 43, .inl m_told)), (a_M_s, .inl (cI, 38, .inl m_s)), (a_M_light, .inl (cI, 128, .inl m_light)), (a_M_may, .inl (cI, 128, .inl m_may)), (a_M_shine, .inl (cI, 7, .inl m_shine)), (a_M_worth, .inl (cI, 8192, .inl m_worth))] sz) 0 0 (va_A [(a_M, .inr (5, [.long m_trace, .ref a_M_text, .int m_typed, .ref a_M_told, .ref a_M_draft, .ref a_M_s, .ref a_M_images, .ref a_M_kept, .int m_at, .int m_sort, .int m_start, .int m_size, .ref a_M_light, .ref a_M_may, .ref a_M_shine, .ref a_M_worth, .ref a_M_least])), (a_M_told, .inl (cI, 43, .inl m_told)), (a_M_s, .inl (cI, 38, .inl m_s)), (a_M_light, .inl (cI, 128, .inl m_light)), (a_M_may, .inl (cI, 128, .inl m_may)), (a_M_shine, .inl (cI, 7, .inl m_shine)), (a_M_worth, .inl (cI, 8192, .inl m_worth))] sz) := by
  refine q_startM (own := RX5) (Qc := gQi D (fun r (u : (Nat → Int32) × (Nat → Int32) × (Nat → Int32) × (Nat → Int32)) => post r u.1 u.2.1 u.2.2.1 u.2.2.2) (fun (u : (Nat → Int32) × (Nat → Int32) × (Nat → Int32) × (Nat → Int32)) => [(a_M, .inr (5, [.long m_trace, .ref a_M_text, .int m_typed, .ref a_M_told, .ref a_M_draft, .ref a_M_s, .ref a_M_images, .ref a_M_kept, .int m_at, .int m_sort, .int m_start, .int m_size, .ref a_M_light, .ref a_M_may, .ref a_M_shine, .ref a_M_worth, .ref a_M_least])), (a_M_told, .inl (cI, 43, .inl m_told)), (a_M_s, .inl (cI, 38, .inl m_s)), (a_M_light, .inl (cI, 128, .inl u.1)), (a_M_may, .inl (cI, 128, .inl u.2.1)), (a_M_shine, .inl (cI, 7, .inl u.2.2.1)), (a_M_worth, .inl (cI, 8192, .inl u.2.2.2))]) [(a_M, .inr (5, [.long m_trace, .ref a_M_text, .int m_typed, .ref a_M_told, .ref a_M_draft, .ref a_M_s, .ref a_M_images, .ref a_M_kept, .int m_at, .int m_sort, .int m_start, .int m_size, .ref a_M_light, .ref a_M_may, .ref a_M_shine, .ref a_M_worth, .ref a_M_least])), (a_M_told, .inl (cI, 43, .inl m_told)), (a_M_s, .inl (cI, 38, .inl m_s)), (a_M_light, .inl (cI, 128, .inl m_light)), (a_M_may, .inl (cI, 128, .inl m_may)), (a_M_shine, .inl (cI, 7, .inl m_shine)), (a_M_worth, .inl (cI, 8192, .inl m_worth))]) (by decide +kernel) rfl (Nat.le_of_ble_eq_true rfl) (fun E F Z M => ?_)
  show Wg E [(a_M, .inr (5, [.long m_trace, .ref a_M_text, .int m_typed, .ref a_M_told, .ref a_M_draft, .ref a_M_s, .ref a_M_images, .ref a_M_kept, .int m_at, .int m_sort, .int m_start, .int m_size, .ref a_M_light, .ref a_M_may, .ref a_M_shine, .ref a_M_worth, .ref a_M_least])), (a_M_told, .inl (cI, 43, .inl m_told)), (a_M_s, .inl (cI, 38, .inl m_s)), (a_M_light, .inl (cI, 128, .inl m_light)), (a_M_may, .inl (cI, 128, .inl m_may)), (a_M_shine, .inl (cI, 7, .inl m_shine)), (a_M_worth, .inl (cI, 8192, .inl m_worth))] 0 0 0 [(0, .ref a_M), (1, .int p0), (2, .int p1)] []
  unfold wp_X5_order at h
  refine q_iload_n (pc := 0) F 1 dX5_order_0 rfl ?_
  refine q_if_lt (pc := 1) (tgt := 13) F dX5_order_1 (by decide) (fun c1 => ?_) (fun c1 => ?_)
  · have h := h.1 c1
    refine q_iconst (pc := 13) F (v := -1) dX5_order_13 (by decide) ?_
    exact q_iretM (pc := 14) F Z dX5_order_14 (m_light, m_may, m_shine, m_worth) h rfl
  · have h := h.2 c1
    refine q_iload_n (pc := 4) F 2 dX5_order_4 rfl ?_
    refine q_iconst (pc := 5) F (v := 0) dX5_order_5 (by decide) ?_
    refine q_iconst (pc := 6) F (v := 1) dX5_order_6 (by decide) ?_
    refine q_cR (q_runS (As := [.int p1, .int (0 : Int32), .int (1 : Int32)]) (rest := []) (pc := 7) F (fun l sz => ct_X5_in D cI cZ p1 (0 : Int32) (1 : Int32) h l sz) mc_yX5_in sm_yX5_in mlX5_48 ⟨by decide, by decide⟩ ⟨by decide, by decide⟩ ⟨rfl, rfl⟩ [] rfl rfl rfl rfl (Nat.le_of_ble_eq_true rfl) dX5_order_7) (fun r7 h => ?_)
    obtain ⟨hb7, h⟩ := h
    refine q_if_ne (pc := 10) (tgt := 15) F dX5_order_10 (by decide) (fun c10 => ?_) (fun c10 => ?_)
    · have h := h.2 c10
      refine q_aload_n (pc := 15) F 0 dX5_order_15 rfl ?_
      refine q_iconst (pc := 16) F (v := 0) dX5_order_16 (by decide) ?_
      refine q_cMv (wr := [(a_M_s, .inl (cI, 38, .inl m_s))]) (pc := 17) F M (q_runV (As := [.int (0 : Int32)]) (rest := []) (pc := 17) F (fun l sz => ct_X5_mosts D cI cZ a_M a_M_text a_M_told a_M_draft a_M_s a_M_images a_M_kept a_M_light a_M_may a_M_shine a_M_worth a_M_least m_trace m_typed m_at m_sort m_start m_size m_told m_light m_may m_shine m_worth (0 : Int32) h l sz) mc_yX5_mosts im_yX5_mosts se_yX5_mosts mlX5_172 ⟨by decide, by decide⟩ ⟨by decide, by decide⟩ ⟨rfl, rfl⟩ [0, 1, 3, 4, 5, 6] rfl rfl rfl 0 rfl rfl rfl (Nat.le_of_ble_eq_true rfl) dX5_order_17) [0, 1, 3, 4, 5, 6] [2] rfl rfl rfl (by decide) (fun u17 h => ?_)
      obtain ⟨m_light_17, m_may_17, m_shine_17, m_worth_17⟩ := u17
      refine q_cs (cs' := [(a_M, .inr (5, [.long m_trace, .ref a_M_text, .int m_typed, .ref a_M_told, .ref a_M_draft, .ref a_M_s, .ref a_M_images, .ref a_M_kept, .int m_at, .int m_sort, .int m_start, .int m_size, .ref a_M_light, .ref a_M_may, .ref a_M_shine, .ref a_M_worth, .ref a_M_least])), (a_M_told, .inl (cI, 43, .inl m_told)), (a_M_s, .inl (cI, 38, .inl m_s)), (a_M_light, .inl (cI, 128, .inl m_light_17)), (a_M_may, .inl (cI, 128, .inl m_may_17)), (a_M_shine, .inl (cI, 7, .inl m_shine_17)), (a_M_worth, .inl (cI, 8192, .inl m_worth_17))]) [1, 2, 0, 3, 4, 5, 6] rfl rfl ?_
      refine q_aload_n (pc := 20) F 0 dX5_order_20 rfl ?_
      refine q_cR (q_runV (As := []) (rest := []) (pc := 21) F (fun l sz => ct_X5_gone D cI cZ a_M a_M_text a_M_told a_M_draft a_M_s a_M_images a_M_kept a_M_light a_M_may a_M_shine a_M_worth a_M_least m_trace m_typed m_at m_sort m_start m_size m_s h l sz) mc_yX5_gone im_yX5_gone se_yX5_gone mlX5_159 ⟨by decide, by decide⟩ ⟨by decide, by decide⟩ ⟨rfl, rfl⟩ [0, 2] rfl rfl rfl 0 rfl rfl rfl (Nat.le_of_ble_eq_true rfl) dX5_order_21) (fun r21 h => ?_)
      refine q_istore_n (pc := 24) F (lv' := [(3, .int r21), (0, .ref a_M), (1, .int p0), (2, .int p1)]) dX5_order_24 (by decide) rfl ?_
      refine q_aload_n (pc := 25) F 1 dX5_order_25 rfl ?_
      refine q_cR (q_runV (As := []) (rest := []) (pc := 26) F (fun l sz => ct_X5_lit D cI cZ a_M a_M_text a_M_told a_M_draft a_M_s a_M_images a_M_kept a_M_light a_M_may a_M_shine a_M_worth a_M_least m_trace m_typed m_at m_sort m_start m_size m_told m_s h l sz) mc_yX5_lit im_yX5_lit se_yX5_lit mlX5_150 ⟨by decide, by decide⟩ ⟨by decide, by decide⟩ ⟨rfl, rfl⟩ [0, 1, 2] rfl rfl rfl 0 rfl rfl rfl (Nat.le_of_ble_eq_true rfl) dX5_order_26) (fun r26 h => ?_)
      refine q_istore (pc := 29) F (lv' := [(4, .int r26), (3, .int r21), (0, .ref a_M), (1, .int p0), (2, .int p1)]) dX5_order_29 (by decide) rfl ?_
      refine q_bipush (pc := 31) F (v := -5) dX5_order_31 (by decide) ?_
      refine q_istore (pc := 33) F (lv' := [(5, .int (-5 : Int32)), (4, .int r26), (3, .int r21), (0, .ref a_M), (1, .int p0), (2, .int p1)]) dX5_order_33 (by decide) rfl ?_
      refine q_iconst (pc := 35) F (v := 0) dX5_order_35 (by decide) ?_
      refine q_istore (pc := 36) F (lv' := [(6, .int (0 : Int32)), (5, .int (-5 : Int32)), (4, .int r26), (3, .int r21), (0, .ref a_M), (1, .int p0), (2, .int p1)]) dX5_order_36 (by decide) rfl ?_
      obtain ⟨n38, h⟩ := h
      have lp38 : ∀ (n : Nat) (x3_h38 : Int32) (x4_h38 : Int32) (x5_h38 : Int32) (x6_h38 : Int32), wp_X5_order_L38 p0 p1 m_light_17 m_may_17 m_shine_17 m_worth_17 post n x3_h38 x4_h38 x5_h38 x6_h38 → Wg E [(a_M, .inr (5, [.long m_trace, .ref a_M_text, .int m_typed, .ref a_M_told, .ref a_M_draft, .ref a_M_s, .ref a_M_images, .ref a_M_kept, .int m_at, .int m_sort, .int m_start, .int m_size, .ref a_M_light, .ref a_M_may, .ref a_M_shine, .ref a_M_worth, .ref a_M_least])), (a_M_told, .inl (cI, 43, .inl m_told)), (a_M_s, .inl (cI, 38, .inl m_s)), (a_M_light, .inl (cI, 128, .inl m_light_17)), (a_M_may, .inl (cI, 128, .inl m_may_17)), (a_M_shine, .inl (cI, 7, .inl m_shine_17)), (a_M_worth, .inl (cI, 8192, .inl m_worth_17))] 0 0 38 [(0, .ref a_M), (1, .int p0), (2, .int p1), (3, .int x3_h38), (4, .int x4_h38), (5, .int x5_h38), (6, .int x6_h38)] [] := by
        intro n
        induction n with
        | zero => intro x3_h38 x4_h38 x5_h38 x6_h38 h; exact h.elim
        | succ n ih =>
          intro x3_h38 x4_h38 x5_h38 x6_h38 h
          unfold wp_X5_order_L38 at h
          refine q_aload_n (pc := 38) F 0 dX5_order_38 rfl ?_
          refine q_get (pc := 39) F fgX5_38 0 rfl rfl dX5_order_39 ?_
          refine q_iload_n (pc := 42) F 3 dX5_order_42 rfl ?_
          refine q_iload (pc := 43) F 4 dX5_order_43 rfl ?_
          refine q_cR (q_runS (As := [.int x3_h38, .int x4_h38]) (rest := [.ref a_M_worth]) (pc := 45) F (fun l sz => ct_X5_state D cI cZ x3_h38 x4_h38 h l sz) mc_yX5_state sm_yX5_state mlX5_162 ⟨by decide, by decide⟩ ⟨by decide, by decide⟩ ⟨rfl, rfl⟩ [] rfl rfl rfl rfl (Nat.le_of_ble_eq_true rfl) dX5_order_45) (fun r45 h => ?_)
          obtain ⟨hi48, h⟩ := h
          refine q_iald (pc := 48) F 6 rfl hi48 dX5_order_48 ?_
          refine q_if_le (pc := 49) (tgt := 233) F dX5_order_49 (by decide) (fun c49 => ?_) (fun c49 => ?_)
          · have h := h.1 c49
            refine q_iload (pc := 233) F 5 dX5_order_233 rfl ?_
            exact q_iretM (pc := 235) F Z dX5_order_235 (m_light_17, m_may_17, m_shine_17, m_worth_17) h rfl
          · have h := h.2 c49
            refine q_iload (pc := 52) F 6 dX5_order_52 rfl ?_
            refine q_iload_n (pc := 54) F 1 dX5_order_54 rfl ?_
            refine q_icmp_gt (pc := 55) (tgt := 233) F dX5_order_55 (by decide) (fun c55 => ?_) (fun c55 => ?_)
            · have h := h.1 c55
              refine q_iload (pc := 233) F 5 dX5_order_233 rfl ?_
              exact q_iretM (pc := 235) F Z dX5_order_235 (m_light_17, m_may_17, m_shine_17, m_worth_17) h rfl
            · have h := h.2 c55
              refine q_bipush (pc := 58) F (v := -9) dX5_order_58 (by decide) ?_
              refine q_istore (pc := 60) F (lv' := [(7, .int (-9 : Int32)), (0, .ref a_M), (1, .int p0), (2, .int p1), (3, .int x3_h38), (4, .int x4_h38), (5, .int x5_h38), (6, .int x6_h38)]) dX5_order_60 (by decide) rfl ?_
              refine q_bipush (pc := 62) F (v := 35) dX5_order_62 (by decide) ?_
              refine q_istore (pc := 64) F (lv' := [(8, .int (35 : Int32)), (7, .int (-9 : Int32)), (0, .ref a_M), (1, .int p0), (2, .int p1), (3, .int x3_h38), (4, .int x4_h38), (5, .int x5_h38), (6, .int x6_h38)]) dX5_order_64 (by decide) rfl ?_
              refine jnW h (fun K => ∀ (x7_173 : Int32), K x7_173 → Wg E [(a_M, .inr (5, [.long m_trace, .ref a_M_text, .int m_typed, .ref a_M_told, .ref a_M_draft, .ref a_M_s, .ref a_M_images, .ref a_M_kept, .int m_at, .int m_sort, .int m_start, .int m_size, .ref a_M_light, .ref a_M_may, .ref a_M_shine, .ref a_M_worth, .ref a_M_least])), (a_M_told, .inl (cI, 43, .inl m_told)), (a_M_s, .inl (cI, 38, .inl m_s)), (a_M_light, .inl (cI, 128, .inl m_light_17)), (a_M_may, .inl (cI, 128, .inl m_may_17)), (a_M_shine, .inl (cI, 7, .inl m_shine_17)), (a_M_worth, .inl (cI, 8192, .inl m_worth_17))] 0 0 173 [(0, .ref a_M), (1, .int p0), (2, .int p1), (3, .int x3_h38), (4, .int x4_h38), (5, .int x5_h38), (6, .int x6_h38), (7, .int x7_173)] []) ?_ ?_
              · intro x7_173 h
                refine q_iload (pc := 173) F 6 dX5_order_173 rfl ?_
                refine q_iload_n (pc := 175) F 1 dX5_order_175 rfl ?_
                refine jnW h (fun K => ∀ (y201 : Int32), K y201 → Wg E [(a_M, .inr (5, [.long m_trace, .ref a_M_text, .int m_typed, .ref a_M_told, .ref a_M_draft, .ref a_M_s, .ref a_M_images, .ref a_M_kept, .int m_at, .int m_sort, .int m_start, .int m_size, .ref a_M_light, .ref a_M_may, .ref a_M_shine, .ref a_M_worth, .ref a_M_least])), (a_M_told, .inl (cI, 43, .inl m_told)), (a_M_s, .inl (cI, 38, .inl m_s)), (a_M_light, .inl (cI, 128, .inl m_light_17)), (a_M_may, .inl (cI, 128, .inl m_may_17)), (a_M_shine, .inl (cI, 7, .inl m_shine_17)), (a_M_worth, .inl (cI, 8192, .inl m_worth_17))] 0 0 201 [(0, .ref a_M), (1, .int p0), (2, .int p1), (3, .int x3_h38), (4, .int x4_h38), (6, .int x6_h38), (7, .int x7_173)] [.int y201]) ?_ ?_
                · intro y201 h
                  refine q_istore (pc := 201) F (lv' := [(5, .int y201), (0, .ref a_M), (1, .int p0), (2, .int p1), (3, .int x3_h38), (4, .int x4_h38), (6, .int x6_h38), (7, .int x7_173)]) dX5_order_201 (by decide) rfl ?_
                  refine q_iload_n (pc := 203) F 4 dX5_order_203 rfl ?_
                  refine q_iconst (pc := 204) F (v := 1) dX5_order_204 (by decide) ?_
                  refine q_iload (pc := 205) F 7 dX5_order_205 rfl ?_
                  refine q_bipush (pc := 207) F (v := 6) dX5_order_207 (by decide) ?_
                  refine q_idiv (pc := 209) F dX5_order_209 (by decide) ?_
                  refine q_ishl (pc := 210) F dX5_order_210 ?_
                  refine q_ior (pc := 211) F dX5_order_211 ?_
                  refine q_topi (fun x3_212 ex3_212 => ?_)
                  have h := h x3_212 ex3_212
                  refine q_istore_n (pc := 212) F (lv' := [(3, .int x3_212), (5, .int y201), (0, .ref a_M), (1, .int p0), (2, .int p1), (4, .int x4_h38), (6, .int x6_h38), (7, .int x7_173)]) dX5_order_212 (by decide) rfl ?_
                  refine q_iload (pc := 213) F 5 dX5_order_213 rfl ?_
                  refine q_iconst (pc := 215) F (v := 1) dX5_order_215 (by decide) ?_
                  refine q_iload (pc := 216) F 7 dX5_order_216 rfl ?_
                  refine q_bipush (pc := 218) F (v := 6) dX5_order_218 (by decide) ?_
                  refine q_irem (pc := 220) F dX5_order_220 (by decide) ?_
                  refine q_ishl (pc := 221) F dX5_order_221 ?_
                  refine q_iconst (pc := 222) F (v := -1) dX5_order_222 (by decide) ?_
                  refine q_ixor (pc := 223) F dX5_order_223 ?_
                  refine q_iand (pc := 224) F dX5_order_224 ?_
                  refine q_topi (fun x4_225 ex4_225 => ?_)
                  have h := h x4_225 ex4_225
                  refine q_istore (pc := 225) F (lv' := [(4, .int x4_225), (3, .int x3_212), (5, .int y201), (0, .ref a_M), (1, .int p0), (2, .int p1), (6, .int x6_h38), (7, .int x7_173)]) dX5_order_225 (by decide) rfl ?_
                  refine q_iinc (pc := 227) F (v := x6_h38 + (1 : Int32)) (lv' := [(6, .int (x6_h38 + (1 : Int32))), (4, .int x4_225), (3, .int x3_212), (5, .int y201), (0, .ref a_M), (1, .int p0), (2, .int p1), (7, .int x7_173)]) 6 dX5_order_227 rfl rfl (by decide) rfl ?_
                  refine q_goto (pc := 230) (tgt := 38) F dX5_order_230 (by decide) ?_
                  refine q_lv (lv' := [(0, .ref a_M), (1, .int p0), (2, .int p1), (3, .int x3_212), (4, .int x4_225), (5, .int y201), (6, .int (x6_h38 + (1 : Int32)))]) [4, 5, 6, 2, 1, 3, 0] rfl ?_
                  exact ih x3_212 x4_225 y201 (x6_h38 + (1 : Int32)) h
                · intro K201 J201 h
                  refine q_icmp_ne (pc := 176) (tgt := 199) F dX5_order_176 (by decide) (fun c176 => ?_) (fun c176 => ?_)
                  · have h := h.2 c176
                    refine q_iload (pc := 199) F 5 dX5_order_199 rfl ?_
                    refine q_lv (lv' := [(0, .ref a_M), (1, .int p0), (2, .int p1), (3, .int x3_h38), (4, .int x4_h38), (6, .int x6_h38), (7, .int x7_173)]) [0, 1, 2, 3, 4, 6, 7] rfl ?_
                    exact J201 x5_h38 h
                  · have h := h.1 c176
                    refine q_iload_n (pc := 179) F 2 dX5_order_179 rfl ?_
                    refine q_if_ne (pc := 180) (tgt := 191) F dX5_order_180 (by decide) (fun c180 => ?_) (fun c180 => ?_)
                    · have h := h.2 c180
                      refine q_iload (pc := 191) F 7 dX5_order_191 rfl ?_
                      refine q_bipush (pc := 193) F (v := 6) dX5_order_193 (by decide) ?_
                      refine q_irem (pc := 195) F dX5_order_195 (by decide) ?_
                      refine q_goto (pc := 196) (tgt := 201) F dX5_order_196 (by decide) ?_
                      refine q_lv (lv' := [(0, .ref a_M), (1, .int p0), (2, .int p1), (3, .int x3_h38), (4, .int x4_h38), (6, .int x6_h38), (7, .int x7_173)]) [0, 1, 2, 3, 4, 6, 7] rfl ?_
                      exact J201 (jrem x7_173 (6 : Int32)) h
                    · have h := h.1 c180
                      refine q_iload (pc := 183) F 7 dX5_order_183 rfl ?_
                      refine q_bipush (pc := 185) F (v := 6) dX5_order_185 (by decide) ?_
                      refine q_idiv (pc := 187) F dX5_order_187 (by decide) ?_
                      refine q_goto (pc := 188) (tgt := 201) F dX5_order_188 (by decide) ?_
                      refine q_lv (lv' := [(0, .ref a_M), (1, .int p0), (2, .int p1), (3, .int x3_h38), (4, .int x4_h38), (6, .int x6_h38), (7, .int x7_173)]) [0, 1, 2, 3, 4, 6, 7] rfl ?_
                      exact J201 (x7_173 / (6 : Int32)) h
              · intro K173 J173 h
                obtain ⟨n66, h⟩ := h
                have lp66 : ∀ (n : Nat) (x7_h66 : Int32) (x8_h66 : Int32), wp_X5_order_L66 x3_h38 x4_h38 m_may_17 m_worth_17 K173 n x7_h66 x8_h66 → Wg E [(a_M, .inr (5, [.long m_trace, .ref a_M_text, .int m_typed, .ref a_M_told, .ref a_M_draft, .ref a_M_s, .ref a_M_images, .ref a_M_kept, .int m_at, .int m_sort, .int m_start, .int m_size, .ref a_M_light, .ref a_M_may, .ref a_M_shine, .ref a_M_worth, .ref a_M_least])), (a_M_told, .inl (cI, 43, .inl m_told)), (a_M_s, .inl (cI, 38, .inl m_s)), (a_M_light, .inl (cI, 128, .inl m_light_17)), (a_M_may, .inl (cI, 128, .inl m_may_17)), (a_M_shine, .inl (cI, 7, .inl m_shine_17)), (a_M_worth, .inl (cI, 8192, .inl m_worth_17))] 0 0 66 [(0, .ref a_M), (1, .int p0), (2, .int p1), (3, .int x3_h38), (4, .int x4_h38), (5, .int x5_h38), (6, .int x6_h38), (7, .int x7_h66), (8, .int x8_h66)] [] := by
                  intro n
                  induction n with
                  | zero => intro x7_h66 x8_h66 h; exact h.elim
                  | succ n ih =>
                    intro x7_h66 x8_h66 h
                    unfold wp_X5_order_L66 at h
                    refine q_iload (pc := 66) F 8 dX5_order_66 rfl ?_
                    refine q_if_lt (pc := 68) (tgt := 173) F dX5_order_68 (by decide) (fun c68 => ?_) (fun c68 => ?_)
                    · have h := h.1 c68
                      refine q_lv (lv' := [(0, .ref a_M), (1, .int p0), (2, .int p1), (3, .int x3_h38), (4, .int x4_h38), (5, .int x5_h38), (6, .int x6_h38), (7, .int x7_h66)]) [0, 1, 2, 3, 4, 5, 6, 7] rfl ?_
                      exact J173 x7_h66 h
                    · have h := h.2 c68
                      refine q_iload (pc := 71) F 8 dX5_order_71 rfl ?_
                      refine q_bipush (pc := 73) F (v := 6) dX5_order_73 (by decide) ?_
                      refine q_idiv (pc := 75) F dX5_order_75 (by decide) ?_
                      refine q_istore (pc := 76) F (lv' := [(9, .int (x8_h66 / (6 : Int32))), (0, .ref a_M), (1, .int p0), (2, .int p1), (3, .int x3_h38), (4, .int x4_h38), (5, .int x5_h38), (6, .int x6_h38), (7, .int x7_h66), (8, .int x8_h66)]) dX5_order_76 (by decide) rfl ?_
                      refine q_iload (pc := 78) F 9 dX5_order_78 rfl ?_
                      refine q_bipush (pc := 80) F (v := 6) dX5_order_80 (by decide) ?_
                      refine q_irem (pc := 82) F dX5_order_82 (by decide) ?_
                      refine q_istore (pc := 83) F (lv' := [(10, .int (jrem x8_h66 (6 : Int32))), (9, .int (x8_h66 / (6 : Int32))), (0, .ref a_M), (1, .int p0), (2, .int p1), (3, .int x3_h38), (4, .int x4_h38), (5, .int x5_h38), (6, .int x6_h38), (7, .int x7_h66), (8, .int x8_h66)]) dX5_order_83 (by decide) rfl ?_
                      refine q_aload_n (pc := 85) F 2 dX5_order_85 rfl ?_
                      refine q_get (pc := 86) F fgX5_32 0 rfl rfl dX5_order_86 ?_
                      refine q_iload (pc := 89) F 6 dX5_order_89 rfl ?_
                      obtain ⟨hi91, h⟩ := h
                      refine q_iald (pc := 91) F 4 rfl hi91 dX5_order_91 ?_
                      refine q_iload_n (pc := 92) F 5 dX5_order_92 rfl ?_
                      refine q_iconst (pc := 93) F (v := -1) dX5_order_93 (by decide) ?_
                      refine q_ixor (pc := 94) F dX5_order_94 ?_
                      refine q_iand (pc := 95) F dX5_order_95 ?_
                      refine q_iconst (pc := 96) F (v := 1) dX5_order_96 (by decide) ?_
                      refine q_iload (pc := 97) F 1 dX5_order_97 rfl ?_
                      refine q_ishl (pc := 99) F dX5_order_99 ?_
                      refine q_iand (pc := 100) F dX5_order_100 ?_
                      refine jnW h (fun K => ∀ (y120 : Int32), K y120 → Wg E [(a_M, .inr (5, [.long m_trace, .ref a_M_text, .int m_typed, .ref a_M_told, .ref a_M_draft, .ref a_M_s, .ref a_M_images, .ref a_M_kept, .int m_at, .int m_sort, .int m_start, .int m_size, .ref a_M_light, .ref a_M_may, .ref a_M_shine, .ref a_M_worth, .ref a_M_least])), (a_M_told, .inl (cI, 43, .inl m_told)), (a_M_s, .inl (cI, 38, .inl m_s)), (a_M_light, .inl (cI, 128, .inl m_light_17)), (a_M_may, .inl (cI, 128, .inl m_may_17)), (a_M_shine, .inl (cI, 7, .inl m_shine_17)), (a_M_worth, .inl (cI, 8192, .inl m_worth_17))] 0 0 120 [(0, .ref a_M), (1, .int p0), (2, .int p1), (3, .int x3_h38), (4, .int x4_h38), (5, .int x5_h38), (6, .int x6_h38), (7, .int x7_h66), (8, .int x8_h66), (9, .int (x8_h66 / (6 : Int32))), (10, .int (jrem x8_h66 (6 : Int32)))] [.int y120]) ?_ ?_
                      · intro y120 h
                        refine q_istore (pc := 120) F (lv' := [(11, .int y120), (0, .ref a_M), (1, .int p0), (2, .int p1), (3, .int x3_h38), (4, .int x4_h38), (5, .int x5_h38), (6, .int x6_h38), (7, .int x7_h66), (8, .int x8_h66), (9, .int (x8_h66 / (6 : Int32))), (10, .int (jrem x8_h66 (6 : Int32)))]) dX5_order_120 (by decide) rfl ?_
                        refine q_iload (pc := 122) F 0 dX5_order_122 rfl ?_
                        refine jnW h (fun K => ∀ (y165 : Int32), K y165 → Wg E [(a_M, .inr (5, [.long m_trace, .ref a_M_text, .int m_typed, .ref a_M_told, .ref a_M_draft, .ref a_M_s, .ref a_M_images, .ref a_M_kept, .int m_at, .int m_sort, .int m_start, .int m_size, .ref a_M_light, .ref a_M_may, .ref a_M_shine, .ref a_M_worth, .ref a_M_least])), (a_M_told, .inl (cI, 43, .inl m_told)), (a_M_s, .inl (cI, 38, .inl m_s)), (a_M_light, .inl (cI, 128, .inl m_light_17)), (a_M_may, .inl (cI, 128, .inl m_may_17)), (a_M_shine, .inl (cI, 7, .inl m_shine_17)), (a_M_worth, .inl (cI, 8192, .inl m_worth_17))] 0 0 165 [(0, .ref a_M), (1, .int p0), (2, .int p1), (3, .int x3_h38), (4, .int x4_h38), (5, .int x5_h38), (6, .int x6_h38), (8, .int x8_h66)] [.int y165]) ?_ ?_
                        · intro y165 h
                          refine q_istore (pc := 165) F (lv' := [(7, .int y165), (0, .ref a_M), (1, .int p0), (2, .int p1), (3, .int x3_h38), (4, .int x4_h38), (5, .int x5_h38), (6, .int x6_h38), (8, .int x8_h66)]) dX5_order_165 (by decide) rfl ?_
                          refine q_iinc (pc := 167) F (v := x8_h66 + (-1 : Int32)) (lv' := [(8, .int (x8_h66 + (-1 : Int32))), (7, .int y165), (0, .ref a_M), (1, .int p0), (2, .int p1), (3, .int x3_h38), (4, .int x4_h38), (5, .int x5_h38), (6, .int x6_h38)]) 8 dX5_order_167 rfl rfl (by decide) rfl ?_
                          refine q_goto (pc := 170) (tgt := 66) F dX5_order_170 (by decide) ?_
                          refine q_lv (lv' := [(0, .ref a_M), (1, .int p0), (2, .int p1), (3, .int x3_h38), (4, .int x4_h38), (5, .int x5_h38), (6, .int x6_h38), (7, .int y165), (8, .int (x8_h66 + (-1 : Int32)))]) [2, 3, 4, 5, 6, 7, 8, 1, 0] rfl ?_
                          exact ih y165 (x8_h66 + (-1 : Int32)) h
                        · intro K165 J165 h
                          refine jnW h (fun K => K → Wg E [(a_M, .inr (5, [.long m_trace, .ref a_M_text, .int m_typed, .ref a_M_told, .ref a_M_draft, .ref a_M_s, .ref a_M_images, .ref a_M_kept, .int m_at, .int m_sort, .int m_start, .int m_size, .ref a_M_light, .ref a_M_may, .ref a_M_shine, .ref a_M_worth, .ref a_M_least])), (a_M_told, .inl (cI, 43, .inl m_told)), (a_M_s, .inl (cI, 38, .inl m_s)), (a_M_light, .inl (cI, 128, .inl m_light_17)), (a_M_may, .inl (cI, 128, .inl m_may_17)), (a_M_shine, .inl (cI, 7, .inl m_shine_17)), (a_M_worth, .inl (cI, 8192, .inl m_worth_17))] 0 0 163 [(0, .ref a_M), (1, .int p0), (2, .int p1), (3, .int x3_h38), (4, .int x4_h38), (5, .int x5_h38), (6, .int x6_h38), (7, .int x7_h66), (8, .int x8_h66)] []) ?_ ?_
                          · intro h
                            refine q_iload (pc := 163) F 7 dX5_order_163 rfl ?_
                            refine q_lv (lv' := [(0, .ref a_M), (1, .int p0), (2, .int p1), (3, .int x3_h38), (4, .int x4_h38), (5, .int x5_h38), (6, .int x6_h38), (8, .int x8_h66)]) [0, 1, 2, 3, 4, 5, 6, 8] rfl ?_
                            exact J165 x7_h66 h
                          · intro K163 J163 h
                            refine q_if_eq (pc := 124) (tgt := 163) F dX5_order_124 (by decide) (fun c124 => ?_) (fun c124 => ?_)
                            · have h := h.1 c124
                              refine q_lv (lv' := [(0, .ref a_M), (1, .int p0), (2, .int p1), (3, .int x3_h38), (4, .int x4_h38), (5, .int x5_h38), (6, .int x6_h38), (7, .int x7_h66), (8, .int x8_h66)]) [1, 2, 3, 4, 5, 6, 7, 8, 9] rfl ?_
                              exact J163 h
                            · have h := h.2 c124
                              refine q_aload_n (pc := 127) F 1 dX5_order_127 rfl ?_
                              refine q_get (pc := 128) F fgX5_38 0 rfl rfl dX5_order_128 ?_
                              refine q_iload_n (pc := 131) F 4 dX5_order_131 rfl ?_
                              refine q_iload (pc := 132) F 5 dX5_order_132 rfl ?_
                              refine q_iload (pc := 134) F 10 dX5_order_134 rfl ?_
                              refine q_iload (pc := 136) F 11 dX5_order_136 rfl ?_
                              refine q_cR (q_runS (As := [.int x3_h38, .int x4_h38, .int (x8_h66 / (6 : Int32)), .int (jrem x8_h66 (6 : Int32))]) (rest := [.ref a_M_worth]) (pc := 138) F (fun l sz => ct_X5_then D cI cZ x3_h38 x4_h38 (x8_h66 / (6 : Int32)) (jrem x8_h66 (6 : Int32)) h l sz) mc_yX5_then sm_yX5_then mlX5_168 ⟨by decide, by decide⟩ ⟨by decide, by decide⟩ ⟨rfl, rfl⟩ [] rfl rfl rfl rfl (Nat.le_of_ble_eq_true rfl) dX5_order_138) (fun r138 h => ?_)
                              obtain ⟨hi141, h⟩ := h
                              refine q_iald (pc := 141) F 6 rfl hi141 dX5_order_141 ?_
                              refine q_aload_n (pc := 142) F 1 dX5_order_142 rfl ?_
                              refine q_get (pc := 143) F fgX5_38 0 rfl rfl dX5_order_143 ?_
                              refine q_iload_n (pc := 146) F 4 dX5_order_146 rfl ?_
                              refine q_iload (pc := 147) F 5 dX5_order_147 rfl ?_
                              refine q_cR (q_runS (As := [.int x3_h38, .int x4_h38]) (rest := [.ref a_M_worth, .int (m_worth_17 (ix r138))]) (pc := 149) F (fun l sz => ct_X5_state D cI cZ x3_h38 x4_h38 h l sz) mc_yX5_state sm_yX5_state mlX5_162 ⟨by decide, by decide⟩ ⟨by decide, by decide⟩ ⟨rfl, rfl⟩ [] rfl rfl rfl rfl (Nat.le_of_ble_eq_true rfl) dX5_order_149) (fun r149 h => ?_)
                              obtain ⟨hi152, h⟩ := h
                              refine q_iald (pc := 152) F 6 rfl hi152 dX5_order_152 ?_
                              refine q_iconst (pc := 153) F (v := 1) dX5_order_153 (by decide) ?_
                              refine q_isub (pc := 154) F dX5_order_154 ?_
                              refine q_icmp_ne (pc := 155) (tgt := 163) F dX5_order_155 (by decide) (fun c155 => ?_) (fun c155 => ?_)
                              · have h := h.2 c155
                                refine q_lv (lv' := [(0, .ref a_M), (1, .int p0), (2, .int p1), (3, .int x3_h38), (4, .int x4_h38), (5, .int x5_h38), (6, .int x6_h38), (7, .int x7_h66), (8, .int x8_h66)]) [1, 2, 3, 4, 5, 6, 7, 8, 9] rfl ?_
                                exact J163 h
                              · have h := h.1 c155
                                refine q_iload (pc := 158) F 9 dX5_order_158 rfl ?_
                                refine q_goto (pc := 160) (tgt := 165) F dX5_order_160 (by decide) ?_
                                refine q_lv (lv' := [(0, .ref a_M), (1, .int p0), (2, .int p1), (3, .int x3_h38), (4, .int x4_h38), (5, .int x5_h38), (6, .int x6_h38), (8, .int x8_h66)]) [1, 2, 3, 4, 5, 6, 7, 9] rfl ?_
                                exact J165 x8_h66 h
                      · intro K120 J120 h
                        refine jnW h (fun K => K → Wg E [(a_M, .inr (5, [.long m_trace, .ref a_M_text, .int m_typed, .ref a_M_told, .ref a_M_draft, .ref a_M_s, .ref a_M_images, .ref a_M_kept, .int m_at, .int m_sort, .int m_start, .int m_size, .ref a_M_light, .ref a_M_may, .ref a_M_shine, .ref a_M_worth, .ref a_M_least])), (a_M_told, .inl (cI, 43, .inl m_told)), (a_M_s, .inl (cI, 38, .inl m_s)), (a_M_light, .inl (cI, 128, .inl m_light_17)), (a_M_may, .inl (cI, 128, .inl m_may_17)), (a_M_shine, .inl (cI, 7, .inl m_shine_17)), (a_M_worth, .inl (cI, 8192, .inl m_worth_17))] 0 0 119 [(0, .ref a_M), (1, .int p0), (2, .int p1), (3, .int x3_h38), (4, .int x4_h38), (5, .int x5_h38), (6, .int x6_h38), (7, .int x7_h66), (8, .int x8_h66), (9, .int (x8_h66 / (6 : Int32))), (10, .int (jrem x8_h66 (6 : Int32)))] []) ?_ ?_
                        · intro h
                          refine q_iconst (pc := 119) F (v := 0) dX5_order_119 (by decide) ?_
                          exact J120 (0 : Int32) h
                        · intro K119 J119 h
                          refine q_if_eq (pc := 101) (tgt := 119) F dX5_order_101 (by decide) (fun c101 => ?_) (fun c101 => ?_)
                          · have h := h.1 c101
                            refine q_lv (lv' := [(0, .ref a_M), (1, .int p0), (2, .int p1), (3, .int x3_h38), (4, .int x4_h38), (5, .int x5_h38), (6, .int x6_h38), (7, .int x7_h66), (8, .int x8_h66), (9, .int (x8_h66 / (6 : Int32))), (10, .int (jrem x8_h66 (6 : Int32)))]) [2, 3, 4, 5, 6, 7, 8, 9, 10, 1, 0] rfl ?_
                            exact J119 h
                          · have h := h.2 c101
                            refine q_iload (pc := 104) F 6 dX5_order_104 rfl ?_
                            refine q_iload (pc := 106) F 0 dX5_order_106 rfl ?_
                            refine q_ishr (pc := 108) F dX5_order_108 ?_
                            refine q_iconst (pc := 109) F (v := 1) dX5_order_109 (by decide) ?_
                            refine q_iand (pc := 110) F dX5_order_110 ?_
                            refine q_iconst (pc := 111) F (v := 1) dX5_order_111 (by decide) ?_
                            refine q_icmp_ne (pc := 112) (tgt := 119) F dX5_order_112 (by decide) (fun c112 => ?_) (fun c112 => ?_)
                            · have h := h.2 c112
                              refine q_lv (lv' := [(0, .ref a_M), (1, .int p0), (2, .int p1), (3, .int x3_h38), (4, .int x4_h38), (5, .int x5_h38), (6, .int x6_h38), (7, .int x7_h66), (8, .int x8_h66), (9, .int (x8_h66 / (6 : Int32))), (10, .int (jrem x8_h66 (6 : Int32)))]) [2, 3, 4, 5, 6, 7, 8, 9, 10, 1, 0] rfl ?_
                              exact J119 h
                            · have h := h.1 c112
                              refine q_iconst (pc := 115) F (v := 1) dX5_order_115 (by decide) ?_
                              refine q_goto (pc := 116) (tgt := 120) F dX5_order_116 (by decide) ?_
                              refine q_lv (lv' := [(0, .ref a_M), (1, .int p0), (2, .int p1), (3, .int x3_h38), (4, .int x4_h38), (5, .int x5_h38), (6, .int x6_h38), (7, .int x7_h66), (8, .int x8_h66), (9, .int (x8_h66 / (6 : Int32))), (10, .int (jrem x8_h66 (6 : Int32)))]) [2, 3, 4, 5, 6, 7, 8, 9, 10, 1, 0] rfl ?_
                              exact J120 (1 : Int32) h
                refine q_lv (lv' := [(0, .ref a_M), (1, .int p0), (2, .int p1), (3, .int x3_h38), (4, .int x4_h38), (5, .int x5_h38), (6, .int x6_h38), (7, .int (-9 : Int32)), (8, .int (35 : Int32))]) [2, 3, 4, 5, 6, 7, 8, 1, 0] rfl ?_
                exact lp66 n66 (-9 : Int32) (35 : Int32) h
      refine q_lv (lv' := [(0, .ref a_M), (1, .int p0), (2, .int p1), (3, .int r21), (4, .int r26), (5, .int (-5 : Int32)), (6, .int (0 : Int32))]) [4, 5, 6, 3, 2, 1, 0] rfl ?_
      exact lp38 n38 r21 r26 (-5 : Int32) (0 : Int32) h
    · have h := h.1 c10
      refine q_iconst (pc := 13) F (v := -1) dX5_order_13 (by decide) ?_
      exact q_iretM (pc := 14) F Z dX5_order_14 (m_light, m_may, m_shine, m_worth) h rfl

def wp_X5_alls_L121 (x1 : Int32) (x2 : Int32) (x6 : Int32) (x7 : Int32) (x8 : Int32) (m_worth : Nat → Int32) (m_least : Nat → Int32) (K232 : Int32 → Int32 → Prop) : Nat → Int32 → Int32 → Int32 → Prop
  | 0, _, _, _ => False
  | n + 1, x4, x5, x9 => (((6 : Int32) ≤ x9 → K232 x4 x5) ∧ (¬ (6 : Int32) ≤ x9 → ((x7 = (0 : Int32) → K232 x4 x5) ∧ (¬ x7 = (0 : Int32) → (wp_X5_then x1 x2 x6 x9 (fun (r139 : Int32) => (jn (fun (K159 : Int32 → Prop) => ((((jshr x2 x9) &&& (1 : Int32)) = (1 : Int32) → K159 (1 : Int32)) ∧ (¬ ((jshr x2 x9) &&& (1 : Int32)) = (1 : Int32) → K159 (0 : Int32)))) (fun (y159 : Int32) => (vp_in r139 8192 ∧ (jn (fun (K181 : Int32 → Prop) => (((0 : Int32) ≤ x8 → K181 x8) ∧ (¬ (0 : Int32) ≤ x8 → K181 ((0 : Int32) - x8)))) (fun (y181 : Int32) => (∀ x12_182 : Int32, x12_182 = (m_least (ix r139)) + y181 → (jn (fun (K202 : Int32 → Prop) => ((y159 = (0 : Int32) → K202 (0 : Int32)) ∧ (¬ y159 = (0 : Int32) → (vp_in r139 8192 ∧ K202 (m_worth (ix r139)))))) (fun (y202 : Int32) => (∀ x4_203 : Int32, x4_203 = x4 + y202 → (jn (fun (K224 : Int32 → Prop) => (jn (fun (K222 : Prop) => ((y159 = (0 : Int32) → K222) ∧ (¬ y159 = (0 : Int32) → ((x5 ≤ x12_182 → K222) ∧ (¬ x5 ≤ x12_182 → K224 x12_182))))) (K224 x5))) (fun (y224 : Int32) => wp_X5_alls_L121 x1 x2 x6 x7 x8 m_worth m_least K232 n x4_203 y224 (x9 + (1 : Int32)))))))))))))))))))
def wp_X5_alls_L65 (x1 : Int32) (x2 : Int32) (m_told : Nat → Int32) (m_may : Nat → Int32) (m_worth : Nat → Int32) (m_least : Nat → Int32) (K238 : Int32 → Int32 → Prop) : Nat → Int32 → Int32 → Int32 → Prop
  | 0, _, _, _ => False
  | n + 1, x4, x5, x6 => (((m_told 4) ≤ x6 → K238 x4 x5) ∧ (¬ (m_told 4) ≤ x6 → (vp_in x2 128 ∧ (jn (fun (K99 : Int32 → Prop) => (((((m_may (ix x2)) &&& (x1 ^^^ (-1 : Int32))) &&& (jshl (1 : Int32) x6)) = (0 : Int32) → K99 (0 : Int32)) ∧ (¬ (((m_may (ix x2)) &&& (x1 ^^^ (-1 : Int32))) &&& (jshl (1 : Int32) x6)) = (0 : Int32) → K99 (1 : Int32)))) (fun (y99 : Int32) => (vp_in ((25 : Int32) + x6) 43 ∧ (wp_X5_ones x1 (fun (r112 : Int32) => (∀ x8_116 : Int32, x8_116 = (m_told (ix ((25 : Int32) + x6))) - r112 → (jn (fun (K232 : Int32 → Int32 → Prop) => (∃ n121 : Nat, wp_X5_alls_L121 x1 x2 x6 y99 x8_116 m_worth m_least K232 n121 x4 x5 (0 : Int32))) (fun (x4_232 : Int32) (x5_232 : Int32) => wp_X5_alls_L65 x1 x2 m_told m_may m_worth m_least K238 n x4_232 x5_232 (x6 + (1 : Int32)))))))))))))
def wp_X5_alls_L16 (x1 : Int32) (m_told : Nat → Int32) (m_may : Nat → Int32) (K268 : (Nat → Int32) → (Nat → Int32) → Prop) : Nat → Int32 → (Nat → Int32) → (Nat → Int32) → Prop
  | 0, _, _, _ => False
  | n + 1, x2, m_worth, m_least => (wp_X5_allLit m_told (fun (r18 : Int32) => ((r18 < x2 → K268 m_worth m_least) ∧ (¬ r18 < x2 → (wp_X5_all m_told (fun (r26 : Int32) => (jn (fun (K37 : Int32 → Prop) => ((x1 = r26 → K37 (1 : Int32)) ∧ (¬ x1 = r26 → K37 (0 : Int32)))) (fun (y37 : Int32) => (jn (fun (K47 : Int32 → Prop) => ((y37 = (0 : Int32) → K47 (0 : Int32)) ∧ (¬ y37 = (0 : Int32) → K47 (1 : Int32)))) (fun (y47 : Int32) => (jn (fun (K60 : Int32 → Prop) => ((y37 = (0 : Int32) → K60 (10000 : Int32)) ∧ (¬ y37 = (0 : Int32) → K60 (0 : Int32)))) (fun (y60 : Int32) => (jn (fun (K238 : Int32 → Int32 → Prop) => (∃ n65 : Nat, wp_X5_alls_L65 x1 x2 m_told m_may m_worth m_least K238 n65 y47 y60 (0 : Int32))) (fun (x4_238 : Int32) (x5_238 : Int32) => (wp_X5_state x1 x2 (fun (r244 : Int32) => (vp_in r244 8192 ∧ (wp_X5_state x1 x2 (fun (r256 : Int32) => (vp_in r256 8192 ∧ wp_X5_alls_L16 x1 m_told m_may K268 n (x2 + (1 : Int32)) (upd m_worth (ix r244) x4_238) (upd m_least (ix r256) x5_238)))))))))))))))))))))
def wp_X5_alls_L10 (m_told : Nat → Int32) (m_light : Nat → Int32) (m_may : Nat → Int32) (m_shine : Nat → Int32) (post : (Nat → Int32) → (Nat → Int32) → (Nat → Int32) → (Nat → Int32) → (Nat → Int32) → Prop) : Nat → Int32 → (Nat → Int32) → (Nat → Int32) → Prop
  | 0, _, _, _ => False
  | n + 1, x1, m_worth, m_least => ((x1 < (0 : Int32) → post m_light m_may m_shine m_worth m_least) ∧ (¬ x1 < (0 : Int32) → (jn (fun (K268 : (Nat → Int32) → (Nat → Int32) → Prop) => (∃ n16 : Nat, wp_X5_alls_L16 x1 m_told m_may K268 n16 (0 : Int32) m_worth m_least)) (fun (m_worth_268 : Nat → Int32) (m_least_268 : Nat → Int32) => wp_X5_alls_L10 m_told m_light m_may m_shine post n (x1 + (-1 : Int32)) m_worth_268 m_least_268))))
def wp_X5_alls (m_told : Nat → Int32) (m_light : Nat → Int32) (m_may : Nat → Int32) (m_shine : Nat → Int32) (m_worth : Nat → Int32) (m_least : Nat → Int32) (post : (Nat → Int32) → (Nat → Int32) → (Nat → Int32) → (Nat → Int32) → (Nat → Int32) → Prop) : Prop := (wp_X5_lights (0 : Int32) m_told m_light m_may m_shine (fun (m_light_2 : Nat → Int32) (m_may_2 : Nat → Int32) (m_shine_2 : Nat → Int32) => (wp_X5_all m_told (fun (r6 : Int32) => (∃ n10 : Nat, wp_X5_alls_L10 m_told m_light_2 m_may_2 m_shine_2 post n10 r6 m_worth m_least)))))
abbrev rm_X5_alls : Room := { frames := 4, cells := 0, slots := 0, locals := 97 }
set_option maxRecDepth 100000 in
set_option maxHeartbeats 4000000 in
theorem ct_X5_alls (D : va_G) (cI cZ : ClassId) (a_M a_M_text a_M_told a_M_draft a_M_s a_M_images a_M_kept a_M_light a_M_may a_M_shine a_M_worth a_M_least : Nat) (m_trace : Int64) (m_typed : Int32) (m_at : Int32) (m_sort : Int32) (m_start : Int32) (m_size : Int32) (m_told : Nat → Int32) (m_light : Nat → Int32) (m_may : Nat → Int32) (m_shine : Nat → Int32) (m_worth : Nat → Int32) (m_least : Nat → Int32) {post : (Nat → Int32) → (Nat → Int32) → (Nat → Int32) → (Nat → Int32) → (Nat → Int32) → Prop} (h : wp_X5_alls m_told m_light m_may m_shine m_worth m_least post) (l : Launch) (sz : Nat) : Met l yX5_alls (wsM yX5_alls cX5_alls 13 none) rm_X5_alls (va_Pc [.ref a_M] (gP D cI cZ [(a_M, .inr (5, [.long m_trace, .ref a_M_text, .int m_typed, .ref a_M_told, .ref a_M_draft, .ref a_M_s, .ref a_M_images, .ref a_M_kept, .int m_at, .int m_sort, .int m_start, .int m_size, .ref a_M_light, .ref a_M_may, .ref a_M_shine, .ref a_M_worth, .ref a_M_least])), (a_M_told, .inl (cI, 43, .inl m_told)), (a_M_light, .inl (cI, 128, .inl m_light)), (a_M_may, .inl (cI, 128, .inl m_may)), (a_M_shine, .inl (cI, 7, .inl m_shine)), (a_M_worth, .inl (cI, 8192, .inl m_worth)), (a_M_least, .inl (cI, 8192, .inl m_least))] sz)) (gQv D (fun (u : (Nat → Int32) × (Nat → Int32) × (Nat → Int32) × (Nat → Int32) × (Nat → Int32)) => post u.1 u.2.1 u.2.2.1 u.2.2.2.1 u.2.2.2.2) (fun (u : (Nat → Int32) × (Nat → Int32) × (Nat → Int32) × (Nat → Int32) × (Nat → Int32)) => [(a_M, .inr (5, [.long m_trace, .ref a_M_text, .int m_typed, .ref a_M_told, .ref a_M_draft, .ref a_M_s, .ref a_M_images, .ref a_M_kept, .int m_at, .int m_sort, .int m_start, .int m_size, .ref a_M_light, .ref a_M_may, .ref a_M_shine, .ref a_M_worth, .ref a_M_least])), (a_M_told, .inl (cI, 43, .inl m_told)), (a_M_light, .inl (cI, 128, .inl u.1)), (a_M_may, .inl (cI, 128, .inl u.2.1)), (a_M_shine, .inl (cI, 7, .inl u.2.2.1)), (a_M_worth, .inl (cI, 8192, .inl u.2.2.2.1)), (a_M_least, .inl (cI, 8192, .inl u.2.2.2.2))]) [(a_M, .inr (5, [.long m_trace, .ref a_M_text, .int m_typed, .ref a_M_told, .ref a_M_draft, .ref a_M_s, .ref a_M_images, .ref a_M_kept, .int m_at, .int m_sort, .int m_start, .int m_size, .ref a_M_light, .ref a_M_may, .ref a_M_shine, .ref a_M_worth, .ref a_M_least])), (a_M_told, .inl (cI, 43, .inl m_told)), (a_M_light, .inl (cI, 128, .inl m_light)), (a_M_may, .inl (cI, 128, .inl m_may)), (a_M_shine, .inl (cI, 7, .inl m_shine)), (a_M_worth, .inl (cI, 8192, .inl m_worth)), (a_M_least, .inl (cI, 8192, .inl m_least))] sz) 0 0 (va_A [(a_M, .inr (5, [.long m_trace, .ref a_M_text, .int m_typed, .ref a_M_told, .ref a_M_draft, .ref a_M_s, .ref a_M_images, .ref a_M_kept, .int m_at, .int m_sort, .int m_start, .int m_size, .ref a_M_light, .ref a_M_may, .ref a_M_shine, .ref a_M_worth, .ref a_M_least])), (a_M_told, .inl (cI, 43, .inl m_told)), (a_M_light, .inl (cI, 128, .inl m_light)), (a_M_may, .inl (cI, 128, .inl m_may)), (a_M_shine, .inl (cI, 7, .inl m_shine)), (a_M_worth, .inl (cI, 8192, .inl m_worth)), (a_M_least, .inl (cI, 8192, .inl m_least))] sz) := by
  refine q_startM (own := RX5) (Qc := gQv D (fun (u : (Nat → Int32) × (Nat → Int32) × (Nat → Int32) × (Nat → Int32) × (Nat → Int32)) => post u.1 u.2.1 u.2.2.1 u.2.2.2.1 u.2.2.2.2) (fun (u : (Nat → Int32) × (Nat → Int32) × (Nat → Int32) × (Nat → Int32) × (Nat → Int32)) => [(a_M, .inr (5, [.long m_trace, .ref a_M_text, .int m_typed, .ref a_M_told, .ref a_M_draft, .ref a_M_s, .ref a_M_images, .ref a_M_kept, .int m_at, .int m_sort, .int m_start, .int m_size, .ref a_M_light, .ref a_M_may, .ref a_M_shine, .ref a_M_worth, .ref a_M_least])), (a_M_told, .inl (cI, 43, .inl m_told)), (a_M_light, .inl (cI, 128, .inl u.1)), (a_M_may, .inl (cI, 128, .inl u.2.1)), (a_M_shine, .inl (cI, 7, .inl u.2.2.1)), (a_M_worth, .inl (cI, 8192, .inl u.2.2.2.1)), (a_M_least, .inl (cI, 8192, .inl u.2.2.2.2))]) [(a_M, .inr (5, [.long m_trace, .ref a_M_text, .int m_typed, .ref a_M_told, .ref a_M_draft, .ref a_M_s, .ref a_M_images, .ref a_M_kept, .int m_at, .int m_sort, .int m_start, .int m_size, .ref a_M_light, .ref a_M_may, .ref a_M_shine, .ref a_M_worth, .ref a_M_least])), (a_M_told, .inl (cI, 43, .inl m_told)), (a_M_light, .inl (cI, 128, .inl m_light)), (a_M_may, .inl (cI, 128, .inl m_may)), (a_M_shine, .inl (cI, 7, .inl m_shine)), (a_M_worth, .inl (cI, 8192, .inl m_worth)), (a_M_least, .inl (cI, 8192, .inl m_least))]) (by decide +kernel) rfl (Nat.le_of_ble_eq_true rfl) (fun E F Z M => ?_)
  show Wg E [(a_M, .inr (5, [.long m_trace, .ref a_M_text, .int m_typed, .ref a_M_told, .ref a_M_draft, .ref a_M_s, .ref a_M_images, .ref a_M_kept, .int m_at, .int m_sort, .int m_start, .int m_size, .ref a_M_light, .ref a_M_may, .ref a_M_shine, .ref a_M_worth, .ref a_M_least])), (a_M_told, .inl (cI, 43, .inl m_told)), (a_M_light, .inl (cI, 128, .inl m_light)), (a_M_may, .inl (cI, 128, .inl m_may)), (a_M_shine, .inl (cI, 7, .inl m_shine)), (a_M_worth, .inl (cI, 8192, .inl m_worth)), (a_M_least, .inl (cI, 8192, .inl m_least))] 0 0 0 [(0, .ref a_M)] []
  unfold wp_X5_alls at h
  refine q_aload_n (pc := 0) F 0 dX5_alls_0 rfl ?_
  refine q_iconst (pc := 1) F (v := 0) dX5_alls_1 (by decide) ?_
  refine q_cMv (wr := [(a_M_worth, .inl (cI, 8192, .inl m_worth)), (a_M_least, .inl (cI, 8192, .inl m_least))]) (pc := 2) F M (q_runV (As := [.int (0 : Int32)]) (rest := []) (pc := 2) F (fun l sz => ct_X5_lights D cI cZ a_M a_M_text a_M_told a_M_draft a_M_s a_M_images a_M_kept a_M_light a_M_may a_M_shine a_M_worth a_M_least m_trace m_typed m_at m_sort m_start m_size m_told m_light m_may m_shine (0 : Int32) h l sz) mc_yX5_lights im_yX5_lights se_yX5_lights mlX5_146 ⟨by decide, by decide⟩ ⟨by decide, by decide⟩ ⟨rfl, rfl⟩ [0, 1, 2, 3, 4] rfl rfl rfl 0 rfl rfl rfl (Nat.le_of_ble_eq_true rfl) dX5_alls_2) [0, 1, 2, 3, 4] [5, 6] rfl rfl rfl (by decide) (fun u2 h => ?_)
  obtain ⟨m_light_2, m_may_2, m_shine_2⟩ := u2
  refine q_cs (cs' := [(a_M, .inr (5, [.long m_trace, .ref a_M_text, .int m_typed, .ref a_M_told, .ref a_M_draft, .ref a_M_s, .ref a_M_images, .ref a_M_kept, .int m_at, .int m_sort, .int m_start, .int m_size, .ref a_M_light, .ref a_M_may, .ref a_M_shine, .ref a_M_worth, .ref a_M_least])), (a_M_told, .inl (cI, 43, .inl m_told)), (a_M_light, .inl (cI, 128, .inl m_light_2)), (a_M_may, .inl (cI, 128, .inl m_may_2)), (a_M_shine, .inl (cI, 7, .inl m_shine_2)), (a_M_worth, .inl (cI, 8192, .inl m_worth)), (a_M_least, .inl (cI, 8192, .inl m_least))]) [2, 3, 4, 5, 6, 0, 1] rfl rfl ?_
  refine q_aload_n (pc := 5) F 0 dX5_alls_5 rfl ?_
  refine q_cR (q_runV (As := []) (rest := []) (pc := 6) F (fun l sz => ct_X5_all D cI cZ a_M a_M_text a_M_told a_M_draft a_M_s a_M_images a_M_kept a_M_light a_M_may a_M_shine a_M_worth a_M_least m_trace m_typed m_at m_sort m_start m_size m_told h l sz) mc_yX5_all im_yX5_all se_yX5_all mlX5_165 ⟨by decide, by decide⟩ ⟨by decide, by decide⟩ ⟨rfl, rfl⟩ [0, 1] rfl rfl rfl 0 rfl rfl rfl (Nat.le_of_ble_eq_true rfl) dX5_alls_6) (fun r6 h => ?_)
  refine q_istore_n (pc := 9) F (lv' := [(1, .int r6), (0, .ref a_M)]) dX5_alls_9 (by decide) rfl ?_
  obtain ⟨n10, h⟩ := h
  have lp10 : ∀ (n : Nat) (x1_h10 : Int32) (m_worth_h10 : Nat → Int32) (m_least_h10 : Nat → Int32), wp_X5_alls_L10 m_told m_light_2 m_may_2 m_shine_2 post n x1_h10 m_worth_h10 m_least_h10 → Wg E [(a_M, .inr (5, [.long m_trace, .ref a_M_text, .int m_typed, .ref a_M_told, .ref a_M_draft, .ref a_M_s, .ref a_M_images, .ref a_M_kept, .int m_at, .int m_sort, .int m_start, .int m_size, .ref a_M_light, .ref a_M_may, .ref a_M_shine, .ref a_M_worth, .ref a_M_least])), (a_M_told, .inl (cI, 43, .inl m_told)), (a_M_light, .inl (cI, 128, .inl m_light_2)), (a_M_may, .inl (cI, 128, .inl m_may_2)), (a_M_shine, .inl (cI, 7, .inl m_shine_2)), (a_M_worth, .inl (cI, 8192, .inl m_worth_h10)), (a_M_least, .inl (cI, 8192, .inl m_least_h10))] 0 0 10 [(0, .ref a_M), (1, .int x1_h10)] [] := by
    intro n
    induction n with
    | zero => intro x1_h10 m_worth_h10 m_least_h10 h; exact h.elim
    | succ n ih =>
      intro x1_h10 m_worth_h10 m_least_h10 h
      unfold wp_X5_alls_L10 at h
      refine q_iload_n (pc := 10) F 1 dX5_alls_10 rfl ?_
      refine q_if_lt (pc := 11) (tgt := 274) F dX5_alls_11 (by decide) (fun c11 => ?_) (fun c11 => ?_)
      · have h := h.1 c11
        exact q_vretM (pc := 274) F Z dX5_alls_274 (m_light_2, m_may_2, m_shine_2, m_worth_h10, m_least_h10) h rfl
      · have h := h.2 c11
        refine q_iconst (pc := 14) F (v := 0) dX5_alls_14 (by decide) ?_
        refine q_istore_n (pc := 15) F (lv' := [(2, .int (0 : Int32)), (0, .ref a_M), (1, .int x1_h10)]) dX5_alls_15 (by decide) rfl ?_
        refine jnW h (fun K => ∀ (m_worth_268 : Nat → Int32) (m_least_268 : Nat → Int32), K m_worth_268 m_least_268 → Wg E [(a_M, .inr (5, [.long m_trace, .ref a_M_text, .int m_typed, .ref a_M_told, .ref a_M_draft, .ref a_M_s, .ref a_M_images, .ref a_M_kept, .int m_at, .int m_sort, .int m_start, .int m_size, .ref a_M_light, .ref a_M_may, .ref a_M_shine, .ref a_M_worth, .ref a_M_least])), (a_M_told, .inl (cI, 43, .inl m_told)), (a_M_light, .inl (cI, 128, .inl m_light_2)), (a_M_may, .inl (cI, 128, .inl m_may_2)), (a_M_shine, .inl (cI, 7, .inl m_shine_2)), (a_M_worth, .inl (cI, 8192, .inl m_worth_268)), (a_M_least, .inl (cI, 8192, .inl m_least_268))] 0 0 268 [(0, .ref a_M), (1, .int x1_h10)] []) ?_ ?_
        · intro m_worth_268 m_least_268 h
          refine q_iinc (pc := 268) F (v := x1_h10 + (-1 : Int32)) (lv' := [(1, .int (x1_h10 + (-1 : Int32))), (0, .ref a_M)]) 1 dX5_alls_268 rfl rfl (by decide) rfl ?_
          refine q_goto (pc := 271) (tgt := 10) F dX5_alls_271 (by decide) ?_
          refine q_lv (lv' := [(0, .ref a_M), (1, .int (x1_h10 + (-1 : Int32)))]) [1, 0] rfl ?_
          exact ih (x1_h10 + (-1 : Int32)) m_worth_268 m_least_268 h
        · intro K268 J268 h
          obtain ⟨n16, h⟩ := h
          have lp16 : ∀ (n : Nat) (x2_h16 : Int32) (m_worth_h16 : Nat → Int32) (m_least_h16 : Nat → Int32), wp_X5_alls_L16 x1_h10 m_told m_may_2 K268 n x2_h16 m_worth_h16 m_least_h16 → Wg E [(a_M, .inr (5, [.long m_trace, .ref a_M_text, .int m_typed, .ref a_M_told, .ref a_M_draft, .ref a_M_s, .ref a_M_images, .ref a_M_kept, .int m_at, .int m_sort, .int m_start, .int m_size, .ref a_M_light, .ref a_M_may, .ref a_M_shine, .ref a_M_worth, .ref a_M_least])), (a_M_told, .inl (cI, 43, .inl m_told)), (a_M_light, .inl (cI, 128, .inl m_light_2)), (a_M_may, .inl (cI, 128, .inl m_may_2)), (a_M_shine, .inl (cI, 7, .inl m_shine_2)), (a_M_worth, .inl (cI, 8192, .inl m_worth_h16)), (a_M_least, .inl (cI, 8192, .inl m_least_h16))] 0 0 16 [(0, .ref a_M), (1, .int x1_h10), (2, .int x2_h16)] [] := by
            intro n
            induction n with
            | zero => intro x2_h16 m_worth_h16 m_least_h16 h; exact h.elim
            | succ n ih =>
              intro x2_h16 m_worth_h16 m_least_h16 h
              unfold wp_X5_alls_L16 at h
              refine q_iload_n (pc := 16) F 2 dX5_alls_16 rfl ?_
              refine q_aload_n (pc := 17) F 0 dX5_alls_17 rfl ?_
              refine q_cR (q_runV (As := []) (rest := [.int x2_h16]) (pc := 18) F (fun l sz => ct_X5_allLit D cI cZ a_M a_M_text a_M_told a_M_draft a_M_s a_M_images a_M_kept a_M_light a_M_may a_M_shine a_M_worth a_M_least m_trace m_typed m_at m_sort m_start m_size m_told h l sz) mc_yX5_allLit im_yX5_allLit se_yX5_allLit mlX5_128 ⟨by decide, by decide⟩ ⟨by decide, by decide⟩ ⟨rfl, rfl⟩ [0, 1] rfl rfl rfl 0 rfl rfl rfl (Nat.le_of_ble_eq_true rfl) dX5_alls_18) (fun r18 h => ?_)
              refine q_icmp_gt (pc := 21) (tgt := 268) F dX5_alls_21 (by decide) (fun c21 => ?_) (fun c21 => ?_)
              · have h := h.1 c21
                refine q_lv (lv' := [(0, .ref a_M), (1, .int x1_h10)]) [0, 1] rfl ?_
                exact J268 m_worth_h16 m_least_h16 h
              · have h := h.2 c21
                refine q_iload_n (pc := 24) F 1 dX5_alls_24 rfl ?_
                refine q_aload_n (pc := 25) F 0 dX5_alls_25 rfl ?_
                refine q_cR (q_runV (As := []) (rest := [.int x1_h10]) (pc := 26) F (fun l sz => ct_X5_all D cI cZ a_M a_M_text a_M_told a_M_draft a_M_s a_M_images a_M_kept a_M_light a_M_may a_M_shine a_M_worth a_M_least m_trace m_typed m_at m_sort m_start m_size m_told h l sz) mc_yX5_all im_yX5_all se_yX5_all mlX5_165 ⟨by decide, by decide⟩ ⟨by decide, by decide⟩ ⟨rfl, rfl⟩ [0, 1] rfl rfl rfl 0 rfl rfl rfl (Nat.le_of_ble_eq_true rfl) dX5_alls_26) (fun r26 h => ?_)
                refine jnW h (fun K => ∀ (y37 : Int32), K y37 → Wg E [(a_M, .inr (5, [.long m_trace, .ref a_M_text, .int m_typed, .ref a_M_told, .ref a_M_draft, .ref a_M_s, .ref a_M_images, .ref a_M_kept, .int m_at, .int m_sort, .int m_start, .int m_size, .ref a_M_light, .ref a_M_may, .ref a_M_shine, .ref a_M_worth, .ref a_M_least])), (a_M_told, .inl (cI, 43, .inl m_told)), (a_M_light, .inl (cI, 128, .inl m_light_2)), (a_M_may, .inl (cI, 128, .inl m_may_2)), (a_M_shine, .inl (cI, 7, .inl m_shine_2)), (a_M_worth, .inl (cI, 8192, .inl m_worth_h16)), (a_M_least, .inl (cI, 8192, .inl m_least_h16))] 0 0 37 [(0, .ref a_M), (1, .int x1_h10), (2, .int x2_h16)] [.int y37]) ?_ ?_
                · intro y37 h
                  refine q_istore_n (pc := 37) F (lv' := [(3, .int y37), (0, .ref a_M), (1, .int x1_h10), (2, .int x2_h16)]) dX5_alls_37 (by decide) rfl ?_
                  refine q_iload_n (pc := 38) F 0 dX5_alls_38 rfl ?_
                  refine jnW h (fun K => ∀ (y47 : Int32), K y47 → Wg E [(a_M, .inr (5, [.long m_trace, .ref a_M_text, .int m_typed, .ref a_M_told, .ref a_M_draft, .ref a_M_s, .ref a_M_images, .ref a_M_kept, .int m_at, .int m_sort, .int m_start, .int m_size, .ref a_M_light, .ref a_M_may, .ref a_M_shine, .ref a_M_worth, .ref a_M_least])), (a_M_told, .inl (cI, 43, .inl m_told)), (a_M_light, .inl (cI, 128, .inl m_light_2)), (a_M_may, .inl (cI, 128, .inl m_may_2)), (a_M_shine, .inl (cI, 7, .inl m_shine_2)), (a_M_worth, .inl (cI, 8192, .inl m_worth_h16)), (a_M_least, .inl (cI, 8192, .inl m_least_h16))] 0 0 47 [(0, .ref a_M), (1, .int x1_h10), (2, .int x2_h16), (3, .int y37)] [.int y47]) ?_ ?_
                  · intro y47 h
                    refine q_istore (pc := 47) F (lv' := [(4, .int y47), (0, .ref a_M), (1, .int x1_h10), (2, .int x2_h16), (3, .int y37)]) dX5_alls_47 (by decide) rfl ?_
                    refine q_iload_n (pc := 49) F 4 dX5_alls_49 rfl ?_
                    refine jnW h (fun K => ∀ (y60 : Int32), K y60 → Wg E [(a_M, .inr (5, [.long m_trace, .ref a_M_text, .int m_typed, .ref a_M_told, .ref a_M_draft, .ref a_M_s, .ref a_M_images, .ref a_M_kept, .int m_at, .int m_sort, .int m_start, .int m_size, .ref a_M_light, .ref a_M_may, .ref a_M_shine, .ref a_M_worth, .ref a_M_least])), (a_M_told, .inl (cI, 43, .inl m_told)), (a_M_light, .inl (cI, 128, .inl m_light_2)), (a_M_may, .inl (cI, 128, .inl m_may_2)), (a_M_shine, .inl (cI, 7, .inl m_shine_2)), (a_M_worth, .inl (cI, 8192, .inl m_worth_h16)), (a_M_least, .inl (cI, 8192, .inl m_least_h16))] 0 0 60 [(0, .ref a_M), (1, .int x1_h10), (2, .int x2_h16), (4, .int y47)] [.int y60]) ?_ ?_
                    · intro y60 h
                      refine q_istore (pc := 60) F (lv' := [(5, .int y60), (0, .ref a_M), (1, .int x1_h10), (2, .int x2_h16), (4, .int y47)]) dX5_alls_60 (by decide) rfl ?_
                      refine q_iconst (pc := 62) F (v := 0) dX5_alls_62 (by decide) ?_
                      refine q_istore (pc := 63) F (lv' := [(6, .int (0 : Int32)), (5, .int y60), (0, .ref a_M), (1, .int x1_h10), (2, .int x2_h16), (4, .int y47)]) dX5_alls_63 (by decide) rfl ?_
                      refine jnW h (fun K => ∀ (x4_238 : Int32) (x5_238 : Int32), K x4_238 x5_238 → Wg E [(a_M, .inr (5, [.long m_trace, .ref a_M_text, .int m_typed, .ref a_M_told, .ref a_M_draft, .ref a_M_s, .ref a_M_images, .ref a_M_kept, .int m_at, .int m_sort, .int m_start, .int m_size, .ref a_M_light, .ref a_M_may, .ref a_M_shine, .ref a_M_worth, .ref a_M_least])), (a_M_told, .inl (cI, 43, .inl m_told)), (a_M_light, .inl (cI, 128, .inl m_light_2)), (a_M_may, .inl (cI, 128, .inl m_may_2)), (a_M_shine, .inl (cI, 7, .inl m_shine_2)), (a_M_worth, .inl (cI, 8192, .inl m_worth_h16)), (a_M_least, .inl (cI, 8192, .inl m_least_h16))] 0 0 238 [(0, .ref a_M), (1, .int x1_h10), (2, .int x2_h16), (4, .int x4_238), (5, .int x5_238)] []) ?_ ?_
                      · intro x4_238 x5_238 h
                        refine q_aload_n (pc := 238) F 0 dX5_alls_238 rfl ?_
                        refine q_get (pc := 239) F fgX5_38 0 rfl rfl dX5_alls_239 ?_
                        refine q_iload_n (pc := 242) F 1 dX5_alls_242 rfl ?_
                        refine q_iload_n (pc := 243) F 2 dX5_alls_243 rfl ?_
                        refine q_cR (q_runS (As := [.int x1_h10, .int x2_h16]) (rest := [.ref a_M_worth]) (pc := 244) F (fun l sz => ct_X5_state D cI cZ x1_h10 x2_h16 h l sz) mc_yX5_state sm_yX5_state mlX5_162 ⟨by decide, by decide⟩ ⟨by decide, by decide⟩ ⟨rfl, rfl⟩ [] rfl rfl rfl rfl (Nat.le_of_ble_eq_true rfl) dX5_alls_244) (fun r244 h => ?_)
                        refine q_iload (pc := 247) F 3 dX5_alls_247 rfl ?_
                        obtain ⟨hi249, h⟩ := h
                        refine q_iast (pc := 249) F M (cs' := [(a_M, .inr (5, [.long m_trace, .ref a_M_text, .int m_typed, .ref a_M_told, .ref a_M_draft, .ref a_M_s, .ref a_M_images, .ref a_M_kept, .int m_at, .int m_sort, .int m_start, .int m_size, .ref a_M_light, .ref a_M_may, .ref a_M_shine, .ref a_M_worth, .ref a_M_least])), (a_M_told, .inl (cI, 43, .inl m_told)), (a_M_light, .inl (cI, 128, .inl m_light_2)), (a_M_may, .inl (cI, 128, .inl m_may_2)), (a_M_shine, .inl (cI, 7, .inl m_shine_2)), (a_M_worth, .inl (cI, 8192, .inl (upd m_worth_h16 (ix r244) x4_238))), (a_M_least, .inl (cI, 8192, .inl m_least_h16))]) 5 rfl hi249 rfl dX5_alls_249 ?_
                        refine q_aload_n (pc := 250) F 0 dX5_alls_250 rfl ?_
                        refine q_get (pc := 251) F fgX5_41 0 rfl rfl dX5_alls_251 ?_
                        refine q_iload_n (pc := 254) F 1 dX5_alls_254 rfl ?_
                        refine q_iload_n (pc := 255) F 2 dX5_alls_255 rfl ?_
                        refine q_cR (q_runS (As := [.int x1_h10, .int x2_h16]) (rest := [.ref a_M_least]) (pc := 256) F (fun l sz => ct_X5_state D cI cZ x1_h10 x2_h16 h l sz) mc_yX5_state sm_yX5_state mlX5_162 ⟨by decide, by decide⟩ ⟨by decide, by decide⟩ ⟨rfl, rfl⟩ [] rfl rfl rfl rfl (Nat.le_of_ble_eq_true rfl) dX5_alls_256) (fun r256 h => ?_)
                        refine q_iload (pc := 259) F 4 dX5_alls_259 rfl ?_
                        obtain ⟨hi261, h⟩ := h
                        refine q_iast (pc := 261) F M (cs' := [(a_M, .inr (5, [.long m_trace, .ref a_M_text, .int m_typed, .ref a_M_told, .ref a_M_draft, .ref a_M_s, .ref a_M_images, .ref a_M_kept, .int m_at, .int m_sort, .int m_start, .int m_size, .ref a_M_light, .ref a_M_may, .ref a_M_shine, .ref a_M_worth, .ref a_M_least])), (a_M_told, .inl (cI, 43, .inl m_told)), (a_M_light, .inl (cI, 128, .inl m_light_2)), (a_M_may, .inl (cI, 128, .inl m_may_2)), (a_M_shine, .inl (cI, 7, .inl m_shine_2)), (a_M_worth, .inl (cI, 8192, .inl (upd m_worth_h16 (ix r244) x4_238))), (a_M_least, .inl (cI, 8192, .inl (upd m_least_h16 (ix r256) x5_238)))]) 6 rfl hi261 rfl dX5_alls_261 ?_
                        refine q_iinc (pc := 262) F (v := x2_h16 + (1 : Int32)) (lv' := [(2, .int (x2_h16 + (1 : Int32))), (0, .ref a_M), (1, .int x1_h10), (4, .int x4_238), (5, .int x5_238)]) 2 dX5_alls_262 rfl rfl (by decide) rfl ?_
                        refine q_goto (pc := 265) (tgt := 16) F dX5_alls_265 (by decide) ?_
                        refine q_lv (lv' := [(0, .ref a_M), (1, .int x1_h10), (2, .int (x2_h16 + (1 : Int32)))]) [1, 2, 0] rfl ?_
                        exact ih (x2_h16 + (1 : Int32)) (upd m_worth_h16 (ix r244) x4_238) (upd m_least_h16 (ix r256) x5_238) h
                      · intro K238 J238 h
                        obtain ⟨n65, h⟩ := h
                        have lp65 : ∀ (n : Nat) (x4_h65 : Int32) (x5_h65 : Int32) (x6_h65 : Int32), wp_X5_alls_L65 x1_h10 x2_h16 m_told m_may_2 m_worth_h16 m_least_h16 K238 n x4_h65 x5_h65 x6_h65 → Wg E [(a_M, .inr (5, [.long m_trace, .ref a_M_text, .int m_typed, .ref a_M_told, .ref a_M_draft, .ref a_M_s, .ref a_M_images, .ref a_M_kept, .int m_at, .int m_sort, .int m_start, .int m_size, .ref a_M_light, .ref a_M_may, .ref a_M_shine, .ref a_M_worth, .ref a_M_least])), (a_M_told, .inl (cI, 43, .inl m_told)), (a_M_light, .inl (cI, 128, .inl m_light_2)), (a_M_may, .inl (cI, 128, .inl m_may_2)), (a_M_shine, .inl (cI, 7, .inl m_shine_2)), (a_M_worth, .inl (cI, 8192, .inl m_worth_h16)), (a_M_least, .inl (cI, 8192, .inl m_least_h16))] 0 0 65 [(0, .ref a_M), (1, .int x1_h10), (2, .int x2_h16), (4, .int x4_h65), (5, .int x5_h65), (6, .int x6_h65)] [] := by
                          intro n
                          induction n with
                          | zero => intro x4_h65 x5_h65 x6_h65 h; exact h.elim
                          | succ n ih =>
                            intro x4_h65 x5_h65 x6_h65 h
                            unfold wp_X5_alls_L65 at h
                            refine q_iload (pc := 65) F 5 dX5_alls_65 rfl ?_
                            refine q_aload_n (pc := 67) F 0 dX5_alls_67 rfl ?_
                            refine q_get (pc := 68) F fgX5_13 0 rfl rfl dX5_alls_68 ?_
                            refine q_iconst (pc := 71) F (v := 4) dX5_alls_71 (by decide) ?_
                            refine q_ialdk (pc := 72) F (k9 := 4) 1 rfl (vpd (by decide +kernel)) (by decide +kernel) dX5_alls_72 ?_
                            refine q_icmp_ge (pc := 73) (tgt := 238) F dX5_alls_73 (by decide) (fun c73 => ?_) (fun c73 => ?_)
                            · have h := h.1 c73
                              refine q_lv (lv' := [(0, .ref a_M), (1, .int x1_h10), (2, .int x2_h16), (4, .int x4_h65), (5, .int x5_h65)]) [0, 1, 2, 3, 4] rfl ?_
                              exact J238 x4_h65 x5_h65 h
                            · have h := h.2 c73
                              refine q_aload_n (pc := 76) F 0 dX5_alls_76 rfl ?_
                              refine q_get (pc := 77) F fgX5_32 0 rfl rfl dX5_alls_77 ?_
                              refine q_iload_n (pc := 80) F 2 dX5_alls_80 rfl ?_
                              obtain ⟨hi81, h⟩ := h
                              refine q_iald (pc := 81) F 3 rfl hi81 dX5_alls_81 ?_
                              refine q_iload_n (pc := 82) F 1 dX5_alls_82 rfl ?_
                              refine q_iconst (pc := 83) F (v := -1) dX5_alls_83 (by decide) ?_
                              refine q_ixor (pc := 84) F dX5_alls_84 ?_
                              refine q_iand (pc := 85) F dX5_alls_85 ?_
                              refine q_iconst (pc := 86) F (v := 1) dX5_alls_86 (by decide) ?_
                              refine q_iload (pc := 87) F 5 dX5_alls_87 rfl ?_
                              refine q_ishl (pc := 89) F dX5_alls_89 ?_
                              refine q_iand (pc := 90) F dX5_alls_90 ?_
                              refine jnW h (fun K => ∀ (y99 : Int32), K y99 → Wg E [(a_M, .inr (5, [.long m_trace, .ref a_M_text, .int m_typed, .ref a_M_told, .ref a_M_draft, .ref a_M_s, .ref a_M_images, .ref a_M_kept, .int m_at, .int m_sort, .int m_start, .int m_size, .ref a_M_light, .ref a_M_may, .ref a_M_shine, .ref a_M_worth, .ref a_M_least])), (a_M_told, .inl (cI, 43, .inl m_told)), (a_M_light, .inl (cI, 128, .inl m_light_2)), (a_M_may, .inl (cI, 128, .inl m_may_2)), (a_M_shine, .inl (cI, 7, .inl m_shine_2)), (a_M_worth, .inl (cI, 8192, .inl m_worth_h16)), (a_M_least, .inl (cI, 8192, .inl m_least_h16))] 0 0 99 [(0, .ref a_M), (1, .int x1_h10), (2, .int x2_h16), (4, .int x4_h65), (5, .int x5_h65), (6, .int x6_h65)] [.int y99]) ?_ ?_
                              · intro y99 h
                                refine q_istore (pc := 99) F (lv' := [(7, .int y99), (0, .ref a_M), (1, .int x1_h10), (2, .int x2_h16), (4, .int x4_h65), (5, .int x5_h65), (6, .int x6_h65)]) dX5_alls_99 (by decide) rfl ?_
                                refine q_aload_n (pc := 101) F 1 dX5_alls_101 rfl ?_
                                refine q_get (pc := 102) F fgX5_13 0 rfl rfl dX5_alls_102 ?_
                                refine q_bipush (pc := 105) F (v := 25) dX5_alls_105 (by decide) ?_
                                refine q_iload (pc := 107) F 6 dX5_alls_107 rfl ?_
                                refine q_iadd (pc := 109) F dX5_alls_109 ?_
                                obtain ⟨hi110, h⟩ := h
                                refine q_iald (pc := 110) F 1 rfl hi110 dX5_alls_110 ?_
                                refine q_iload_n (pc := 111) F 2 dX5_alls_111 rfl ?_
                                refine q_cR (q_runS (As := [.int x1_h10]) (rest := [.int (m_told (ix ((25 : Int32) + x6_h65)))]) (pc := 112) F (fun l sz => ct_X5_ones D cI cZ x1_h10 h l sz) mc_yX5_ones sm_yX5_ones mlX5_175 ⟨by decide, by decide⟩ ⟨by decide, by decide⟩ ⟨rfl, rfl⟩ [] rfl rfl rfl rfl (Nat.le_of_ble_eq_true rfl) dX5_alls_112) (fun r112 h => ?_)
                                refine q_isub (pc := 115) F dX5_alls_115 ?_
                                refine q_topi (fun x8_116 ex8_116 => ?_)
                                have h := h x8_116 ex8_116
                                refine q_istore (pc := 116) F (lv' := [(8, .int x8_116), (7, .int y99), (0, .ref a_M), (1, .int x1_h10), (2, .int x2_h16), (4, .int x4_h65), (5, .int x5_h65), (6, .int x6_h65)]) dX5_alls_116 (by decide) rfl ?_
                                refine q_iconst (pc := 118) F (v := 0) dX5_alls_118 (by decide) ?_
                                refine q_istore (pc := 119) F (lv' := [(9, .int (0 : Int32)), (8, .int x8_116), (7, .int y99), (0, .ref a_M), (1, .int x1_h10), (2, .int x2_h16), (4, .int x4_h65), (5, .int x5_h65), (6, .int x6_h65)]) dX5_alls_119 (by decide) rfl ?_
                                refine jnW h (fun K => ∀ (x4_232 : Int32) (x5_232 : Int32), K x4_232 x5_232 → Wg E [(a_M, .inr (5, [.long m_trace, .ref a_M_text, .int m_typed, .ref a_M_told, .ref a_M_draft, .ref a_M_s, .ref a_M_images, .ref a_M_kept, .int m_at, .int m_sort, .int m_start, .int m_size, .ref a_M_light, .ref a_M_may, .ref a_M_shine, .ref a_M_worth, .ref a_M_least])), (a_M_told, .inl (cI, 43, .inl m_told)), (a_M_light, .inl (cI, 128, .inl m_light_2)), (a_M_may, .inl (cI, 128, .inl m_may_2)), (a_M_shine, .inl (cI, 7, .inl m_shine_2)), (a_M_worth, .inl (cI, 8192, .inl m_worth_h16)), (a_M_least, .inl (cI, 8192, .inl m_least_h16))] 0 0 232 [(0, .ref a_M), (1, .int x1_h10), (2, .int x2_h16), (4, .int x4_232), (5, .int x5_232), (6, .int x6_h65)] []) ?_ ?_
                                · intro x4_232 x5_232 h
                                  refine q_iinc (pc := 232) F (v := x6_h65 + (1 : Int32)) (lv' := [(6, .int (x6_h65 + (1 : Int32))), (0, .ref a_M), (1, .int x1_h10), (2, .int x2_h16), (4, .int x4_232), (5, .int x5_232)]) 5 dX5_alls_232 rfl rfl (by decide) rfl ?_
                                  refine q_goto (pc := 235) (tgt := 65) F dX5_alls_235 (by decide) ?_
                                  refine q_lv (lv' := [(0, .ref a_M), (1, .int x1_h10), (2, .int x2_h16), (4, .int x4_232), (5, .int x5_232), (6, .int (x6_h65 + (1 : Int32)))]) [1, 2, 3, 4, 5, 0] rfl ?_
                                  exact ih x4_232 x5_232 (x6_h65 + (1 : Int32)) h
                                · intro K232 J232 h
                                  obtain ⟨n121, h⟩ := h
                                  have lp121 : ∀ (n : Nat) (x4_h121 : Int32) (x5_h121 : Int32) (x9_h121 : Int32), wp_X5_alls_L121 x1_h10 x2_h16 x6_h65 y99 x8_116 m_worth_h16 m_least_h16 K232 n x4_h121 x5_h121 x9_h121 → Wg E [(a_M, .inr (5, [.long m_trace, .ref a_M_text, .int m_typed, .ref a_M_told, .ref a_M_draft, .ref a_M_s, .ref a_M_images, .ref a_M_kept, .int m_at, .int m_sort, .int m_start, .int m_size, .ref a_M_light, .ref a_M_may, .ref a_M_shine, .ref a_M_worth, .ref a_M_least])), (a_M_told, .inl (cI, 43, .inl m_told)), (a_M_light, .inl (cI, 128, .inl m_light_2)), (a_M_may, .inl (cI, 128, .inl m_may_2)), (a_M_shine, .inl (cI, 7, .inl m_shine_2)), (a_M_worth, .inl (cI, 8192, .inl m_worth_h16)), (a_M_least, .inl (cI, 8192, .inl m_least_h16))] 0 0 121 [(0, .ref a_M), (1, .int x1_h10), (2, .int x2_h16), (4, .int x4_h121), (5, .int x5_h121), (6, .int x6_h65), (7, .int y99), (8, .int x8_116), (9, .int x9_h121)] [] := by
                                    intro n
                                    induction n with
                                    | zero => intro x4_h121 x5_h121 x9_h121 h; exact h.elim
                                    | succ n ih =>
                                      intro x4_h121 x5_h121 x9_h121 h
                                      unfold wp_X5_alls_L121 at h
                                      refine q_iload (pc := 121) F 8 dX5_alls_121 rfl ?_
                                      refine q_bipush (pc := 123) F (v := 6) dX5_alls_123 (by decide) ?_
                                      refine q_icmp_ge (pc := 125) (tgt := 232) F dX5_alls_125 (by decide) (fun c125 => ?_) (fun c125 => ?_)
                                      · have h := h.1 c125
                                        refine q_lv (lv' := [(0, .ref a_M), (1, .int x1_h10), (2, .int x2_h16), (4, .int x4_h121), (5, .int x5_h121), (6, .int x6_h65)]) [0, 1, 2, 3, 4, 5] rfl ?_
                                        exact J232 x4_h121 x5_h121 h
                                      · have h := h.2 c125
                                        refine q_iload (pc := 128) F 6 dX5_alls_128 rfl ?_
                                        refine q_if_eq (pc := 130) (tgt := 232) F dX5_alls_130 (by decide) (fun c130 => ?_) (fun c130 => ?_)
                                        · have h := h.1 c130
                                          refine q_lv (lv' := [(0, .ref a_M), (1, .int x1_h10), (2, .int x2_h16), (4, .int x4_h121), (5, .int x5_h121), (6, .int x6_h65)]) [0, 1, 2, 3, 4, 5] rfl ?_
                                          exact J232 x4_h121 x5_h121 h
                                        · have h := h.2 c130
                                          refine q_iload_n (pc := 133) F 1 dX5_alls_133 rfl ?_
                                          refine q_iload_n (pc := 134) F 2 dX5_alls_134 rfl ?_
                                          refine q_iload (pc := 135) F 5 dX5_alls_135 rfl ?_
                                          refine q_iload (pc := 137) F 8 dX5_alls_137 rfl ?_
                                          refine q_cR (q_runS (As := [.int x1_h10, .int x2_h16, .int x6_h65, .int x9_h121]) (rest := []) (pc := 139) F (fun l sz => ct_X5_then D cI cZ x1_h10 x2_h16 x6_h65 x9_h121 h l sz) mc_yX5_then sm_yX5_then mlX5_168 ⟨by decide, by decide⟩ ⟨by decide, by decide⟩ ⟨rfl, rfl⟩ [] rfl rfl rfl rfl (Nat.le_of_ble_eq_true rfl) dX5_alls_139) (fun r139 h => ?_)
                                          refine q_istore (pc := 142) F (lv' := [(10, .int r139), (0, .ref a_M), (1, .int x1_h10), (2, .int x2_h16), (4, .int x4_h121), (5, .int x5_h121), (6, .int x6_h65), (7, .int y99), (8, .int x8_116), (9, .int x9_h121)]) dX5_alls_142 (by decide) rfl ?_
                                          refine q_iload_n (pc := 144) F 3 dX5_alls_144 rfl ?_
                                          refine q_iload (pc := 145) F 9 dX5_alls_145 rfl ?_
                                          refine q_ishr (pc := 147) F dX5_alls_147 ?_
                                          refine q_iconst (pc := 148) F (v := 1) dX5_alls_148 (by decide) ?_
                                          refine q_iand (pc := 149) F dX5_alls_149 ?_
                                          refine q_iconst (pc := 150) F (v := 1) dX5_alls_150 (by decide) ?_
                                          refine jnW h (fun K => ∀ (y159 : Int32), K y159 → Wg E [(a_M, .inr (5, [.long m_trace, .ref a_M_text, .int m_typed, .ref a_M_told, .ref a_M_draft, .ref a_M_s, .ref a_M_images, .ref a_M_kept, .int m_at, .int m_sort, .int m_start, .int m_size, .ref a_M_light, .ref a_M_may, .ref a_M_shine, .ref a_M_worth, .ref a_M_least])), (a_M_told, .inl (cI, 43, .inl m_told)), (a_M_light, .inl (cI, 128, .inl m_light_2)), (a_M_may, .inl (cI, 128, .inl m_may_2)), (a_M_shine, .inl (cI, 7, .inl m_shine_2)), (a_M_worth, .inl (cI, 8192, .inl m_worth_h16)), (a_M_least, .inl (cI, 8192, .inl m_least_h16))] 0 0 159 [(0, .ref a_M), (1, .int x1_h10), (2, .int x2_h16), (4, .int x4_h121), (5, .int x5_h121), (6, .int x6_h65), (7, .int y99), (8, .int x8_116), (9, .int x9_h121), (10, .int r139)] [.int y159]) ?_ ?_
                                          · intro y159 h
                                            refine q_istore (pc := 159) F (lv' := [(11, .int y159), (0, .ref a_M), (1, .int x1_h10), (2, .int x2_h16), (4, .int x4_h121), (5, .int x5_h121), (6, .int x6_h65), (7, .int y99), (8, .int x8_116), (9, .int x9_h121), (10, .int r139)]) dX5_alls_159 (by decide) rfl ?_
                                            refine q_aload_n (pc := 161) F 1 dX5_alls_161 rfl ?_
                                            refine q_get (pc := 162) F fgX5_41 0 rfl rfl dX5_alls_162 ?_
                                            refine q_iload (pc := 165) F 10 dX5_alls_165 rfl ?_
                                            obtain ⟨hi167, h⟩ := h
                                            refine q_iald (pc := 167) F 6 rfl hi167 dX5_alls_167 ?_
                                            refine q_iload (pc := 168) F 8 dX5_alls_168 rfl ?_
                                            refine jnW h (fun K => ∀ (y181 : Int32), K y181 → Wg E [(a_M, .inr (5, [.long m_trace, .ref a_M_text, .int m_typed, .ref a_M_told, .ref a_M_draft, .ref a_M_s, .ref a_M_images, .ref a_M_kept, .int m_at, .int m_sort, .int m_start, .int m_size, .ref a_M_light, .ref a_M_may, .ref a_M_shine, .ref a_M_worth, .ref a_M_least])), (a_M_told, .inl (cI, 43, .inl m_told)), (a_M_light, .inl (cI, 128, .inl m_light_2)), (a_M_may, .inl (cI, 128, .inl m_may_2)), (a_M_shine, .inl (cI, 7, .inl m_shine_2)), (a_M_worth, .inl (cI, 8192, .inl m_worth_h16)), (a_M_least, .inl (cI, 8192, .inl m_least_h16))] 0 0 181 [(0, .ref a_M), (1, .int x1_h10), (2, .int x2_h16), (4, .int x4_h121), (5, .int x5_h121), (6, .int x6_h65), (7, .int y99), (8, .int x8_116), (9, .int x9_h121), (10, .int r139), (11, .int y159)] [.int y181, .int (m_least_h16 (ix r139))]) ?_ ?_
                                            · intro y181 h
                                              refine q_iadd (pc := 181) F dX5_alls_181 ?_
                                              refine q_topi (fun x12_182 ex12_182 => ?_)
                                              have h := h x12_182 ex12_182
                                              refine q_istore (pc := 182) F (lv' := [(12, .int x12_182), (0, .ref a_M), (1, .int x1_h10), (2, .int x2_h16), (4, .int x4_h121), (5, .int x5_h121), (6, .int x6_h65), (7, .int y99), (8, .int x8_116), (9, .int x9_h121), (10, .int r139), (11, .int y159)]) dX5_alls_182 (by decide) rfl ?_
                                              refine q_iload (pc := 184) F 4 dX5_alls_184 rfl ?_
                                              refine q_iload (pc := 186) F 11 dX5_alls_186 rfl ?_
                                              refine jnW h (fun K => ∀ (y202 : Int32), K y202 → Wg E [(a_M, .inr (5, [.long m_trace, .ref a_M_text, .int m_typed, .ref a_M_told, .ref a_M_draft, .ref a_M_s, .ref a_M_images, .ref a_M_kept, .int m_at, .int m_sort, .int m_start, .int m_size, .ref a_M_light, .ref a_M_may, .ref a_M_shine, .ref a_M_worth, .ref a_M_least])), (a_M_told, .inl (cI, 43, .inl m_told)), (a_M_light, .inl (cI, 128, .inl m_light_2)), (a_M_may, .inl (cI, 128, .inl m_may_2)), (a_M_shine, .inl (cI, 7, .inl m_shine_2)), (a_M_worth, .inl (cI, 8192, .inl m_worth_h16)), (a_M_least, .inl (cI, 8192, .inl m_least_h16))] 0 0 202 [(0, .ref a_M), (1, .int x1_h10), (2, .int x2_h16), (5, .int x5_h121), (6, .int x6_h65), (7, .int y99), (8, .int x8_116), (9, .int x9_h121), (11, .int y159), (12, .int x12_182)] [.int y202, .int x4_h121]) ?_ ?_
                                              · intro y202 h
                                                refine q_iadd (pc := 202) F dX5_alls_202 ?_
                                                refine q_topi (fun x4_203 ex4_203 => ?_)
                                                have h := h x4_203 ex4_203
                                                refine q_istore (pc := 203) F (lv' := [(4, .int x4_203), (0, .ref a_M), (1, .int x1_h10), (2, .int x2_h16), (5, .int x5_h121), (6, .int x6_h65), (7, .int y99), (8, .int x8_116), (9, .int x9_h121), (11, .int y159), (12, .int x12_182)]) dX5_alls_203 (by decide) rfl ?_
                                                refine q_iload (pc := 205) F 9 dX5_alls_205 rfl ?_
                                                refine jnW h (fun K => ∀ (y224 : Int32), K y224 → Wg E [(a_M, .inr (5, [.long m_trace, .ref a_M_text, .int m_typed, .ref a_M_told, .ref a_M_draft, .ref a_M_s, .ref a_M_images, .ref a_M_kept, .int m_at, .int m_sort, .int m_start, .int m_size, .ref a_M_light, .ref a_M_may, .ref a_M_shine, .ref a_M_worth, .ref a_M_least])), (a_M_told, .inl (cI, 43, .inl m_told)), (a_M_light, .inl (cI, 128, .inl m_light_2)), (a_M_may, .inl (cI, 128, .inl m_may_2)), (a_M_shine, .inl (cI, 7, .inl m_shine_2)), (a_M_worth, .inl (cI, 8192, .inl m_worth_h16)), (a_M_least, .inl (cI, 8192, .inl m_least_h16))] 0 0 224 [(0, .ref a_M), (1, .int x1_h10), (2, .int x2_h16), (4, .int x4_203), (6, .int x6_h65), (7, .int y99), (8, .int x8_116), (9, .int x9_h121)] [.int y224]) ?_ ?_
                                                · intro y224 h
                                                  refine q_istore (pc := 224) F (lv' := [(5, .int y224), (0, .ref a_M), (1, .int x1_h10), (2, .int x2_h16), (4, .int x4_203), (6, .int x6_h65), (7, .int y99), (8, .int x8_116), (9, .int x9_h121)]) dX5_alls_224 (by decide) rfl ?_
                                                  refine q_iinc (pc := 226) F (v := x9_h121 + (1 : Int32)) (lv' := [(9, .int (x9_h121 + (1 : Int32))), (5, .int y224), (0, .ref a_M), (1, .int x1_h10), (2, .int x2_h16), (4, .int x4_203), (6, .int x6_h65), (7, .int y99), (8, .int x8_116)]) 8 dX5_alls_226 rfl rfl (by decide) rfl ?_
                                                  refine q_goto (pc := 229) (tgt := 121) F dX5_alls_229 (by decide) ?_
                                                  refine q_lv (lv' := [(0, .ref a_M), (1, .int x1_h10), (2, .int x2_h16), (4, .int x4_203), (5, .int y224), (6, .int x6_h65), (7, .int y99), (8, .int x8_116), (9, .int (x9_h121 + (1 : Int32)))]) [2, 3, 4, 5, 1, 6, 7, 8, 0] rfl ?_
                                                  exact ih x4_203 y224 (x9_h121 + (1 : Int32)) h
                                                · intro K224 J224 h
                                                  refine jnW h (fun K => K → Wg E [(a_M, .inr (5, [.long m_trace, .ref a_M_text, .int m_typed, .ref a_M_told, .ref a_M_draft, .ref a_M_s, .ref a_M_images, .ref a_M_kept, .int m_at, .int m_sort, .int m_start, .int m_size, .ref a_M_light, .ref a_M_may, .ref a_M_shine, .ref a_M_worth, .ref a_M_least])), (a_M_told, .inl (cI, 43, .inl m_told)), (a_M_light, .inl (cI, 128, .inl m_light_2)), (a_M_may, .inl (cI, 128, .inl m_may_2)), (a_M_shine, .inl (cI, 7, .inl m_shine_2)), (a_M_worth, .inl (cI, 8192, .inl m_worth_h16)), (a_M_least, .inl (cI, 8192, .inl m_least_h16))] 0 0 222 [(0, .ref a_M), (1, .int x1_h10), (2, .int x2_h16), (4, .int x4_203), (5, .int x5_h121), (6, .int x6_h65), (7, .int y99), (8, .int x8_116), (9, .int x9_h121)] []) ?_ ?_
                                                  · intro h
                                                    refine q_iload (pc := 222) F 4 dX5_alls_222 rfl ?_
                                                    refine q_lv (lv' := [(0, .ref a_M), (1, .int x1_h10), (2, .int x2_h16), (4, .int x4_203), (6, .int x6_h65), (7, .int y99), (8, .int x8_116), (9, .int x9_h121)]) [0, 1, 2, 3, 5, 6, 7, 8] rfl ?_
                                                    exact J224 x5_h121 h
                                                  · intro K222 J222 h
                                                    refine q_if_eq (pc := 207) (tgt := 222) F dX5_alls_207 (by decide) (fun c207 => ?_) (fun c207 => ?_)
                                                    · have h := h.1 c207
                                                      refine q_lv (lv' := [(0, .ref a_M), (1, .int x1_h10), (2, .int x2_h16), (4, .int x4_203), (5, .int x5_h121), (6, .int x6_h65), (7, .int y99), (8, .int x8_116), (9, .int x9_h121)]) [1, 2, 3, 0, 4, 5, 6, 7, 8] rfl ?_
                                                      exact J222 h
                                                    · have h := h.2 c207
                                                      refine q_iload (pc := 210) F 10 dX5_alls_210 rfl ?_
                                                      refine q_iload (pc := 212) F 4 dX5_alls_212 rfl ?_
                                                      refine q_icmp_ge (pc := 214) (tgt := 222) F dX5_alls_214 (by decide) (fun c214 => ?_) (fun c214 => ?_)
                                                      · have h := h.1 c214
                                                        refine q_lv (lv' := [(0, .ref a_M), (1, .int x1_h10), (2, .int x2_h16), (4, .int x4_203), (5, .int x5_h121), (6, .int x6_h65), (7, .int y99), (8, .int x8_116), (9, .int x9_h121)]) [1, 2, 3, 0, 4, 5, 6, 7, 8] rfl ?_
                                                        exact J222 h
                                                      · have h := h.2 c214
                                                        refine q_iload (pc := 217) F 10 dX5_alls_217 rfl ?_
                                                        refine q_goto (pc := 219) (tgt := 224) F dX5_alls_219 (by decide) ?_
                                                        refine q_lv (lv' := [(0, .ref a_M), (1, .int x1_h10), (2, .int x2_h16), (4, .int x4_203), (6, .int x6_h65), (7, .int y99), (8, .int x8_116), (9, .int x9_h121)]) [1, 2, 3, 0, 5, 6, 7, 8] rfl ?_
                                                        exact J224 x12_182 h
                                              · intro K202 J202 h
                                                refine q_if_eq (pc := 188) (tgt := 201) F dX5_alls_188 (by decide) (fun c188 => ?_) (fun c188 => ?_)
                                                · have h := h.1 c188
                                                  refine q_iconst (pc := 201) F (v := 0) dX5_alls_201 (by decide) ?_
                                                  refine q_lv (lv' := [(0, .ref a_M), (1, .int x1_h10), (2, .int x2_h16), (5, .int x5_h121), (6, .int x6_h65), (7, .int y99), (8, .int x8_116), (9, .int x9_h121), (11, .int y159), (12, .int x12_182)]) [1, 2, 3, 5, 6, 7, 8, 9, 11, 0] rfl ?_
                                                  exact J202 (0 : Int32) h
                                                · have h := h.2 c188
                                                  refine q_aload_n (pc := 191) F 1 dX5_alls_191 rfl ?_
                                                  refine q_get (pc := 192) F fgX5_38 0 rfl rfl dX5_alls_192 ?_
                                                  refine q_iload (pc := 195) F 10 dX5_alls_195 rfl ?_
                                                  obtain ⟨hi197, h⟩ := h
                                                  refine q_iald (pc := 197) F 5 rfl hi197 dX5_alls_197 ?_
                                                  refine q_goto (pc := 198) (tgt := 202) F dX5_alls_198 (by decide) ?_
                                                  refine q_lv (lv' := [(0, .ref a_M), (1, .int x1_h10), (2, .int x2_h16), (5, .int x5_h121), (6, .int x6_h65), (7, .int y99), (8, .int x8_116), (9, .int x9_h121), (11, .int y159), (12, .int x12_182)]) [1, 2, 3, 5, 6, 7, 8, 9, 11, 0] rfl ?_
                                                  exact J202 (m_worth_h16 (ix r139)) h
                                            · intro K181 J181 h
                                              refine q_if_ge (pc := 170) (tgt := 179) F dX5_alls_170 (by decide) (fun c170 => ?_) (fun c170 => ?_)
                                              · have h := h.1 c170
                                                refine q_iload (pc := 179) F 8 dX5_alls_179 rfl ?_
                                                refine q_lv (lv' := [(0, .ref a_M), (1, .int x1_h10), (2, .int x2_h16), (4, .int x4_h121), (5, .int x5_h121), (6, .int x6_h65), (7, .int y99), (8, .int x8_116), (9, .int x9_h121), (10, .int r139), (11, .int y159)]) [1, 2, 3, 4, 5, 6, 7, 8, 9, 10, 0] rfl ?_
                                                exact J181 x8_116 h
                                              · have h := h.2 c170
                                                refine q_iload (pc := 173) F 8 dX5_alls_173 rfl ?_
                                                refine q_ineg (pc := 175) F dX5_alls_175 ?_
                                                refine q_goto (pc := 176) (tgt := 181) F dX5_alls_176 (by decide) ?_
                                                refine q_lv (lv' := [(0, .ref a_M), (1, .int x1_h10), (2, .int x2_h16), (4, .int x4_h121), (5, .int x5_h121), (6, .int x6_h65), (7, .int y99), (8, .int x8_116), (9, .int x9_h121), (10, .int r139), (11, .int y159)]) [1, 2, 3, 4, 5, 6, 7, 8, 9, 10, 0] rfl ?_
                                                exact J181 ((0 : Int32) - x8_116) h
                                          · intro K159 J159 h
                                            refine q_icmp_ne (pc := 151) (tgt := 158) F dX5_alls_151 (by decide) (fun c151 => ?_) (fun c151 => ?_)
                                            · have h := h.2 c151
                                              refine q_iconst (pc := 158) F (v := 0) dX5_alls_158 (by decide) ?_
                                              refine q_lv (lv' := [(0, .ref a_M), (1, .int x1_h10), (2, .int x2_h16), (4, .int x4_h121), (5, .int x5_h121), (6, .int x6_h65), (7, .int y99), (8, .int x8_116), (9, .int x9_h121), (10, .int r139)]) [1, 2, 3, 4, 5, 6, 7, 8, 9, 0] rfl ?_
                                              exact J159 (0 : Int32) h
                                            · have h := h.1 c151
                                              refine q_iconst (pc := 154) F (v := 1) dX5_alls_154 (by decide) ?_
                                              refine q_goto (pc := 155) (tgt := 159) F dX5_alls_155 (by decide) ?_
                                              refine q_lv (lv' := [(0, .ref a_M), (1, .int x1_h10), (2, .int x2_h16), (4, .int x4_h121), (5, .int x5_h121), (6, .int x6_h65), (7, .int y99), (8, .int x8_116), (9, .int x9_h121), (10, .int r139)]) [1, 2, 3, 4, 5, 6, 7, 8, 9, 0] rfl ?_
                                              exact J159 (1 : Int32) h
                                  refine q_lv (lv' := [(0, .ref a_M), (1, .int x1_h10), (2, .int x2_h16), (4, .int x4_h65), (5, .int x5_h65), (6, .int x6_h65), (7, .int y99), (8, .int x8_116), (9, .int (0 : Int32))]) [3, 4, 5, 6, 7, 8, 2, 1, 0] rfl ?_
                                  exact lp121 n121 x4_h65 x5_h65 (0 : Int32) h
                              · intro K99 J99 h
                                refine q_if_eq (pc := 91) (tgt := 98) F dX5_alls_91 (by decide) (fun c91 => ?_) (fun c91 => ?_)
                                · have h := h.1 c91
                                  refine q_iconst (pc := 98) F (v := 0) dX5_alls_98 (by decide) ?_
                                  exact J99 (0 : Int32) h
                                · have h := h.2 c91
                                  refine q_iconst (pc := 94) F (v := 1) dX5_alls_94 (by decide) ?_
                                  refine q_goto (pc := 95) (tgt := 99) F dX5_alls_95 (by decide) ?_
                                  exact J99 (1 : Int32) h
                        refine q_lv (lv' := [(0, .ref a_M), (1, .int x1_h10), (2, .int x2_h16), (4, .int y47), (5, .int y60), (6, .int (0 : Int32))]) [2, 3, 4, 5, 1, 0] rfl ?_
                        exact lp65 n65 y47 y60 (0 : Int32) h
                    · intro K60 J60 h
                      refine q_if_eq (pc := 50) (tgt := 57) F dX5_alls_50 (by decide) (fun c50 => ?_) (fun c50 => ?_)
                      · have h := h.1 c50
                        refine q_sipush (pc := 57) F (v := 10000) dX5_alls_57 (by decide) ?_
                        refine q_lv (lv' := [(0, .ref a_M), (1, .int x1_h10), (2, .int x2_h16), (4, .int y47)]) [1, 2, 3, 0] rfl ?_
                        exact J60 (10000 : Int32) h
                      · have h := h.2 c50
                        refine q_iconst (pc := 53) F (v := 0) dX5_alls_53 (by decide) ?_
                        refine q_goto (pc := 54) (tgt := 60) F dX5_alls_54 (by decide) ?_
                        refine q_lv (lv' := [(0, .ref a_M), (1, .int x1_h10), (2, .int x2_h16), (4, .int y47)]) [1, 2, 3, 0] rfl ?_
                        exact J60 (0 : Int32) h
                  · intro K47 J47 h
                    refine q_if_eq (pc := 39) (tgt := 46) F dX5_alls_39 (by decide) (fun c39 => ?_) (fun c39 => ?_)
                    · have h := h.1 c39
                      refine q_iconst (pc := 46) F (v := 0) dX5_alls_46 (by decide) ?_
                      refine q_lv (lv' := [(0, .ref a_M), (1, .int x1_h10), (2, .int x2_h16), (3, .int y37)]) [1, 2, 3, 0] rfl ?_
                      exact J47 (0 : Int32) h
                    · have h := h.2 c39
                      refine q_iconst (pc := 42) F (v := 1) dX5_alls_42 (by decide) ?_
                      refine q_goto (pc := 43) (tgt := 47) F dX5_alls_43 (by decide) ?_
                      refine q_lv (lv' := [(0, .ref a_M), (1, .int x1_h10), (2, .int x2_h16), (3, .int y37)]) [1, 2, 3, 0] rfl ?_
                      exact J47 (1 : Int32) h
                · intro K37 J37 h
                  refine q_icmp_ne (pc := 29) (tgt := 36) F dX5_alls_29 (by decide) (fun c29 => ?_) (fun c29 => ?_)
                  · have h := h.2 c29
                    refine q_iconst (pc := 36) F (v := 0) dX5_alls_36 (by decide) ?_
                    exact J37 (0 : Int32) h
                  · have h := h.1 c29
                    refine q_iconst (pc := 32) F (v := 1) dX5_alls_32 (by decide) ?_
                    refine q_goto (pc := 33) (tgt := 37) F dX5_alls_33 (by decide) ?_
                    exact J37 (1 : Int32) h
          refine q_lv (lv' := [(0, .ref a_M), (1, .int x1_h10), (2, .int (0 : Int32))]) [1, 2, 0] rfl ?_
          exact lp16 n16 (0 : Int32) m_worth_h10 m_least_h10 h
  refine q_lv (lv' := [(0, .ref a_M), (1, .int r6)]) [1, 0] rfl ?_
  exact lp10 n10 r6 m_worth m_least h

def wp_X5_rows (m_told : Nat → Int32) (m_s : Nat → Int32) (m_light : Nat → Int32) (m_may : Nat → Int32) (m_shine : Nat → Int32) (m_worth : Nat → Int32) (m_least : Nat → Int32) (post : Int32 → (Nat → Int32) → (Nat → Int32) → (Nat → Int32) → (Nat → Int32) → (Nat → Int32) → Prop) : Prop := (wp_X5_alls m_told m_light m_may m_shine m_worth m_least (fun (m_light_1 : Nat → Int32) (m_may_1 : Nat → Int32) (m_shine_1 : Nat → Int32) (m_worth_1 : Nat → Int32) (m_least_1 : Nat → Int32) => (wp_X5_gone m_s (fun (r9 : Int32) => (wp_X5_lit m_told m_s (fun (r13 : Int32) => (wp_X5_state r9 r13 (fun (r16 : Int32) => (vp_in r16 8192 ∧ post (m_worth_1 (ix r16)) m_light_1 m_may_1 m_shine_1 m_worth_1 m_least_1)))))))))
abbrev rm_X5_rows : Room := { frames := 5, cells := 0, slots := 0, locals := 129 }
set_option maxRecDepth 100000 in
set_option maxHeartbeats 4000000 in
theorem ct_X5_rows (D : va_G) (cI cZ : ClassId) (a_M a_M_text a_M_told a_M_draft a_M_s a_M_images a_M_kept a_M_light a_M_may a_M_shine a_M_worth a_M_least : Nat) (m_trace : Int64) (m_typed : Int32) (m_at : Int32) (m_sort : Int32) (m_start : Int32) (m_size : Int32) (m_told : Nat → Int32) (m_s : Nat → Int32) (m_light : Nat → Int32) (m_may : Nat → Int32) (m_shine : Nat → Int32) (m_worth : Nat → Int32) (m_least : Nat → Int32) {post : Int32 → (Nat → Int32) → (Nat → Int32) → (Nat → Int32) → (Nat → Int32) → (Nat → Int32) → Prop} (h : wp_X5_rows m_told m_s m_light m_may m_shine m_worth m_least post) (l : Launch) (sz : Nat) : Met l yX5_rows (wsM yX5_rows cX5_rows 1 (some .int)) rm_X5_rows (va_Pc [.ref a_M] (gP D cI cZ [(a_M, .inr (5, [.long m_trace, .ref a_M_text, .int m_typed, .ref a_M_told, .ref a_M_draft, .ref a_M_s, .ref a_M_images, .ref a_M_kept, .int m_at, .int m_sort, .int m_start, .int m_size, .ref a_M_light, .ref a_M_may, .ref a_M_shine, .ref a_M_worth, .ref a_M_least])), (a_M_told, .inl (cI, 43, .inl m_told)), (a_M_s, .inl (cI, 38, .inl m_s)), (a_M_light, .inl (cI, 128, .inl m_light)), (a_M_may, .inl (cI, 128, .inl m_may)), (a_M_shine, .inl (cI, 7, .inl m_shine)), (a_M_worth, .inl (cI, 8192, .inl m_worth)), (a_M_least, .inl (cI, 8192, .inl m_least))] sz)) (gQi D (fun r (u : (Nat → Int32) × (Nat → Int32) × (Nat → Int32) × (Nat → Int32) × (Nat → Int32)) => post r u.1 u.2.1 u.2.2.1 u.2.2.2.1 u.2.2.2.2) (fun (u : (Nat → Int32) × (Nat → Int32) × (Nat → Int32) × (Nat → Int32) × (Nat → Int32)) => [(a_M, .inr (5, [.long m_trace, .ref a_M_text, .int m_typed, .ref a_M_told, .ref a_M_draft, .ref a_M_s, .ref a_M_images, .ref a_M_kept, .int m_at, .int m_sort, .int m_start, .int m_size, .ref a_M_light, .ref a_M_may, .ref a_M_shine, .ref a_M_worth, .ref a_M_least])), (a_M_told, .inl (cI, 43, .inl m_told)), (a_M_s, .inl (cI, 38, .inl m_s)), (a_M_light, .inl (cI, 128, .inl u.1)), (a_M_may, .inl (cI, 128, .inl u.2.1)), (a_M_shine, .inl (cI, 7, .inl u.2.2.1)), (a_M_worth, .inl (cI, 8192, .inl u.2.2.2.1)), (a_M_least, .inl (cI, 8192, .inl u.2.2.2.2))]) [(a_M, .inr (5, [.long m_trace, .ref a_M_text, .int m_typed, .ref a_M_told, .ref a_M_draft, .ref a_M_s, .ref a_M_images, .ref a_M_kept, .int m_at, .int m_sort, .int m_start, .int m_size, .ref a_M_light, .ref a_M_may, .ref a_M_shine, .ref a_M_worth, .ref a_M_least])), (a_M_told, .inl (cI, 43, .inl m_told)), (a_M_s, .inl (cI, 38, .inl m_s)), (a_M_light, .inl (cI, 128, .inl m_light)), (a_M_may, .inl (cI, 128, .inl m_may)), (a_M_shine, .inl (cI, 7, .inl m_shine)), (a_M_worth, .inl (cI, 8192, .inl m_worth)), (a_M_least, .inl (cI, 8192, .inl m_least))] sz) 0 0 (va_A [(a_M, .inr (5, [.long m_trace, .ref a_M_text, .int m_typed, .ref a_M_told, .ref a_M_draft, .ref a_M_s, .ref a_M_images, .ref a_M_kept, .int m_at, .int m_sort, .int m_start, .int m_size, .ref a_M_light, .ref a_M_may, .ref a_M_shine, .ref a_M_worth, .ref a_M_least])), (a_M_told, .inl (cI, 43, .inl m_told)), (a_M_s, .inl (cI, 38, .inl m_s)), (a_M_light, .inl (cI, 128, .inl m_light)), (a_M_may, .inl (cI, 128, .inl m_may)), (a_M_shine, .inl (cI, 7, .inl m_shine)), (a_M_worth, .inl (cI, 8192, .inl m_worth)), (a_M_least, .inl (cI, 8192, .inl m_least))] sz) := by
  refine q_startM (own := RX5) (Qc := gQi D (fun r (u : (Nat → Int32) × (Nat → Int32) × (Nat → Int32) × (Nat → Int32) × (Nat → Int32)) => post r u.1 u.2.1 u.2.2.1 u.2.2.2.1 u.2.2.2.2) (fun (u : (Nat → Int32) × (Nat → Int32) × (Nat → Int32) × (Nat → Int32) × (Nat → Int32)) => [(a_M, .inr (5, [.long m_trace, .ref a_M_text, .int m_typed, .ref a_M_told, .ref a_M_draft, .ref a_M_s, .ref a_M_images, .ref a_M_kept, .int m_at, .int m_sort, .int m_start, .int m_size, .ref a_M_light, .ref a_M_may, .ref a_M_shine, .ref a_M_worth, .ref a_M_least])), (a_M_told, .inl (cI, 43, .inl m_told)), (a_M_s, .inl (cI, 38, .inl m_s)), (a_M_light, .inl (cI, 128, .inl u.1)), (a_M_may, .inl (cI, 128, .inl u.2.1)), (a_M_shine, .inl (cI, 7, .inl u.2.2.1)), (a_M_worth, .inl (cI, 8192, .inl u.2.2.2.1)), (a_M_least, .inl (cI, 8192, .inl u.2.2.2.2))]) [(a_M, .inr (5, [.long m_trace, .ref a_M_text, .int m_typed, .ref a_M_told, .ref a_M_draft, .ref a_M_s, .ref a_M_images, .ref a_M_kept, .int m_at, .int m_sort, .int m_start, .int m_size, .ref a_M_light, .ref a_M_may, .ref a_M_shine, .ref a_M_worth, .ref a_M_least])), (a_M_told, .inl (cI, 43, .inl m_told)), (a_M_s, .inl (cI, 38, .inl m_s)), (a_M_light, .inl (cI, 128, .inl m_light)), (a_M_may, .inl (cI, 128, .inl m_may)), (a_M_shine, .inl (cI, 7, .inl m_shine)), (a_M_worth, .inl (cI, 8192, .inl m_worth)), (a_M_least, .inl (cI, 8192, .inl m_least))]) (by decide +kernel) rfl (Nat.le_of_ble_eq_true rfl) (fun E F Z M => ?_)
  show Wg E [(a_M, .inr (5, [.long m_trace, .ref a_M_text, .int m_typed, .ref a_M_told, .ref a_M_draft, .ref a_M_s, .ref a_M_images, .ref a_M_kept, .int m_at, .int m_sort, .int m_start, .int m_size, .ref a_M_light, .ref a_M_may, .ref a_M_shine, .ref a_M_worth, .ref a_M_least])), (a_M_told, .inl (cI, 43, .inl m_told)), (a_M_s, .inl (cI, 38, .inl m_s)), (a_M_light, .inl (cI, 128, .inl m_light)), (a_M_may, .inl (cI, 128, .inl m_may)), (a_M_shine, .inl (cI, 7, .inl m_shine)), (a_M_worth, .inl (cI, 8192, .inl m_worth)), (a_M_least, .inl (cI, 8192, .inl m_least))] 0 0 0 [(0, .ref a_M)] []
  unfold wp_X5_rows at h
  refine q_aload_n (pc := 0) F 0 dX5_rows_0 rfl ?_
  refine q_cMv (wr := [(a_M_s, .inl (cI, 38, .inl m_s))]) (pc := 1) F M (q_runV (As := []) (rest := []) (pc := 1) F (fun l sz => ct_X5_alls D cI cZ a_M a_M_text a_M_told a_M_draft a_M_s a_M_images a_M_kept a_M_light a_M_may a_M_shine a_M_worth a_M_least m_trace m_typed m_at m_sort m_start m_size m_told m_light m_may m_shine m_worth m_least h l sz) mc_yX5_alls im_yX5_alls se_yX5_alls mlX5_178 ⟨by decide, by decide⟩ ⟨by decide, by decide⟩ ⟨rfl, rfl⟩ [0, 1, 3, 4, 5, 6, 7] rfl rfl rfl 0 rfl rfl rfl (Nat.le_of_ble_eq_true rfl) dX5_rows_1) [0, 1, 3, 4, 5, 6, 7] [2] rfl rfl rfl (by decide) (fun u1 h => ?_)
  obtain ⟨m_light_1, m_may_1, m_shine_1, m_worth_1, m_least_1⟩ := u1
  refine q_cs (cs' := [(a_M, .inr (5, [.long m_trace, .ref a_M_text, .int m_typed, .ref a_M_told, .ref a_M_draft, .ref a_M_s, .ref a_M_images, .ref a_M_kept, .int m_at, .int m_sort, .int m_start, .int m_size, .ref a_M_light, .ref a_M_may, .ref a_M_shine, .ref a_M_worth, .ref a_M_least])), (a_M_told, .inl (cI, 43, .inl m_told)), (a_M_s, .inl (cI, 38, .inl m_s)), (a_M_light, .inl (cI, 128, .inl m_light_1)), (a_M_may, .inl (cI, 128, .inl m_may_1)), (a_M_shine, .inl (cI, 7, .inl m_shine_1)), (a_M_worth, .inl (cI, 8192, .inl m_worth_1)), (a_M_least, .inl (cI, 8192, .inl m_least_1))]) [1, 2, 0, 3, 4, 5, 6, 7] rfl rfl ?_
  refine q_aload_n (pc := 4) F 0 dX5_rows_4 rfl ?_
  refine q_get (pc := 5) F fgX5_38 0 rfl rfl dX5_rows_5 ?_
  refine q_aload_n (pc := 8) F 0 dX5_rows_8 rfl ?_
  refine q_cR (q_runV (As := []) (rest := [.ref a_M_worth]) (pc := 9) F (fun l sz => ct_X5_gone D cI cZ a_M a_M_text a_M_told a_M_draft a_M_s a_M_images a_M_kept a_M_light a_M_may a_M_shine a_M_worth a_M_least m_trace m_typed m_at m_sort m_start m_size m_s h l sz) mc_yX5_gone im_yX5_gone se_yX5_gone mlX5_159 ⟨by decide, by decide⟩ ⟨by decide, by decide⟩ ⟨rfl, rfl⟩ [0, 2] rfl rfl rfl 0 rfl rfl rfl (Nat.le_of_ble_eq_true rfl) dX5_rows_9) (fun r9 h => ?_)
  refine q_aload_n (pc := 12) F 0 dX5_rows_12 rfl ?_
  refine q_cR (q_runV (As := []) (rest := [.int r9, .ref a_M_worth]) (pc := 13) F (fun l sz => ct_X5_lit D cI cZ a_M a_M_text a_M_told a_M_draft a_M_s a_M_images a_M_kept a_M_light a_M_may a_M_shine a_M_worth a_M_least m_trace m_typed m_at m_sort m_start m_size m_told m_s h l sz) mc_yX5_lit im_yX5_lit se_yX5_lit mlX5_150 ⟨by decide, by decide⟩ ⟨by decide, by decide⟩ ⟨rfl, rfl⟩ [0, 1, 2] rfl rfl rfl 0 rfl rfl rfl (Nat.le_of_ble_eq_true rfl) dX5_rows_13) (fun r13 h => ?_)
  refine q_cR (q_runS (As := [.int r9, .int r13]) (rest := [.ref a_M_worth]) (pc := 16) F (fun l sz => ct_X5_state D cI cZ r9 r13 h l sz) mc_yX5_state sm_yX5_state mlX5_162 ⟨by decide, by decide⟩ ⟨by decide, by decide⟩ ⟨rfl, rfl⟩ [] rfl rfl rfl rfl (Nat.le_of_ble_eq_true rfl) dX5_rows_16) (fun r16 h => ?_)
  obtain ⟨hi19, h⟩ := h
  refine q_iald (pc := 19) F 6 rfl hi19 dX5_rows_19 ?_
  exact q_iretM (pc := 20) F Z dX5_rows_20 (m_light_1, m_may_1, m_shine_1, m_worth_1, m_least_1) h rfl

def wp_X5_bar_L21 (x1 : Int32) (x2 : Int32) (m_light : Nat → Int32) (m_may : Nat → Int32) (m_shine : Nat → Int32) (m_worth : Nat → Int32) (post : Int32 → (Nat → Int32) → (Nat → Int32) → (Nat → Int32) → (Nat → Int32) → Prop) : Nat → Int32 → Int32 → Prop
  | 0, _, _ => False
  | n + 1, x3, x4 => ((x2 < x4 → post x3 m_light m_may m_shine m_worth) ∧ (¬ x2 < x4 → (jn (fun (K69 : Int32 → Prop) => (jn (fun (K68 : Prop) => (((x4 &&& (x2 ^^^ (-1 : Int32))) = (0 : Int32) → (wp_X5_state x1 (x2 &&& (x4 ^^^ (-1 : Int32))) (fun (r47 : Int32) => (vp_in r47 8192 ∧ (wp_X5_state x1 x2 (fun (r57 : Int32) => (vp_in r57 8192 ∧ (((m_worth (ix r57)) ≤ (m_worth (ix r47)) → K68) ∧ (¬ (m_worth (ix r57)) ≤ (m_worth (ix r47)) → K69 (1 : Int32)))))))))) ∧ (¬ (x4 &&& (x2 ^^^ (-1 : Int32))) = (0 : Int32) → K68))) (K69 (0 : Int32)))) (fun (y69 : Int32) => (jn (fun (K100 : Int32 → Prop) => (jn (fun (K99 : Prop) => ((y69 = (0 : Int32) → K99) ∧ (¬ y69 = (0 : Int32) → (jn (fun (K94 : Prop) => ((x3 = (-9 : Int32) → K94) ∧ (¬ x3 = (-9 : Int32) → (wp_X5_ones x4 (fun (r84 : Int32) => (wp_X5_ones x3 (fun (r88 : Int32) => ((r88 ≤ r84 → K99) ∧ (¬ r88 ≤ r84 → K94))))))))) (K100 x4))))) (K100 x3))) (fun (y100 : Int32) => wp_X5_bar_L21 x1 x2 m_light m_may m_shine m_worth post n y100 (x4 + (1 : Int32))))))))
def wp_X5_bar (m_told : Nat → Int32) (m_s : Nat → Int32) (m_light : Nat → Int32) (m_may : Nat → Int32) (m_shine : Nat → Int32) (m_worth : Nat → Int32) (post : Int32 → (Nat → Int32) → (Nat → Int32) → (Nat → Int32) → (Nat → Int32) → Prop) : Prop := (wp_X5_mosts (0 : Int32) m_told m_light m_may m_shine m_worth (fun (m_light_2 : Nat → Int32) (m_may_2 : Nat → Int32) (m_shine_2 : Nat → Int32) (m_worth_2 : Nat → Int32) => (wp_X5_gone m_s (fun (r6 : Int32) => (wp_X5_lit m_told m_s (fun (r11 : Int32) => (∃ n21 : Nat, wp_X5_bar_L21 r6 r11 m_light_2 m_may_2 m_shine_2 m_worth_2 post n21 (-9 : Int32) (1 : Int32))))))))
abbrev rm_X5_bar : Room := { frames := 5, cells := 0, slots := 0, locals := 127 }
set_option maxRecDepth 100000 in
set_option maxHeartbeats 4000000 in
theorem ct_X5_bar (D : va_G) (cI cZ : ClassId) (a_M a_M_text a_M_told a_M_draft a_M_s a_M_images a_M_kept a_M_light a_M_may a_M_shine a_M_worth a_M_least : Nat) (m_trace : Int64) (m_typed : Int32) (m_at : Int32) (m_sort : Int32) (m_start : Int32) (m_size : Int32) (m_told : Nat → Int32) (m_s : Nat → Int32) (m_light : Nat → Int32) (m_may : Nat → Int32) (m_shine : Nat → Int32) (m_worth : Nat → Int32) {post : Int32 → (Nat → Int32) → (Nat → Int32) → (Nat → Int32) → (Nat → Int32) → Prop} (h : wp_X5_bar m_told m_s m_light m_may m_shine m_worth post) (l : Launch) (sz : Nat) : Met l yX5_bar (wsM yX5_bar cX5_bar 6 (some .int)) rm_X5_bar (va_Pc [.ref a_M] (gP D cI cZ [(a_M, .inr (5, [.long m_trace, .ref a_M_text, .int m_typed, .ref a_M_told, .ref a_M_draft, .ref a_M_s, .ref a_M_images, .ref a_M_kept, .int m_at, .int m_sort, .int m_start, .int m_size, .ref a_M_light, .ref a_M_may, .ref a_M_shine, .ref a_M_worth, .ref a_M_least])), (a_M_told, .inl (cI, 43, .inl m_told)), (a_M_s, .inl (cI, 38, .inl m_s)), (a_M_light, .inl (cI, 128, .inl m_light)), (a_M_may, .inl (cI, 128, .inl m_may)), (a_M_shine, .inl (cI, 7, .inl m_shine)), (a_M_worth, .inl (cI, 8192, .inl m_worth))] sz)) (gQi D (fun r (u : (Nat → Int32) × (Nat → Int32) × (Nat → Int32) × (Nat → Int32)) => post r u.1 u.2.1 u.2.2.1 u.2.2.2) (fun (u : (Nat → Int32) × (Nat → Int32) × (Nat → Int32) × (Nat → Int32)) => [(a_M, .inr (5, [.long m_trace, .ref a_M_text, .int m_typed, .ref a_M_told, .ref a_M_draft, .ref a_M_s, .ref a_M_images, .ref a_M_kept, .int m_at, .int m_sort, .int m_start, .int m_size, .ref a_M_light, .ref a_M_may, .ref a_M_shine, .ref a_M_worth, .ref a_M_least])), (a_M_told, .inl (cI, 43, .inl m_told)), (a_M_s, .inl (cI, 38, .inl m_s)), (a_M_light, .inl (cI, 128, .inl u.1)), (a_M_may, .inl (cI, 128, .inl u.2.1)), (a_M_shine, .inl (cI, 7, .inl u.2.2.1)), (a_M_worth, .inl (cI, 8192, .inl u.2.2.2))]) [(a_M, .inr (5, [.long m_trace, .ref a_M_text, .int m_typed, .ref a_M_told, .ref a_M_draft, .ref a_M_s, .ref a_M_images, .ref a_M_kept, .int m_at, .int m_sort, .int m_start, .int m_size, .ref a_M_light, .ref a_M_may, .ref a_M_shine, .ref a_M_worth, .ref a_M_least])), (a_M_told, .inl (cI, 43, .inl m_told)), (a_M_s, .inl (cI, 38, .inl m_s)), (a_M_light, .inl (cI, 128, .inl m_light)), (a_M_may, .inl (cI, 128, .inl m_may)), (a_M_shine, .inl (cI, 7, .inl m_shine)), (a_M_worth, .inl (cI, 8192, .inl m_worth))] sz) 0 0 (va_A [(a_M, .inr (5, [.long m_trace, .ref a_M_text, .int m_typed, .ref a_M_told, .ref a_M_draft, .ref a_M_s, .ref a_M_images, .ref a_M_kept, .int m_at, .int m_sort, .int m_start, .int m_size, .ref a_M_light, .ref a_M_may, .ref a_M_shine, .ref a_M_worth, .ref a_M_least])), (a_M_told, .inl (cI, 43, .inl m_told)), (a_M_s, .inl (cI, 38, .inl m_s)), (a_M_light, .inl (cI, 128, .inl m_light)), (a_M_may, .inl (cI, 128, .inl m_may)), (a_M_shine, .inl (cI, 7, .inl m_shine)), (a_M_worth, .inl (cI, 8192, .inl m_worth))] sz) := by
  refine q_startM (own := RX5) (Qc := gQi D (fun r (u : (Nat → Int32) × (Nat → Int32) × (Nat → Int32) × (Nat → Int32)) => post r u.1 u.2.1 u.2.2.1 u.2.2.2) (fun (u : (Nat → Int32) × (Nat → Int32) × (Nat → Int32) × (Nat → Int32)) => [(a_M, .inr (5, [.long m_trace, .ref a_M_text, .int m_typed, .ref a_M_told, .ref a_M_draft, .ref a_M_s, .ref a_M_images, .ref a_M_kept, .int m_at, .int m_sort, .int m_start, .int m_size, .ref a_M_light, .ref a_M_may, .ref a_M_shine, .ref a_M_worth, .ref a_M_least])), (a_M_told, .inl (cI, 43, .inl m_told)), (a_M_s, .inl (cI, 38, .inl m_s)), (a_M_light, .inl (cI, 128, .inl u.1)), (a_M_may, .inl (cI, 128, .inl u.2.1)), (a_M_shine, .inl (cI, 7, .inl u.2.2.1)), (a_M_worth, .inl (cI, 8192, .inl u.2.2.2))]) [(a_M, .inr (5, [.long m_trace, .ref a_M_text, .int m_typed, .ref a_M_told, .ref a_M_draft, .ref a_M_s, .ref a_M_images, .ref a_M_kept, .int m_at, .int m_sort, .int m_start, .int m_size, .ref a_M_light, .ref a_M_may, .ref a_M_shine, .ref a_M_worth, .ref a_M_least])), (a_M_told, .inl (cI, 43, .inl m_told)), (a_M_s, .inl (cI, 38, .inl m_s)), (a_M_light, .inl (cI, 128, .inl m_light)), (a_M_may, .inl (cI, 128, .inl m_may)), (a_M_shine, .inl (cI, 7, .inl m_shine)), (a_M_worth, .inl (cI, 8192, .inl m_worth))]) (by decide +kernel) rfl (Nat.le_of_ble_eq_true rfl) (fun E F Z M => ?_)
  show Wg E [(a_M, .inr (5, [.long m_trace, .ref a_M_text, .int m_typed, .ref a_M_told, .ref a_M_draft, .ref a_M_s, .ref a_M_images, .ref a_M_kept, .int m_at, .int m_sort, .int m_start, .int m_size, .ref a_M_light, .ref a_M_may, .ref a_M_shine, .ref a_M_worth, .ref a_M_least])), (a_M_told, .inl (cI, 43, .inl m_told)), (a_M_s, .inl (cI, 38, .inl m_s)), (a_M_light, .inl (cI, 128, .inl m_light)), (a_M_may, .inl (cI, 128, .inl m_may)), (a_M_shine, .inl (cI, 7, .inl m_shine)), (a_M_worth, .inl (cI, 8192, .inl m_worth))] 0 0 0 [(0, .ref a_M)] []
  unfold wp_X5_bar at h
  refine q_aload_n (pc := 0) F 0 dX5_bar_0 rfl ?_
  refine q_iconst (pc := 1) F (v := 0) dX5_bar_1 (by decide) ?_
  refine q_cMv (wr := [(a_M_s, .inl (cI, 38, .inl m_s))]) (pc := 2) F M (q_runV (As := [.int (0 : Int32)]) (rest := []) (pc := 2) F (fun l sz => ct_X5_mosts D cI cZ a_M a_M_text a_M_told a_M_draft a_M_s a_M_images a_M_kept a_M_light a_M_may a_M_shine a_M_worth a_M_least m_trace m_typed m_at m_sort m_start m_size m_told m_light m_may m_shine m_worth (0 : Int32) h l sz) mc_yX5_mosts im_yX5_mosts se_yX5_mosts mlX5_172 ⟨by decide, by decide⟩ ⟨by decide, by decide⟩ ⟨rfl, rfl⟩ [0, 1, 3, 4, 5, 6] rfl rfl rfl 0 rfl rfl rfl (Nat.le_of_ble_eq_true rfl) dX5_bar_2) [0, 1, 3, 4, 5, 6] [2] rfl rfl rfl (by decide) (fun u2 h => ?_)
  obtain ⟨m_light_2, m_may_2, m_shine_2, m_worth_2⟩ := u2
  refine q_cs (cs' := [(a_M, .inr (5, [.long m_trace, .ref a_M_text, .int m_typed, .ref a_M_told, .ref a_M_draft, .ref a_M_s, .ref a_M_images, .ref a_M_kept, .int m_at, .int m_sort, .int m_start, .int m_size, .ref a_M_light, .ref a_M_may, .ref a_M_shine, .ref a_M_worth, .ref a_M_least])), (a_M_told, .inl (cI, 43, .inl m_told)), (a_M_s, .inl (cI, 38, .inl m_s)), (a_M_light, .inl (cI, 128, .inl m_light_2)), (a_M_may, .inl (cI, 128, .inl m_may_2)), (a_M_shine, .inl (cI, 7, .inl m_shine_2)), (a_M_worth, .inl (cI, 8192, .inl m_worth_2))]) [1, 2, 0, 3, 4, 5, 6] rfl rfl ?_
  refine q_aload_n (pc := 5) F 0 dX5_bar_5 rfl ?_
  refine q_cR (q_runV (As := []) (rest := []) (pc := 6) F (fun l sz => ct_X5_gone D cI cZ a_M a_M_text a_M_told a_M_draft a_M_s a_M_images a_M_kept a_M_light a_M_may a_M_shine a_M_worth a_M_least m_trace m_typed m_at m_sort m_start m_size m_s h l sz) mc_yX5_gone im_yX5_gone se_yX5_gone mlX5_159 ⟨by decide, by decide⟩ ⟨by decide, by decide⟩ ⟨rfl, rfl⟩ [0, 2] rfl rfl rfl 0 rfl rfl rfl (Nat.le_of_ble_eq_true rfl) dX5_bar_6) (fun r6 h => ?_)
  refine q_istore_n (pc := 9) F (lv' := [(1, .int r6), (0, .ref a_M)]) dX5_bar_9 (by decide) rfl ?_
  refine q_aload_n (pc := 10) F 1 dX5_bar_10 rfl ?_
  refine q_cR (q_runV (As := []) (rest := []) (pc := 11) F (fun l sz => ct_X5_lit D cI cZ a_M a_M_text a_M_told a_M_draft a_M_s a_M_images a_M_kept a_M_light a_M_may a_M_shine a_M_worth a_M_least m_trace m_typed m_at m_sort m_start m_size m_told m_s h l sz) mc_yX5_lit im_yX5_lit se_yX5_lit mlX5_150 ⟨by decide, by decide⟩ ⟨by decide, by decide⟩ ⟨rfl, rfl⟩ [0, 1, 2] rfl rfl rfl 0 rfl rfl rfl (Nat.le_of_ble_eq_true rfl) dX5_bar_11) (fun r11 h => ?_)
  refine q_istore_n (pc := 14) F (lv' := [(2, .int r11), (1, .int r6), (0, .ref a_M)]) dX5_bar_14 (by decide) rfl ?_
  refine q_bipush (pc := 15) F (v := -9) dX5_bar_15 (by decide) ?_
  refine q_istore_n (pc := 17) F (lv' := [(3, .int (-9 : Int32)), (2, .int r11), (1, .int r6), (0, .ref a_M)]) dX5_bar_17 (by decide) rfl ?_
  refine q_iconst (pc := 18) F (v := 1) dX5_bar_18 (by decide) ?_
  refine q_istore (pc := 19) F (lv' := [(4, .int (1 : Int32)), (3, .int (-9 : Int32)), (2, .int r11), (1, .int r6), (0, .ref a_M)]) dX5_bar_19 (by decide) rfl ?_
  obtain ⟨n21, h⟩ := h
  have lp21 : ∀ (n : Nat) (x3_h21 : Int32) (x4_h21 : Int32), wp_X5_bar_L21 r6 r11 m_light_2 m_may_2 m_shine_2 m_worth_2 post n x3_h21 x4_h21 → Wg E [(a_M, .inr (5, [.long m_trace, .ref a_M_text, .int m_typed, .ref a_M_told, .ref a_M_draft, .ref a_M_s, .ref a_M_images, .ref a_M_kept, .int m_at, .int m_sort, .int m_start, .int m_size, .ref a_M_light, .ref a_M_may, .ref a_M_shine, .ref a_M_worth, .ref a_M_least])), (a_M_told, .inl (cI, 43, .inl m_told)), (a_M_s, .inl (cI, 38, .inl m_s)), (a_M_light, .inl (cI, 128, .inl m_light_2)), (a_M_may, .inl (cI, 128, .inl m_may_2)), (a_M_shine, .inl (cI, 7, .inl m_shine_2)), (a_M_worth, .inl (cI, 8192, .inl m_worth_2))] 0 0 21 [(0, .ref a_M), (1, .int r6), (2, .int r11), (3, .int x3_h21), (4, .int x4_h21)] [] := by
    intro n
    induction n with
    | zero => intro x3_h21 x4_h21 h; exact h.elim
    | succ n ih =>
      intro x3_h21 x4_h21 h
      unfold wp_X5_bar_L21 at h
      refine q_iload (pc := 21) F 4 dX5_bar_21 rfl ?_
      refine q_iload_n (pc := 23) F 2 dX5_bar_23 rfl ?_
      refine q_icmp_gt (pc := 24) (tgt := 107) F dX5_bar_24 (by decide) (fun c24 => ?_) (fun c24 => ?_)
      · have h := h.1 c24
        refine q_iload_n (pc := 107) F 3 dX5_bar_107 rfl ?_
        exact q_iretM (pc := 108) F Z dX5_bar_108 (m_light_2, m_may_2, m_shine_2, m_worth_2) h rfl
      · have h := h.2 c24
        refine q_iload (pc := 27) F 4 dX5_bar_27 rfl ?_
        refine q_iload_n (pc := 29) F 2 dX5_bar_29 rfl ?_
        refine q_iconst (pc := 30) F (v := -1) dX5_bar_30 (by decide) ?_
        refine q_ixor (pc := 31) F dX5_bar_31 ?_
        refine q_iand (pc := 32) F dX5_bar_32 ?_
        refine jnW h (fun K => ∀ (y69 : Int32), K y69 → Wg E [(a_M, .inr (5, [.long m_trace, .ref a_M_text, .int m_typed, .ref a_M_told, .ref a_M_draft, .ref a_M_s, .ref a_M_images, .ref a_M_kept, .int m_at, .int m_sort, .int m_start, .int m_size, .ref a_M_light, .ref a_M_may, .ref a_M_shine, .ref a_M_worth, .ref a_M_least])), (a_M_told, .inl (cI, 43, .inl m_told)), (a_M_s, .inl (cI, 38, .inl m_s)), (a_M_light, .inl (cI, 128, .inl m_light_2)), (a_M_may, .inl (cI, 128, .inl m_may_2)), (a_M_shine, .inl (cI, 7, .inl m_shine_2)), (a_M_worth, .inl (cI, 8192, .inl m_worth_2))] 0 0 69 [(0, .ref a_M), (1, .int r6), (2, .int r11), (3, .int x3_h21), (4, .int x4_h21)] [.int y69]) ?_ ?_
        · intro y69 h
          refine q_istore (pc := 69) F (lv' := [(5, .int y69), (0, .ref a_M), (1, .int r6), (2, .int r11), (3, .int x3_h21), (4, .int x4_h21)]) dX5_bar_69 (by decide) rfl ?_
          refine q_iload (pc := 71) F 0 dX5_bar_71 rfl ?_
          refine jnW h (fun K => ∀ (y100 : Int32), K y100 → Wg E [(a_M, .inr (5, [.long m_trace, .ref a_M_text, .int m_typed, .ref a_M_told, .ref a_M_draft, .ref a_M_s, .ref a_M_images, .ref a_M_kept, .int m_at, .int m_sort, .int m_start, .int m_size, .ref a_M_light, .ref a_M_may, .ref a_M_shine, .ref a_M_worth, .ref a_M_least])), (a_M_told, .inl (cI, 43, .inl m_told)), (a_M_s, .inl (cI, 38, .inl m_s)), (a_M_light, .inl (cI, 128, .inl m_light_2)), (a_M_may, .inl (cI, 128, .inl m_may_2)), (a_M_shine, .inl (cI, 7, .inl m_shine_2)), (a_M_worth, .inl (cI, 8192, .inl m_worth_2))] 0 0 100 [(0, .ref a_M), (1, .int r6), (2, .int r11), (4, .int x4_h21)] [.int y100]) ?_ ?_
          · intro y100 h
            refine q_istore_n (pc := 100) F (lv' := [(3, .int y100), (0, .ref a_M), (1, .int r6), (2, .int r11), (4, .int x4_h21)]) dX5_bar_100 (by decide) rfl ?_
            refine q_iinc (pc := 101) F (v := x4_h21 + (1 : Int32)) (lv' := [(4, .int (x4_h21 + (1 : Int32))), (3, .int y100), (0, .ref a_M), (1, .int r6), (2, .int r11)]) 4 dX5_bar_101 rfl rfl (by decide) rfl ?_
            refine q_goto (pc := 104) (tgt := 21) F dX5_bar_104 (by decide) ?_
            refine q_lv (lv' := [(0, .ref a_M), (1, .int r6), (2, .int r11), (3, .int y100), (4, .int (x4_h21 + (1 : Int32)))]) [2, 3, 4, 1, 0] rfl ?_
            exact ih y100 (x4_h21 + (1 : Int32)) h
          · intro K100 J100 h
            refine jnW h (fun K => K → Wg E [(a_M, .inr (5, [.long m_trace, .ref a_M_text, .int m_typed, .ref a_M_told, .ref a_M_draft, .ref a_M_s, .ref a_M_images, .ref a_M_kept, .int m_at, .int m_sort, .int m_start, .int m_size, .ref a_M_light, .ref a_M_may, .ref a_M_shine, .ref a_M_worth, .ref a_M_least])), (a_M_told, .inl (cI, 43, .inl m_told)), (a_M_s, .inl (cI, 38, .inl m_s)), (a_M_light, .inl (cI, 128, .inl m_light_2)), (a_M_may, .inl (cI, 128, .inl m_may_2)), (a_M_shine, .inl (cI, 7, .inl m_shine_2)), (a_M_worth, .inl (cI, 8192, .inl m_worth_2))] 0 0 99 [(0, .ref a_M), (1, .int r6), (2, .int r11), (3, .int x3_h21), (4, .int x4_h21)] []) ?_ ?_
            · intro h
              refine q_iload_n (pc := 99) F 3 dX5_bar_99 rfl ?_
              refine q_lv (lv' := [(0, .ref a_M), (1, .int r6), (2, .int r11), (4, .int x4_h21)]) [0, 1, 2, 4] rfl ?_
              exact J100 x3_h21 h
            · intro K99 J99 h
              refine q_if_eq (pc := 73) (tgt := 99) F dX5_bar_73 (by decide) (fun c73 => ?_) (fun c73 => ?_)
              · have h := h.1 c73
                refine q_lv (lv' := [(0, .ref a_M), (1, .int r6), (2, .int r11), (3, .int x3_h21), (4, .int x4_h21)]) [1, 2, 3, 4, 5] rfl ?_
                exact J99 h
              · have h := h.2 c73
                refine q_iload_n (pc := 76) F 4 dX5_bar_76 rfl ?_
                refine q_bipush (pc := 77) F (v := -9) dX5_bar_77 (by decide) ?_
                refine jnW h (fun K => K → Wg E [(a_M, .inr (5, [.long m_trace, .ref a_M_text, .int m_typed, .ref a_M_told, .ref a_M_draft, .ref a_M_s, .ref a_M_images, .ref a_M_kept, .int m_at, .int m_sort, .int m_start, .int m_size, .ref a_M_light, .ref a_M_may, .ref a_M_shine, .ref a_M_worth, .ref a_M_least])), (a_M_told, .inl (cI, 43, .inl m_told)), (a_M_s, .inl (cI, 38, .inl m_s)), (a_M_light, .inl (cI, 128, .inl m_light_2)), (a_M_may, .inl (cI, 128, .inl m_may_2)), (a_M_shine, .inl (cI, 7, .inl m_shine_2)), (a_M_worth, .inl (cI, 8192, .inl m_worth_2))] 0 0 94 [(0, .ref a_M), (1, .int r6), (2, .int r11), (4, .int x4_h21)] []) ?_ ?_
                · intro h
                  refine q_iload (pc := 94) F 3 dX5_bar_94 rfl ?_
                  refine q_goto (pc := 96) (tgt := 100) F dX5_bar_96 (by decide) ?_
                  exact J100 x4_h21 h
                · intro K94 J94 h
                  refine q_icmp_eq (pc := 79) (tgt := 94) F dX5_bar_79 (by decide) (fun c79 => ?_) (fun c79 => ?_)
                  · have h := h.1 c79
                    refine q_lv (lv' := [(0, .ref a_M), (1, .int r6), (2, .int r11), (4, .int x4_h21)]) [1, 2, 3, 5] rfl ?_
                    exact J94 h
                  · have h := h.2 c79
                    refine q_iload (pc := 82) F 5 dX5_bar_82 rfl ?_
                    refine q_cR (q_runS (As := [.int x4_h21]) (rest := []) (pc := 84) F (fun l sz => ct_X5_ones D cI cZ x4_h21 h l sz) mc_yX5_ones sm_yX5_ones mlX5_175 ⟨by decide, by decide⟩ ⟨by decide, by decide⟩ ⟨rfl, rfl⟩ [] rfl rfl rfl rfl (Nat.le_of_ble_eq_true rfl) dX5_bar_84) (fun r84 h => ?_)
                    refine q_iload_n (pc := 87) F 4 dX5_bar_87 rfl ?_
                    refine q_cR (q_runS (As := [.int x3_h21]) (rest := [.int r84]) (pc := 88) F (fun l sz => ct_X5_ones D cI cZ x3_h21 h l sz) mc_yX5_ones sm_yX5_ones mlX5_175 ⟨by decide, by decide⟩ ⟨by decide, by decide⟩ ⟨rfl, rfl⟩ [] rfl rfl rfl rfl (Nat.le_of_ble_eq_true rfl) dX5_bar_88) (fun r88 h => ?_)
                    refine q_icmp_ge (pc := 91) (tgt := 99) F dX5_bar_91 (by decide) (fun c91 => ?_) (fun c91 => ?_)
                    · have h := h.1 c91
                      refine q_lv (lv' := [(0, .ref a_M), (1, .int r6), (2, .int r11), (3, .int x3_h21), (4, .int x4_h21)]) [1, 2, 3, 4, 5] rfl ?_
                      exact J99 h
                    · have h := h.2 c91
                      refine q_lv (lv' := [(0, .ref a_M), (1, .int r6), (2, .int r11), (4, .int x4_h21)]) [1, 2, 3, 5] rfl ?_
                      exact J94 h
        · intro K69 J69 h
          refine jnW h (fun K => K → Wg E [(a_M, .inr (5, [.long m_trace, .ref a_M_text, .int m_typed, .ref a_M_told, .ref a_M_draft, .ref a_M_s, .ref a_M_images, .ref a_M_kept, .int m_at, .int m_sort, .int m_start, .int m_size, .ref a_M_light, .ref a_M_may, .ref a_M_shine, .ref a_M_worth, .ref a_M_least])), (a_M_told, .inl (cI, 43, .inl m_told)), (a_M_s, .inl (cI, 38, .inl m_s)), (a_M_light, .inl (cI, 128, .inl m_light_2)), (a_M_may, .inl (cI, 128, .inl m_may_2)), (a_M_shine, .inl (cI, 7, .inl m_shine_2)), (a_M_worth, .inl (cI, 8192, .inl m_worth_2))] 0 0 68 [(0, .ref a_M), (1, .int r6), (2, .int r11), (3, .int x3_h21), (4, .int x4_h21)] []) ?_ ?_
          · intro h
            refine q_iconst (pc := 68) F (v := 0) dX5_bar_68 (by decide) ?_
            exact J69 (0 : Int32) h
          · intro K68 J68 h
            refine q_if_ne (pc := 33) (tgt := 68) F dX5_bar_33 (by decide) (fun c33 => ?_) (fun c33 => ?_)
            · have h := h.2 c33
              exact J68 h
            · have h := h.1 c33
              refine q_aload_n (pc := 36) F 0 dX5_bar_36 rfl ?_
              refine q_get (pc := 37) F fgX5_38 0 rfl rfl dX5_bar_37 ?_
              refine q_iload_n (pc := 40) F 1 dX5_bar_40 rfl ?_
              refine q_iload_n (pc := 41) F 2 dX5_bar_41 rfl ?_
              refine q_iload (pc := 42) F 4 dX5_bar_42 rfl ?_
              refine q_iconst (pc := 44) F (v := -1) dX5_bar_44 (by decide) ?_
              refine q_ixor (pc := 45) F dX5_bar_45 ?_
              refine q_iand (pc := 46) F dX5_bar_46 ?_
              refine q_cR (q_runS (As := [.int r6, .int (r11 &&& (x4_h21 ^^^ (-1 : Int32)))]) (rest := [.ref a_M_worth]) (pc := 47) F (fun l sz => ct_X5_state D cI cZ r6 (r11 &&& (x4_h21 ^^^ (-1 : Int32))) h l sz) mc_yX5_state sm_yX5_state mlX5_162 ⟨by decide, by decide⟩ ⟨by decide, by decide⟩ ⟨rfl, rfl⟩ [] rfl rfl rfl rfl (Nat.le_of_ble_eq_true rfl) dX5_bar_47) (fun r47 h => ?_)
              obtain ⟨hi50, h⟩ := h
              refine q_iald (pc := 50) F 6 rfl hi50 dX5_bar_50 ?_
              refine q_aload_n (pc := 51) F 0 dX5_bar_51 rfl ?_
              refine q_get (pc := 52) F fgX5_38 0 rfl rfl dX5_bar_52 ?_
              refine q_iload_n (pc := 55) F 1 dX5_bar_55 rfl ?_
              refine q_iload_n (pc := 56) F 2 dX5_bar_56 rfl ?_
              refine q_cR (q_runS (As := [.int r6, .int r11]) (rest := [.ref a_M_worth, .int (m_worth_2 (ix r47))]) (pc := 57) F (fun l sz => ct_X5_state D cI cZ r6 r11 h l sz) mc_yX5_state sm_yX5_state mlX5_162 ⟨by decide, by decide⟩ ⟨by decide, by decide⟩ ⟨rfl, rfl⟩ [] rfl rfl rfl rfl (Nat.le_of_ble_eq_true rfl) dX5_bar_57) (fun r57 h => ?_)
              obtain ⟨hi60, h⟩ := h
              refine q_iald (pc := 60) F 6 rfl hi60 dX5_bar_60 ?_
              refine q_icmp_ge (pc := 61) (tgt := 68) F dX5_bar_61 (by decide) (fun c61 => ?_) (fun c61 => ?_)
              · have h := h.1 c61
                exact J68 h
              · have h := h.2 c61
                refine q_iconst (pc := 64) F (v := 1) dX5_bar_64 (by decide) ?_
                refine q_goto (pc := 65) (tgt := 69) F dX5_bar_65 (by decide) ?_
                exact J69 (1 : Int32) h
  refine q_lv (lv' := [(0, .ref a_M), (1, .int r6), (2, .int r11), (3, .int (-9 : Int32)), (4, .int (1 : Int32))]) [4, 3, 2, 1, 0] rfl ?_
  exact lp21 n21 (-9 : Int32) (1 : Int32) h

def wp_X5_grief (m_told : Nat → Int32) (m_s : Nat → Int32) (m_light : Nat → Int32) (m_may : Nat → Int32) (m_shine : Nat → Int32) (m_worth : Nat → Int32) (m_least : Nat → Int32) (post : Int32 → (Nat → Int32) → (Nat → Int32) → (Nat → Int32) → (Nat → Int32) → (Nat → Int32) → Prop) : Prop := (wp_X5_alls m_told m_light m_may m_shine m_worth m_least (fun (m_light_1 : Nat → Int32) (m_may_1 : Nat → Int32) (m_shine_1 : Nat → Int32) (m_worth_1 : Nat → Int32) (m_least_1 : Nat → Int32) => (wp_X5_gone m_s (fun (r9 : Int32) => (wp_X5_lit m_told m_s (fun (r13 : Int32) => (wp_X5_state r9 r13 (fun (r16 : Int32) => (vp_in r16 8192 ∧ (((m_least_1 (ix r16)) < (10000 : Int32) → post (m_least_1 (ix r16)) m_light_1 m_may_1 m_shine_1 m_worth_1 m_least_1) ∧ (¬ (m_least_1 (ix r16)) < (10000 : Int32) → post (-9 : Int32) m_light_1 m_may_1 m_shine_1 m_worth_1 m_least_1)))))))))))
abbrev rm_X5_grief : Room := { frames := 5, cells := 0, slots := 0, locals := 129 }
set_option maxRecDepth 100000 in
set_option maxHeartbeats 4000000 in
theorem ct_X5_grief (D : va_G) (cI cZ : ClassId) (a_M a_M_text a_M_told a_M_draft a_M_s a_M_images a_M_kept a_M_light a_M_may a_M_shine a_M_worth a_M_least : Nat) (m_trace : Int64) (m_typed : Int32) (m_at : Int32) (m_sort : Int32) (m_start : Int32) (m_size : Int32) (m_told : Nat → Int32) (m_s : Nat → Int32) (m_light : Nat → Int32) (m_may : Nat → Int32) (m_shine : Nat → Int32) (m_worth : Nat → Int32) (m_least : Nat → Int32) {post : Int32 → (Nat → Int32) → (Nat → Int32) → (Nat → Int32) → (Nat → Int32) → (Nat → Int32) → Prop} (h : wp_X5_grief m_told m_s m_light m_may m_shine m_worth m_least post) (l : Launch) (sz : Nat) : Met l yX5_grief (wsM yX5_grief cX5_grief 2 (some .int)) rm_X5_grief (va_Pc [.ref a_M] (gP D cI cZ [(a_M, .inr (5, [.long m_trace, .ref a_M_text, .int m_typed, .ref a_M_told, .ref a_M_draft, .ref a_M_s, .ref a_M_images, .ref a_M_kept, .int m_at, .int m_sort, .int m_start, .int m_size, .ref a_M_light, .ref a_M_may, .ref a_M_shine, .ref a_M_worth, .ref a_M_least])), (a_M_told, .inl (cI, 43, .inl m_told)), (a_M_s, .inl (cI, 38, .inl m_s)), (a_M_light, .inl (cI, 128, .inl m_light)), (a_M_may, .inl (cI, 128, .inl m_may)), (a_M_shine, .inl (cI, 7, .inl m_shine)), (a_M_worth, .inl (cI, 8192, .inl m_worth)), (a_M_least, .inl (cI, 8192, .inl m_least))] sz)) (gQi D (fun r (u : (Nat → Int32) × (Nat → Int32) × (Nat → Int32) × (Nat → Int32) × (Nat → Int32)) => post r u.1 u.2.1 u.2.2.1 u.2.2.2.1 u.2.2.2.2) (fun (u : (Nat → Int32) × (Nat → Int32) × (Nat → Int32) × (Nat → Int32) × (Nat → Int32)) => [(a_M, .inr (5, [.long m_trace, .ref a_M_text, .int m_typed, .ref a_M_told, .ref a_M_draft, .ref a_M_s, .ref a_M_images, .ref a_M_kept, .int m_at, .int m_sort, .int m_start, .int m_size, .ref a_M_light, .ref a_M_may, .ref a_M_shine, .ref a_M_worth, .ref a_M_least])), (a_M_told, .inl (cI, 43, .inl m_told)), (a_M_s, .inl (cI, 38, .inl m_s)), (a_M_light, .inl (cI, 128, .inl u.1)), (a_M_may, .inl (cI, 128, .inl u.2.1)), (a_M_shine, .inl (cI, 7, .inl u.2.2.1)), (a_M_worth, .inl (cI, 8192, .inl u.2.2.2.1)), (a_M_least, .inl (cI, 8192, .inl u.2.2.2.2))]) [(a_M, .inr (5, [.long m_trace, .ref a_M_text, .int m_typed, .ref a_M_told, .ref a_M_draft, .ref a_M_s, .ref a_M_images, .ref a_M_kept, .int m_at, .int m_sort, .int m_start, .int m_size, .ref a_M_light, .ref a_M_may, .ref a_M_shine, .ref a_M_worth, .ref a_M_least])), (a_M_told, .inl (cI, 43, .inl m_told)), (a_M_s, .inl (cI, 38, .inl m_s)), (a_M_light, .inl (cI, 128, .inl m_light)), (a_M_may, .inl (cI, 128, .inl m_may)), (a_M_shine, .inl (cI, 7, .inl m_shine)), (a_M_worth, .inl (cI, 8192, .inl m_worth)), (a_M_least, .inl (cI, 8192, .inl m_least))] sz) 0 0 (va_A [(a_M, .inr (5, [.long m_trace, .ref a_M_text, .int m_typed, .ref a_M_told, .ref a_M_draft, .ref a_M_s, .ref a_M_images, .ref a_M_kept, .int m_at, .int m_sort, .int m_start, .int m_size, .ref a_M_light, .ref a_M_may, .ref a_M_shine, .ref a_M_worth, .ref a_M_least])), (a_M_told, .inl (cI, 43, .inl m_told)), (a_M_s, .inl (cI, 38, .inl m_s)), (a_M_light, .inl (cI, 128, .inl m_light)), (a_M_may, .inl (cI, 128, .inl m_may)), (a_M_shine, .inl (cI, 7, .inl m_shine)), (a_M_worth, .inl (cI, 8192, .inl m_worth)), (a_M_least, .inl (cI, 8192, .inl m_least))] sz) := by
  refine q_startM (own := RX5) (Qc := gQi D (fun r (u : (Nat → Int32) × (Nat → Int32) × (Nat → Int32) × (Nat → Int32) × (Nat → Int32)) => post r u.1 u.2.1 u.2.2.1 u.2.2.2.1 u.2.2.2.2) (fun (u : (Nat → Int32) × (Nat → Int32) × (Nat → Int32) × (Nat → Int32) × (Nat → Int32)) => [(a_M, .inr (5, [.long m_trace, .ref a_M_text, .int m_typed, .ref a_M_told, .ref a_M_draft, .ref a_M_s, .ref a_M_images, .ref a_M_kept, .int m_at, .int m_sort, .int m_start, .int m_size, .ref a_M_light, .ref a_M_may, .ref a_M_shine, .ref a_M_worth, .ref a_M_least])), (a_M_told, .inl (cI, 43, .inl m_told)), (a_M_s, .inl (cI, 38, .inl m_s)), (a_M_light, .inl (cI, 128, .inl u.1)), (a_M_may, .inl (cI, 128, .inl u.2.1)), (a_M_shine, .inl (cI, 7, .inl u.2.2.1)), (a_M_worth, .inl (cI, 8192, .inl u.2.2.2.1)), (a_M_least, .inl (cI, 8192, .inl u.2.2.2.2))]) [(a_M, .inr (5, [.long m_trace, .ref a_M_text, .int m_typed, .ref a_M_told, .ref a_M_draft, .ref a_M_s, .ref a_M_images, .ref a_M_kept, .int m_at, .int m_sort, .int m_start, .int m_size, .ref a_M_light, .ref a_M_may, .ref a_M_shine, .ref a_M_worth, .ref a_M_least])), (a_M_told, .inl (cI, 43, .inl m_told)), (a_M_s, .inl (cI, 38, .inl m_s)), (a_M_light, .inl (cI, 128, .inl m_light)), (a_M_may, .inl (cI, 128, .inl m_may)), (a_M_shine, .inl (cI, 7, .inl m_shine)), (a_M_worth, .inl (cI, 8192, .inl m_worth)), (a_M_least, .inl (cI, 8192, .inl m_least))]) (by decide +kernel) rfl (Nat.le_of_ble_eq_true rfl) (fun E F Z M => ?_)
  show Wg E [(a_M, .inr (5, [.long m_trace, .ref a_M_text, .int m_typed, .ref a_M_told, .ref a_M_draft, .ref a_M_s, .ref a_M_images, .ref a_M_kept, .int m_at, .int m_sort, .int m_start, .int m_size, .ref a_M_light, .ref a_M_may, .ref a_M_shine, .ref a_M_worth, .ref a_M_least])), (a_M_told, .inl (cI, 43, .inl m_told)), (a_M_s, .inl (cI, 38, .inl m_s)), (a_M_light, .inl (cI, 128, .inl m_light)), (a_M_may, .inl (cI, 128, .inl m_may)), (a_M_shine, .inl (cI, 7, .inl m_shine)), (a_M_worth, .inl (cI, 8192, .inl m_worth)), (a_M_least, .inl (cI, 8192, .inl m_least))] 0 0 0 [(0, .ref a_M)] []
  unfold wp_X5_grief at h
  refine q_aload_n (pc := 0) F 0 dX5_grief_0 rfl ?_
  refine q_cMv (wr := [(a_M_s, .inl (cI, 38, .inl m_s))]) (pc := 1) F M (q_runV (As := []) (rest := []) (pc := 1) F (fun l sz => ct_X5_alls D cI cZ a_M a_M_text a_M_told a_M_draft a_M_s a_M_images a_M_kept a_M_light a_M_may a_M_shine a_M_worth a_M_least m_trace m_typed m_at m_sort m_start m_size m_told m_light m_may m_shine m_worth m_least h l sz) mc_yX5_alls im_yX5_alls se_yX5_alls mlX5_178 ⟨by decide, by decide⟩ ⟨by decide, by decide⟩ ⟨rfl, rfl⟩ [0, 1, 3, 4, 5, 6, 7] rfl rfl rfl 0 rfl rfl rfl (Nat.le_of_ble_eq_true rfl) dX5_grief_1) [0, 1, 3, 4, 5, 6, 7] [2] rfl rfl rfl (by decide) (fun u1 h => ?_)
  obtain ⟨m_light_1, m_may_1, m_shine_1, m_worth_1, m_least_1⟩ := u1
  refine q_cs (cs' := [(a_M, .inr (5, [.long m_trace, .ref a_M_text, .int m_typed, .ref a_M_told, .ref a_M_draft, .ref a_M_s, .ref a_M_images, .ref a_M_kept, .int m_at, .int m_sort, .int m_start, .int m_size, .ref a_M_light, .ref a_M_may, .ref a_M_shine, .ref a_M_worth, .ref a_M_least])), (a_M_told, .inl (cI, 43, .inl m_told)), (a_M_s, .inl (cI, 38, .inl m_s)), (a_M_light, .inl (cI, 128, .inl m_light_1)), (a_M_may, .inl (cI, 128, .inl m_may_1)), (a_M_shine, .inl (cI, 7, .inl m_shine_1)), (a_M_worth, .inl (cI, 8192, .inl m_worth_1)), (a_M_least, .inl (cI, 8192, .inl m_least_1))]) [1, 2, 0, 3, 4, 5, 6, 7] rfl rfl ?_
  refine q_aload_n (pc := 4) F 0 dX5_grief_4 rfl ?_
  refine q_get (pc := 5) F fgX5_41 0 rfl rfl dX5_grief_5 ?_
  refine q_aload_n (pc := 8) F 0 dX5_grief_8 rfl ?_
  refine q_cR (q_runV (As := []) (rest := [.ref a_M_least]) (pc := 9) F (fun l sz => ct_X5_gone D cI cZ a_M a_M_text a_M_told a_M_draft a_M_s a_M_images a_M_kept a_M_light a_M_may a_M_shine a_M_worth a_M_least m_trace m_typed m_at m_sort m_start m_size m_s h l sz) mc_yX5_gone im_yX5_gone se_yX5_gone mlX5_159 ⟨by decide, by decide⟩ ⟨by decide, by decide⟩ ⟨rfl, rfl⟩ [0, 2] rfl rfl rfl 0 rfl rfl rfl (Nat.le_of_ble_eq_true rfl) dX5_grief_9) (fun r9 h => ?_)
  refine q_aload_n (pc := 12) F 0 dX5_grief_12 rfl ?_
  refine q_cR (q_runV (As := []) (rest := [.int r9, .ref a_M_least]) (pc := 13) F (fun l sz => ct_X5_lit D cI cZ a_M a_M_text a_M_told a_M_draft a_M_s a_M_images a_M_kept a_M_light a_M_may a_M_shine a_M_worth a_M_least m_trace m_typed m_at m_sort m_start m_size m_told m_s h l sz) mc_yX5_lit im_yX5_lit se_yX5_lit mlX5_150 ⟨by decide, by decide⟩ ⟨by decide, by decide⟩ ⟨rfl, rfl⟩ [0, 1, 2] rfl rfl rfl 0 rfl rfl rfl (Nat.le_of_ble_eq_true rfl) dX5_grief_13) (fun r13 h => ?_)
  refine q_cR (q_runS (As := [.int r9, .int r13]) (rest := [.ref a_M_least]) (pc := 16) F (fun l sz => ct_X5_state D cI cZ r9 r13 h l sz) mc_yX5_state sm_yX5_state mlX5_162 ⟨by decide, by decide⟩ ⟨by decide, by decide⟩ ⟨rfl, rfl⟩ [] rfl rfl rfl rfl (Nat.le_of_ble_eq_true rfl) dX5_grief_16) (fun r16 h => ?_)
  obtain ⟨hi19, h⟩ := h
  refine q_iald (pc := 19) F 7 rfl hi19 dX5_grief_19 ?_
  refine q_istore_n (pc := 20) F (lv' := [(1, .int (m_least_1 (ix r16))), (0, .ref a_M)]) dX5_grief_20 (by decide) rfl ?_
  refine q_iload_n (pc := 21) F 0 dX5_grief_21 rfl ?_
  refine q_sipush (pc := 22) F (v := 10000) dX5_grief_22 (by decide) ?_
  refine q_icmp_lt (pc := 25) (tgt := 33) F dX5_grief_25 (by decide) (fun c25 => ?_) (fun c25 => ?_)
  · have h := h.1 c25
    refine q_iload_n (pc := 33) F 0 dX5_grief_33 rfl ?_
    exact q_iretM (pc := 34) F Z dX5_grief_34 (m_light_1, m_may_1, m_shine_1, m_worth_1, m_least_1) h rfl
  · have h := h.2 c25
    refine q_bipush (pc := 28) F (v := -9) dX5_grief_28 (by decide) ?_
    refine q_goto (pc := 30) (tgt := 34) F dX5_grief_30 (by decide) ?_
    exact q_iretM (pc := 34) F Z dX5_grief_34 (m_light_1, m_may_1, m_shine_1, m_worth_1, m_least_1) h rfl

def wp_X5_game_L80 (x1 : Int32) (x2 : Int32) (x4 : Int32) (x5 : Int32) (x6 : Int32) (m_worth : Nat → Int32) (m_least : Nat → Int32) (K167 : Int32 → Prop) : Nat → Int32 → Int32 → Prop
  | 0, _, _ => False
  | n + 1, x3, x7 => (((6 : Int32) ≤ x7 → K167 x3) ∧ (¬ (6 : Int32) ≤ x7 → ((x5 = (0 : Int32) → K167 x3) ∧ (¬ x5 = (0 : Int32) → (wp_X5_then x1 x2 x4 x7 (fun (r98 : Int32) => (jn (fun (K143 : Int32 → Prop) => (jn (fun (K142 : Prop) => ((((jshr x2 x7) &&& (1 : Int32)) = (1 : Int32) → (jn (fun (K135 : Int32 → Prop) => ((x6 = (0 : Int32) → (vp_in r98 8192 ∧ K135 (m_least (ix r98)))) ∧ (¬ x6 = (0 : Int32) → (vp_in r98 8192 ∧ K135 (m_worth (ix r98)))))) (fun (y135 : Int32) => ((y135 = (0 : Int32) → K143 (1 : Int32)) ∧ (¬ y135 = (0 : Int32) → K142))))) ∧ (¬ ((jshr x2 x7) &&& (1 : Int32)) = (1 : Int32) → K142))) (K143 (0 : Int32)))) (fun (y143 : Int32) => (jn (fun (K159 : Int32 → Prop) => ((y143 = (0 : Int32) → K159 (0 : Int32)) ∧ (¬ y143 = (0 : Int32) → K159 (jshl (1 : Int32) x6)))) (fun (y159 : Int32) => (∀ x3_160 : Int32, x3_160 = x3 ||| y159 → wp_X5_game_L80 x1 x2 x4 x5 x6 m_worth m_least K167 n x3_160 (x7 + (1 : Int32)))))))))))))
def wp_X5_game_L29 (x1 : Int32) (x2 : Int32) (m_told : Nat → Int32) (m_may : Nat → Int32) (m_worth : Nat → Int32) (m_least : Nat → Int32) (K173 : Int32 → Prop) : Nat → Int32 → Int32 → Prop
  | 0, _, _ => False
  | n + 1, x3, x4 => (((m_told 4) ≤ x4 → K173 x3) ∧ (¬ (m_told 4) ≤ x4 → (vp_in x2 128 ∧ (jn (fun (K63 : Int32 → Prop) => (((((m_may (ix x2)) &&& (x1 ^^^ (-1 : Int32))) &&& (jshl (1 : Int32) x4)) = (0 : Int32) → K63 (0 : Int32)) ∧ (¬ (((m_may (ix x2)) &&& (x1 ^^^ (-1 : Int32))) &&& (jshl (1 : Int32) x4)) = (0 : Int32) → K63 (1 : Int32)))) (fun (y63 : Int32) => (vp_in ((31 : Int32) + x4) 43 ∧ (jn (fun (K167 : Int32 → Prop) => (∃ n80 : Nat, wp_X5_game_L80 x1 x2 x4 y63 (m_told (ix ((31 : Int32) + x4))) m_worth m_least K167 n80 x3 (0 : Int32))) (fun (x3_167 : Int32) => wp_X5_game_L29 x1 x2 m_told m_may m_worth m_least K173 n x3_167 (x4 + (1 : Int32))))))))))
def wp_X5_game_L16 (x1 : Int32) (m_told : Nat → Int32) (m_may : Nat → Int32) (K205 : (Nat → Int32) → (Nat → Int32) → Prop) : Nat → Int32 → (Nat → Int32) → (Nat → Int32) → Prop
  | 0, _, _, _ => False
  | n + 1, x2, m_worth, m_least => (wp_X5_allLit m_told (fun (r18 : Int32) => ((r18 < x2 → K205 m_worth m_least) ∧ (¬ r18 < x2 → (jn (fun (K173 : Int32 → Prop) => (∃ n29 : Nat, wp_X5_game_L29 x1 x2 m_told m_may m_worth m_least K173 n29 (0 : Int32) (0 : Int32))) (fun (x3_173 : Int32) => (wp_X5_state x1 x2 (fun (r179 : Int32) => (vp_in r179 8192 ∧ (wp_X5_state x1 x2 (fun (r192 : Int32) => (vp_in r192 8192 ∧ wp_X5_game_L16 x1 m_told m_may K205 n (x2 + (1 : Int32)) (upd m_worth (ix r179) (x3_173 &&& (1 : Int32))) (upd m_least (ix r192) (jshr x3_173 (1 : Int32)))))))))))))))
def wp_X5_game_L10 (m_told : Nat → Int32) (m_may : Nat → Int32) (K211 : (Nat → Int32) → (Nat → Int32) → Prop) : Nat → Int32 → (Nat → Int32) → (Nat → Int32) → Prop
  | 0, _, _, _ => False
  | n + 1, x1, m_worth, m_least => ((x1 < (0 : Int32) → K211 m_worth m_least) ∧ (¬ x1 < (0 : Int32) → (jn (fun (K205 : (Nat → Int32) → (Nat → Int32) → Prop) => (∃ n16 : Nat, wp_X5_game_L16 x1 m_told m_may K205 n16 (0 : Int32) m_worth m_least)) (fun (m_worth_205 : Nat → Int32) (m_least_205 : Nat → Int32) => wp_X5_game_L10 m_told m_may K211 n (x1 + (-1 : Int32)) m_worth_205 m_least_205))))
def wp_X5_game (m_told : Nat → Int32) (m_s : Nat → Int32) (m_light : Nat → Int32) (m_may : Nat → Int32) (m_shine : Nat → Int32) (m_worth : Nat → Int32) (m_least : Nat → Int32) (post : Int32 → (Nat → Int32) → (Nat → Int32) → (Nat → Int32) → (Nat → Int32) → (Nat → Int32) → Prop) : Prop := (wp_X5_lights (0 : Int32) m_told m_light m_may m_shine (fun (m_light_2 : Nat → Int32) (m_may_2 : Nat → Int32) (m_shine_2 : Nat → Int32) => (wp_X5_all m_told (fun (r6 : Int32) => (jn (fun (K211 : (Nat → Int32) → (Nat → Int32) → Prop) => (∃ n10 : Nat, wp_X5_game_L10 m_told m_may_2 K211 n10 r6 m_worth m_least)) (fun (m_worth_211 : Nat → Int32) (m_least_211 : Nat → Int32) => (wp_X5_gone m_s (fun (r216 : Int32) => (wp_X5_lit m_told m_s (fun (r220 : Int32) => (wp_X5_state r216 r220 (fun (r223 : Int32) => (vp_in r223 8192 ∧ (((m_worth_211 (ix r223)) = (1 : Int32) → post (0 : Int32) m_light_2 m_may_2 m_shine_2 m_worth_211 m_least_211) ∧ (¬ (m_worth_211 (ix r223)) = (1 : Int32) → post (1 : Int32) m_light_2 m_may_2 m_shine_2 m_worth_211 m_least_211)))))))))))))))
abbrev rm_X5_game : Room := { frames := 4, cells := 0, slots := 0, locals := 97 }
set_option maxRecDepth 100000 in
set_option maxHeartbeats 4000000 in
theorem ct_X5_game (D : va_G) (cI cZ : ClassId) (a_M a_M_text a_M_told a_M_draft a_M_s a_M_images a_M_kept a_M_light a_M_may a_M_shine a_M_worth a_M_least : Nat) (m_trace : Int64) (m_typed : Int32) (m_at : Int32) (m_sort : Int32) (m_start : Int32) (m_size : Int32) (m_told : Nat → Int32) (m_s : Nat → Int32) (m_light : Nat → Int32) (m_may : Nat → Int32) (m_shine : Nat → Int32) (m_worth : Nat → Int32) (m_least : Nat → Int32) {post : Int32 → (Nat → Int32) → (Nat → Int32) → (Nat → Int32) → (Nat → Int32) → (Nat → Int32) → Prop} (h : wp_X5_game m_told m_s m_light m_may m_shine m_worth m_least post) (l : Launch) (sz : Nat) : Met l yX5_game (wsM yX5_game cX5_game 10 (some .int)) rm_X5_game (va_Pc [.ref a_M] (gP D cI cZ [(a_M, .inr (5, [.long m_trace, .ref a_M_text, .int m_typed, .ref a_M_told, .ref a_M_draft, .ref a_M_s, .ref a_M_images, .ref a_M_kept, .int m_at, .int m_sort, .int m_start, .int m_size, .ref a_M_light, .ref a_M_may, .ref a_M_shine, .ref a_M_worth, .ref a_M_least])), (a_M_told, .inl (cI, 43, .inl m_told)), (a_M_s, .inl (cI, 38, .inl m_s)), (a_M_light, .inl (cI, 128, .inl m_light)), (a_M_may, .inl (cI, 128, .inl m_may)), (a_M_shine, .inl (cI, 7, .inl m_shine)), (a_M_worth, .inl (cI, 8192, .inl m_worth)), (a_M_least, .inl (cI, 8192, .inl m_least))] sz)) (gQi D (fun r (u : (Nat → Int32) × (Nat → Int32) × (Nat → Int32) × (Nat → Int32) × (Nat → Int32)) => post r u.1 u.2.1 u.2.2.1 u.2.2.2.1 u.2.2.2.2) (fun (u : (Nat → Int32) × (Nat → Int32) × (Nat → Int32) × (Nat → Int32) × (Nat → Int32)) => [(a_M, .inr (5, [.long m_trace, .ref a_M_text, .int m_typed, .ref a_M_told, .ref a_M_draft, .ref a_M_s, .ref a_M_images, .ref a_M_kept, .int m_at, .int m_sort, .int m_start, .int m_size, .ref a_M_light, .ref a_M_may, .ref a_M_shine, .ref a_M_worth, .ref a_M_least])), (a_M_told, .inl (cI, 43, .inl m_told)), (a_M_s, .inl (cI, 38, .inl m_s)), (a_M_light, .inl (cI, 128, .inl u.1)), (a_M_may, .inl (cI, 128, .inl u.2.1)), (a_M_shine, .inl (cI, 7, .inl u.2.2.1)), (a_M_worth, .inl (cI, 8192, .inl u.2.2.2.1)), (a_M_least, .inl (cI, 8192, .inl u.2.2.2.2))]) [(a_M, .inr (5, [.long m_trace, .ref a_M_text, .int m_typed, .ref a_M_told, .ref a_M_draft, .ref a_M_s, .ref a_M_images, .ref a_M_kept, .int m_at, .int m_sort, .int m_start, .int m_size, .ref a_M_light, .ref a_M_may, .ref a_M_shine, .ref a_M_worth, .ref a_M_least])), (a_M_told, .inl (cI, 43, .inl m_told)), (a_M_s, .inl (cI, 38, .inl m_s)), (a_M_light, .inl (cI, 128, .inl m_light)), (a_M_may, .inl (cI, 128, .inl m_may)), (a_M_shine, .inl (cI, 7, .inl m_shine)), (a_M_worth, .inl (cI, 8192, .inl m_worth)), (a_M_least, .inl (cI, 8192, .inl m_least))] sz) 0 0 (va_A [(a_M, .inr (5, [.long m_trace, .ref a_M_text, .int m_typed, .ref a_M_told, .ref a_M_draft, .ref a_M_s, .ref a_M_images, .ref a_M_kept, .int m_at, .int m_sort, .int m_start, .int m_size, .ref a_M_light, .ref a_M_may, .ref a_M_shine, .ref a_M_worth, .ref a_M_least])), (a_M_told, .inl (cI, 43, .inl m_told)), (a_M_s, .inl (cI, 38, .inl m_s)), (a_M_light, .inl (cI, 128, .inl m_light)), (a_M_may, .inl (cI, 128, .inl m_may)), (a_M_shine, .inl (cI, 7, .inl m_shine)), (a_M_worth, .inl (cI, 8192, .inl m_worth)), (a_M_least, .inl (cI, 8192, .inl m_least))] sz) := by
  refine q_startM (own := RX5) (Qc := gQi D (fun r (u : (Nat → Int32) × (Nat → Int32) × (Nat → Int32) × (Nat → Int32) × (Nat → Int32)) => post r u.1 u.2.1 u.2.2.1 u.2.2.2.1 u.2.2.2.2) (fun (u : (Nat → Int32) × (Nat → Int32) × (Nat → Int32) × (Nat → Int32) × (Nat → Int32)) => [(a_M, .inr (5, [.long m_trace, .ref a_M_text, .int m_typed, .ref a_M_told, .ref a_M_draft, .ref a_M_s, .ref a_M_images, .ref a_M_kept, .int m_at, .int m_sort, .int m_start, .int m_size, .ref a_M_light, .ref a_M_may, .ref a_M_shine, .ref a_M_worth, .ref a_M_least])), (a_M_told, .inl (cI, 43, .inl m_told)), (a_M_s, .inl (cI, 38, .inl m_s)), (a_M_light, .inl (cI, 128, .inl u.1)), (a_M_may, .inl (cI, 128, .inl u.2.1)), (a_M_shine, .inl (cI, 7, .inl u.2.2.1)), (a_M_worth, .inl (cI, 8192, .inl u.2.2.2.1)), (a_M_least, .inl (cI, 8192, .inl u.2.2.2.2))]) [(a_M, .inr (5, [.long m_trace, .ref a_M_text, .int m_typed, .ref a_M_told, .ref a_M_draft, .ref a_M_s, .ref a_M_images, .ref a_M_kept, .int m_at, .int m_sort, .int m_start, .int m_size, .ref a_M_light, .ref a_M_may, .ref a_M_shine, .ref a_M_worth, .ref a_M_least])), (a_M_told, .inl (cI, 43, .inl m_told)), (a_M_s, .inl (cI, 38, .inl m_s)), (a_M_light, .inl (cI, 128, .inl m_light)), (a_M_may, .inl (cI, 128, .inl m_may)), (a_M_shine, .inl (cI, 7, .inl m_shine)), (a_M_worth, .inl (cI, 8192, .inl m_worth)), (a_M_least, .inl (cI, 8192, .inl m_least))]) (by decide +kernel) rfl (Nat.le_of_ble_eq_true rfl) (fun E F Z M => ?_)
  show Wg E [(a_M, .inr (5, [.long m_trace, .ref a_M_text, .int m_typed, .ref a_M_told, .ref a_M_draft, .ref a_M_s, .ref a_M_images, .ref a_M_kept, .int m_at, .int m_sort, .int m_start, .int m_size, .ref a_M_light, .ref a_M_may, .ref a_M_shine, .ref a_M_worth, .ref a_M_least])), (a_M_told, .inl (cI, 43, .inl m_told)), (a_M_s, .inl (cI, 38, .inl m_s)), (a_M_light, .inl (cI, 128, .inl m_light)), (a_M_may, .inl (cI, 128, .inl m_may)), (a_M_shine, .inl (cI, 7, .inl m_shine)), (a_M_worth, .inl (cI, 8192, .inl m_worth)), (a_M_least, .inl (cI, 8192, .inl m_least))] 0 0 0 [(0, .ref a_M)] []
  unfold wp_X5_game at h
  refine q_aload_n (pc := 0) F 0 dX5_game_0 rfl ?_
  refine q_iconst (pc := 1) F (v := 0) dX5_game_1 (by decide) ?_
  refine q_cMv (wr := [(a_M_s, .inl (cI, 38, .inl m_s)), (a_M_worth, .inl (cI, 8192, .inl m_worth)), (a_M_least, .inl (cI, 8192, .inl m_least))]) (pc := 2) F M (q_runV (As := [.int (0 : Int32)]) (rest := []) (pc := 2) F (fun l sz => ct_X5_lights D cI cZ a_M a_M_text a_M_told a_M_draft a_M_s a_M_images a_M_kept a_M_light a_M_may a_M_shine a_M_worth a_M_least m_trace m_typed m_at m_sort m_start m_size m_told m_light m_may m_shine (0 : Int32) h l sz) mc_yX5_lights im_yX5_lights se_yX5_lights mlX5_146 ⟨by decide, by decide⟩ ⟨by decide, by decide⟩ ⟨rfl, rfl⟩ [0, 1, 3, 4, 5] rfl rfl rfl 0 rfl rfl rfl (Nat.le_of_ble_eq_true rfl) dX5_game_2) [0, 1, 3, 4, 5] [2, 6, 7] rfl rfl rfl (by decide) (fun u2 h => ?_)
  obtain ⟨m_light_2, m_may_2, m_shine_2⟩ := u2
  refine q_cs (cs' := [(a_M, .inr (5, [.long m_trace, .ref a_M_text, .int m_typed, .ref a_M_told, .ref a_M_draft, .ref a_M_s, .ref a_M_images, .ref a_M_kept, .int m_at, .int m_sort, .int m_start, .int m_size, .ref a_M_light, .ref a_M_may, .ref a_M_shine, .ref a_M_worth, .ref a_M_least])), (a_M_told, .inl (cI, 43, .inl m_told)), (a_M_s, .inl (cI, 38, .inl m_s)), (a_M_light, .inl (cI, 128, .inl m_light_2)), (a_M_may, .inl (cI, 128, .inl m_may_2)), (a_M_shine, .inl (cI, 7, .inl m_shine_2)), (a_M_worth, .inl (cI, 8192, .inl m_worth)), (a_M_least, .inl (cI, 8192, .inl m_least))]) [3, 4, 0, 5, 6, 7, 1, 2] rfl rfl ?_
  refine q_aload_n (pc := 5) F 0 dX5_game_5 rfl ?_
  refine q_cR (q_runV (As := []) (rest := []) (pc := 6) F (fun l sz => ct_X5_all D cI cZ a_M a_M_text a_M_told a_M_draft a_M_s a_M_images a_M_kept a_M_light a_M_may a_M_shine a_M_worth a_M_least m_trace m_typed m_at m_sort m_start m_size m_told h l sz) mc_yX5_all im_yX5_all se_yX5_all mlX5_165 ⟨by decide, by decide⟩ ⟨by decide, by decide⟩ ⟨rfl, rfl⟩ [0, 1] rfl rfl rfl 0 rfl rfl rfl (Nat.le_of_ble_eq_true rfl) dX5_game_6) (fun r6 h => ?_)
  refine q_istore_n (pc := 9) F (lv' := [(1, .int r6), (0, .ref a_M)]) dX5_game_9 (by decide) rfl ?_
  refine jnW h (fun K => ∀ (m_worth_211 : Nat → Int32) (m_least_211 : Nat → Int32), K m_worth_211 m_least_211 → Wg E [(a_M, .inr (5, [.long m_trace, .ref a_M_text, .int m_typed, .ref a_M_told, .ref a_M_draft, .ref a_M_s, .ref a_M_images, .ref a_M_kept, .int m_at, .int m_sort, .int m_start, .int m_size, .ref a_M_light, .ref a_M_may, .ref a_M_shine, .ref a_M_worth, .ref a_M_least])), (a_M_told, .inl (cI, 43, .inl m_told)), (a_M_s, .inl (cI, 38, .inl m_s)), (a_M_light, .inl (cI, 128, .inl m_light_2)), (a_M_may, .inl (cI, 128, .inl m_may_2)), (a_M_shine, .inl (cI, 7, .inl m_shine_2)), (a_M_worth, .inl (cI, 8192, .inl m_worth_211)), (a_M_least, .inl (cI, 8192, .inl m_least_211))] 0 0 211 [(0, .ref a_M)] []) ?_ ?_
  · intro m_worth_211 m_least_211 h
    refine q_aload_n (pc := 211) F 0 dX5_game_211 rfl ?_
    refine q_get (pc := 212) F fgX5_38 0 rfl rfl dX5_game_212 ?_
    refine q_aload_n (pc := 215) F 0 dX5_game_215 rfl ?_
    refine q_cR (q_runV (As := []) (rest := [.ref a_M_worth]) (pc := 216) F (fun l sz => ct_X5_gone D cI cZ a_M a_M_text a_M_told a_M_draft a_M_s a_M_images a_M_kept a_M_light a_M_may a_M_shine a_M_worth a_M_least m_trace m_typed m_at m_sort m_start m_size m_s h l sz) mc_yX5_gone im_yX5_gone se_yX5_gone mlX5_159 ⟨by decide, by decide⟩ ⟨by decide, by decide⟩ ⟨rfl, rfl⟩ [0, 2] rfl rfl rfl 0 rfl rfl rfl (Nat.le_of_ble_eq_true rfl) dX5_game_216) (fun r216 h => ?_)
    refine q_aload_n (pc := 219) F 0 dX5_game_219 rfl ?_
    refine q_cR (q_runV (As := []) (rest := [.int r216, .ref a_M_worth]) (pc := 220) F (fun l sz => ct_X5_lit D cI cZ a_M a_M_text a_M_told a_M_draft a_M_s a_M_images a_M_kept a_M_light a_M_may a_M_shine a_M_worth a_M_least m_trace m_typed m_at m_sort m_start m_size m_told m_s h l sz) mc_yX5_lit im_yX5_lit se_yX5_lit mlX5_150 ⟨by decide, by decide⟩ ⟨by decide, by decide⟩ ⟨rfl, rfl⟩ [0, 1, 2] rfl rfl rfl 0 rfl rfl rfl (Nat.le_of_ble_eq_true rfl) dX5_game_220) (fun r220 h => ?_)
    refine q_cR (q_runS (As := [.int r216, .int r220]) (rest := [.ref a_M_worth]) (pc := 223) F (fun l sz => ct_X5_state D cI cZ r216 r220 h l sz) mc_yX5_state sm_yX5_state mlX5_162 ⟨by decide, by decide⟩ ⟨by decide, by decide⟩ ⟨rfl, rfl⟩ [] rfl rfl rfl rfl (Nat.le_of_ble_eq_true rfl) dX5_game_223) (fun r223 h => ?_)
    obtain ⟨hi226, h⟩ := h
    refine q_iald (pc := 226) F 6 rfl hi226 dX5_game_226 ?_
    refine q_iconst (pc := 227) F (v := 1) dX5_game_227 (by decide) ?_
    refine q_icmp_ne (pc := 228) (tgt := 235) F dX5_game_228 (by decide) (fun c228 => ?_) (fun c228 => ?_)
    · have h := h.2 c228
      refine q_iconst (pc := 235) F (v := 1) dX5_game_235 (by decide) ?_
      exact q_iretM (pc := 236) F Z dX5_game_236 (m_light_2, m_may_2, m_shine_2, m_worth_211, m_least_211) h rfl
    · have h := h.1 c228
      refine q_iconst (pc := 231) F (v := 0) dX5_game_231 (by decide) ?_
      refine q_goto (pc := 232) (tgt := 236) F dX5_game_232 (by decide) ?_
      exact q_iretM (pc := 236) F Z dX5_game_236 (m_light_2, m_may_2, m_shine_2, m_worth_211, m_least_211) h rfl
  · intro K211 J211 h
    obtain ⟨n10, h⟩ := h
    have lp10 : ∀ (n : Nat) (x1_h10 : Int32) (m_worth_h10 : Nat → Int32) (m_least_h10 : Nat → Int32), wp_X5_game_L10 m_told m_may_2 K211 n x1_h10 m_worth_h10 m_least_h10 → Wg E [(a_M, .inr (5, [.long m_trace, .ref a_M_text, .int m_typed, .ref a_M_told, .ref a_M_draft, .ref a_M_s, .ref a_M_images, .ref a_M_kept, .int m_at, .int m_sort, .int m_start, .int m_size, .ref a_M_light, .ref a_M_may, .ref a_M_shine, .ref a_M_worth, .ref a_M_least])), (a_M_told, .inl (cI, 43, .inl m_told)), (a_M_s, .inl (cI, 38, .inl m_s)), (a_M_light, .inl (cI, 128, .inl m_light_2)), (a_M_may, .inl (cI, 128, .inl m_may_2)), (a_M_shine, .inl (cI, 7, .inl m_shine_2)), (a_M_worth, .inl (cI, 8192, .inl m_worth_h10)), (a_M_least, .inl (cI, 8192, .inl m_least_h10))] 0 0 10 [(0, .ref a_M), (1, .int x1_h10)] [] := by
      intro n
      induction n with
      | zero => intro x1_h10 m_worth_h10 m_least_h10 h; exact h.elim
      | succ n ih =>
        intro x1_h10 m_worth_h10 m_least_h10 h
        unfold wp_X5_game_L10 at h
        refine q_iload_n (pc := 10) F 1 dX5_game_10 rfl ?_
        refine q_if_lt (pc := 11) (tgt := 211) F dX5_game_11 (by decide) (fun c11 => ?_) (fun c11 => ?_)
        · have h := h.1 c11
          refine q_lv (lv' := [(0, .ref a_M)]) [0] rfl ?_
          exact J211 m_worth_h10 m_least_h10 h
        · have h := h.2 c11
          refine q_iconst (pc := 14) F (v := 0) dX5_game_14 (by decide) ?_
          refine q_istore_n (pc := 15) F (lv' := [(2, .int (0 : Int32)), (0, .ref a_M), (1, .int x1_h10)]) dX5_game_15 (by decide) rfl ?_
          refine jnW h (fun K => ∀ (m_worth_205 : Nat → Int32) (m_least_205 : Nat → Int32), K m_worth_205 m_least_205 → Wg E [(a_M, .inr (5, [.long m_trace, .ref a_M_text, .int m_typed, .ref a_M_told, .ref a_M_draft, .ref a_M_s, .ref a_M_images, .ref a_M_kept, .int m_at, .int m_sort, .int m_start, .int m_size, .ref a_M_light, .ref a_M_may, .ref a_M_shine, .ref a_M_worth, .ref a_M_least])), (a_M_told, .inl (cI, 43, .inl m_told)), (a_M_s, .inl (cI, 38, .inl m_s)), (a_M_light, .inl (cI, 128, .inl m_light_2)), (a_M_may, .inl (cI, 128, .inl m_may_2)), (a_M_shine, .inl (cI, 7, .inl m_shine_2)), (a_M_worth, .inl (cI, 8192, .inl m_worth_205)), (a_M_least, .inl (cI, 8192, .inl m_least_205))] 0 0 205 [(0, .ref a_M), (1, .int x1_h10)] []) ?_ ?_
          · intro m_worth_205 m_least_205 h
            refine q_iinc (pc := 205) F (v := x1_h10 + (-1 : Int32)) (lv' := [(1, .int (x1_h10 + (-1 : Int32))), (0, .ref a_M)]) 1 dX5_game_205 rfl rfl (by decide) rfl ?_
            refine q_goto (pc := 208) (tgt := 10) F dX5_game_208 (by decide) ?_
            refine q_lv (lv' := [(0, .ref a_M), (1, .int (x1_h10 + (-1 : Int32)))]) [1, 0] rfl ?_
            exact ih (x1_h10 + (-1 : Int32)) m_worth_205 m_least_205 h
          · intro K205 J205 h
            obtain ⟨n16, h⟩ := h
            have lp16 : ∀ (n : Nat) (x2_h16 : Int32) (m_worth_h16 : Nat → Int32) (m_least_h16 : Nat → Int32), wp_X5_game_L16 x1_h10 m_told m_may_2 K205 n x2_h16 m_worth_h16 m_least_h16 → Wg E [(a_M, .inr (5, [.long m_trace, .ref a_M_text, .int m_typed, .ref a_M_told, .ref a_M_draft, .ref a_M_s, .ref a_M_images, .ref a_M_kept, .int m_at, .int m_sort, .int m_start, .int m_size, .ref a_M_light, .ref a_M_may, .ref a_M_shine, .ref a_M_worth, .ref a_M_least])), (a_M_told, .inl (cI, 43, .inl m_told)), (a_M_s, .inl (cI, 38, .inl m_s)), (a_M_light, .inl (cI, 128, .inl m_light_2)), (a_M_may, .inl (cI, 128, .inl m_may_2)), (a_M_shine, .inl (cI, 7, .inl m_shine_2)), (a_M_worth, .inl (cI, 8192, .inl m_worth_h16)), (a_M_least, .inl (cI, 8192, .inl m_least_h16))] 0 0 16 [(0, .ref a_M), (1, .int x1_h10), (2, .int x2_h16)] [] := by
              intro n
              induction n with
              | zero => intro x2_h16 m_worth_h16 m_least_h16 h; exact h.elim
              | succ n ih =>
                intro x2_h16 m_worth_h16 m_least_h16 h
                unfold wp_X5_game_L16 at h
                refine q_iload_n (pc := 16) F 2 dX5_game_16 rfl ?_
                refine q_aload_n (pc := 17) F 0 dX5_game_17 rfl ?_
                refine q_cR (q_runV (As := []) (rest := [.int x2_h16]) (pc := 18) F (fun l sz => ct_X5_allLit D cI cZ a_M a_M_text a_M_told a_M_draft a_M_s a_M_images a_M_kept a_M_light a_M_may a_M_shine a_M_worth a_M_least m_trace m_typed m_at m_sort m_start m_size m_told h l sz) mc_yX5_allLit im_yX5_allLit se_yX5_allLit mlX5_128 ⟨by decide, by decide⟩ ⟨by decide, by decide⟩ ⟨rfl, rfl⟩ [0, 1] rfl rfl rfl 0 rfl rfl rfl (Nat.le_of_ble_eq_true rfl) dX5_game_18) (fun r18 h => ?_)
                refine q_icmp_gt (pc := 21) (tgt := 205) F dX5_game_21 (by decide) (fun c21 => ?_) (fun c21 => ?_)
                · have h := h.1 c21
                  refine q_lv (lv' := [(0, .ref a_M), (1, .int x1_h10)]) [0, 1] rfl ?_
                  exact J205 m_worth_h16 m_least_h16 h
                · have h := h.2 c21
                  refine q_iconst (pc := 24) F (v := 0) dX5_game_24 (by decide) ?_
                  refine q_istore_n (pc := 25) F (lv' := [(3, .int (0 : Int32)), (0, .ref a_M), (1, .int x1_h10), (2, .int x2_h16)]) dX5_game_25 (by decide) rfl ?_
                  refine q_iconst (pc := 26) F (v := 0) dX5_game_26 (by decide) ?_
                  refine q_istore (pc := 27) F (lv' := [(4, .int (0 : Int32)), (3, .int (0 : Int32)), (0, .ref a_M), (1, .int x1_h10), (2, .int x2_h16)]) dX5_game_27 (by decide) rfl ?_
                  refine jnW h (fun K => ∀ (x3_173 : Int32), K x3_173 → Wg E [(a_M, .inr (5, [.long m_trace, .ref a_M_text, .int m_typed, .ref a_M_told, .ref a_M_draft, .ref a_M_s, .ref a_M_images, .ref a_M_kept, .int m_at, .int m_sort, .int m_start, .int m_size, .ref a_M_light, .ref a_M_may, .ref a_M_shine, .ref a_M_worth, .ref a_M_least])), (a_M_told, .inl (cI, 43, .inl m_told)), (a_M_s, .inl (cI, 38, .inl m_s)), (a_M_light, .inl (cI, 128, .inl m_light_2)), (a_M_may, .inl (cI, 128, .inl m_may_2)), (a_M_shine, .inl (cI, 7, .inl m_shine_2)), (a_M_worth, .inl (cI, 8192, .inl m_worth_h16)), (a_M_least, .inl (cI, 8192, .inl m_least_h16))] 0 0 173 [(0, .ref a_M), (1, .int x1_h10), (2, .int x2_h16), (3, .int x3_173)] []) ?_ ?_
                  · intro x3_173 h
                    refine q_aload_n (pc := 173) F 0 dX5_game_173 rfl ?_
                    refine q_get (pc := 174) F fgX5_38 0 rfl rfl dX5_game_174 ?_
                    refine q_iload_n (pc := 177) F 1 dX5_game_177 rfl ?_
                    refine q_iload_n (pc := 178) F 2 dX5_game_178 rfl ?_
                    refine q_cR (q_runS (As := [.int x1_h10, .int x2_h16]) (rest := [.ref a_M_worth]) (pc := 179) F (fun l sz => ct_X5_state D cI cZ x1_h10 x2_h16 h l sz) mc_yX5_state sm_yX5_state mlX5_162 ⟨by decide, by decide⟩ ⟨by decide, by decide⟩ ⟨rfl, rfl⟩ [] rfl rfl rfl rfl (Nat.le_of_ble_eq_true rfl) dX5_game_179) (fun r179 h => ?_)
                    refine q_iload_n (pc := 182) F 3 dX5_game_182 rfl ?_
                    refine q_iconst (pc := 183) F (v := 1) dX5_game_183 (by decide) ?_
                    refine q_iand (pc := 184) F dX5_game_184 ?_
                    obtain ⟨hi185, h⟩ := h
                    refine q_iast (pc := 185) F M (cs' := [(a_M, .inr (5, [.long m_trace, .ref a_M_text, .int m_typed, .ref a_M_told, .ref a_M_draft, .ref a_M_s, .ref a_M_images, .ref a_M_kept, .int m_at, .int m_sort, .int m_start, .int m_size, .ref a_M_light, .ref a_M_may, .ref a_M_shine, .ref a_M_worth, .ref a_M_least])), (a_M_told, .inl (cI, 43, .inl m_told)), (a_M_s, .inl (cI, 38, .inl m_s)), (a_M_light, .inl (cI, 128, .inl m_light_2)), (a_M_may, .inl (cI, 128, .inl m_may_2)), (a_M_shine, .inl (cI, 7, .inl m_shine_2)), (a_M_worth, .inl (cI, 8192, .inl (upd m_worth_h16 (ix r179) (x3_173 &&& (1 : Int32))))), (a_M_least, .inl (cI, 8192, .inl m_least_h16))]) 6 rfl hi185 rfl dX5_game_185 ?_
                    refine q_aload_n (pc := 186) F 0 dX5_game_186 rfl ?_
                    refine q_get (pc := 187) F fgX5_41 0 rfl rfl dX5_game_187 ?_
                    refine q_iload_n (pc := 190) F 1 dX5_game_190 rfl ?_
                    refine q_iload_n (pc := 191) F 2 dX5_game_191 rfl ?_
                    refine q_cR (q_runS (As := [.int x1_h10, .int x2_h16]) (rest := [.ref a_M_least]) (pc := 192) F (fun l sz => ct_X5_state D cI cZ x1_h10 x2_h16 h l sz) mc_yX5_state sm_yX5_state mlX5_162 ⟨by decide, by decide⟩ ⟨by decide, by decide⟩ ⟨rfl, rfl⟩ [] rfl rfl rfl rfl (Nat.le_of_ble_eq_true rfl) dX5_game_192) (fun r192 h => ?_)
                    refine q_iload_n (pc := 195) F 3 dX5_game_195 rfl ?_
                    refine q_iconst (pc := 196) F (v := 1) dX5_game_196 (by decide) ?_
                    refine q_ishr (pc := 197) F dX5_game_197 ?_
                    obtain ⟨hi198, h⟩ := h
                    refine q_iast (pc := 198) F M (cs' := [(a_M, .inr (5, [.long m_trace, .ref a_M_text, .int m_typed, .ref a_M_told, .ref a_M_draft, .ref a_M_s, .ref a_M_images, .ref a_M_kept, .int m_at, .int m_sort, .int m_start, .int m_size, .ref a_M_light, .ref a_M_may, .ref a_M_shine, .ref a_M_worth, .ref a_M_least])), (a_M_told, .inl (cI, 43, .inl m_told)), (a_M_s, .inl (cI, 38, .inl m_s)), (a_M_light, .inl (cI, 128, .inl m_light_2)), (a_M_may, .inl (cI, 128, .inl m_may_2)), (a_M_shine, .inl (cI, 7, .inl m_shine_2)), (a_M_worth, .inl (cI, 8192, .inl (upd m_worth_h16 (ix r179) (x3_173 &&& (1 : Int32))))), (a_M_least, .inl (cI, 8192, .inl (upd m_least_h16 (ix r192) (jshr x3_173 (1 : Int32)))))]) 7 rfl hi198 rfl dX5_game_198 ?_
                    refine q_iinc (pc := 199) F (v := x2_h16 + (1 : Int32)) (lv' := [(2, .int (x2_h16 + (1 : Int32))), (0, .ref a_M), (1, .int x1_h10), (3, .int x3_173)]) 2 dX5_game_199 rfl rfl (by decide) rfl ?_
                    refine q_goto (pc := 202) (tgt := 16) F dX5_game_202 (by decide) ?_
                    refine q_lv (lv' := [(0, .ref a_M), (1, .int x1_h10), (2, .int (x2_h16 + (1 : Int32)))]) [1, 2, 0] rfl ?_
                    exact ih (x2_h16 + (1 : Int32)) (upd m_worth_h16 (ix r179) (x3_173 &&& (1 : Int32))) (upd m_least_h16 (ix r192) (jshr x3_173 (1 : Int32))) h
                  · intro K173 J173 h
                    obtain ⟨n29, h⟩ := h
                    have lp29 : ∀ (n : Nat) (x3_h29 : Int32) (x4_h29 : Int32), wp_X5_game_L29 x1_h10 x2_h16 m_told m_may_2 m_worth_h16 m_least_h16 K173 n x3_h29 x4_h29 → Wg E [(a_M, .inr (5, [.long m_trace, .ref a_M_text, .int m_typed, .ref a_M_told, .ref a_M_draft, .ref a_M_s, .ref a_M_images, .ref a_M_kept, .int m_at, .int m_sort, .int m_start, .int m_size, .ref a_M_light, .ref a_M_may, .ref a_M_shine, .ref a_M_worth, .ref a_M_least])), (a_M_told, .inl (cI, 43, .inl m_told)), (a_M_s, .inl (cI, 38, .inl m_s)), (a_M_light, .inl (cI, 128, .inl m_light_2)), (a_M_may, .inl (cI, 128, .inl m_may_2)), (a_M_shine, .inl (cI, 7, .inl m_shine_2)), (a_M_worth, .inl (cI, 8192, .inl m_worth_h16)), (a_M_least, .inl (cI, 8192, .inl m_least_h16))] 0 0 29 [(0, .ref a_M), (1, .int x1_h10), (2, .int x2_h16), (3, .int x3_h29), (4, .int x4_h29)] [] := by
                      intro n
                      induction n with
                      | zero => intro x3_h29 x4_h29 h; exact h.elim
                      | succ n ih =>
                        intro x3_h29 x4_h29 h
                        unfold wp_X5_game_L29 at h
                        refine q_iload (pc := 29) F 4 dX5_game_29 rfl ?_
                        refine q_aload_n (pc := 31) F 0 dX5_game_31 rfl ?_
                        refine q_get (pc := 32) F fgX5_13 0 rfl rfl dX5_game_32 ?_
                        refine q_iconst (pc := 35) F (v := 4) dX5_game_35 (by decide) ?_
                        refine q_ialdk (pc := 36) F (k9 := 4) 1 rfl (vpd (by decide +kernel)) (by decide +kernel) dX5_game_36 ?_
                        refine q_icmp_ge (pc := 37) (tgt := 173) F dX5_game_37 (by decide) (fun c37 => ?_) (fun c37 => ?_)
                        · have h := h.1 c37
                          refine q_lv (lv' := [(0, .ref a_M), (1, .int x1_h10), (2, .int x2_h16), (3, .int x3_h29)]) [0, 1, 2, 3] rfl ?_
                          exact J173 x3_h29 h
                        · have h := h.2 c37
                          refine q_aload_n (pc := 40) F 0 dX5_game_40 rfl ?_
                          refine q_get (pc := 41) F fgX5_32 0 rfl rfl dX5_game_41 ?_
                          refine q_iload_n (pc := 44) F 2 dX5_game_44 rfl ?_
                          obtain ⟨hi45, h⟩ := h
                          refine q_iald (pc := 45) F 4 rfl hi45 dX5_game_45 ?_
                          refine q_iload_n (pc := 46) F 1 dX5_game_46 rfl ?_
                          refine q_iconst (pc := 47) F (v := -1) dX5_game_47 (by decide) ?_
                          refine q_ixor (pc := 48) F dX5_game_48 ?_
                          refine q_iand (pc := 49) F dX5_game_49 ?_
                          refine q_iconst (pc := 50) F (v := 1) dX5_game_50 (by decide) ?_
                          refine q_iload (pc := 51) F 4 dX5_game_51 rfl ?_
                          refine q_ishl (pc := 53) F dX5_game_53 ?_
                          refine q_iand (pc := 54) F dX5_game_54 ?_
                          refine jnW h (fun K => ∀ (y63 : Int32), K y63 → Wg E [(a_M, .inr (5, [.long m_trace, .ref a_M_text, .int m_typed, .ref a_M_told, .ref a_M_draft, .ref a_M_s, .ref a_M_images, .ref a_M_kept, .int m_at, .int m_sort, .int m_start, .int m_size, .ref a_M_light, .ref a_M_may, .ref a_M_shine, .ref a_M_worth, .ref a_M_least])), (a_M_told, .inl (cI, 43, .inl m_told)), (a_M_s, .inl (cI, 38, .inl m_s)), (a_M_light, .inl (cI, 128, .inl m_light_2)), (a_M_may, .inl (cI, 128, .inl m_may_2)), (a_M_shine, .inl (cI, 7, .inl m_shine_2)), (a_M_worth, .inl (cI, 8192, .inl m_worth_h16)), (a_M_least, .inl (cI, 8192, .inl m_least_h16))] 0 0 63 [(0, .ref a_M), (1, .int x1_h10), (2, .int x2_h16), (3, .int x3_h29), (4, .int x4_h29)] [.int y63]) ?_ ?_
                          · intro y63 h
                            refine q_istore (pc := 63) F (lv' := [(5, .int y63), (0, .ref a_M), (1, .int x1_h10), (2, .int x2_h16), (3, .int x3_h29), (4, .int x4_h29)]) dX5_game_63 (by decide) rfl ?_
                            refine q_aload_n (pc := 65) F 1 dX5_game_65 rfl ?_
                            refine q_get (pc := 66) F fgX5_13 0 rfl rfl dX5_game_66 ?_
                            refine q_bipush (pc := 69) F (v := 31) dX5_game_69 (by decide) ?_
                            refine q_iload (pc := 71) F 5 dX5_game_71 rfl ?_
                            refine q_iadd (pc := 73) F dX5_game_73 ?_
                            obtain ⟨hi74, h⟩ := h
                            refine q_iald (pc := 74) F 1 rfl hi74 dX5_game_74 ?_
                            refine q_istore (pc := 75) F (lv' := [(6, .int (m_told (ix ((31 : Int32) + x4_h29)))), (5, .int y63), (0, .ref a_M), (1, .int x1_h10), (2, .int x2_h16), (3, .int x3_h29), (4, .int x4_h29)]) dX5_game_75 (by decide) rfl ?_
                            refine q_iconst (pc := 77) F (v := 0) dX5_game_77 (by decide) ?_
                            refine q_istore (pc := 78) F (lv' := [(7, .int (0 : Int32)), (6, .int (m_told (ix ((31 : Int32) + x4_h29)))), (5, .int y63), (0, .ref a_M), (1, .int x1_h10), (2, .int x2_h16), (3, .int x3_h29), (4, .int x4_h29)]) dX5_game_78 (by decide) rfl ?_
                            refine jnW h (fun K => ∀ (x3_167 : Int32), K x3_167 → Wg E [(a_M, .inr (5, [.long m_trace, .ref a_M_text, .int m_typed, .ref a_M_told, .ref a_M_draft, .ref a_M_s, .ref a_M_images, .ref a_M_kept, .int m_at, .int m_sort, .int m_start, .int m_size, .ref a_M_light, .ref a_M_may, .ref a_M_shine, .ref a_M_worth, .ref a_M_least])), (a_M_told, .inl (cI, 43, .inl m_told)), (a_M_s, .inl (cI, 38, .inl m_s)), (a_M_light, .inl (cI, 128, .inl m_light_2)), (a_M_may, .inl (cI, 128, .inl m_may_2)), (a_M_shine, .inl (cI, 7, .inl m_shine_2)), (a_M_worth, .inl (cI, 8192, .inl m_worth_h16)), (a_M_least, .inl (cI, 8192, .inl m_least_h16))] 0 0 167 [(0, .ref a_M), (1, .int x1_h10), (2, .int x2_h16), (3, .int x3_167), (4, .int x4_h29)] []) ?_ ?_
                            · intro x3_167 h
                              refine q_iinc (pc := 167) F (v := x4_h29 + (1 : Int32)) (lv' := [(4, .int (x4_h29 + (1 : Int32))), (0, .ref a_M), (1, .int x1_h10), (2, .int x2_h16), (3, .int x3_167)]) 4 dX5_game_167 rfl rfl (by decide) rfl ?_
                              refine q_goto (pc := 170) (tgt := 29) F dX5_game_170 (by decide) ?_
                              refine q_lv (lv' := [(0, .ref a_M), (1, .int x1_h10), (2, .int x2_h16), (3, .int x3_167), (4, .int (x4_h29 + (1 : Int32)))]) [1, 2, 3, 4, 0] rfl ?_
                              exact ih x3_167 (x4_h29 + (1 : Int32)) h
                            · intro K167 J167 h
                              obtain ⟨n80, h⟩ := h
                              have lp80 : ∀ (n : Nat) (x3_h80 : Int32) (x7_h80 : Int32), wp_X5_game_L80 x1_h10 x2_h16 x4_h29 y63 (m_told (ix ((31 : Int32) + x4_h29))) m_worth_h16 m_least_h16 K167 n x3_h80 x7_h80 → Wg E [(a_M, .inr (5, [.long m_trace, .ref a_M_text, .int m_typed, .ref a_M_told, .ref a_M_draft, .ref a_M_s, .ref a_M_images, .ref a_M_kept, .int m_at, .int m_sort, .int m_start, .int m_size, .ref a_M_light, .ref a_M_may, .ref a_M_shine, .ref a_M_worth, .ref a_M_least])), (a_M_told, .inl (cI, 43, .inl m_told)), (a_M_s, .inl (cI, 38, .inl m_s)), (a_M_light, .inl (cI, 128, .inl m_light_2)), (a_M_may, .inl (cI, 128, .inl m_may_2)), (a_M_shine, .inl (cI, 7, .inl m_shine_2)), (a_M_worth, .inl (cI, 8192, .inl m_worth_h16)), (a_M_least, .inl (cI, 8192, .inl m_least_h16))] 0 0 80 [(0, .ref a_M), (1, .int x1_h10), (2, .int x2_h16), (3, .int x3_h80), (4, .int x4_h29), (5, .int y63), (6, .int (m_told (ix ((31 : Int32) + x4_h29)))), (7, .int x7_h80)] [] := by
                                intro n
                                induction n with
                                | zero => intro x3_h80 x7_h80 h; exact h.elim
                                | succ n ih =>
                                  intro x3_h80 x7_h80 h
                                  unfold wp_X5_game_L80 at h
                                  refine q_iload (pc := 80) F 7 dX5_game_80 rfl ?_
                                  refine q_bipush (pc := 82) F (v := 6) dX5_game_82 (by decide) ?_
                                  refine q_icmp_ge (pc := 84) (tgt := 167) F dX5_game_84 (by decide) (fun c84 => ?_) (fun c84 => ?_)
                                  · have h := h.1 c84
                                    refine q_lv (lv' := [(0, .ref a_M), (1, .int x1_h10), (2, .int x2_h16), (3, .int x3_h80), (4, .int x4_h29)]) [0, 1, 2, 3, 4] rfl ?_
                                    exact J167 x3_h80 h
                                  · have h := h.2 c84
                                    refine q_iload (pc := 87) F 5 dX5_game_87 rfl ?_
                                    refine q_if_eq (pc := 89) (tgt := 167) F dX5_game_89 (by decide) (fun c89 => ?_) (fun c89 => ?_)
                                    · have h := h.1 c89
                                      refine q_lv (lv' := [(0, .ref a_M), (1, .int x1_h10), (2, .int x2_h16), (3, .int x3_h80), (4, .int x4_h29)]) [0, 1, 2, 3, 4] rfl ?_
                                      exact J167 x3_h80 h
                                    · have h := h.2 c89
                                      refine q_iload_n (pc := 92) F 1 dX5_game_92 rfl ?_
                                      refine q_iload_n (pc := 93) F 2 dX5_game_93 rfl ?_
                                      refine q_iload (pc := 94) F 4 dX5_game_94 rfl ?_
                                      refine q_iload (pc := 96) F 7 dX5_game_96 rfl ?_
                                      refine q_cR (q_runS (As := [.int x1_h10, .int x2_h16, .int x4_h29, .int x7_h80]) (rest := []) (pc := 98) F (fun l sz => ct_X5_then D cI cZ x1_h10 x2_h16 x4_h29 x7_h80 h l sz) mc_yX5_then sm_yX5_then mlX5_168 ⟨by decide, by decide⟩ ⟨by decide, by decide⟩ ⟨rfl, rfl⟩ [] rfl rfl rfl rfl (Nat.le_of_ble_eq_true rfl) dX5_game_98) (fun r98 h => ?_)
                                      refine q_istore (pc := 101) F (lv' := [(8, .int r98), (0, .ref a_M), (1, .int x1_h10), (2, .int x2_h16), (3, .int x3_h80), (4, .int x4_h29), (5, .int y63), (6, .int (m_told (ix ((31 : Int32) + x4_h29)))), (7, .int x7_h80)]) dX5_game_101 (by decide) rfl ?_
                                      refine q_iload_n (pc := 103) F 3 dX5_game_103 rfl ?_
                                      refine q_iload (pc := 104) F 8 dX5_game_104 rfl ?_
                                      refine q_ishr (pc := 106) F dX5_game_106 ?_
                                      refine q_iconst (pc := 107) F (v := 1) dX5_game_107 (by decide) ?_
                                      refine q_iand (pc := 108) F dX5_game_108 ?_
                                      refine q_iconst (pc := 109) F (v := 1) dX5_game_109 (by decide) ?_
                                      refine jnW h (fun K => ∀ (y143 : Int32), K y143 → Wg E [(a_M, .inr (5, [.long m_trace, .ref a_M_text, .int m_typed, .ref a_M_told, .ref a_M_draft, .ref a_M_s, .ref a_M_images, .ref a_M_kept, .int m_at, .int m_sort, .int m_start, .int m_size, .ref a_M_light, .ref a_M_may, .ref a_M_shine, .ref a_M_worth, .ref a_M_least])), (a_M_told, .inl (cI, 43, .inl m_told)), (a_M_s, .inl (cI, 38, .inl m_s)), (a_M_light, .inl (cI, 128, .inl m_light_2)), (a_M_may, .inl (cI, 128, .inl m_may_2)), (a_M_shine, .inl (cI, 7, .inl m_shine_2)), (a_M_worth, .inl (cI, 8192, .inl m_worth_h16)), (a_M_least, .inl (cI, 8192, .inl m_least_h16))] 0 0 143 [(0, .ref a_M), (1, .int x1_h10), (2, .int x2_h16), (3, .int x3_h80), (4, .int x4_h29), (5, .int y63), (6, .int (m_told (ix ((31 : Int32) + x4_h29)))), (7, .int x7_h80)] [.int y143]) ?_ ?_
                                      · intro y143 h
                                        refine q_istore (pc := 143) F (lv' := [(9, .int y143), (0, .ref a_M), (1, .int x1_h10), (2, .int x2_h16), (3, .int x3_h80), (4, .int x4_h29), (5, .int y63), (6, .int (m_told (ix ((31 : Int32) + x4_h29)))), (7, .int x7_h80)]) dX5_game_143 (by decide) rfl ?_
                                        refine q_iload_n (pc := 145) F 4 dX5_game_145 rfl ?_
                                        refine q_iload (pc := 146) F 0 dX5_game_146 rfl ?_
                                        refine jnW h (fun K => ∀ (y159 : Int32), K y159 → Wg E [(a_M, .inr (5, [.long m_trace, .ref a_M_text, .int m_typed, .ref a_M_told, .ref a_M_draft, .ref a_M_s, .ref a_M_images, .ref a_M_kept, .int m_at, .int m_sort, .int m_start, .int m_size, .ref a_M_light, .ref a_M_may, .ref a_M_shine, .ref a_M_worth, .ref a_M_least])), (a_M_told, .inl (cI, 43, .inl m_told)), (a_M_s, .inl (cI, 38, .inl m_s)), (a_M_light, .inl (cI, 128, .inl m_light_2)), (a_M_may, .inl (cI, 128, .inl m_may_2)), (a_M_shine, .inl (cI, 7, .inl m_shine_2)), (a_M_worth, .inl (cI, 8192, .inl m_worth_h16)), (a_M_least, .inl (cI, 8192, .inl m_least_h16))] 0 0 159 [(0, .ref a_M), (1, .int x1_h10), (2, .int x2_h16), (4, .int x4_h29), (5, .int y63), (6, .int (m_told (ix ((31 : Int32) + x4_h29)))), (7, .int x7_h80)] [.int y159, .int x3_h80]) ?_ ?_
                                        · intro y159 h
                                          refine q_ior (pc := 159) F dX5_game_159 ?_
                                          refine q_topi (fun x3_160 ex3_160 => ?_)
                                          have h := h x3_160 ex3_160
                                          refine q_istore_n (pc := 160) F (lv' := [(3, .int x3_160), (0, .ref a_M), (1, .int x1_h10), (2, .int x2_h16), (4, .int x4_h29), (5, .int y63), (6, .int (m_told (ix ((31 : Int32) + x4_h29)))), (7, .int x7_h80)]) dX5_game_160 (by decide) rfl ?_
                                          refine q_iinc (pc := 161) F (v := x7_h80 + (1 : Int32)) (lv' := [(7, .int (x7_h80 + (1 : Int32))), (3, .int x3_160), (0, .ref a_M), (1, .int x1_h10), (2, .int x2_h16), (4, .int x4_h29), (5, .int y63), (6, .int (m_told (ix ((31 : Int32) + x4_h29))))]) 7 dX5_game_161 rfl rfl (by decide) rfl ?_
                                          refine q_goto (pc := 164) (tgt := 80) F dX5_game_164 (by decide) ?_
                                          refine q_lv (lv' := [(0, .ref a_M), (1, .int x1_h10), (2, .int x2_h16), (3, .int x3_160), (4, .int x4_h29), (5, .int y63), (6, .int (m_told (ix ((31 : Int32) + x4_h29)))), (7, .int (x7_h80 + (1 : Int32)))]) [2, 3, 4, 1, 5, 6, 7, 0] rfl ?_
                                          exact ih x3_160 (x7_h80 + (1 : Int32)) h
                                        · intro K159 J159 h
                                          refine q_if_eq (pc := 148) (tgt := 158) F dX5_game_148 (by decide) (fun c148 => ?_) (fun c148 => ?_)
                                          · have h := h.1 c148
                                            refine q_iconst (pc := 158) F (v := 0) dX5_game_158 (by decide) ?_
                                            refine q_lv (lv' := [(0, .ref a_M), (1, .int x1_h10), (2, .int x2_h16), (4, .int x4_h29), (5, .int y63), (6, .int (m_told (ix ((31 : Int32) + x4_h29)))), (7, .int x7_h80)]) [1, 2, 3, 5, 6, 7, 8] rfl ?_
                                            exact J159 (0 : Int32) h
                                          · have h := h.2 c148
                                            refine q_iconst (pc := 151) F (v := 1) dX5_game_151 (by decide) ?_
                                            refine q_iload (pc := 152) F 7 dX5_game_152 rfl ?_
                                            refine q_ishl (pc := 154) F dX5_game_154 ?_
                                            refine q_goto (pc := 155) (tgt := 159) F dX5_game_155 (by decide) ?_
                                            refine q_lv (lv' := [(0, .ref a_M), (1, .int x1_h10), (2, .int x2_h16), (4, .int x4_h29), (5, .int y63), (6, .int (m_told (ix ((31 : Int32) + x4_h29)))), (7, .int x7_h80)]) [1, 2, 3, 5, 6, 7, 8] rfl ?_
                                            exact J159 (jshl (1 : Int32) (m_told (ix ((31 : Int32) + x4_h29)))) h
                                      · intro K143 J143 h
                                        refine jnW h (fun K => K → Wg E [(a_M, .inr (5, [.long m_trace, .ref a_M_text, .int m_typed, .ref a_M_told, .ref a_M_draft, .ref a_M_s, .ref a_M_images, .ref a_M_kept, .int m_at, .int m_sort, .int m_start, .int m_size, .ref a_M_light, .ref a_M_may, .ref a_M_shine, .ref a_M_worth, .ref a_M_least])), (a_M_told, .inl (cI, 43, .inl m_told)), (a_M_s, .inl (cI, 38, .inl m_s)), (a_M_light, .inl (cI, 128, .inl m_light_2)), (a_M_may, .inl (cI, 128, .inl m_may_2)), (a_M_shine, .inl (cI, 7, .inl m_shine_2)), (a_M_worth, .inl (cI, 8192, .inl m_worth_h16)), (a_M_least, .inl (cI, 8192, .inl m_least_h16))] 0 0 142 [(0, .ref a_M), (1, .int x1_h10), (2, .int x2_h16), (3, .int x3_h80), (4, .int x4_h29), (5, .int y63), (6, .int (m_told (ix ((31 : Int32) + x4_h29)))), (7, .int x7_h80)] []) ?_ ?_
                                        · intro h
                                          refine q_iconst (pc := 142) F (v := 0) dX5_game_142 (by decide) ?_
                                          exact J143 (0 : Int32) h
                                        · intro K142 J142 h
                                          refine q_icmp_ne (pc := 110) (tgt := 142) F dX5_game_110 (by decide) (fun c110 => ?_) (fun c110 => ?_)
                                          · have h := h.2 c110
                                            refine q_lv (lv' := [(0, .ref a_M), (1, .int x1_h10), (2, .int x2_h16), (3, .int x3_h80), (4, .int x4_h29), (5, .int y63), (6, .int (m_told (ix ((31 : Int32) + x4_h29)))), (7, .int x7_h80)]) [1, 2, 3, 4, 5, 6, 7, 8] rfl ?_
                                            exact J142 h
                                          · have h := h.1 c110
                                            refine q_iload (pc := 113) F 7 dX5_game_113 rfl ?_
                                            refine jnW h (fun K => ∀ (y135 : Int32), K y135 → Wg E [(a_M, .inr (5, [.long m_trace, .ref a_M_text, .int m_typed, .ref a_M_told, .ref a_M_draft, .ref a_M_s, .ref a_M_images, .ref a_M_kept, .int m_at, .int m_sort, .int m_start, .int m_size, .ref a_M_light, .ref a_M_may, .ref a_M_shine, .ref a_M_worth, .ref a_M_least])), (a_M_told, .inl (cI, 43, .inl m_told)), (a_M_s, .inl (cI, 38, .inl m_s)), (a_M_light, .inl (cI, 128, .inl m_light_2)), (a_M_may, .inl (cI, 128, .inl m_may_2)), (a_M_shine, .inl (cI, 7, .inl m_shine_2)), (a_M_worth, .inl (cI, 8192, .inl m_worth_h16)), (a_M_least, .inl (cI, 8192, .inl m_least_h16))] 0 0 135 [(0, .ref a_M), (1, .int x1_h10), (2, .int x2_h16), (3, .int x3_h80), (4, .int x4_h29), (5, .int y63), (6, .int (m_told (ix ((31 : Int32) + x4_h29)))), (7, .int x7_h80)] [.int y135]) ?_ ?_
                                            · intro y135 h
                                              refine q_if_ne (pc := 135) (tgt := 142) F dX5_game_135 (by decide) (fun c135 => ?_) (fun c135 => ?_)
                                              · have h := h.2 c135
                                                exact J142 h
                                              · have h := h.1 c135
                                                refine q_iconst (pc := 138) F (v := 1) dX5_game_138 (by decide) ?_
                                                refine q_goto (pc := 139) (tgt := 143) F dX5_game_139 (by decide) ?_
                                                exact J143 (1 : Int32) h
                                            · intro K135 J135 h
                                              refine q_if_ne (pc := 115) (tgt := 128) F dX5_game_115 (by decide) (fun c115 => ?_) (fun c115 => ?_)
                                              · have h := h.2 c115
                                                refine q_aload_n (pc := 128) F 1 dX5_game_128 rfl ?_
                                                refine q_get (pc := 129) F fgX5_38 0 rfl rfl dX5_game_129 ?_
                                                refine q_iload (pc := 132) F 0 dX5_game_132 rfl ?_
                                                obtain ⟨hi134, h⟩ := h
                                                refine q_iald (pc := 134) F 6 rfl hi134 dX5_game_134 ?_
                                                refine q_lv (lv' := [(0, .ref a_M), (1, .int x1_h10), (2, .int x2_h16), (3, .int x3_h80), (4, .int x4_h29), (5, .int y63), (6, .int (m_told (ix ((31 : Int32) + x4_h29)))), (7, .int x7_h80)]) [1, 2, 3, 4, 5, 6, 7, 8] rfl ?_
                                                exact J135 (m_worth_h16 (ix r98)) h
                                              · have h := h.1 c115
                                                refine q_aload_n (pc := 118) F 1 dX5_game_118 rfl ?_
                                                refine q_get (pc := 119) F fgX5_41 0 rfl rfl dX5_game_119 ?_
                                                refine q_iload (pc := 122) F 0 dX5_game_122 rfl ?_
                                                obtain ⟨hi124, h⟩ := h
                                                refine q_iald (pc := 124) F 7 rfl hi124 dX5_game_124 ?_
                                                refine q_goto (pc := 125) (tgt := 135) F dX5_game_125 (by decide) ?_
                                                refine q_lv (lv' := [(0, .ref a_M), (1, .int x1_h10), (2, .int x2_h16), (3, .int x3_h80), (4, .int x4_h29), (5, .int y63), (6, .int (m_told (ix ((31 : Int32) + x4_h29)))), (7, .int x7_h80)]) [1, 2, 3, 4, 5, 6, 7, 8] rfl ?_
                                                exact J135 (m_least_h16 (ix r98)) h
                              refine q_lv (lv' := [(0, .ref a_M), (1, .int x1_h10), (2, .int x2_h16), (3, .int x3_h29), (4, .int x4_h29), (5, .int y63), (6, .int (m_told (ix ((31 : Int32) + x4_h29)))), (7, .int (0 : Int32))]) [3, 4, 5, 6, 7, 2, 1, 0] rfl ?_
                              exact lp80 n80 x3_h29 (0 : Int32) h
                          · intro K63 J63 h
                            refine q_if_eq (pc := 55) (tgt := 62) F dX5_game_55 (by decide) (fun c55 => ?_) (fun c55 => ?_)
                            · have h := h.1 c55
                              refine q_iconst (pc := 62) F (v := 0) dX5_game_62 (by decide) ?_
                              exact J63 (0 : Int32) h
                            · have h := h.2 c55
                              refine q_iconst (pc := 58) F (v := 1) dX5_game_58 (by decide) ?_
                              refine q_goto (pc := 59) (tgt := 63) F dX5_game_59 (by decide) ?_
                              exact J63 (1 : Int32) h
                    refine q_lv (lv' := [(0, .ref a_M), (1, .int x1_h10), (2, .int x2_h16), (3, .int (0 : Int32)), (4, .int (0 : Int32))]) [2, 3, 4, 1, 0] rfl ?_
                    exact lp29 n29 (0 : Int32) (0 : Int32) h
            refine q_lv (lv' := [(0, .ref a_M), (1, .int x1_h10), (2, .int (0 : Int32))]) [1, 2, 0] rfl ?_
            exact lp16 n16 (0 : Int32) m_worth_h10 m_least_h10 h
    refine q_lv (lv' := [(0, .ref a_M), (1, .int r6)]) [1, 0] rfl ?_
    exact lp10 n10 r6 m_worth m_least h

def wp_X5_worth (p0 : Int32) (p1 : Int32) (m_told : Nat → Int32) (m_s : Nat → Int32) (m_light : Nat → Int32) (m_may : Nat → Int32) (m_shine : Nat → Int32) (m_worth : Nat → Int32) (post : Int32 → (Nat → Int32) → (Nat → Int32) → (Nat → Int32) → (Nat → Int32) → Prop) : Prop := (wp_X5_isCell p0 m_told (fun (r2 : Int32) => ((r2 = (0 : Int32) → post (-1 : Int32) m_light m_may m_shine m_worth) ∧ (¬ r2 = (0 : Int32) → (wp_X5_isWall p0 m_told (fun (r10 : Int32) => ((r10 = (0 : Int32) → (wp_X5_in p1 (0 : Int32) (9 : Int32) (fun (r20 : Int32) => ((r20 = (0 : Int32) → post (-1 : Int32) m_light m_may m_shine m_worth) ∧ (¬ r20 = (0 : Int32) → (wp_X5_shines p0 p1 m_told (fun (r32 : Int32) => (wp_X5_mosts r32 m_told m_light m_may m_shine m_worth (fun (m_light_35 : Nat → Int32) (m_may_35 : Nat → Int32) (m_shine_35 : Nat → Int32) (m_worth_35 : Nat → Int32) => (wp_X5_gone m_s (fun (r39 : Int32) => (wp_X5_lit m_told m_s (fun (r43 : Int32) => (wp_X5_state r39 r43 (fun (r46 : Int32) => (vp_in (r46 + (64 : Int32)) 8192 ∧ (vp_in r46 8192 ∧ post ((m_worth_35 (ix (r46 + (64 : Int32)))) - (m_worth_35 (ix r46))) m_light_35 m_may_35 m_shine_35 m_worth_35))))))))))))))))) ∧ (¬ r10 = (0 : Int32) → post (-1 : Int32) m_light m_may m_shine m_worth))))))))
abbrev rm_X5_worth : Room := { frames := 5, cells := 0, slots := 0, locals := 127 }
set_option maxRecDepth 100000 in
set_option maxHeartbeats 4000000 in
theorem ct_X5_worth (D : va_G) (cI cZ : ClassId) (a_M a_M_text a_M_told a_M_draft a_M_s a_M_images a_M_kept a_M_light a_M_may a_M_shine a_M_worth a_M_least : Nat) (m_trace : Int64) (m_typed : Int32) (m_at : Int32) (m_sort : Int32) (m_start : Int32) (m_size : Int32) (m_told : Nat → Int32) (m_s : Nat → Int32) (m_light : Nat → Int32) (m_may : Nat → Int32) (m_shine : Nat → Int32) (m_worth : Nat → Int32) (p0 : Int32) (p1 : Int32) {post : Int32 → (Nat → Int32) → (Nat → Int32) → (Nat → Int32) → (Nat → Int32) → Prop} (h : wp_X5_worth p0 p1 m_told m_s m_light m_may m_shine m_worth post) (l : Launch) (sz : Nat) : Met l yX5_worth (wsM yX5_worth cX5_worth 4 (some .int)) rm_X5_worth (va_Pc [.ref a_M, .int p0, .int p1] (gP D cI cZ [(a_M, .inr (5, [.long m_trace, .ref a_M_text, .int m_typed, .ref a_M_told, .ref a_M_draft, .ref a_M_s, .ref a_M_images, .ref a_M_kept, .int m_at, .int m_sort, .int m_start, .int m_size, .ref a_M_light, .ref a_M_may, .ref a_M_shine, .ref a_M_worth, .ref a_M_least])), (a_M_told, .inl (cI, 43, .inl m_told)), (a_M_s, .inl (cI, 38, .inl m_s)), (a_M_light, .inl (cI, 128, .inl m_light)), (a_M_may, .inl (cI, 128, .inl m_may)), (a_M_shine, .inl (cI, 7, .inl m_shine)), (a_M_worth, .inl (cI, 8192, .inl m_worth))] sz)) (gQi D (fun r (u : (Nat → Int32) × (Nat → Int32) × (Nat → Int32) × (Nat → Int32)) => post r u.1 u.2.1 u.2.2.1 u.2.2.2) (fun (u : (Nat → Int32) × (Nat → Int32) × (Nat → Int32) × (Nat → Int32)) => [(a_M, .inr (5, [.long m_trace, .ref a_M_text, .int m_typed, .ref a_M_told, .ref a_M_draft, .ref a_M_s, .ref a_M_images, .ref a_M_kept, .int m_at, .int m_sort, .int m_start, .int m_size, .ref a_M_light, .ref a_M_may, .ref a_M_shine, .ref a_M_worth, .ref a_M_least])), (a_M_told, .inl (cI, 43, .inl m_told)), (a_M_s, .inl (cI, 38, .inl m_s)), (a_M_light, .inl (cI, 128, .inl u.1)), (a_M_may, .inl (cI, 128, .inl u.2.1)), (a_M_shine, .inl (cI, 7, .inl u.2.2.1)), (a_M_worth, .inl (cI, 8192, .inl u.2.2.2))]) [(a_M, .inr (5, [.long m_trace, .ref a_M_text, .int m_typed, .ref a_M_told, .ref a_M_draft, .ref a_M_s, .ref a_M_images, .ref a_M_kept, .int m_at, .int m_sort, .int m_start, .int m_size, .ref a_M_light, .ref a_M_may, .ref a_M_shine, .ref a_M_worth, .ref a_M_least])), (a_M_told, .inl (cI, 43, .inl m_told)), (a_M_s, .inl (cI, 38, .inl m_s)), (a_M_light, .inl (cI, 128, .inl m_light)), (a_M_may, .inl (cI, 128, .inl m_may)), (a_M_shine, .inl (cI, 7, .inl m_shine)), (a_M_worth, .inl (cI, 8192, .inl m_worth))] sz) 0 0 (va_A [(a_M, .inr (5, [.long m_trace, .ref a_M_text, .int m_typed, .ref a_M_told, .ref a_M_draft, .ref a_M_s, .ref a_M_images, .ref a_M_kept, .int m_at, .int m_sort, .int m_start, .int m_size, .ref a_M_light, .ref a_M_may, .ref a_M_shine, .ref a_M_worth, .ref a_M_least])), (a_M_told, .inl (cI, 43, .inl m_told)), (a_M_s, .inl (cI, 38, .inl m_s)), (a_M_light, .inl (cI, 128, .inl m_light)), (a_M_may, .inl (cI, 128, .inl m_may)), (a_M_shine, .inl (cI, 7, .inl m_shine)), (a_M_worth, .inl (cI, 8192, .inl m_worth))] sz) := by
  refine q_startM (own := RX5) (Qc := gQi D (fun r (u : (Nat → Int32) × (Nat → Int32) × (Nat → Int32) × (Nat → Int32)) => post r u.1 u.2.1 u.2.2.1 u.2.2.2) (fun (u : (Nat → Int32) × (Nat → Int32) × (Nat → Int32) × (Nat → Int32)) => [(a_M, .inr (5, [.long m_trace, .ref a_M_text, .int m_typed, .ref a_M_told, .ref a_M_draft, .ref a_M_s, .ref a_M_images, .ref a_M_kept, .int m_at, .int m_sort, .int m_start, .int m_size, .ref a_M_light, .ref a_M_may, .ref a_M_shine, .ref a_M_worth, .ref a_M_least])), (a_M_told, .inl (cI, 43, .inl m_told)), (a_M_s, .inl (cI, 38, .inl m_s)), (a_M_light, .inl (cI, 128, .inl u.1)), (a_M_may, .inl (cI, 128, .inl u.2.1)), (a_M_shine, .inl (cI, 7, .inl u.2.2.1)), (a_M_worth, .inl (cI, 8192, .inl u.2.2.2))]) [(a_M, .inr (5, [.long m_trace, .ref a_M_text, .int m_typed, .ref a_M_told, .ref a_M_draft, .ref a_M_s, .ref a_M_images, .ref a_M_kept, .int m_at, .int m_sort, .int m_start, .int m_size, .ref a_M_light, .ref a_M_may, .ref a_M_shine, .ref a_M_worth, .ref a_M_least])), (a_M_told, .inl (cI, 43, .inl m_told)), (a_M_s, .inl (cI, 38, .inl m_s)), (a_M_light, .inl (cI, 128, .inl m_light)), (a_M_may, .inl (cI, 128, .inl m_may)), (a_M_shine, .inl (cI, 7, .inl m_shine)), (a_M_worth, .inl (cI, 8192, .inl m_worth))]) (by decide +kernel) rfl (Nat.le_of_ble_eq_true rfl) (fun E F Z M => ?_)
  show Wg E [(a_M, .inr (5, [.long m_trace, .ref a_M_text, .int m_typed, .ref a_M_told, .ref a_M_draft, .ref a_M_s, .ref a_M_images, .ref a_M_kept, .int m_at, .int m_sort, .int m_start, .int m_size, .ref a_M_light, .ref a_M_may, .ref a_M_shine, .ref a_M_worth, .ref a_M_least])), (a_M_told, .inl (cI, 43, .inl m_told)), (a_M_s, .inl (cI, 38, .inl m_s)), (a_M_light, .inl (cI, 128, .inl m_light)), (a_M_may, .inl (cI, 128, .inl m_may)), (a_M_shine, .inl (cI, 7, .inl m_shine)), (a_M_worth, .inl (cI, 8192, .inl m_worth))] 0 0 0 [(0, .ref a_M), (1, .int p0), (2, .int p1)] []
  unfold wp_X5_worth at h
  refine q_aload_n (pc := 0) F 0 dX5_worth_0 rfl ?_
  refine q_iload_n (pc := 1) F 1 dX5_worth_1 rfl ?_
  refine q_cR (q_runV (As := [.int p0]) (rest := []) (pc := 2) F (fun l sz => ct_X5_isCell D cI cZ a_M a_M_text a_M_told a_M_draft a_M_s a_M_images a_M_kept a_M_light a_M_may a_M_shine a_M_worth a_M_least m_trace m_typed m_at m_sort m_start m_size m_told p0 h l sz) mc_yX5_isCell im_yX5_isCell se_yX5_isCell mlX5_143 ⟨by decide, by decide⟩ ⟨by decide, by decide⟩ ⟨rfl, rfl⟩ [0, 1] rfl rfl rfl 0 rfl rfl rfl (Nat.le_of_ble_eq_true rfl) dX5_worth_2) (fun r2 h => ?_)
  obtain ⟨hb2, h⟩ := h
  refine q_if_eq (pc := 5) (tgt := 26) F dX5_worth_5 (by decide) (fun c5 => ?_) (fun c5 => ?_)
  · have h := h.1 c5
    refine q_iconst (pc := 26) F (v := -1) dX5_worth_26 (by decide) ?_
    exact q_iretM (pc := 27) F Z dX5_worth_27 (m_light, m_may, m_shine, m_worth) h rfl
  · have h := h.2 c5
    refine q_aload_n (pc := 8) F 0 dX5_worth_8 rfl ?_
    refine q_iload_n (pc := 9) F 1 dX5_worth_9 rfl ?_
    refine q_cR (q_runV (As := [.int p0]) (rest := []) (pc := 10) F (fun l sz => ct_X5_isWall D cI cZ a_M a_M_text a_M_told a_M_draft a_M_s a_M_images a_M_kept a_M_light a_M_may a_M_shine a_M_worth a_M_least m_trace m_typed m_at m_sort m_start m_size m_told p0 h l sz) mc_yX5_isWall im_yX5_isWall se_yX5_isWall mlX5_181 ⟨by decide, by decide⟩ ⟨by decide, by decide⟩ ⟨rfl, rfl⟩ [0, 1] rfl rfl rfl 0 rfl rfl rfl (Nat.le_of_ble_eq_true rfl) dX5_worth_10) (fun r10 h => ?_)
    obtain ⟨hb10, h⟩ := h
    refine q_if_ne (pc := 13) (tgt := 26) F dX5_worth_13 (by decide) (fun c13 => ?_) (fun c13 => ?_)
    · have h := h.2 c13
      refine q_iconst (pc := 26) F (v := -1) dX5_worth_26 (by decide) ?_
      exact q_iretM (pc := 27) F Z dX5_worth_27 (m_light, m_may, m_shine, m_worth) h rfl
    · have h := h.1 c13
      refine q_iload_n (pc := 16) F 2 dX5_worth_16 rfl ?_
      refine q_iconst (pc := 17) F (v := 0) dX5_worth_17 (by decide) ?_
      refine q_bipush (pc := 18) F (v := 9) dX5_worth_18 (by decide) ?_
      refine q_cR (q_runS (As := [.int p1, .int (0 : Int32), .int (9 : Int32)]) (rest := []) (pc := 20) F (fun l sz => ct_X5_in D cI cZ p1 (0 : Int32) (9 : Int32) h l sz) mc_yX5_in sm_yX5_in mlX5_48 ⟨by decide, by decide⟩ ⟨by decide, by decide⟩ ⟨rfl, rfl⟩ [] rfl rfl rfl rfl (Nat.le_of_ble_eq_true rfl) dX5_worth_20) (fun r20 h => ?_)
      obtain ⟨hb20, h⟩ := h
      refine q_if_ne (pc := 23) (tgt := 28) F dX5_worth_23 (by decide) (fun c23 => ?_) (fun c23 => ?_)
      · have h := h.2 c23
        refine q_aload_n (pc := 28) F 0 dX5_worth_28 rfl ?_
        refine q_aload_n (pc := 29) F 0 dX5_worth_29 rfl ?_
        refine q_iload_n (pc := 30) F 1 dX5_worth_30 rfl ?_
        refine q_iload_n (pc := 31) F 2 dX5_worth_31 rfl ?_
        refine q_cR (q_runV (As := [.int p0, .int p1]) (rest := [.ref a_M]) (pc := 32) F (fun l sz => ct_X5_shines D cI cZ a_M a_M_text a_M_told a_M_draft a_M_s a_M_images a_M_kept a_M_light a_M_may a_M_shine a_M_worth a_M_least m_trace m_typed m_at m_sort m_start m_size m_told p0 p1 h l sz) mc_yX5_shines im_yX5_shines se_yX5_shines mlX5_131 ⟨by decide, by decide⟩ ⟨by decide, by decide⟩ ⟨rfl, rfl⟩ [0, 1] rfl rfl rfl 0 rfl rfl rfl (Nat.le_of_ble_eq_true rfl) dX5_worth_32) (fun r32 h => ?_)
        refine q_cMv (wr := [(a_M_s, .inl (cI, 38, .inl m_s))]) (pc := 35) F M (q_runV (As := [.int r32]) (rest := []) (pc := 35) F (fun l sz => ct_X5_mosts D cI cZ a_M a_M_text a_M_told a_M_draft a_M_s a_M_images a_M_kept a_M_light a_M_may a_M_shine a_M_worth a_M_least m_trace m_typed m_at m_sort m_start m_size m_told m_light m_may m_shine m_worth r32 h l sz) mc_yX5_mosts im_yX5_mosts se_yX5_mosts mlX5_172 ⟨by decide, by decide⟩ ⟨by decide, by decide⟩ ⟨rfl, rfl⟩ [0, 1, 3, 4, 5, 6] rfl rfl rfl 0 rfl rfl rfl (Nat.le_of_ble_eq_true rfl) dX5_worth_35) [0, 1, 3, 4, 5, 6] [2] rfl rfl rfl (by decide) (fun u35 h => ?_)
        obtain ⟨m_light_35, m_may_35, m_shine_35, m_worth_35⟩ := u35
        refine q_cs (cs' := [(a_M, .inr (5, [.long m_trace, .ref a_M_text, .int m_typed, .ref a_M_told, .ref a_M_draft, .ref a_M_s, .ref a_M_images, .ref a_M_kept, .int m_at, .int m_sort, .int m_start, .int m_size, .ref a_M_light, .ref a_M_may, .ref a_M_shine, .ref a_M_worth, .ref a_M_least])), (a_M_told, .inl (cI, 43, .inl m_told)), (a_M_s, .inl (cI, 38, .inl m_s)), (a_M_light, .inl (cI, 128, .inl m_light_35)), (a_M_may, .inl (cI, 128, .inl m_may_35)), (a_M_shine, .inl (cI, 7, .inl m_shine_35)), (a_M_worth, .inl (cI, 8192, .inl m_worth_35))]) [1, 2, 0, 3, 4, 5, 6] rfl rfl ?_
        refine q_aload_n (pc := 38) F 0 dX5_worth_38 rfl ?_
        refine q_cR (q_runV (As := []) (rest := []) (pc := 39) F (fun l sz => ct_X5_gone D cI cZ a_M a_M_text a_M_told a_M_draft a_M_s a_M_images a_M_kept a_M_light a_M_may a_M_shine a_M_worth a_M_least m_trace m_typed m_at m_sort m_start m_size m_s h l sz) mc_yX5_gone im_yX5_gone se_yX5_gone mlX5_159 ⟨by decide, by decide⟩ ⟨by decide, by decide⟩ ⟨rfl, rfl⟩ [0, 2] rfl rfl rfl 0 rfl rfl rfl (Nat.le_of_ble_eq_true rfl) dX5_worth_39) (fun r39 h => ?_)
        refine q_aload_n (pc := 42) F 0 dX5_worth_42 rfl ?_
        refine q_cR (q_runV (As := []) (rest := [.int r39]) (pc := 43) F (fun l sz => ct_X5_lit D cI cZ a_M a_M_text a_M_told a_M_draft a_M_s a_M_images a_M_kept a_M_light a_M_may a_M_shine a_M_worth a_M_least m_trace m_typed m_at m_sort m_start m_size m_told m_s h l sz) mc_yX5_lit im_yX5_lit se_yX5_lit mlX5_150 ⟨by decide, by decide⟩ ⟨by decide, by decide⟩ ⟨rfl, rfl⟩ [0, 1, 2] rfl rfl rfl 0 rfl rfl rfl (Nat.le_of_ble_eq_true rfl) dX5_worth_43) (fun r43 h => ?_)
        refine q_cR (q_runS (As := [.int r39, .int r43]) (rest := []) (pc := 46) F (fun l sz => ct_X5_state D cI cZ r39 r43 h l sz) mc_yX5_state sm_yX5_state mlX5_162 ⟨by decide, by decide⟩ ⟨by decide, by decide⟩ ⟨rfl, rfl⟩ [] rfl rfl rfl rfl (Nat.le_of_ble_eq_true rfl) dX5_worth_46) (fun r46 h => ?_)
        refine q_istore_n (pc := 49) F (lv' := [(3, .int r46), (0, .ref a_M), (1, .int p0), (2, .int p1)]) dX5_worth_49 (by decide) rfl ?_
        refine q_aload_n (pc := 50) F 1 dX5_worth_50 rfl ?_
        refine q_get (pc := 51) F fgX5_38 0 rfl rfl dX5_worth_51 ?_
        refine q_iload_n (pc := 54) F 0 dX5_worth_54 rfl ?_
        refine q_bipush (pc := 55) F (v := 64) dX5_worth_55 (by decide) ?_
        refine q_iadd (pc := 57) F dX5_worth_57 ?_
        obtain ⟨hi58, h⟩ := h
        refine q_iald (pc := 58) F 6 rfl hi58 dX5_worth_58 ?_
        refine q_aload_n (pc := 59) F 1 dX5_worth_59 rfl ?_
        refine q_get (pc := 60) F fgX5_38 0 rfl rfl dX5_worth_60 ?_
        refine q_iload_n (pc := 63) F 0 dX5_worth_63 rfl ?_
        obtain ⟨hi64, h⟩ := h
        refine q_iald (pc := 64) F 6 rfl hi64 dX5_worth_64 ?_
        refine q_isub (pc := 65) F dX5_worth_65 ?_
        exact q_iretM (pc := 66) F Z dX5_worth_66 (m_light_35, m_may_35, m_shine_35, m_worth_35) h rfl
      · have h := h.1 c23
        refine q_iconst (pc := 26) F (v := -1) dX5_worth_26 (by decide) ?_
        exact q_iretM (pc := 27) F Z dX5_worth_27 (m_light, m_may, m_shine, m_worth) h rfl

def wp_X5_saw (p0 : Int32) (p1 : Int32) (p2 : Int32) (m_told : Nat → Int32) (m_s : Nat → Int32) (post : Int32 → (Nat → Int32) → Prop) : Prop := (wp_X5_in p0 (0 : Int32) (6 : Int32) (fun (r4 : Int32) => ((r4 = (0 : Int32) → post (-1 : Int32) m_s) ∧ (¬ r4 = (0 : Int32) → (wp_X5_isCell p1 m_told (fun (r12 : Int32) => ((r12 = (0 : Int32) → post (-1 : Int32) m_s) ∧ (¬ r12 = (0 : Int32) → (wp_X5_isWall p1 m_told (fun (r20 : Int32) => ((r20 = (0 : Int32) → (wp_X5_in p2 (0 : Int32) (1 : Int32) (fun (r29 : Int32) => ((r29 = (0 : Int32) → post (-1 : Int32) m_s) ∧ (¬ r29 = (0 : Int32) → (((m_s 13) = (8 : Int32) → post (-3 : Int32) m_s) ∧ (¬ (m_s 13) = (8 : Int32) → (vp_in ((14 : Int32) + (m_s 13)) 38 ∧ (vp_in ((22 : Int32) + (m_s 13)) 38 ∧ (vp_in ((30 : Int32) + (m_s 13)) 38 ∧ post ((upd (upd (upd (upd m_s (ix ((14 : Int32) + (m_s 13))) p0) (ix ((22 : Int32) + (m_s 13))) p1) (ix ((30 : Int32) + (m_s 13))) p2) 13 (((upd (upd (upd m_s (ix ((14 : Int32) + (m_s 13))) p0) (ix ((22 : Int32) + (m_s 13))) p1) (ix ((30 : Int32) + (m_s 13))) p2) 13) + (1 : Int32))) 13) (upd (upd (upd (upd m_s (ix ((14 : Int32) + (m_s 13))) p0) (ix ((22 : Int32) + (m_s 13))) p1) (ix ((30 : Int32) + (m_s 13))) p2) 13 (((upd (upd (upd m_s (ix ((14 : Int32) + (m_s 13))) p0) (ix ((22 : Int32) + (m_s 13))) p1) (ix ((30 : Int32) + (m_s 13))) p2) 13) + (1 : Int32))))))))))))) ∧ (¬ r20 = (0 : Int32) → post (-1 : Int32) m_s))))))))))))
abbrev rm_X5_saw : Room := { frames := 2, cells := 0, slots := 0, locals := 43 }
set_option maxRecDepth 100000 in
set_option maxHeartbeats 4000000 in
theorem ct_X5_saw (D : va_G) (cI cZ : ClassId) (a_M a_M_text a_M_told a_M_draft a_M_s a_M_images a_M_kept a_M_light a_M_may a_M_shine a_M_worth a_M_least : Nat) (m_trace : Int64) (m_typed : Int32) (m_at : Int32) (m_sort : Int32) (m_start : Int32) (m_size : Int32) (m_told : Nat → Int32) (m_s : Nat → Int32) (p0 : Int32) (p1 : Int32) (p2 : Int32) {post : Int32 → (Nat → Int32) → Prop} (h : wp_X5_saw p0 p1 p2 m_told m_s post) (l : Launch) (sz : Nat) : Met l yX5_saw (wsM yX5_saw cX5_saw 5 (some .int)) rm_X5_saw (va_Pc [.ref a_M, .int p0, .int p1, .int p2] (gP D cI cZ [(a_M, .inr (5, [.long m_trace, .ref a_M_text, .int m_typed, .ref a_M_told, .ref a_M_draft, .ref a_M_s, .ref a_M_images, .ref a_M_kept, .int m_at, .int m_sort, .int m_start, .int m_size, .ref a_M_light, .ref a_M_may, .ref a_M_shine, .ref a_M_worth, .ref a_M_least])), (a_M_told, .inl (cI, 43, .inl m_told)), (a_M_s, .inl (cI, 38, .inl m_s))] sz)) (gQi D (fun r (u : (Nat → Int32)) => post r u) (fun (u : (Nat → Int32)) => [(a_M, .inr (5, [.long m_trace, .ref a_M_text, .int m_typed, .ref a_M_told, .ref a_M_draft, .ref a_M_s, .ref a_M_images, .ref a_M_kept, .int m_at, .int m_sort, .int m_start, .int m_size, .ref a_M_light, .ref a_M_may, .ref a_M_shine, .ref a_M_worth, .ref a_M_least])), (a_M_told, .inl (cI, 43, .inl m_told)), (a_M_s, .inl (cI, 38, .inl u))]) [(a_M, .inr (5, [.long m_trace, .ref a_M_text, .int m_typed, .ref a_M_told, .ref a_M_draft, .ref a_M_s, .ref a_M_images, .ref a_M_kept, .int m_at, .int m_sort, .int m_start, .int m_size, .ref a_M_light, .ref a_M_may, .ref a_M_shine, .ref a_M_worth, .ref a_M_least])), (a_M_told, .inl (cI, 43, .inl m_told)), (a_M_s, .inl (cI, 38, .inl m_s))] sz) 0 0 (va_A [(a_M, .inr (5, [.long m_trace, .ref a_M_text, .int m_typed, .ref a_M_told, .ref a_M_draft, .ref a_M_s, .ref a_M_images, .ref a_M_kept, .int m_at, .int m_sort, .int m_start, .int m_size, .ref a_M_light, .ref a_M_may, .ref a_M_shine, .ref a_M_worth, .ref a_M_least])), (a_M_told, .inl (cI, 43, .inl m_told)), (a_M_s, .inl (cI, 38, .inl m_s))] sz) := by
  refine q_startM (own := RX5) (Qc := gQi D (fun r (u : (Nat → Int32)) => post r u) (fun (u : (Nat → Int32)) => [(a_M, .inr (5, [.long m_trace, .ref a_M_text, .int m_typed, .ref a_M_told, .ref a_M_draft, .ref a_M_s, .ref a_M_images, .ref a_M_kept, .int m_at, .int m_sort, .int m_start, .int m_size, .ref a_M_light, .ref a_M_may, .ref a_M_shine, .ref a_M_worth, .ref a_M_least])), (a_M_told, .inl (cI, 43, .inl m_told)), (a_M_s, .inl (cI, 38, .inl u))]) [(a_M, .inr (5, [.long m_trace, .ref a_M_text, .int m_typed, .ref a_M_told, .ref a_M_draft, .ref a_M_s, .ref a_M_images, .ref a_M_kept, .int m_at, .int m_sort, .int m_start, .int m_size, .ref a_M_light, .ref a_M_may, .ref a_M_shine, .ref a_M_worth, .ref a_M_least])), (a_M_told, .inl (cI, 43, .inl m_told)), (a_M_s, .inl (cI, 38, .inl m_s))]) (by decide +kernel) rfl (Nat.le_of_ble_eq_true rfl) (fun E F Z M => ?_)
  show Wg E [(a_M, .inr (5, [.long m_trace, .ref a_M_text, .int m_typed, .ref a_M_told, .ref a_M_draft, .ref a_M_s, .ref a_M_images, .ref a_M_kept, .int m_at, .int m_sort, .int m_start, .int m_size, .ref a_M_light, .ref a_M_may, .ref a_M_shine, .ref a_M_worth, .ref a_M_least])), (a_M_told, .inl (cI, 43, .inl m_told)), (a_M_s, .inl (cI, 38, .inl m_s))] 0 0 0 [(0, .ref a_M), (1, .int p0), (2, .int p1), (3, .int p2)] []
  unfold wp_X5_saw at h
  refine q_iload_n (pc := 0) F 1 dX5_saw_0 rfl ?_
  refine q_iconst (pc := 1) F (v := 0) dX5_saw_1 (by decide) ?_
  refine q_bipush (pc := 2) F (v := 6) dX5_saw_2 (by decide) ?_
  refine q_cR (q_runS (As := [.int p0, .int (0 : Int32), .int (6 : Int32)]) (rest := []) (pc := 4) F (fun l sz => ct_X5_in D cI cZ p0 (0 : Int32) (6 : Int32) h l sz) mc_yX5_in sm_yX5_in mlX5_48 ⟨by decide, by decide⟩ ⟨by decide, by decide⟩ ⟨rfl, rfl⟩ [] rfl rfl rfl rfl (Nat.le_of_ble_eq_true rfl) dX5_saw_4) (fun r4 h => ?_)
  obtain ⟨hb4, h⟩ := h
  refine q_if_eq (pc := 7) (tgt := 35) F dX5_saw_7 (by decide) (fun c7 => ?_) (fun c7 => ?_)
  · have h := h.1 c7
    refine q_iconst (pc := 35) F (v := -1) dX5_saw_35 (by decide) ?_
    exact q_iretM (pc := 36) F Z dX5_saw_36 m_s h rfl
  · have h := h.2 c7
    refine q_aload_n (pc := 10) F 0 dX5_saw_10 rfl ?_
    refine q_iload_n (pc := 11) F 2 dX5_saw_11 rfl ?_
    refine q_cR (q_runV (As := [.int p1]) (rest := []) (pc := 12) F (fun l sz => ct_X5_isCell D cI cZ a_M a_M_text a_M_told a_M_draft a_M_s a_M_images a_M_kept a_M_light a_M_may a_M_shine a_M_worth a_M_least m_trace m_typed m_at m_sort m_start m_size m_told p1 h l sz) mc_yX5_isCell im_yX5_isCell se_yX5_isCell mlX5_143 ⟨by decide, by decide⟩ ⟨by decide, by decide⟩ ⟨rfl, rfl⟩ [0, 1] rfl rfl rfl 0 rfl rfl rfl (Nat.le_of_ble_eq_true rfl) dX5_saw_12) (fun r12 h => ?_)
    obtain ⟨hb12, h⟩ := h
    refine q_if_eq (pc := 15) (tgt := 35) F dX5_saw_15 (by decide) (fun c15 => ?_) (fun c15 => ?_)
    · have h := h.1 c15
      refine q_iconst (pc := 35) F (v := -1) dX5_saw_35 (by decide) ?_
      exact q_iretM (pc := 36) F Z dX5_saw_36 m_s h rfl
    · have h := h.2 c15
      refine q_aload_n (pc := 18) F 0 dX5_saw_18 rfl ?_
      refine q_iload_n (pc := 19) F 2 dX5_saw_19 rfl ?_
      refine q_cR (q_runV (As := [.int p1]) (rest := []) (pc := 20) F (fun l sz => ct_X5_isWall D cI cZ a_M a_M_text a_M_told a_M_draft a_M_s a_M_images a_M_kept a_M_light a_M_may a_M_shine a_M_worth a_M_least m_trace m_typed m_at m_sort m_start m_size m_told p1 h l sz) mc_yX5_isWall im_yX5_isWall se_yX5_isWall mlX5_181 ⟨by decide, by decide⟩ ⟨by decide, by decide⟩ ⟨rfl, rfl⟩ [0, 1] rfl rfl rfl 0 rfl rfl rfl (Nat.le_of_ble_eq_true rfl) dX5_saw_20) (fun r20 h => ?_)
      obtain ⟨hb20, h⟩ := h
      refine q_if_ne (pc := 23) (tgt := 35) F dX5_saw_23 (by decide) (fun c23 => ?_) (fun c23 => ?_)
      · have h := h.2 c23
        refine q_iconst (pc := 35) F (v := -1) dX5_saw_35 (by decide) ?_
        exact q_iretM (pc := 36) F Z dX5_saw_36 m_s h rfl
      · have h := h.1 c23
        refine q_iload_n (pc := 26) F 3 dX5_saw_26 rfl ?_
        refine q_iconst (pc := 27) F (v := 0) dX5_saw_27 (by decide) ?_
        refine q_iconst (pc := 28) F (v := 1) dX5_saw_28 (by decide) ?_
        refine q_cR (q_runS (As := [.int p2, .int (0 : Int32), .int (1 : Int32)]) (rest := []) (pc := 29) F (fun l sz => ct_X5_in D cI cZ p2 (0 : Int32) (1 : Int32) h l sz) mc_yX5_in sm_yX5_in mlX5_48 ⟨by decide, by decide⟩ ⟨by decide, by decide⟩ ⟨rfl, rfl⟩ [] rfl rfl rfl rfl (Nat.le_of_ble_eq_true rfl) dX5_saw_29) (fun r29 h => ?_)
        obtain ⟨hb29, h⟩ := h
        refine q_if_ne (pc := 32) (tgt := 37) F dX5_saw_32 (by decide) (fun c32 => ?_) (fun c32 => ?_)
        · have h := h.2 c32
          refine q_aload_n (pc := 37) F 0 dX5_saw_37 rfl ?_
          refine q_get (pc := 38) F fgX5_19 0 rfl rfl dX5_saw_38 ?_
          refine q_bipush (pc := 41) F (v := 13) dX5_saw_41 (by decide) ?_
          refine q_ialdk (pc := 43) F (k9 := 13) 2 rfl (vpd (by decide +kernel)) (by decide +kernel) dX5_saw_43 ?_
          refine q_bipush (pc := 44) F (v := 8) dX5_saw_44 (by decide) ?_
          refine q_icmp_ne (pc := 46) (tgt := 52) F dX5_saw_46 (by decide) (fun c46 => ?_) (fun c46 => ?_)
          · have h := h.2 c46
            refine q_aload_n (pc := 52) F 0 dX5_saw_52 rfl ?_
            refine q_get (pc := 53) F fgX5_19 0 rfl rfl dX5_saw_53 ?_
            refine q_bipush (pc := 56) F (v := 13) dX5_saw_56 (by decide) ?_
            refine q_ialdk (pc := 58) F (k9 := 13) 2 rfl (vpd (by decide +kernel)) (by decide +kernel) dX5_saw_58 ?_
            refine q_istore (pc := 59) F (lv' := [(4, .int (m_s 13)), (0, .ref a_M), (1, .int p0), (2, .int p1), (3, .int p2)]) dX5_saw_59 (by decide) rfl ?_
            refine q_aload_n (pc := 61) F 1 dX5_saw_61 rfl ?_
            refine q_get (pc := 62) F fgX5_19 0 rfl rfl dX5_saw_62 ?_
            refine q_bipush (pc := 65) F (v := 14) dX5_saw_65 (by decide) ?_
            refine q_iload (pc := 67) F 0 dX5_saw_67 rfl ?_
            refine q_iadd (pc := 69) F dX5_saw_69 ?_
            refine q_iload_n (pc := 70) F 2 dX5_saw_70 rfl ?_
            obtain ⟨hi71, h⟩ := h
            refine q_iast (pc := 71) F M (cs' := [(a_M, .inr (5, [.long m_trace, .ref a_M_text, .int m_typed, .ref a_M_told, .ref a_M_draft, .ref a_M_s, .ref a_M_images, .ref a_M_kept, .int m_at, .int m_sort, .int m_start, .int m_size, .ref a_M_light, .ref a_M_may, .ref a_M_shine, .ref a_M_worth, .ref a_M_least])), (a_M_told, .inl (cI, 43, .inl m_told)), (a_M_s, .inl (cI, 38, .inl (upd m_s (ix ((14 : Int32) + (m_s 13))) p0)))]) 2 rfl hi71 rfl dX5_saw_71 ?_
            refine q_aload_n (pc := 72) F 1 dX5_saw_72 rfl ?_
            refine q_get (pc := 73) F fgX5_19 0 rfl rfl dX5_saw_73 ?_
            refine q_bipush (pc := 76) F (v := 22) dX5_saw_76 (by decide) ?_
            refine q_iload (pc := 78) F 0 dX5_saw_78 rfl ?_
            refine q_iadd (pc := 80) F dX5_saw_80 ?_
            refine q_iload_n (pc := 81) F 3 dX5_saw_81 rfl ?_
            obtain ⟨hi82, h⟩ := h
            refine q_iast (pc := 82) F M (cs' := [(a_M, .inr (5, [.long m_trace, .ref a_M_text, .int m_typed, .ref a_M_told, .ref a_M_draft, .ref a_M_s, .ref a_M_images, .ref a_M_kept, .int m_at, .int m_sort, .int m_start, .int m_size, .ref a_M_light, .ref a_M_may, .ref a_M_shine, .ref a_M_worth, .ref a_M_least])), (a_M_told, .inl (cI, 43, .inl m_told)), (a_M_s, .inl (cI, 38, .inl (upd (upd m_s (ix ((14 : Int32) + (m_s 13))) p0) (ix ((22 : Int32) + (m_s 13))) p1)))]) 2 rfl hi82 rfl dX5_saw_82 ?_
            refine q_aload_n (pc := 83) F 1 dX5_saw_83 rfl ?_
            refine q_get (pc := 84) F fgX5_19 0 rfl rfl dX5_saw_84 ?_
            refine q_bipush (pc := 87) F (v := 30) dX5_saw_87 (by decide) ?_
            refine q_iload (pc := 89) F 0 dX5_saw_89 rfl ?_
            refine q_iadd (pc := 91) F dX5_saw_91 ?_
            refine q_iload_n (pc := 92) F 4 dX5_saw_92 rfl ?_
            obtain ⟨hi93, h⟩ := h
            refine q_iast (pc := 93) F M (cs' := [(a_M, .inr (5, [.long m_trace, .ref a_M_text, .int m_typed, .ref a_M_told, .ref a_M_draft, .ref a_M_s, .ref a_M_images, .ref a_M_kept, .int m_at, .int m_sort, .int m_start, .int m_size, .ref a_M_light, .ref a_M_may, .ref a_M_shine, .ref a_M_worth, .ref a_M_least])), (a_M_told, .inl (cI, 43, .inl m_told)), (a_M_s, .inl (cI, 38, .inl (upd (upd (upd m_s (ix ((14 : Int32) + (m_s 13))) p0) (ix ((22 : Int32) + (m_s 13))) p1) (ix ((30 : Int32) + (m_s 13))) p2)))]) 2 rfl hi93 rfl dX5_saw_93 ?_
            refine q_aload_n (pc := 94) F 1 dX5_saw_94 rfl ?_
            refine q_get (pc := 95) F fgX5_19 0 rfl rfl dX5_saw_95 ?_
            refine q_bipush (pc := 98) F (v := 13) dX5_saw_98 (by decide) ?_
            refine q_dup2 (pc := 100) F dX5_saw_100 rfl rfl ?_
            refine q_ialdk (pc := 101) F (k9 := 13) 2 rfl (vpd (by decide +kernel)) (by decide +kernel) dX5_saw_101 ?_
            refine q_iconst (pc := 102) F (v := 1) dX5_saw_102 (by decide) ?_
            refine q_iadd (pc := 103) F dX5_saw_103 ?_
            refine q_iastk (pc := 104) F M (k9 := 13) (cs' := [(a_M, .inr (5, [.long m_trace, .ref a_M_text, .int m_typed, .ref a_M_told, .ref a_M_draft, .ref a_M_s, .ref a_M_images, .ref a_M_kept, .int m_at, .int m_sort, .int m_start, .int m_size, .ref a_M_light, .ref a_M_may, .ref a_M_shine, .ref a_M_worth, .ref a_M_least])), (a_M_told, .inl (cI, 43, .inl m_told)), (a_M_s, .inl (cI, 38, .inl (upd (upd (upd (upd m_s (ix ((14 : Int32) + (m_s 13))) p0) (ix ((22 : Int32) + (m_s 13))) p1) (ix ((30 : Int32) + (m_s 13))) p2) 13 (((upd (upd (upd m_s (ix ((14 : Int32) + (m_s 13))) p0) (ix ((22 : Int32) + (m_s 13))) p1) (ix ((30 : Int32) + (m_s 13))) p2) 13) + (1 : Int32)))))]) 2 rfl (vpd (by decide +kernel)) (by decide +kernel) rfl dX5_saw_104 ?_
            refine q_aload_n (pc := 105) F 1 dX5_saw_105 rfl ?_
            refine q_get (pc := 106) F fgX5_19 0 rfl rfl dX5_saw_106 ?_
            refine q_bipush (pc := 109) F (v := 13) dX5_saw_109 (by decide) ?_
            refine q_ialdk (pc := 111) F (k9 := 13) 2 rfl (vpd (by decide +kernel)) (by decide +kernel) dX5_saw_111 ?_
            exact q_iretM (pc := 112) F Z dX5_saw_112 (upd (upd (upd (upd m_s (ix ((14 : Int32) + (m_s 13))) p0) (ix ((22 : Int32) + (m_s 13))) p1) (ix ((30 : Int32) + (m_s 13))) p2) 13 (((upd (upd (upd m_s (ix ((14 : Int32) + (m_s 13))) p0) (ix ((22 : Int32) + (m_s 13))) p1) (ix ((30 : Int32) + (m_s 13))) p2) 13) + (1 : Int32))) h rfl
          · have h := h.1 c46
            refine q_bipush (pc := 49) F (v := -3) dX5_saw_49 (by decide) ?_
            exact q_iretM (pc := 51) F Z dX5_saw_51 m_s h rfl
        · have h := h.1 c32
          refine q_iconst (pc := 35) F (v := -1) dX5_saw_35 (by decide) ?_
          exact q_iretM (pc := 36) F Z dX5_saw_36 m_s h rfl

def wp_X5_forget (m_s : Nat → Int32) (post : Int32 → (Nat → Int32) → Prop) : Prop := post (m_s 13) (upd m_s 13 (0 : Int32))
abbrev rm_X5_forget : Room := { frames := 0, cells := 0, slots := 0, locals := 0 }
set_option maxRecDepth 100000 in
set_option maxHeartbeats 4000000 in
theorem ct_X5_forget (D : va_G) (cI cZ : ClassId) (a_M a_M_text a_M_told a_M_draft a_M_s a_M_images a_M_kept a_M_light a_M_may a_M_shine a_M_worth a_M_least : Nat) (m_trace : Int64) (m_typed : Int32) (m_at : Int32) (m_sort : Int32) (m_start : Int32) (m_size : Int32) (m_s : Nat → Int32) {post : Int32 → (Nat → Int32) → Prop} (h : wp_X5_forget m_s post) (l : Launch) (sz : Nat) : Met l yX5_forget (wsM yX5_forget cX5_forget 2 (some .int)) rm_X5_forget (va_Pc [.ref a_M] (gP D cI cZ [(a_M, .inr (5, [.long m_trace, .ref a_M_text, .int m_typed, .ref a_M_told, .ref a_M_draft, .ref a_M_s, .ref a_M_images, .ref a_M_kept, .int m_at, .int m_sort, .int m_start, .int m_size, .ref a_M_light, .ref a_M_may, .ref a_M_shine, .ref a_M_worth, .ref a_M_least])), (a_M_s, .inl (cI, 38, .inl m_s))] sz)) (gQi D (fun r (u : (Nat → Int32)) => post r u) (fun (u : (Nat → Int32)) => [(a_M, .inr (5, [.long m_trace, .ref a_M_text, .int m_typed, .ref a_M_told, .ref a_M_draft, .ref a_M_s, .ref a_M_images, .ref a_M_kept, .int m_at, .int m_sort, .int m_start, .int m_size, .ref a_M_light, .ref a_M_may, .ref a_M_shine, .ref a_M_worth, .ref a_M_least])), (a_M_s, .inl (cI, 38, .inl u))]) [(a_M, .inr (5, [.long m_trace, .ref a_M_text, .int m_typed, .ref a_M_told, .ref a_M_draft, .ref a_M_s, .ref a_M_images, .ref a_M_kept, .int m_at, .int m_sort, .int m_start, .int m_size, .ref a_M_light, .ref a_M_may, .ref a_M_shine, .ref a_M_worth, .ref a_M_least])), (a_M_s, .inl (cI, 38, .inl m_s))] sz) 0 0 (va_A [(a_M, .inr (5, [.long m_trace, .ref a_M_text, .int m_typed, .ref a_M_told, .ref a_M_draft, .ref a_M_s, .ref a_M_images, .ref a_M_kept, .int m_at, .int m_sort, .int m_start, .int m_size, .ref a_M_light, .ref a_M_may, .ref a_M_shine, .ref a_M_worth, .ref a_M_least])), (a_M_s, .inl (cI, 38, .inl m_s))] sz) := by
  refine q_startM (own := RX5) (Qc := gQi D (fun r (u : (Nat → Int32)) => post r u) (fun (u : (Nat → Int32)) => [(a_M, .inr (5, [.long m_trace, .ref a_M_text, .int m_typed, .ref a_M_told, .ref a_M_draft, .ref a_M_s, .ref a_M_images, .ref a_M_kept, .int m_at, .int m_sort, .int m_start, .int m_size, .ref a_M_light, .ref a_M_may, .ref a_M_shine, .ref a_M_worth, .ref a_M_least])), (a_M_s, .inl (cI, 38, .inl u))]) [(a_M, .inr (5, [.long m_trace, .ref a_M_text, .int m_typed, .ref a_M_told, .ref a_M_draft, .ref a_M_s, .ref a_M_images, .ref a_M_kept, .int m_at, .int m_sort, .int m_start, .int m_size, .ref a_M_light, .ref a_M_may, .ref a_M_shine, .ref a_M_worth, .ref a_M_least])), (a_M_s, .inl (cI, 38, .inl m_s))]) (by decide +kernel) rfl (Nat.le_of_ble_eq_true rfl) (fun E F Z M => ?_)
  show Wg E [(a_M, .inr (5, [.long m_trace, .ref a_M_text, .int m_typed, .ref a_M_told, .ref a_M_draft, .ref a_M_s, .ref a_M_images, .ref a_M_kept, .int m_at, .int m_sort, .int m_start, .int m_size, .ref a_M_light, .ref a_M_may, .ref a_M_shine, .ref a_M_worth, .ref a_M_least])), (a_M_s, .inl (cI, 38, .inl m_s))] 0 0 0 [(0, .ref a_M)] []
  unfold wp_X5_forget at h
  refine q_aload_n (pc := 0) F 0 dX5_forget_0 rfl ?_
  refine q_get (pc := 1) F fgX5_19 0 rfl rfl dX5_forget_1 ?_
  refine q_bipush (pc := 4) F (v := 13) dX5_forget_4 (by decide) ?_
  refine q_ialdk (pc := 6) F (k9 := 13) 1 rfl (vpd (by decide +kernel)) (by decide +kernel) dX5_forget_6 ?_
  refine q_istore_n (pc := 7) F (lv' := [(1, .int (m_s 13)), (0, .ref a_M)]) dX5_forget_7 (by decide) rfl ?_
  refine q_aload_n (pc := 8) F 1 dX5_forget_8 rfl ?_
  refine q_get (pc := 9) F fgX5_19 0 rfl rfl dX5_forget_9 ?_
  refine q_bipush (pc := 12) F (v := 13) dX5_forget_12 (by decide) ?_
  refine q_iconst (pc := 14) F (v := 0) dX5_forget_14 (by decide) ?_
  refine q_iastk (pc := 15) F M (k9 := 13) (cs' := [(a_M, .inr (5, [.long m_trace, .ref a_M_text, .int m_typed, .ref a_M_told, .ref a_M_draft, .ref a_M_s, .ref a_M_images, .ref a_M_kept, .int m_at, .int m_sort, .int m_start, .int m_size, .ref a_M_light, .ref a_M_may, .ref a_M_shine, .ref a_M_worth, .ref a_M_least])), (a_M_s, .inl (cI, 38, .inl (upd m_s 13 (0 : Int32))))]) 1 rfl (vpd (by decide +kernel)) (by decide +kernel) rfl dX5_forget_15 ?_
  refine q_iload_n (pc := 16) F 0 dX5_forget_16 rfl ?_
  exact q_iretM (pc := 17) F Z dX5_forget_17 (upd m_s 13 (0 : Int32)) h rfl

def wp_X5_fitsSeen_L5 (x1 : Int32) (x2 : Int32) (m_told : Nat → Int32) (m_s : Nat → Int32) (m_light : Nat → Int32) (post : Int32 → Prop) : Nat → Int32 → Int32 → Prop
  | 0, _, _ => False
  | n + 1, x3, x4 => (((m_s 13) ≤ x4 → (isB x3 ∧ post x3)) ∧ (¬ (m_s 13) ≤ x4 → (jn (fun (K94 : Int32 → Prop) => (jn (fun (K93 : Prop) => ((x3 = (0 : Int32) → K93) ∧ (¬ x3 = (0 : Int32) → (vp_in ((14 : Int32) + x4) 38 ∧ (wp_X5_ones x1 (fun (r32 : Int32) => (jn (fun (K70 : Prop) => (((m_s (ix ((14 : Int32) + x4))) = r32 → (vp_in x2 128 ∧ (vp_in ((22 : Int32) + x4) 38 ∧ (vp_in ((30 : Int32) + x4) 38 ∧ ((((jshr (m_light (ix x2)) (m_s (ix ((22 : Int32) + x4)))) &&& (1 : Int32)) = (m_s (ix ((30 : Int32) + x4))) → K70) ∧ (¬ ((jshr (m_light (ix x2)) (m_s (ix ((22 : Int32) + x4)))) &&& (1 : Int32)) = (m_s (ix ((30 : Int32) + x4))) → K93)))))) ∧ (¬ (m_s (ix ((14 : Int32) + x4))) = r32 → K70))) ((vp_in ((14 : Int32) + x4) 38 ∧ (((m_told 4) < (m_s (ix ((14 : Int32) + x4))) → K93) ∧ (¬ (m_told 4) < (m_s (ix ((14 : Int32) + x4))) → K94 (1 : Int32)))))))))))) (K94 (0 : Int32)))) (fun (y94 : Int32) => wp_X5_fitsSeen_L5 x1 x2 m_told m_s m_light post n y94 (x4 + (1 : Int32))))))
def wp_X5_fitsSeen (p0 : Int32) (p1 : Int32) (m_told : Nat → Int32) (m_s : Nat → Int32) (m_light : Nat → Int32) (post : Int32 → Prop) : Prop := (∃ n5 : Nat, wp_X5_fitsSeen_L5 p0 p1 m_told m_s m_light post n5 (1 : Int32) (0 : Int32))
abbrev rm_X5_fitsSeen : Room := { frames := 1, cells := 0, slots := 0, locals := 22 }
set_option maxRecDepth 100000 in
set_option maxHeartbeats 4000000 in
theorem ct_X5_fitsSeen (D : va_G) (cI cZ : ClassId) (a_M a_M_text a_M_told a_M_draft a_M_s a_M_images a_M_kept a_M_light a_M_may a_M_shine a_M_worth a_M_least : Nat) (m_trace : Int64) (m_typed : Int32) (m_at : Int32) (m_sort : Int32) (m_start : Int32) (m_size : Int32) (m_told : Nat → Int32) (m_s : Nat → Int32) (m_light : Nat → Int32) (p0 : Int32) (p1 : Int32) {post : Int32 → Prop} (h : wp_X5_fitsSeen p0 p1 m_told m_s m_light post) (l : Launch) (sz : Nat) : Met l yX5_fitsSeen (wsM yX5_fitsSeen cX5_fitsSeen 5 (some .boolean)) rm_X5_fitsSeen (va_Pc [.ref a_M, .int p0, .int p1] (gP D cI cZ [(a_M, .inr (5, [.long m_trace, .ref a_M_text, .int m_typed, .ref a_M_told, .ref a_M_draft, .ref a_M_s, .ref a_M_images, .ref a_M_kept, .int m_at, .int m_sort, .int m_start, .int m_size, .ref a_M_light, .ref a_M_may, .ref a_M_shine, .ref a_M_worth, .ref a_M_least])), (a_M_told, .inl (cI, 43, .inl m_told)), (a_M_s, .inl (cI, 38, .inl m_s)), (a_M_light, .inl (cI, 128, .inl m_light))] sz)) (gR (fun r => isB r ∧ post r)) 0 0 (fun _ => False) := by
  refine q_startR (own := RX5) (by decide +kernel) rfl (Nat.le_of_ble_eq_true rfl) (fun E F Z => ?_)
  show Wg E [(a_M, .inr (5, [.long m_trace, .ref a_M_text, .int m_typed, .ref a_M_told, .ref a_M_draft, .ref a_M_s, .ref a_M_images, .ref a_M_kept, .int m_at, .int m_sort, .int m_start, .int m_size, .ref a_M_light, .ref a_M_may, .ref a_M_shine, .ref a_M_worth, .ref a_M_least])), (a_M_told, .inl (cI, 43, .inl m_told)), (a_M_s, .inl (cI, 38, .inl m_s)), (a_M_light, .inl (cI, 128, .inl m_light))] 0 0 0 [(0, .ref a_M), (1, .int p0), (2, .int p1)] []
  unfold wp_X5_fitsSeen at h
  refine q_iconst (pc := 0) F (v := 1) dX5_fitsSeen_0 (by decide) ?_
  refine q_istore_n (pc := 1) F (lv' := [(3, .int (1 : Int32)), (0, .ref a_M), (1, .int p0), (2, .int p1)]) dX5_fitsSeen_1 (by decide) rfl ?_
  refine q_iconst (pc := 2) F (v := 0) dX5_fitsSeen_2 (by decide) ?_
  refine q_istore (pc := 3) F (lv' := [(4, .int (0 : Int32)), (3, .int (1 : Int32)), (0, .ref a_M), (1, .int p0), (2, .int p1)]) dX5_fitsSeen_3 (by decide) rfl ?_
  obtain ⟨n5, h⟩ := h
  have lp5 : ∀ (n : Nat) (x3_h5 : Int32) (x4_h5 : Int32), wp_X5_fitsSeen_L5 p0 p1 m_told m_s m_light post n x3_h5 x4_h5 → Wg E [(a_M, .inr (5, [.long m_trace, .ref a_M_text, .int m_typed, .ref a_M_told, .ref a_M_draft, .ref a_M_s, .ref a_M_images, .ref a_M_kept, .int m_at, .int m_sort, .int m_start, .int m_size, .ref a_M_light, .ref a_M_may, .ref a_M_shine, .ref a_M_worth, .ref a_M_least])), (a_M_told, .inl (cI, 43, .inl m_told)), (a_M_s, .inl (cI, 38, .inl m_s)), (a_M_light, .inl (cI, 128, .inl m_light))] 0 0 5 [(0, .ref a_M), (1, .int p0), (2, .int p1), (3, .int x3_h5), (4, .int x4_h5)] [] := by
    intro n
    induction n with
    | zero => intro x3_h5 x4_h5 h; exact h.elim
    | succ n ih =>
      intro x3_h5 x4_h5 h
      unfold wp_X5_fitsSeen_L5 at h
      refine q_iload (pc := 5) F 4 dX5_fitsSeen_5 rfl ?_
      refine q_aload_n (pc := 7) F 0 dX5_fitsSeen_7 rfl ?_
      refine q_get (pc := 8) F fgX5_19 0 rfl rfl dX5_fitsSeen_8 ?_
      refine q_bipush (pc := 11) F (v := 13) dX5_fitsSeen_11 (by decide) ?_
      refine q_ialdk (pc := 13) F (k9 := 13) 2 rfl (vpd (by decide +kernel)) (by decide +kernel) dX5_fitsSeen_13 ?_
      refine q_icmp_ge (pc := 14) (tgt := 101) F dX5_fitsSeen_14 (by decide) (fun c14 => ?_) (fun c14 => ?_)
      · have h := h.1 c14
        refine q_iload_n (pc := 101) F 3 dX5_fitsSeen_101 rfl ?_
        exact q_zretR (pc := 102) F Z dX5_fitsSeen_102 h.1 h.2
      · have h := h.2 c14
        refine q_iload_n (pc := 17) F 3 dX5_fitsSeen_17 rfl ?_
        refine jnW h (fun K => ∀ (y94 : Int32), K y94 → Wg E [(a_M, .inr (5, [.long m_trace, .ref a_M_text, .int m_typed, .ref a_M_told, .ref a_M_draft, .ref a_M_s, .ref a_M_images, .ref a_M_kept, .int m_at, .int m_sort, .int m_start, .int m_size, .ref a_M_light, .ref a_M_may, .ref a_M_shine, .ref a_M_worth, .ref a_M_least])), (a_M_told, .inl (cI, 43, .inl m_told)), (a_M_s, .inl (cI, 38, .inl m_s)), (a_M_light, .inl (cI, 128, .inl m_light))] 0 0 94 [(0, .ref a_M), (1, .int p0), (2, .int p1), (4, .int x4_h5)] [.int y94]) ?_ ?_
        · intro y94 h
          refine q_istore_n (pc := 94) F (lv' := [(3, .int y94), (0, .ref a_M), (1, .int p0), (2, .int p1), (4, .int x4_h5)]) dX5_fitsSeen_94 (by decide) rfl ?_
          refine q_iinc (pc := 95) F (v := x4_h5 + (1 : Int32)) (lv' := [(4, .int (x4_h5 + (1 : Int32))), (3, .int y94), (0, .ref a_M), (1, .int p0), (2, .int p1)]) 4 dX5_fitsSeen_95 rfl rfl (by decide) rfl ?_
          refine q_goto (pc := 98) (tgt := 5) F dX5_fitsSeen_98 (by decide) ?_
          refine q_lv (lv' := [(0, .ref a_M), (1, .int p0), (2, .int p1), (3, .int y94), (4, .int (x4_h5 + (1 : Int32)))]) [2, 3, 4, 1, 0] rfl ?_
          exact ih y94 (x4_h5 + (1 : Int32)) h
        · intro K94 J94 h
          refine jnW h (fun K => K → Wg E [(a_M, .inr (5, [.long m_trace, .ref a_M_text, .int m_typed, .ref a_M_told, .ref a_M_draft, .ref a_M_s, .ref a_M_images, .ref a_M_kept, .int m_at, .int m_sort, .int m_start, .int m_size, .ref a_M_light, .ref a_M_may, .ref a_M_shine, .ref a_M_worth, .ref a_M_least])), (a_M_told, .inl (cI, 43, .inl m_told)), (a_M_s, .inl (cI, 38, .inl m_s)), (a_M_light, .inl (cI, 128, .inl m_light))] 0 0 93 [(0, .ref a_M), (1, .int p0), (2, .int p1), (4, .int x4_h5)] []) ?_ ?_
          · intro h
            refine q_iconst (pc := 93) F (v := 0) dX5_fitsSeen_93 (by decide) ?_
            exact J94 (0 : Int32) h
          · intro K93 J93 h
            refine q_if_eq (pc := 18) (tgt := 93) F dX5_fitsSeen_18 (by decide) (fun c18 => ?_) (fun c18 => ?_)
            · have h := h.1 c18
              refine q_lv (lv' := [(0, .ref a_M), (1, .int p0), (2, .int p1), (4, .int x4_h5)]) [0, 1, 2, 4] rfl ?_
              exact J93 h
            · have h := h.2 c18
              refine q_aload_n (pc := 21) F 0 dX5_fitsSeen_21 rfl ?_
              refine q_get (pc := 22) F fgX5_19 0 rfl rfl dX5_fitsSeen_22 ?_
              refine q_bipush (pc := 25) F (v := 14) dX5_fitsSeen_25 (by decide) ?_
              refine q_iload (pc := 27) F 4 dX5_fitsSeen_27 rfl ?_
              refine q_iadd (pc := 29) F dX5_fitsSeen_29 ?_
              obtain ⟨hi30, h⟩ := h
              refine q_iald (pc := 30) F 2 rfl hi30 dX5_fitsSeen_30 ?_
              refine q_iload_n (pc := 31) F 1 dX5_fitsSeen_31 rfl ?_
              refine q_cR (q_runS (As := [.int p0]) (rest := [.int (m_s (ix ((14 : Int32) + x4_h5)))]) (pc := 32) F (fun l sz => ct_X5_ones D cI cZ p0 h l sz) mc_yX5_ones sm_yX5_ones mlX5_175 ⟨by decide, by decide⟩ ⟨by decide, by decide⟩ ⟨rfl, rfl⟩ [] rfl rfl rfl rfl (Nat.le_of_ble_eq_true rfl) dX5_fitsSeen_32) (fun r32 h => ?_)
              refine jnW h (fun K => K → Wg E [(a_M, .inr (5, [.long m_trace, .ref a_M_text, .int m_typed, .ref a_M_told, .ref a_M_draft, .ref a_M_s, .ref a_M_images, .ref a_M_kept, .int m_at, .int m_sort, .int m_start, .int m_size, .ref a_M_light, .ref a_M_may, .ref a_M_shine, .ref a_M_worth, .ref a_M_least])), (a_M_told, .inl (cI, 43, .inl m_told)), (a_M_s, .inl (cI, 38, .inl m_s)), (a_M_light, .inl (cI, 128, .inl m_light))] 0 0 70 [(0, .ref a_M), (1, .int p0), (2, .int p1), (4, .int x4_h5)] []) ?_ ?_
              · intro h
                refine q_aload_n (pc := 70) F 0 dX5_fitsSeen_70 rfl ?_
                refine q_get (pc := 71) F fgX5_19 0 rfl rfl dX5_fitsSeen_71 ?_
                refine q_bipush (pc := 74) F (v := 14) dX5_fitsSeen_74 (by decide) ?_
                refine q_iload (pc := 76) F 3 dX5_fitsSeen_76 rfl ?_
                refine q_iadd (pc := 78) F dX5_fitsSeen_78 ?_
                obtain ⟨hi79, h⟩ := h
                refine q_iald (pc := 79) F 2 rfl hi79 dX5_fitsSeen_79 ?_
                refine q_aload_n (pc := 80) F 0 dX5_fitsSeen_80 rfl ?_
                refine q_get (pc := 81) F fgX5_13 0 rfl rfl dX5_fitsSeen_81 ?_
                refine q_iconst (pc := 84) F (v := 4) dX5_fitsSeen_84 (by decide) ?_
                refine q_ialdk (pc := 85) F (k9 := 4) 1 rfl (vpd (by decide +kernel)) (by decide +kernel) dX5_fitsSeen_85 ?_
                refine q_icmp_gt (pc := 86) (tgt := 93) F dX5_fitsSeen_86 (by decide) (fun c86 => ?_) (fun c86 => ?_)
                · have h := h.1 c86
                  exact J93 h
                · have h := h.2 c86
                  refine q_iconst (pc := 89) F (v := 1) dX5_fitsSeen_89 (by decide) ?_
                  refine q_goto (pc := 90) (tgt := 94) F dX5_fitsSeen_90 (by decide) ?_
                  exact J94 (1 : Int32) h
              · intro K70 J70 h
                refine q_icmp_ne (pc := 35) (tgt := 70) F dX5_fitsSeen_35 (by decide) (fun c35 => ?_) (fun c35 => ?_)
                · have h := h.2 c35
                  refine q_lv (lv' := [(0, .ref a_M), (1, .int p0), (2, .int p1), (4, .int x4_h5)]) [0, 1, 2, 4] rfl ?_
                  exact J70 h
                · have h := h.1 c35
                  refine q_aload_n (pc := 38) F 0 dX5_fitsSeen_38 rfl ?_
                  refine q_get (pc := 39) F fgX5_29 0 rfl rfl dX5_fitsSeen_39 ?_
                  refine q_iload_n (pc := 42) F 2 dX5_fitsSeen_42 rfl ?_
                  obtain ⟨hi43, h⟩ := h
                  refine q_iald (pc := 43) F 3 rfl hi43 dX5_fitsSeen_43 ?_
                  refine q_aload_n (pc := 44) F 0 dX5_fitsSeen_44 rfl ?_
                  refine q_get (pc := 45) F fgX5_19 0 rfl rfl dX5_fitsSeen_45 ?_
                  refine q_bipush (pc := 48) F (v := 22) dX5_fitsSeen_48 (by decide) ?_
                  refine q_iload (pc := 50) F 4 dX5_fitsSeen_50 rfl ?_
                  refine q_iadd (pc := 52) F dX5_fitsSeen_52 ?_
                  obtain ⟨hi53, h⟩ := h
                  refine q_iald (pc := 53) F 2 rfl hi53 dX5_fitsSeen_53 ?_
                  refine q_ishr (pc := 54) F dX5_fitsSeen_54 ?_
                  refine q_iconst (pc := 55) F (v := 1) dX5_fitsSeen_55 (by decide) ?_
                  refine q_iand (pc := 56) F dX5_fitsSeen_56 ?_
                  refine q_aload_n (pc := 57) F 0 dX5_fitsSeen_57 rfl ?_
                  refine q_get (pc := 58) F fgX5_19 0 rfl rfl dX5_fitsSeen_58 ?_
                  refine q_bipush (pc := 61) F (v := 30) dX5_fitsSeen_61 (by decide) ?_
                  refine q_iload (pc := 63) F 4 dX5_fitsSeen_63 rfl ?_
                  refine q_iadd (pc := 65) F dX5_fitsSeen_65 ?_
                  obtain ⟨hi66, h⟩ := h
                  refine q_iald (pc := 66) F 2 rfl hi66 dX5_fitsSeen_66 ?_
                  refine q_icmp_ne (pc := 67) (tgt := 93) F dX5_fitsSeen_67 (by decide) (fun c67 => ?_) (fun c67 => ?_)
                  · have h := h.2 c67
                    refine q_lv (lv' := [(0, .ref a_M), (1, .int p0), (2, .int p1), (4, .int x4_h5)]) [0, 1, 2, 4] rfl ?_
                    exact J93 h
                  · have h := h.1 c67
                    refine q_lv (lv' := [(0, .ref a_M), (1, .int p0), (2, .int p1), (4, .int x4_h5)]) [0, 1, 2, 4] rfl ?_
                    exact J70 h
  refine q_lv (lv' := [(0, .ref a_M), (1, .int p0), (2, .int p1), (3, .int (1 : Int32)), (4, .int (0 : Int32))]) [2, 3, 4, 1, 0] rfl ?_
  exact lp5 n5 (1 : Int32) (0 : Int32) h

def wp_X5_histories_L80 (x1 : Int32) (x2 : Int32) (x4 : Int32) (x5 : Int32) (m_worth : Nat → Int32) (K129 : Int32 → Prop) : Nat → Int32 → Int32 → Prop
  | 0, _, _ => False
  | n + 1, x3, x6 => (((6 : Int32) ≤ x6 → K129 x3) ∧ (¬ (6 : Int32) ≤ x6 → ((x5 = (0 : Int32) → K129 x3) ∧ (¬ x5 = (0 : Int32) → (jn (fun (K121 : Int32 → Prop) => ((((jshr x2 x6) &&& (1 : Int32)) = (1 : Int32) → (wp_X5_then x1 x2 x4 x6 (fun (r113 : Int32) => (vp_in r113 8192 ∧ K121 (m_worth (ix r113)))))) ∧ (¬ ((jshr x2 x6) &&& (1 : Int32)) = (1 : Int32) → K121 (0 : Int32)))) (fun (y121 : Int32) => (∀ x3_122 : Int32, x3_122 = x3 + y121 → wp_X5_histories_L80 x1 x2 x4 x5 m_worth K129 n x3_122 (x6 + (1 : Int32)))))))))
def wp_X5_histories_L41 (x1 : Int32) (x2 : Int32) (m_told : Nat → Int32) (m_may : Nat → Int32) (m_worth : Nat → Int32) (K135 : Int32 → Prop) : Nat → Int32 → Int32 → Prop
  | 0, _, _ => False
  | n + 1, x3, x4 => (((m_told 4) ≤ x4 → K135 x3) ∧ (¬ (m_told 4) ≤ x4 → (vp_in x2 128 ∧ (jn (fun (K75 : Int32 → Prop) => (((((m_may (ix x2)) &&& (x1 ^^^ (-1 : Int32))) &&& (jshl (1 : Int32) x4)) = (0 : Int32) → K75 (0 : Int32)) ∧ (¬ (((m_may (ix x2)) &&& (x1 ^^^ (-1 : Int32))) &&& (jshl (1 : Int32) x4)) = (0 : Int32) → K75 (1 : Int32)))) (fun (y75 : Int32) => (jn (fun (K129 : Int32 → Prop) => (∃ n80 : Nat, wp_X5_histories_L80 x1 x2 x4 y75 m_worth K129 n80 x3 (0 : Int32))) (fun (x3_129 : Int32) => wp_X5_histories_L41 x1 x2 m_told m_may m_worth K135 n x3_129 (x4 + (1 : Int32)))))))))
def wp_X5_histories_L16 (x1 : Int32) (m_told : Nat → Int32) (m_s : Nat → Int32) (m_light : Nat → Int32) (m_may : Nat → Int32) (K165 : (Nat → Int32) → Prop) : Nat → Int32 → (Nat → Int32) → Prop
  | 0, _, _ => False
  | n + 1, x2, m_worth => (wp_X5_allLit m_told (fun (r18 : Int32) => ((r18 < x2 → K165 m_worth) ∧ (¬ r18 < x2 → (wp_X5_all m_told (fun (r26 : Int32) => (jn (fun (K37 : Int32 → Prop) => ((x1 = r26 → K37 (1 : Int32)) ∧ (¬ x1 = r26 → K37 (0 : Int32)))) (fun (y37 : Int32) => (jn (fun (K135 : Int32 → Prop) => (∃ n41 : Nat, wp_X5_histories_L41 x1 x2 m_told m_may m_worth K135 n41 y37 (0 : Int32))) (fun (x3_135 : Int32) => (wp_X5_state x1 x2 (fun (r141 : Int32) => (wp_X5_fitsSeen x1 x2 m_told m_s m_light (fun (r147 : Int32) => (jn (fun (K158 : Int32 → Prop) => ((r147 = (0 : Int32) → K158 (0 : Int32)) ∧ (¬ r147 = (0 : Int32) → K158 x3_135))) (fun (y158 : Int32) => (vp_in r141 8192 ∧ wp_X5_histories_L16 x1 m_told m_s m_light m_may K165 n (x2 + (1 : Int32)) (upd m_worth (ix r141) y158))))))))))))))))))
def wp_X5_histories_L10 (m_told : Nat → Int32) (m_s : Nat → Int32) (m_light : Nat → Int32) (m_may : Nat → Int32) (m_shine : Nat → Int32) (post : (Nat → Int32) → (Nat → Int32) → (Nat → Int32) → (Nat → Int32) → Prop) : Nat → Int32 → (Nat → Int32) → Prop
  | 0, _, _ => False
  | n + 1, x1, m_worth => ((x1 < (0 : Int32) → post m_light m_may m_shine m_worth) ∧ (¬ x1 < (0 : Int32) → (jn (fun (K165 : (Nat → Int32) → Prop) => (∃ n16 : Nat, wp_X5_histories_L16 x1 m_told m_s m_light m_may K165 n16 (0 : Int32) m_worth)) (fun (m_worth_165 : Nat → Int32) => wp_X5_histories_L10 m_told m_s m_light m_may m_shine post n (x1 + (-1 : Int32)) m_worth_165))))
def wp_X5_histories (m_told : Nat → Int32) (m_s : Nat → Int32) (m_light : Nat → Int32) (m_may : Nat → Int32) (m_shine : Nat → Int32) (m_worth : Nat → Int32) (post : (Nat → Int32) → (Nat → Int32) → (Nat → Int32) → (Nat → Int32) → Prop) : Prop := (wp_X5_lights (0 : Int32) m_told m_light m_may m_shine (fun (m_light_2 : Nat → Int32) (m_may_2 : Nat → Int32) (m_shine_2 : Nat → Int32) => (wp_X5_all m_told (fun (r6 : Int32) => (∃ n10 : Nat, wp_X5_histories_L10 m_told m_s m_light_2 m_may_2 m_shine_2 post n10 r6 m_worth)))))
abbrev rm_X5_histories : Room := { frames := 4, cells := 0, slots := 0, locals := 97 }
set_option maxRecDepth 100000 in
set_option maxHeartbeats 4000000 in
theorem ct_X5_histories (D : va_G) (cI cZ : ClassId) (a_M a_M_text a_M_told a_M_draft a_M_s a_M_images a_M_kept a_M_light a_M_may a_M_shine a_M_worth a_M_least : Nat) (m_trace : Int64) (m_typed : Int32) (m_at : Int32) (m_sort : Int32) (m_start : Int32) (m_size : Int32) (m_told : Nat → Int32) (m_s : Nat → Int32) (m_light : Nat → Int32) (m_may : Nat → Int32) (m_shine : Nat → Int32) (m_worth : Nat → Int32) {post : (Nat → Int32) → (Nat → Int32) → (Nat → Int32) → (Nat → Int32) → Prop} (h : wp_X5_histories m_told m_s m_light m_may m_shine m_worth post) (l : Launch) (sz : Nat) : Met l yX5_histories (wsM yX5_histories cX5_histories 7 none) rm_X5_histories (va_Pc [.ref a_M] (gP D cI cZ [(a_M, .inr (5, [.long m_trace, .ref a_M_text, .int m_typed, .ref a_M_told, .ref a_M_draft, .ref a_M_s, .ref a_M_images, .ref a_M_kept, .int m_at, .int m_sort, .int m_start, .int m_size, .ref a_M_light, .ref a_M_may, .ref a_M_shine, .ref a_M_worth, .ref a_M_least])), (a_M_told, .inl (cI, 43, .inl m_told)), (a_M_s, .inl (cI, 38, .inl m_s)), (a_M_light, .inl (cI, 128, .inl m_light)), (a_M_may, .inl (cI, 128, .inl m_may)), (a_M_shine, .inl (cI, 7, .inl m_shine)), (a_M_worth, .inl (cI, 8192, .inl m_worth))] sz)) (gQv D (fun (u : (Nat → Int32) × (Nat → Int32) × (Nat → Int32) × (Nat → Int32)) => post u.1 u.2.1 u.2.2.1 u.2.2.2) (fun (u : (Nat → Int32) × (Nat → Int32) × (Nat → Int32) × (Nat → Int32)) => [(a_M, .inr (5, [.long m_trace, .ref a_M_text, .int m_typed, .ref a_M_told, .ref a_M_draft, .ref a_M_s, .ref a_M_images, .ref a_M_kept, .int m_at, .int m_sort, .int m_start, .int m_size, .ref a_M_light, .ref a_M_may, .ref a_M_shine, .ref a_M_worth, .ref a_M_least])), (a_M_told, .inl (cI, 43, .inl m_told)), (a_M_s, .inl (cI, 38, .inl m_s)), (a_M_light, .inl (cI, 128, .inl u.1)), (a_M_may, .inl (cI, 128, .inl u.2.1)), (a_M_shine, .inl (cI, 7, .inl u.2.2.1)), (a_M_worth, .inl (cI, 8192, .inl u.2.2.2))]) [(a_M, .inr (5, [.long m_trace, .ref a_M_text, .int m_typed, .ref a_M_told, .ref a_M_draft, .ref a_M_s, .ref a_M_images, .ref a_M_kept, .int m_at, .int m_sort, .int m_start, .int m_size, .ref a_M_light, .ref a_M_may, .ref a_M_shine, .ref a_M_worth, .ref a_M_least])), (a_M_told, .inl (cI, 43, .inl m_told)), (a_M_s, .inl (cI, 38, .inl m_s)), (a_M_light, .inl (cI, 128, .inl m_light)), (a_M_may, .inl (cI, 128, .inl m_may)), (a_M_shine, .inl (cI, 7, .inl m_shine)), (a_M_worth, .inl (cI, 8192, .inl m_worth))] sz) 0 0 (va_A [(a_M, .inr (5, [.long m_trace, .ref a_M_text, .int m_typed, .ref a_M_told, .ref a_M_draft, .ref a_M_s, .ref a_M_images, .ref a_M_kept, .int m_at, .int m_sort, .int m_start, .int m_size, .ref a_M_light, .ref a_M_may, .ref a_M_shine, .ref a_M_worth, .ref a_M_least])), (a_M_told, .inl (cI, 43, .inl m_told)), (a_M_s, .inl (cI, 38, .inl m_s)), (a_M_light, .inl (cI, 128, .inl m_light)), (a_M_may, .inl (cI, 128, .inl m_may)), (a_M_shine, .inl (cI, 7, .inl m_shine)), (a_M_worth, .inl (cI, 8192, .inl m_worth))] sz) := by
  refine q_startM (own := RX5) (Qc := gQv D (fun (u : (Nat → Int32) × (Nat → Int32) × (Nat → Int32) × (Nat → Int32)) => post u.1 u.2.1 u.2.2.1 u.2.2.2) (fun (u : (Nat → Int32) × (Nat → Int32) × (Nat → Int32) × (Nat → Int32)) => [(a_M, .inr (5, [.long m_trace, .ref a_M_text, .int m_typed, .ref a_M_told, .ref a_M_draft, .ref a_M_s, .ref a_M_images, .ref a_M_kept, .int m_at, .int m_sort, .int m_start, .int m_size, .ref a_M_light, .ref a_M_may, .ref a_M_shine, .ref a_M_worth, .ref a_M_least])), (a_M_told, .inl (cI, 43, .inl m_told)), (a_M_s, .inl (cI, 38, .inl m_s)), (a_M_light, .inl (cI, 128, .inl u.1)), (a_M_may, .inl (cI, 128, .inl u.2.1)), (a_M_shine, .inl (cI, 7, .inl u.2.2.1)), (a_M_worth, .inl (cI, 8192, .inl u.2.2.2))]) [(a_M, .inr (5, [.long m_trace, .ref a_M_text, .int m_typed, .ref a_M_told, .ref a_M_draft, .ref a_M_s, .ref a_M_images, .ref a_M_kept, .int m_at, .int m_sort, .int m_start, .int m_size, .ref a_M_light, .ref a_M_may, .ref a_M_shine, .ref a_M_worth, .ref a_M_least])), (a_M_told, .inl (cI, 43, .inl m_told)), (a_M_s, .inl (cI, 38, .inl m_s)), (a_M_light, .inl (cI, 128, .inl m_light)), (a_M_may, .inl (cI, 128, .inl m_may)), (a_M_shine, .inl (cI, 7, .inl m_shine)), (a_M_worth, .inl (cI, 8192, .inl m_worth))]) (by decide +kernel) rfl (Nat.le_of_ble_eq_true rfl) (fun E F Z M => ?_)
  show Wg E [(a_M, .inr (5, [.long m_trace, .ref a_M_text, .int m_typed, .ref a_M_told, .ref a_M_draft, .ref a_M_s, .ref a_M_images, .ref a_M_kept, .int m_at, .int m_sort, .int m_start, .int m_size, .ref a_M_light, .ref a_M_may, .ref a_M_shine, .ref a_M_worth, .ref a_M_least])), (a_M_told, .inl (cI, 43, .inl m_told)), (a_M_s, .inl (cI, 38, .inl m_s)), (a_M_light, .inl (cI, 128, .inl m_light)), (a_M_may, .inl (cI, 128, .inl m_may)), (a_M_shine, .inl (cI, 7, .inl m_shine)), (a_M_worth, .inl (cI, 8192, .inl m_worth))] 0 0 0 [(0, .ref a_M)] []
  unfold wp_X5_histories at h
  refine q_aload_n (pc := 0) F 0 dX5_histories_0 rfl ?_
  refine q_iconst (pc := 1) F (v := 0) dX5_histories_1 (by decide) ?_
  refine q_cMv (wr := [(a_M_s, .inl (cI, 38, .inl m_s)), (a_M_worth, .inl (cI, 8192, .inl m_worth))]) (pc := 2) F M (q_runV (As := [.int (0 : Int32)]) (rest := []) (pc := 2) F (fun l sz => ct_X5_lights D cI cZ a_M a_M_text a_M_told a_M_draft a_M_s a_M_images a_M_kept a_M_light a_M_may a_M_shine a_M_worth a_M_least m_trace m_typed m_at m_sort m_start m_size m_told m_light m_may m_shine (0 : Int32) h l sz) mc_yX5_lights im_yX5_lights se_yX5_lights mlX5_146 ⟨by decide, by decide⟩ ⟨by decide, by decide⟩ ⟨rfl, rfl⟩ [0, 1, 3, 4, 5] rfl rfl rfl 0 rfl rfl rfl (Nat.le_of_ble_eq_true rfl) dX5_histories_2) [0, 1, 3, 4, 5] [2, 6] rfl rfl rfl (by decide) (fun u2 h => ?_)
  obtain ⟨m_light_2, m_may_2, m_shine_2⟩ := u2
  refine q_cs (cs' := [(a_M, .inr (5, [.long m_trace, .ref a_M_text, .int m_typed, .ref a_M_told, .ref a_M_draft, .ref a_M_s, .ref a_M_images, .ref a_M_kept, .int m_at, .int m_sort, .int m_start, .int m_size, .ref a_M_light, .ref a_M_may, .ref a_M_shine, .ref a_M_worth, .ref a_M_least])), (a_M_told, .inl (cI, 43, .inl m_told)), (a_M_s, .inl (cI, 38, .inl m_s)), (a_M_light, .inl (cI, 128, .inl m_light_2)), (a_M_may, .inl (cI, 128, .inl m_may_2)), (a_M_shine, .inl (cI, 7, .inl m_shine_2)), (a_M_worth, .inl (cI, 8192, .inl m_worth))]) [2, 3, 0, 4, 5, 6, 1] rfl rfl ?_
  refine q_aload_n (pc := 5) F 0 dX5_histories_5 rfl ?_
  refine q_cR (q_runV (As := []) (rest := []) (pc := 6) F (fun l sz => ct_X5_all D cI cZ a_M a_M_text a_M_told a_M_draft a_M_s a_M_images a_M_kept a_M_light a_M_may a_M_shine a_M_worth a_M_least m_trace m_typed m_at m_sort m_start m_size m_told h l sz) mc_yX5_all im_yX5_all se_yX5_all mlX5_165 ⟨by decide, by decide⟩ ⟨by decide, by decide⟩ ⟨rfl, rfl⟩ [0, 1] rfl rfl rfl 0 rfl rfl rfl (Nat.le_of_ble_eq_true rfl) dX5_histories_6) (fun r6 h => ?_)
  refine q_istore_n (pc := 9) F (lv' := [(1, .int r6), (0, .ref a_M)]) dX5_histories_9 (by decide) rfl ?_
  obtain ⟨n10, h⟩ := h
  have lp10 : ∀ (n : Nat) (x1_h10 : Int32) (m_worth_h10 : Nat → Int32), wp_X5_histories_L10 m_told m_s m_light_2 m_may_2 m_shine_2 post n x1_h10 m_worth_h10 → Wg E [(a_M, .inr (5, [.long m_trace, .ref a_M_text, .int m_typed, .ref a_M_told, .ref a_M_draft, .ref a_M_s, .ref a_M_images, .ref a_M_kept, .int m_at, .int m_sort, .int m_start, .int m_size, .ref a_M_light, .ref a_M_may, .ref a_M_shine, .ref a_M_worth, .ref a_M_least])), (a_M_told, .inl (cI, 43, .inl m_told)), (a_M_s, .inl (cI, 38, .inl m_s)), (a_M_light, .inl (cI, 128, .inl m_light_2)), (a_M_may, .inl (cI, 128, .inl m_may_2)), (a_M_shine, .inl (cI, 7, .inl m_shine_2)), (a_M_worth, .inl (cI, 8192, .inl m_worth_h10))] 0 0 10 [(0, .ref a_M), (1, .int x1_h10)] [] := by
    intro n
    induction n with
    | zero => intro x1_h10 m_worth_h10 h; exact h.elim
    | succ n ih =>
      intro x1_h10 m_worth_h10 h
      unfold wp_X5_histories_L10 at h
      refine q_iload_n (pc := 10) F 1 dX5_histories_10 rfl ?_
      refine q_if_lt (pc := 11) (tgt := 171) F dX5_histories_11 (by decide) (fun c11 => ?_) (fun c11 => ?_)
      · have h := h.1 c11
        exact q_vretM (pc := 171) F Z dX5_histories_171 (m_light_2, m_may_2, m_shine_2, m_worth_h10) h rfl
      · have h := h.2 c11
        refine q_iconst (pc := 14) F (v := 0) dX5_histories_14 (by decide) ?_
        refine q_istore_n (pc := 15) F (lv' := [(2, .int (0 : Int32)), (0, .ref a_M), (1, .int x1_h10)]) dX5_histories_15 (by decide) rfl ?_
        refine jnW h (fun K => ∀ (m_worth_165 : Nat → Int32), K m_worth_165 → Wg E [(a_M, .inr (5, [.long m_trace, .ref a_M_text, .int m_typed, .ref a_M_told, .ref a_M_draft, .ref a_M_s, .ref a_M_images, .ref a_M_kept, .int m_at, .int m_sort, .int m_start, .int m_size, .ref a_M_light, .ref a_M_may, .ref a_M_shine, .ref a_M_worth, .ref a_M_least])), (a_M_told, .inl (cI, 43, .inl m_told)), (a_M_s, .inl (cI, 38, .inl m_s)), (a_M_light, .inl (cI, 128, .inl m_light_2)), (a_M_may, .inl (cI, 128, .inl m_may_2)), (a_M_shine, .inl (cI, 7, .inl m_shine_2)), (a_M_worth, .inl (cI, 8192, .inl m_worth_165))] 0 0 165 [(0, .ref a_M), (1, .int x1_h10)] []) ?_ ?_
        · intro m_worth_165 h
          refine q_iinc (pc := 165) F (v := x1_h10 + (-1 : Int32)) (lv' := [(1, .int (x1_h10 + (-1 : Int32))), (0, .ref a_M)]) 1 dX5_histories_165 rfl rfl (by decide) rfl ?_
          refine q_goto (pc := 168) (tgt := 10) F dX5_histories_168 (by decide) ?_
          refine q_lv (lv' := [(0, .ref a_M), (1, .int (x1_h10 + (-1 : Int32)))]) [1, 0] rfl ?_
          exact ih (x1_h10 + (-1 : Int32)) m_worth_165 h
        · intro K165 J165 h
          obtain ⟨n16, h⟩ := h
          have lp16 : ∀ (n : Nat) (x2_h16 : Int32) (m_worth_h16 : Nat → Int32), wp_X5_histories_L16 x1_h10 m_told m_s m_light_2 m_may_2 K165 n x2_h16 m_worth_h16 → Wg E [(a_M, .inr (5, [.long m_trace, .ref a_M_text, .int m_typed, .ref a_M_told, .ref a_M_draft, .ref a_M_s, .ref a_M_images, .ref a_M_kept, .int m_at, .int m_sort, .int m_start, .int m_size, .ref a_M_light, .ref a_M_may, .ref a_M_shine, .ref a_M_worth, .ref a_M_least])), (a_M_told, .inl (cI, 43, .inl m_told)), (a_M_s, .inl (cI, 38, .inl m_s)), (a_M_light, .inl (cI, 128, .inl m_light_2)), (a_M_may, .inl (cI, 128, .inl m_may_2)), (a_M_shine, .inl (cI, 7, .inl m_shine_2)), (a_M_worth, .inl (cI, 8192, .inl m_worth_h16))] 0 0 16 [(0, .ref a_M), (1, .int x1_h10), (2, .int x2_h16)] [] := by
            intro n
            induction n with
            | zero => intro x2_h16 m_worth_h16 h; exact h.elim
            | succ n ih =>
              intro x2_h16 m_worth_h16 h
              unfold wp_X5_histories_L16 at h
              refine q_iload_n (pc := 16) F 2 dX5_histories_16 rfl ?_
              refine q_aload_n (pc := 17) F 0 dX5_histories_17 rfl ?_
              refine q_cR (q_runV (As := []) (rest := [.int x2_h16]) (pc := 18) F (fun l sz => ct_X5_allLit D cI cZ a_M a_M_text a_M_told a_M_draft a_M_s a_M_images a_M_kept a_M_light a_M_may a_M_shine a_M_worth a_M_least m_trace m_typed m_at m_sort m_start m_size m_told h l sz) mc_yX5_allLit im_yX5_allLit se_yX5_allLit mlX5_128 ⟨by decide, by decide⟩ ⟨by decide, by decide⟩ ⟨rfl, rfl⟩ [0, 1] rfl rfl rfl 0 rfl rfl rfl (Nat.le_of_ble_eq_true rfl) dX5_histories_18) (fun r18 h => ?_)
              refine q_icmp_gt (pc := 21) (tgt := 165) F dX5_histories_21 (by decide) (fun c21 => ?_) (fun c21 => ?_)
              · have h := h.1 c21
                refine q_lv (lv' := [(0, .ref a_M), (1, .int x1_h10)]) [0, 1] rfl ?_
                exact J165 m_worth_h16 h
              · have h := h.2 c21
                refine q_iload_n (pc := 24) F 1 dX5_histories_24 rfl ?_
                refine q_aload_n (pc := 25) F 0 dX5_histories_25 rfl ?_
                refine q_cR (q_runV (As := []) (rest := [.int x1_h10]) (pc := 26) F (fun l sz => ct_X5_all D cI cZ a_M a_M_text a_M_told a_M_draft a_M_s a_M_images a_M_kept a_M_light a_M_may a_M_shine a_M_worth a_M_least m_trace m_typed m_at m_sort m_start m_size m_told h l sz) mc_yX5_all im_yX5_all se_yX5_all mlX5_165 ⟨by decide, by decide⟩ ⟨by decide, by decide⟩ ⟨rfl, rfl⟩ [0, 1] rfl rfl rfl 0 rfl rfl rfl (Nat.le_of_ble_eq_true rfl) dX5_histories_26) (fun r26 h => ?_)
                refine jnW h (fun K => ∀ (y37 : Int32), K y37 → Wg E [(a_M, .inr (5, [.long m_trace, .ref a_M_text, .int m_typed, .ref a_M_told, .ref a_M_draft, .ref a_M_s, .ref a_M_images, .ref a_M_kept, .int m_at, .int m_sort, .int m_start, .int m_size, .ref a_M_light, .ref a_M_may, .ref a_M_shine, .ref a_M_worth, .ref a_M_least])), (a_M_told, .inl (cI, 43, .inl m_told)), (a_M_s, .inl (cI, 38, .inl m_s)), (a_M_light, .inl (cI, 128, .inl m_light_2)), (a_M_may, .inl (cI, 128, .inl m_may_2)), (a_M_shine, .inl (cI, 7, .inl m_shine_2)), (a_M_worth, .inl (cI, 8192, .inl m_worth_h16))] 0 0 37 [(0, .ref a_M), (1, .int x1_h10), (2, .int x2_h16)] [.int y37]) ?_ ?_
                · intro y37 h
                  refine q_istore_n (pc := 37) F (lv' := [(3, .int y37), (0, .ref a_M), (1, .int x1_h10), (2, .int x2_h16)]) dX5_histories_37 (by decide) rfl ?_
                  refine q_iconst (pc := 38) F (v := 0) dX5_histories_38 (by decide) ?_
                  refine q_istore (pc := 39) F (lv' := [(4, .int (0 : Int32)), (3, .int y37), (0, .ref a_M), (1, .int x1_h10), (2, .int x2_h16)]) dX5_histories_39 (by decide) rfl ?_
                  refine jnW h (fun K => ∀ (x3_135 : Int32), K x3_135 → Wg E [(a_M, .inr (5, [.long m_trace, .ref a_M_text, .int m_typed, .ref a_M_told, .ref a_M_draft, .ref a_M_s, .ref a_M_images, .ref a_M_kept, .int m_at, .int m_sort, .int m_start, .int m_size, .ref a_M_light, .ref a_M_may, .ref a_M_shine, .ref a_M_worth, .ref a_M_least])), (a_M_told, .inl (cI, 43, .inl m_told)), (a_M_s, .inl (cI, 38, .inl m_s)), (a_M_light, .inl (cI, 128, .inl m_light_2)), (a_M_may, .inl (cI, 128, .inl m_may_2)), (a_M_shine, .inl (cI, 7, .inl m_shine_2)), (a_M_worth, .inl (cI, 8192, .inl m_worth_h16))] 0 0 135 [(0, .ref a_M), (1, .int x1_h10), (2, .int x2_h16), (3, .int x3_135)] []) ?_ ?_
                  · intro x3_135 h
                    refine q_aload_n (pc := 135) F 0 dX5_histories_135 rfl ?_
                    refine q_get (pc := 136) F fgX5_38 0 rfl rfl dX5_histories_136 ?_
                    refine q_iload_n (pc := 139) F 1 dX5_histories_139 rfl ?_
                    refine q_iload_n (pc := 140) F 2 dX5_histories_140 rfl ?_
                    refine q_cR (q_runS (As := [.int x1_h10, .int x2_h16]) (rest := [.ref a_M_worth]) (pc := 141) F (fun l sz => ct_X5_state D cI cZ x1_h10 x2_h16 h l sz) mc_yX5_state sm_yX5_state mlX5_162 ⟨by decide, by decide⟩ ⟨by decide, by decide⟩ ⟨rfl, rfl⟩ [] rfl rfl rfl rfl (Nat.le_of_ble_eq_true rfl) dX5_histories_141) (fun r141 h => ?_)
                    refine q_aload_n (pc := 144) F 0 dX5_histories_144 rfl ?_
                    refine q_iload_n (pc := 145) F 1 dX5_histories_145 rfl ?_
                    refine q_iload_n (pc := 146) F 2 dX5_histories_146 rfl ?_
                    refine q_cR (q_runV (As := [.int x1_h10, .int x2_h16]) (rest := [.int r141, .ref a_M_worth]) (pc := 147) F (fun l sz => ct_X5_fitsSeen D cI cZ a_M a_M_text a_M_told a_M_draft a_M_s a_M_images a_M_kept a_M_light a_M_may a_M_shine a_M_worth a_M_least m_trace m_typed m_at m_sort m_start m_size m_told m_s m_light_2 x1_h10 x2_h16 h l sz) mc_yX5_fitsSeen im_yX5_fitsSeen se_yX5_fitsSeen mlX5_184 ⟨by decide, by decide⟩ ⟨by decide, by decide⟩ ⟨rfl, rfl⟩ [0, 1, 2, 3] rfl rfl rfl 0 rfl rfl rfl (Nat.le_of_ble_eq_true rfl) dX5_histories_147) (fun r147 h => ?_)
                    obtain ⟨hb147, h⟩ := h
                    refine jnW h (fun K => ∀ (y158 : Int32), K y158 → Wg E [(a_M, .inr (5, [.long m_trace, .ref a_M_text, .int m_typed, .ref a_M_told, .ref a_M_draft, .ref a_M_s, .ref a_M_images, .ref a_M_kept, .int m_at, .int m_sort, .int m_start, .int m_size, .ref a_M_light, .ref a_M_may, .ref a_M_shine, .ref a_M_worth, .ref a_M_least])), (a_M_told, .inl (cI, 43, .inl m_told)), (a_M_s, .inl (cI, 38, .inl m_s)), (a_M_light, .inl (cI, 128, .inl m_light_2)), (a_M_may, .inl (cI, 128, .inl m_may_2)), (a_M_shine, .inl (cI, 7, .inl m_shine_2)), (a_M_worth, .inl (cI, 8192, .inl m_worth_h16))] 0 0 158 [(0, .ref a_M), (1, .int x1_h10), (2, .int x2_h16)] [.int y158, .int r141, .ref a_M_worth]) ?_ ?_
                    · intro y158 h
                      obtain ⟨hi158, h⟩ := h
                      refine q_iast (pc := 158) F M (cs' := [(a_M, .inr (5, [.long m_trace, .ref a_M_text, .int m_typed, .ref a_M_told, .ref a_M_draft, .ref a_M_s, .ref a_M_images, .ref a_M_kept, .int m_at, .int m_sort, .int m_start, .int m_size, .ref a_M_light, .ref a_M_may, .ref a_M_shine, .ref a_M_worth, .ref a_M_least])), (a_M_told, .inl (cI, 43, .inl m_told)), (a_M_s, .inl (cI, 38, .inl m_s)), (a_M_light, .inl (cI, 128, .inl m_light_2)), (a_M_may, .inl (cI, 128, .inl m_may_2)), (a_M_shine, .inl (cI, 7, .inl m_shine_2)), (a_M_worth, .inl (cI, 8192, .inl (upd m_worth_h16 (ix r141) y158)))]) 6 rfl hi158 rfl dX5_histories_158 ?_
                      refine q_iinc (pc := 159) F (v := x2_h16 + (1 : Int32)) (lv' := [(2, .int (x2_h16 + (1 : Int32))), (0, .ref a_M), (1, .int x1_h10)]) 2 dX5_histories_159 rfl rfl (by decide) rfl ?_
                      refine q_goto (pc := 162) (tgt := 16) F dX5_histories_162 (by decide) ?_
                      refine q_lv (lv' := [(0, .ref a_M), (1, .int x1_h10), (2, .int (x2_h16 + (1 : Int32)))]) [1, 2, 0] rfl ?_
                      exact ih (x2_h16 + (1 : Int32)) (upd m_worth_h16 (ix r141) y158) h
                    · intro K158 J158 h
                      refine q_if_eq (pc := 150) (tgt := 157) F dX5_histories_150 (by decide) (fun c150 => ?_) (fun c150 => ?_)
                      · have h := h.1 c150
                        refine q_iconst (pc := 157) F (v := 0) dX5_histories_157 (by decide) ?_
                        refine q_lv (lv' := [(0, .ref a_M), (1, .int x1_h10), (2, .int x2_h16)]) [0, 1, 2] rfl ?_
                        exact J158 (0 : Int32) h
                      · have h := h.2 c150
                        refine q_iload_n (pc := 153) F 3 dX5_histories_153 rfl ?_
                        refine q_goto (pc := 154) (tgt := 158) F dX5_histories_154 (by decide) ?_
                        refine q_lv (lv' := [(0, .ref a_M), (1, .int x1_h10), (2, .int x2_h16)]) [0, 1, 2] rfl ?_
                        exact J158 x3_135 h
                  · intro K135 J135 h
                    obtain ⟨n41, h⟩ := h
                    have lp41 : ∀ (n : Nat) (x3_h41 : Int32) (x4_h41 : Int32), wp_X5_histories_L41 x1_h10 x2_h16 m_told m_may_2 m_worth_h16 K135 n x3_h41 x4_h41 → Wg E [(a_M, .inr (5, [.long m_trace, .ref a_M_text, .int m_typed, .ref a_M_told, .ref a_M_draft, .ref a_M_s, .ref a_M_images, .ref a_M_kept, .int m_at, .int m_sort, .int m_start, .int m_size, .ref a_M_light, .ref a_M_may, .ref a_M_shine, .ref a_M_worth, .ref a_M_least])), (a_M_told, .inl (cI, 43, .inl m_told)), (a_M_s, .inl (cI, 38, .inl m_s)), (a_M_light, .inl (cI, 128, .inl m_light_2)), (a_M_may, .inl (cI, 128, .inl m_may_2)), (a_M_shine, .inl (cI, 7, .inl m_shine_2)), (a_M_worth, .inl (cI, 8192, .inl m_worth_h16))] 0 0 41 [(0, .ref a_M), (1, .int x1_h10), (2, .int x2_h16), (3, .int x3_h41), (4, .int x4_h41)] [] := by
                      intro n
                      induction n with
                      | zero => intro x3_h41 x4_h41 h; exact h.elim
                      | succ n ih =>
                        intro x3_h41 x4_h41 h
                        unfold wp_X5_histories_L41 at h
                        refine q_iload (pc := 41) F 4 dX5_histories_41 rfl ?_
                        refine q_aload_n (pc := 43) F 0 dX5_histories_43 rfl ?_
                        refine q_get (pc := 44) F fgX5_13 0 rfl rfl dX5_histories_44 ?_
                        refine q_iconst (pc := 47) F (v := 4) dX5_histories_47 (by decide) ?_
                        refine q_ialdk (pc := 48) F (k9 := 4) 1 rfl (vpd (by decide +kernel)) (by decide +kernel) dX5_histories_48 ?_
                        refine q_icmp_ge (pc := 49) (tgt := 135) F dX5_histories_49 (by decide) (fun c49 => ?_) (fun c49 => ?_)
                        · have h := h.1 c49
                          refine q_lv (lv' := [(0, .ref a_M), (1, .int x1_h10), (2, .int x2_h16), (3, .int x3_h41)]) [0, 1, 2, 3] rfl ?_
                          exact J135 x3_h41 h
                        · have h := h.2 c49
                          refine q_aload_n (pc := 52) F 0 dX5_histories_52 rfl ?_
                          refine q_get (pc := 53) F fgX5_32 0 rfl rfl dX5_histories_53 ?_
                          refine q_iload_n (pc := 56) F 2 dX5_histories_56 rfl ?_
                          obtain ⟨hi57, h⟩ := h
                          refine q_iald (pc := 57) F 4 rfl hi57 dX5_histories_57 ?_
                          refine q_iload_n (pc := 58) F 1 dX5_histories_58 rfl ?_
                          refine q_iconst (pc := 59) F (v := -1) dX5_histories_59 (by decide) ?_
                          refine q_ixor (pc := 60) F dX5_histories_60 ?_
                          refine q_iand (pc := 61) F dX5_histories_61 ?_
                          refine q_iconst (pc := 62) F (v := 1) dX5_histories_62 (by decide) ?_
                          refine q_iload (pc := 63) F 4 dX5_histories_63 rfl ?_
                          refine q_ishl (pc := 65) F dX5_histories_65 ?_
                          refine q_iand (pc := 66) F dX5_histories_66 ?_
                          refine jnW h (fun K => ∀ (y75 : Int32), K y75 → Wg E [(a_M, .inr (5, [.long m_trace, .ref a_M_text, .int m_typed, .ref a_M_told, .ref a_M_draft, .ref a_M_s, .ref a_M_images, .ref a_M_kept, .int m_at, .int m_sort, .int m_start, .int m_size, .ref a_M_light, .ref a_M_may, .ref a_M_shine, .ref a_M_worth, .ref a_M_least])), (a_M_told, .inl (cI, 43, .inl m_told)), (a_M_s, .inl (cI, 38, .inl m_s)), (a_M_light, .inl (cI, 128, .inl m_light_2)), (a_M_may, .inl (cI, 128, .inl m_may_2)), (a_M_shine, .inl (cI, 7, .inl m_shine_2)), (a_M_worth, .inl (cI, 8192, .inl m_worth_h16))] 0 0 75 [(0, .ref a_M), (1, .int x1_h10), (2, .int x2_h16), (3, .int x3_h41), (4, .int x4_h41)] [.int y75]) ?_ ?_
                          · intro y75 h
                            refine q_istore (pc := 75) F (lv' := [(5, .int y75), (0, .ref a_M), (1, .int x1_h10), (2, .int x2_h16), (3, .int x3_h41), (4, .int x4_h41)]) dX5_histories_75 (by decide) rfl ?_
                            refine q_iconst (pc := 77) F (v := 0) dX5_histories_77 (by decide) ?_
                            refine q_istore (pc := 78) F (lv' := [(6, .int (0 : Int32)), (5, .int y75), (0, .ref a_M), (1, .int x1_h10), (2, .int x2_h16), (3, .int x3_h41), (4, .int x4_h41)]) dX5_histories_78 (by decide) rfl ?_
                            refine jnW h (fun K => ∀ (x3_129 : Int32), K x3_129 → Wg E [(a_M, .inr (5, [.long m_trace, .ref a_M_text, .int m_typed, .ref a_M_told, .ref a_M_draft, .ref a_M_s, .ref a_M_images, .ref a_M_kept, .int m_at, .int m_sort, .int m_start, .int m_size, .ref a_M_light, .ref a_M_may, .ref a_M_shine, .ref a_M_worth, .ref a_M_least])), (a_M_told, .inl (cI, 43, .inl m_told)), (a_M_s, .inl (cI, 38, .inl m_s)), (a_M_light, .inl (cI, 128, .inl m_light_2)), (a_M_may, .inl (cI, 128, .inl m_may_2)), (a_M_shine, .inl (cI, 7, .inl m_shine_2)), (a_M_worth, .inl (cI, 8192, .inl m_worth_h16))] 0 0 129 [(0, .ref a_M), (1, .int x1_h10), (2, .int x2_h16), (3, .int x3_129), (4, .int x4_h41)] []) ?_ ?_
                            · intro x3_129 h
                              refine q_iinc (pc := 129) F (v := x4_h41 + (1 : Int32)) (lv' := [(4, .int (x4_h41 + (1 : Int32))), (0, .ref a_M), (1, .int x1_h10), (2, .int x2_h16), (3, .int x3_129)]) 4 dX5_histories_129 rfl rfl (by decide) rfl ?_
                              refine q_goto (pc := 132) (tgt := 41) F dX5_histories_132 (by decide) ?_
                              refine q_lv (lv' := [(0, .ref a_M), (1, .int x1_h10), (2, .int x2_h16), (3, .int x3_129), (4, .int (x4_h41 + (1 : Int32)))]) [1, 2, 3, 4, 0] rfl ?_
                              exact ih x3_129 (x4_h41 + (1 : Int32)) h
                            · intro K129 J129 h
                              obtain ⟨n80, h⟩ := h
                              have lp80 : ∀ (n : Nat) (x3_h80 : Int32) (x6_h80 : Int32), wp_X5_histories_L80 x1_h10 x2_h16 x4_h41 y75 m_worth_h16 K129 n x3_h80 x6_h80 → Wg E [(a_M, .inr (5, [.long m_trace, .ref a_M_text, .int m_typed, .ref a_M_told, .ref a_M_draft, .ref a_M_s, .ref a_M_images, .ref a_M_kept, .int m_at, .int m_sort, .int m_start, .int m_size, .ref a_M_light, .ref a_M_may, .ref a_M_shine, .ref a_M_worth, .ref a_M_least])), (a_M_told, .inl (cI, 43, .inl m_told)), (a_M_s, .inl (cI, 38, .inl m_s)), (a_M_light, .inl (cI, 128, .inl m_light_2)), (a_M_may, .inl (cI, 128, .inl m_may_2)), (a_M_shine, .inl (cI, 7, .inl m_shine_2)), (a_M_worth, .inl (cI, 8192, .inl m_worth_h16))] 0 0 80 [(0, .ref a_M), (1, .int x1_h10), (2, .int x2_h16), (3, .int x3_h80), (4, .int x4_h41), (5, .int y75), (6, .int x6_h80)] [] := by
                                intro n
                                induction n with
                                | zero => intro x3_h80 x6_h80 h; exact h.elim
                                | succ n ih =>
                                  intro x3_h80 x6_h80 h
                                  unfold wp_X5_histories_L80 at h
                                  refine q_iload (pc := 80) F 6 dX5_histories_80 rfl ?_
                                  refine q_bipush (pc := 82) F (v := 6) dX5_histories_82 (by decide) ?_
                                  refine q_icmp_ge (pc := 84) (tgt := 129) F dX5_histories_84 (by decide) (fun c84 => ?_) (fun c84 => ?_)
                                  · have h := h.1 c84
                                    refine q_lv (lv' := [(0, .ref a_M), (1, .int x1_h10), (2, .int x2_h16), (3, .int x3_h80), (4, .int x4_h41)]) [0, 1, 2, 3, 4] rfl ?_
                                    exact J129 x3_h80 h
                                  · have h := h.2 c84
                                    refine q_iload (pc := 87) F 5 dX5_histories_87 rfl ?_
                                    refine q_if_eq (pc := 89) (tgt := 129) F dX5_histories_89 (by decide) (fun c89 => ?_) (fun c89 => ?_)
                                    · have h := h.1 c89
                                      refine q_lv (lv' := [(0, .ref a_M), (1, .int x1_h10), (2, .int x2_h16), (3, .int x3_h80), (4, .int x4_h41)]) [0, 1, 2, 3, 4] rfl ?_
                                      exact J129 x3_h80 h
                                    · have h := h.2 c89
                                      refine q_iload_n (pc := 92) F 3 dX5_histories_92 rfl ?_
                                      refine q_iload_n (pc := 93) F 2 dX5_histories_93 rfl ?_
                                      refine q_iload (pc := 94) F 6 dX5_histories_94 rfl ?_
                                      refine q_ishr (pc := 96) F dX5_histories_96 ?_
                                      refine q_iconst (pc := 97) F (v := 1) dX5_histories_97 (by decide) ?_
                                      refine q_iand (pc := 98) F dX5_histories_98 ?_
                                      refine q_iconst (pc := 99) F (v := 1) dX5_histories_99 (by decide) ?_
                                      refine jnW h (fun K => ∀ (y121 : Int32), K y121 → Wg E [(a_M, .inr (5, [.long m_trace, .ref a_M_text, .int m_typed, .ref a_M_told, .ref a_M_draft, .ref a_M_s, .ref a_M_images, .ref a_M_kept, .int m_at, .int m_sort, .int m_start, .int m_size, .ref a_M_light, .ref a_M_may, .ref a_M_shine, .ref a_M_worth, .ref a_M_least])), (a_M_told, .inl (cI, 43, .inl m_told)), (a_M_s, .inl (cI, 38, .inl m_s)), (a_M_light, .inl (cI, 128, .inl m_light_2)), (a_M_may, .inl (cI, 128, .inl m_may_2)), (a_M_shine, .inl (cI, 7, .inl m_shine_2)), (a_M_worth, .inl (cI, 8192, .inl m_worth_h16))] 0 0 121 [(0, .ref a_M), (1, .int x1_h10), (2, .int x2_h16), (4, .int x4_h41), (5, .int y75), (6, .int x6_h80)] [.int y121, .int x3_h80]) ?_ ?_
                                      · intro y121 h
                                        refine q_iadd (pc := 121) F dX5_histories_121 ?_
                                        refine q_topi (fun x3_122 ex3_122 => ?_)
                                        have h := h x3_122 ex3_122
                                        refine q_istore_n (pc := 122) F (lv' := [(3, .int x3_122), (0, .ref a_M), (1, .int x1_h10), (2, .int x2_h16), (4, .int x4_h41), (5, .int y75), (6, .int x6_h80)]) dX5_histories_122 (by decide) rfl ?_
                                        refine q_iinc (pc := 123) F (v := x6_h80 + (1 : Int32)) (lv' := [(6, .int (x6_h80 + (1 : Int32))), (3, .int x3_122), (0, .ref a_M), (1, .int x1_h10), (2, .int x2_h16), (4, .int x4_h41), (5, .int y75)]) 6 dX5_histories_123 rfl rfl (by decide) rfl ?_
                                        refine q_goto (pc := 126) (tgt := 80) F dX5_histories_126 (by decide) ?_
                                        refine q_lv (lv' := [(0, .ref a_M), (1, .int x1_h10), (2, .int x2_h16), (3, .int x3_122), (4, .int x4_h41), (5, .int y75), (6, .int (x6_h80 + (1 : Int32)))]) [2, 3, 4, 1, 5, 6, 0] rfl ?_
                                        exact ih x3_122 (x6_h80 + (1 : Int32)) h
                                      · intro K121 J121 h
                                        refine q_icmp_ne (pc := 100) (tgt := 120) F dX5_histories_100 (by decide) (fun c100 => ?_) (fun c100 => ?_)
                                        · have h := h.2 c100
                                          refine q_iconst (pc := 120) F (v := 0) dX5_histories_120 (by decide) ?_
                                          refine q_lv (lv' := [(0, .ref a_M), (1, .int x1_h10), (2, .int x2_h16), (4, .int x4_h41), (5, .int y75), (6, .int x6_h80)]) [0, 1, 2, 4, 5, 6] rfl ?_
                                          exact J121 (0 : Int32) h
                                        · have h := h.1 c100
                                          refine q_aload_n (pc := 103) F 0 dX5_histories_103 rfl ?_
                                          refine q_get (pc := 104) F fgX5_38 0 rfl rfl dX5_histories_104 ?_
                                          refine q_iload_n (pc := 107) F 1 dX5_histories_107 rfl ?_
                                          refine q_iload_n (pc := 108) F 2 dX5_histories_108 rfl ?_
                                          refine q_iload (pc := 109) F 4 dX5_histories_109 rfl ?_
                                          refine q_iload (pc := 111) F 6 dX5_histories_111 rfl ?_
                                          refine q_cR (q_runS (As := [.int x1_h10, .int x2_h16, .int x4_h41, .int x6_h80]) (rest := [.ref a_M_worth, .int x3_h80]) (pc := 113) F (fun l sz => ct_X5_then D cI cZ x1_h10 x2_h16 x4_h41 x6_h80 h l sz) mc_yX5_then sm_yX5_then mlX5_168 ⟨by decide, by decide⟩ ⟨by decide, by decide⟩ ⟨rfl, rfl⟩ [] rfl rfl rfl rfl (Nat.le_of_ble_eq_true rfl) dX5_histories_113) (fun r113 h => ?_)
                                          obtain ⟨hi116, h⟩ := h
                                          refine q_iald (pc := 116) F 6 rfl hi116 dX5_histories_116 ?_
                                          refine q_goto (pc := 117) (tgt := 121) F dX5_histories_117 (by decide) ?_
                                          refine q_lv (lv' := [(0, .ref a_M), (1, .int x1_h10), (2, .int x2_h16), (4, .int x4_h41), (5, .int y75), (6, .int x6_h80)]) [0, 1, 2, 4, 5, 6] rfl ?_
                                          exact J121 (m_worth_h16 (ix r113)) h
                              refine q_lv (lv' := [(0, .ref a_M), (1, .int x1_h10), (2, .int x2_h16), (3, .int x3_h41), (4, .int x4_h41), (5, .int y75), (6, .int (0 : Int32))]) [2, 3, 4, 5, 6, 1, 0] rfl ?_
                              exact lp80 n80 x3_h41 (0 : Int32) h
                          · intro K75 J75 h
                            refine q_if_eq (pc := 67) (tgt := 74) F dX5_histories_67 (by decide) (fun c67 => ?_) (fun c67 => ?_)
                            · have h := h.1 c67
                              refine q_iconst (pc := 74) F (v := 0) dX5_histories_74 (by decide) ?_
                              exact J75 (0 : Int32) h
                            · have h := h.2 c67
                              refine q_iconst (pc := 70) F (v := 1) dX5_histories_70 (by decide) ?_
                              refine q_goto (pc := 71) (tgt := 75) F dX5_histories_71 (by decide) ?_
                              exact J75 (1 : Int32) h
                    refine q_lv (lv' := [(0, .ref a_M), (1, .int x1_h10), (2, .int x2_h16), (3, .int y37), (4, .int (0 : Int32))]) [2, 3, 4, 1, 0] rfl ?_
                    exact lp41 n41 y37 (0 : Int32) h
                · intro K37 J37 h
                  refine q_icmp_ne (pc := 29) (tgt := 36) F dX5_histories_29 (by decide) (fun c29 => ?_) (fun c29 => ?_)
                  · have h := h.2 c29
                    refine q_iconst (pc := 36) F (v := 0) dX5_histories_36 (by decide) ?_
                    exact J37 (0 : Int32) h
                  · have h := h.1 c29
                    refine q_iconst (pc := 32) F (v := 1) dX5_histories_32 (by decide) ?_
                    refine q_goto (pc := 33) (tgt := 37) F dX5_histories_33 (by decide) ?_
                    exact J37 (1 : Int32) h
          refine q_lv (lv' := [(0, .ref a_M), (1, .int x1_h10), (2, .int (0 : Int32))]) [1, 2, 0] rfl ?_
          exact lp16 n16 (0 : Int32) m_worth_h10 h
  refine q_lv (lv' := [(0, .ref a_M), (1, .int r6)]) [1, 0] rfl ?_
  exact lp10 n10 r6 m_worth h

def wp_X5_fits (m_told : Nat → Int32) (m_s : Nat → Int32) (m_light : Nat → Int32) (m_may : Nat → Int32) (m_shine : Nat → Int32) (m_worth : Nat → Int32) (post : Int32 → (Nat → Int32) → (Nat → Int32) → (Nat → Int32) → (Nat → Int32) → Prop) : Prop := (wp_X5_histories m_told m_s m_light m_may m_shine m_worth (fun (m_light_1 : Nat → Int32) (m_may_1 : Nat → Int32) (m_shine_1 : Nat → Int32) (m_worth_1 : Nat → Int32) => (wp_X5_allLit m_told (fun (r10 : Int32) => (wp_X5_state (0 : Int32) r10 (fun (r13 : Int32) => (vp_in r13 8192 ∧ post (m_worth_1 (ix r13)) m_light_1 m_may_1 m_shine_1 m_worth_1)))))))
abbrev rm_X5_fits : Room := { frames := 5, cells := 0, slots := 0, locals := 123 }
set_option maxRecDepth 100000 in
set_option maxHeartbeats 4000000 in
theorem ct_X5_fits (D : va_G) (cI cZ : ClassId) (a_M a_M_text a_M_told a_M_draft a_M_s a_M_images a_M_kept a_M_light a_M_may a_M_shine a_M_worth a_M_least : Nat) (m_trace : Int64) (m_typed : Int32) (m_at : Int32) (m_sort : Int32) (m_start : Int32) (m_size : Int32) (m_told : Nat → Int32) (m_s : Nat → Int32) (m_light : Nat → Int32) (m_may : Nat → Int32) (m_shine : Nat → Int32) (m_worth : Nat → Int32) {post : Int32 → (Nat → Int32) → (Nat → Int32) → (Nat → Int32) → (Nat → Int32) → Prop} (h : wp_X5_fits m_told m_s m_light m_may m_shine m_worth post) (l : Launch) (sz : Nat) : Met l yX5_fits (wsM yX5_fits cX5_fits 1 (some .int)) rm_X5_fits (va_Pc [.ref a_M] (gP D cI cZ [(a_M, .inr (5, [.long m_trace, .ref a_M_text, .int m_typed, .ref a_M_told, .ref a_M_draft, .ref a_M_s, .ref a_M_images, .ref a_M_kept, .int m_at, .int m_sort, .int m_start, .int m_size, .ref a_M_light, .ref a_M_may, .ref a_M_shine, .ref a_M_worth, .ref a_M_least])), (a_M_told, .inl (cI, 43, .inl m_told)), (a_M_s, .inl (cI, 38, .inl m_s)), (a_M_light, .inl (cI, 128, .inl m_light)), (a_M_may, .inl (cI, 128, .inl m_may)), (a_M_shine, .inl (cI, 7, .inl m_shine)), (a_M_worth, .inl (cI, 8192, .inl m_worth))] sz)) (gQi D (fun r (u : (Nat → Int32) × (Nat → Int32) × (Nat → Int32) × (Nat → Int32)) => post r u.1 u.2.1 u.2.2.1 u.2.2.2) (fun (u : (Nat → Int32) × (Nat → Int32) × (Nat → Int32) × (Nat → Int32)) => [(a_M, .inr (5, [.long m_trace, .ref a_M_text, .int m_typed, .ref a_M_told, .ref a_M_draft, .ref a_M_s, .ref a_M_images, .ref a_M_kept, .int m_at, .int m_sort, .int m_start, .int m_size, .ref a_M_light, .ref a_M_may, .ref a_M_shine, .ref a_M_worth, .ref a_M_least])), (a_M_told, .inl (cI, 43, .inl m_told)), (a_M_s, .inl (cI, 38, .inl m_s)), (a_M_light, .inl (cI, 128, .inl u.1)), (a_M_may, .inl (cI, 128, .inl u.2.1)), (a_M_shine, .inl (cI, 7, .inl u.2.2.1)), (a_M_worth, .inl (cI, 8192, .inl u.2.2.2))]) [(a_M, .inr (5, [.long m_trace, .ref a_M_text, .int m_typed, .ref a_M_told, .ref a_M_draft, .ref a_M_s, .ref a_M_images, .ref a_M_kept, .int m_at, .int m_sort, .int m_start, .int m_size, .ref a_M_light, .ref a_M_may, .ref a_M_shine, .ref a_M_worth, .ref a_M_least])), (a_M_told, .inl (cI, 43, .inl m_told)), (a_M_s, .inl (cI, 38, .inl m_s)), (a_M_light, .inl (cI, 128, .inl m_light)), (a_M_may, .inl (cI, 128, .inl m_may)), (a_M_shine, .inl (cI, 7, .inl m_shine)), (a_M_worth, .inl (cI, 8192, .inl m_worth))] sz) 0 0 (va_A [(a_M, .inr (5, [.long m_trace, .ref a_M_text, .int m_typed, .ref a_M_told, .ref a_M_draft, .ref a_M_s, .ref a_M_images, .ref a_M_kept, .int m_at, .int m_sort, .int m_start, .int m_size, .ref a_M_light, .ref a_M_may, .ref a_M_shine, .ref a_M_worth, .ref a_M_least])), (a_M_told, .inl (cI, 43, .inl m_told)), (a_M_s, .inl (cI, 38, .inl m_s)), (a_M_light, .inl (cI, 128, .inl m_light)), (a_M_may, .inl (cI, 128, .inl m_may)), (a_M_shine, .inl (cI, 7, .inl m_shine)), (a_M_worth, .inl (cI, 8192, .inl m_worth))] sz) := by
  refine q_startM (own := RX5) (Qc := gQi D (fun r (u : (Nat → Int32) × (Nat → Int32) × (Nat → Int32) × (Nat → Int32)) => post r u.1 u.2.1 u.2.2.1 u.2.2.2) (fun (u : (Nat → Int32) × (Nat → Int32) × (Nat → Int32) × (Nat → Int32)) => [(a_M, .inr (5, [.long m_trace, .ref a_M_text, .int m_typed, .ref a_M_told, .ref a_M_draft, .ref a_M_s, .ref a_M_images, .ref a_M_kept, .int m_at, .int m_sort, .int m_start, .int m_size, .ref a_M_light, .ref a_M_may, .ref a_M_shine, .ref a_M_worth, .ref a_M_least])), (a_M_told, .inl (cI, 43, .inl m_told)), (a_M_s, .inl (cI, 38, .inl m_s)), (a_M_light, .inl (cI, 128, .inl u.1)), (a_M_may, .inl (cI, 128, .inl u.2.1)), (a_M_shine, .inl (cI, 7, .inl u.2.2.1)), (a_M_worth, .inl (cI, 8192, .inl u.2.2.2))]) [(a_M, .inr (5, [.long m_trace, .ref a_M_text, .int m_typed, .ref a_M_told, .ref a_M_draft, .ref a_M_s, .ref a_M_images, .ref a_M_kept, .int m_at, .int m_sort, .int m_start, .int m_size, .ref a_M_light, .ref a_M_may, .ref a_M_shine, .ref a_M_worth, .ref a_M_least])), (a_M_told, .inl (cI, 43, .inl m_told)), (a_M_s, .inl (cI, 38, .inl m_s)), (a_M_light, .inl (cI, 128, .inl m_light)), (a_M_may, .inl (cI, 128, .inl m_may)), (a_M_shine, .inl (cI, 7, .inl m_shine)), (a_M_worth, .inl (cI, 8192, .inl m_worth))]) (by decide +kernel) rfl (Nat.le_of_ble_eq_true rfl) (fun E F Z M => ?_)
  show Wg E [(a_M, .inr (5, [.long m_trace, .ref a_M_text, .int m_typed, .ref a_M_told, .ref a_M_draft, .ref a_M_s, .ref a_M_images, .ref a_M_kept, .int m_at, .int m_sort, .int m_start, .int m_size, .ref a_M_light, .ref a_M_may, .ref a_M_shine, .ref a_M_worth, .ref a_M_least])), (a_M_told, .inl (cI, 43, .inl m_told)), (a_M_s, .inl (cI, 38, .inl m_s)), (a_M_light, .inl (cI, 128, .inl m_light)), (a_M_may, .inl (cI, 128, .inl m_may)), (a_M_shine, .inl (cI, 7, .inl m_shine)), (a_M_worth, .inl (cI, 8192, .inl m_worth))] 0 0 0 [(0, .ref a_M)] []
  unfold wp_X5_fits at h
  refine q_aload_n (pc := 0) F 0 dX5_fits_0 rfl ?_
  refine q_cMv (wr := []) (pc := 1) F M (q_runV (As := []) (rest := []) (pc := 1) F (fun l sz => ct_X5_histories D cI cZ a_M a_M_text a_M_told a_M_draft a_M_s a_M_images a_M_kept a_M_light a_M_may a_M_shine a_M_worth a_M_least m_trace m_typed m_at m_sort m_start m_size m_told m_s m_light m_may m_shine m_worth h l sz) mc_yX5_histories im_yX5_histories se_yX5_histories mlX5_188 ⟨by decide, by decide⟩ ⟨by decide, by decide⟩ ⟨rfl, rfl⟩ [0, 1, 2, 3, 4, 5, 6] rfl rfl rfl 0 rfl rfl rfl (Nat.le_of_ble_eq_true rfl) dX5_fits_1) [0, 1, 2, 3, 4, 5, 6] [] rfl rfl rfl (by decide) (fun u1 h => ?_)
  obtain ⟨m_light_1, m_may_1, m_shine_1, m_worth_1⟩ := u1
  refine q_cs (cs' := [(a_M, .inr (5, [.long m_trace, .ref a_M_text, .int m_typed, .ref a_M_told, .ref a_M_draft, .ref a_M_s, .ref a_M_images, .ref a_M_kept, .int m_at, .int m_sort, .int m_start, .int m_size, .ref a_M_light, .ref a_M_may, .ref a_M_shine, .ref a_M_worth, .ref a_M_least])), (a_M_told, .inl (cI, 43, .inl m_told)), (a_M_s, .inl (cI, 38, .inl m_s)), (a_M_light, .inl (cI, 128, .inl m_light_1)), (a_M_may, .inl (cI, 128, .inl m_may_1)), (a_M_shine, .inl (cI, 7, .inl m_shine_1)), (a_M_worth, .inl (cI, 8192, .inl m_worth_1))]) [0, 1, 2, 3, 4, 5, 6] rfl rfl ?_
  refine q_aload_n (pc := 4) F 0 dX5_fits_4 rfl ?_
  refine q_get (pc := 5) F fgX5_38 0 rfl rfl dX5_fits_5 ?_
  refine q_iconst (pc := 8) F (v := 0) dX5_fits_8 (by decide) ?_
  refine q_aload_n (pc := 9) F 0 dX5_fits_9 rfl ?_
  refine q_cR (q_runV (As := []) (rest := [.int (0 : Int32), .ref a_M_worth]) (pc := 10) F (fun l sz => ct_X5_allLit D cI cZ a_M a_M_text a_M_told a_M_draft a_M_s a_M_images a_M_kept a_M_light a_M_may a_M_shine a_M_worth a_M_least m_trace m_typed m_at m_sort m_start m_size m_told h l sz) mc_yX5_allLit im_yX5_allLit se_yX5_allLit mlX5_128 ⟨by decide, by decide⟩ ⟨by decide, by decide⟩ ⟨rfl, rfl⟩ [0, 1] rfl rfl rfl 0 rfl rfl rfl (Nat.le_of_ble_eq_true rfl) dX5_fits_10) (fun r10 h => ?_)
  refine q_cR (q_runS (As := [.int (0 : Int32), .int r10]) (rest := [.ref a_M_worth]) (pc := 13) F (fun l sz => ct_X5_state D cI cZ (0 : Int32) r10 h l sz) mc_yX5_state sm_yX5_state mlX5_162 ⟨by decide, by decide⟩ ⟨by decide, by decide⟩ ⟨rfl, rfl⟩ [] rfl rfl rfl rfl (Nat.le_of_ble_eq_true rfl) dX5_fits_13) (fun r13 h => ?_)
  obtain ⟨hi16, h⟩ := h
  refine q_iald (pc := 16) F 6 rfl hi16 dX5_fits_16 ?_
  exact q_iretM (pc := 17) F Z dX5_fits_17 (m_light_1, m_may_1, m_shine_1, m_worth_1) h rfl

def wp_X5_who_L26 (x2 : Int32) (m_told : Nat → Int32) (K51 : (Nat → Int32) → Prop) : Nat → Int32 → (Nat → Int32) → Prop
  | 0, _, _ => False
  | n + 1, x3, m_least => (wp_X5_allLit m_told (fun (r28 : Int32) => ((r28 < x3 → K51 m_least) ∧ (¬ r28 < x3 → (wp_X5_state x2 x3 (fun (r40 : Int32) => (vp_in r40 8192 ∧ wp_X5_who_L26 x2 m_told K51 n (x3 + (1 : Int32)) (upd m_least (ix r40) (0 : Int32)))))))))
def wp_X5_who_L16 (m_told : Nat → Int32) (K57 : (Nat → Int32) → Prop) : Nat → Int32 → (Nat → Int32) → Prop
  | 0, _, _ => False
  | n + 1, x2, m_least => (wp_X5_all m_told (fun (r18 : Int32) => ((r18 < x2 → K57 m_least) ∧ (¬ r18 < x2 → (jn (fun (K51 : (Nat → Int32) → Prop) => (∃ n26 : Nat, wp_X5_who_L26 x2 m_told K51 n26 (0 : Int32) m_least)) (fun (m_least_51 : Nat → Int32) => wp_X5_who_L16 m_told K57 n (x2 + (1 : Int32)) m_least_51))))))
def wp_X5_who_L172 (x1 : Int32) (x3 : Int32) (x4 : Int32) (x5 : Int32) (x6 : Int32) (m_worth : Nat → Int32) (K275 : Int32 → (Nat → Int32) → Prop) : Nat → Int32 → Int32 → (Nat → Int32) → Prop
  | 0, _, _, _ => False
  | n + 1, x2, x7, m_least => (((6 : Int32) ≤ x7 → K275 x2 m_least) ∧ (¬ (6 : Int32) ≤ x7 → ((x6 = (0 : Int32) → K275 x2 m_least) ∧ (¬ x6 = (0 : Int32) → (wp_X5_then x3 x4 x5 x7 (fun (r191 : Int32) => (jn (fun (K222 : Int32 → Prop) => (jn (fun (K221 : Prop) => ((((jshr x4 x7) &&& (1 : Int32)) = (1 : Int32) → (vp_in r191 8192 ∧ (((m_worth (ix r191)) ≤ (0 : Int32) → K221) ∧ (¬ (m_worth (ix r191)) ≤ (0 : Int32) → K222 (1 : Int32))))) ∧ (¬ ((jshr x4 x7) &&& (1 : Int32)) = (1 : Int32) → K221))) (K222 (0 : Int32)))) (fun (y222 : Int32) => (jn (fun (K246 : Int32 → Prop) => ((y222 = (0 : Int32) → (vp_in r191 8192 ∧ K246 (m_least (ix r191)))) ∧ (¬ y222 = (0 : Int32) → K246 (1 : Int32)))) (fun (y246 : Int32) => (vp_in r191 8192 ∧ (jn (fun (K267 : Int32 → Prop) => (jn (fun (K266 : Prop) => ((y222 = (0 : Int32) → K266) ∧ (¬ y222 = (0 : Int32) → ((x7 = x1 → K267 (jshl (1 : Int32) x5)) ∧ (¬ x7 = x1 → K266))))) (K267 (0 : Int32)))) (fun (y267 : Int32) => (∀ x2_268 : Int32, x2_268 = x2 ||| y267 → wp_X5_who_L172 x1 x3 x4 x5 x6 m_worth K275 n x2_268 (x7 + (1 : Int32)) (upd m_least (ix r191) y246)))))))))))))))
def wp_X5_who_L117 (x1 : Int32) (x3 : Int32) (x4 : Int32) (m_told : Nat → Int32) (m_may : Nat → Int32) (m_worth : Nat → Int32) (K281 : Int32 → (Nat → Int32) → Prop) : Nat → Int32 → Int32 → (Nat → Int32) → Prop
  | 0, _, _, _ => False
  | n + 1, x2, x5, m_least => (((m_told 4) ≤ x5 → K281 x2 m_least) ∧ (¬ (m_told 4) ≤ x5 → (wp_X5_state x3 x4 (fun (r135 : Int32) => (vp_in r135 8192 ∧ (((m_least (ix r135)) = (1 : Int32) → (vp_in x4 128 ∧ (jn (fun (K167 : Int32 → Prop) => (((((m_may (ix x4)) &&& (x3 ^^^ (-1 : Int32))) &&& (jshl (1 : Int32) x5)) = (0 : Int32) → K167 (0 : Int32)) ∧ (¬ (((m_may (ix x4)) &&& (x3 ^^^ (-1 : Int32))) &&& (jshl (1 : Int32) x5)) = (0 : Int32) → K167 (1 : Int32)))) (fun (y167 : Int32) => (jn (fun (K275 : Int32 → (Nat → Int32) → Prop) => (∃ n172 : Nat, wp_X5_who_L172 x1 x3 x4 x5 y167 m_worth K275 n172 x2 (0 : Int32) m_least)) (fun (x2_275 : Int32) (m_least_275 : Nat → Int32) => wp_X5_who_L117 x1 x3 x4 m_told m_may m_worth K281 n x2_275 (x5 + (1 : Int32)) m_least_275)))))) ∧ (¬ (m_least (ix r135)) = (1 : Int32) → K281 x2 m_least)))))))
def wp_X5_who_L109 (x1 : Int32) (x3 : Int32) (m_told : Nat → Int32) (m_may : Nat → Int32) (m_worth : Nat → Int32) (K287 : Int32 → (Nat → Int32) → Prop) : Nat → Int32 → Int32 → (Nat → Int32) → Prop
  | 0, _, _, _ => False
  | n + 1, x2, x4, m_least => ((x4 < (0 : Int32) → K287 x2 m_least) ∧ (¬ x4 < (0 : Int32) → (jn (fun (K281 : Int32 → (Nat → Int32) → Prop) => (∃ n117 : Nat, wp_X5_who_L117 x1 x3 x4 m_told m_may m_worth K281 n117 x2 (0 : Int32) m_least)) (fun (x2_281 : Int32) (m_least_281 : Nat → Int32) => wp_X5_who_L109 x1 x3 m_told m_may m_worth K287 n x2_281 (x4 + (-1 : Int32)) m_least_281))))
def wp_X5_who_L95 (x1 : Int32) (m_told : Nat → Int32) (m_light : Nat → Int32) (m_may : Nat → Int32) (m_shine : Nat → Int32) (m_worth : Nat → Int32) (post : Int32 → (Nat → Int32) → (Nat → Int32) → (Nat → Int32) → (Nat → Int32) → (Nat → Int32) → Prop) : Nat → Int32 → Int32 → (Nat → Int32) → Prop
  | 0, _, _, _ => False
  | n + 1, x2, x3, m_least => (wp_X5_all m_told (fun (r97 : Int32) => ((r97 < x3 → post x2 m_light m_may m_shine m_worth m_least) ∧ (¬ r97 < x3 → (wp_X5_allLit m_told (fun (r104 : Int32) => (jn (fun (K287 : Int32 → (Nat → Int32) → Prop) => (∃ n109 : Nat, wp_X5_who_L109 x1 x3 m_told m_may m_worth K287 n109 x2 r104 m_least)) (fun (x2_287 : Int32) (m_least_287 : Nat → Int32) => wp_X5_who_L95 x1 m_told m_light m_may m_shine m_worth post n x2_287 (x3 + (1 : Int32)) m_least_287))))))))
def wp_X5_who (p0 : Int32) (m_told : Nat → Int32) (m_s : Nat → Int32) (m_light : Nat → Int32) (m_may : Nat → Int32) (m_shine : Nat → Int32) (m_worth : Nat → Int32) (m_least : Nat → Int32) (post : Int32 → (Nat → Int32) → (Nat → Int32) → (Nat → Int32) → (Nat → Int32) → (Nat → Int32) → Prop) : Prop := (wp_X5_isLamp p0 m_told (fun (r2 : Int32) => ((r2 = (0 : Int32) → post (-1 : Int32) m_light m_may m_shine m_worth m_least) ∧ (¬ r2 = (0 : Int32) → (wp_X5_histories m_told m_s m_light m_may m_shine m_worth (fun (m_light_11 : Nat → Int32) (m_may_11 : Nat → Int32) (m_shine_11 : Nat → Int32) (m_worth_11 : Nat → Int32) => (jn (fun (K57 : (Nat → Int32) → Prop) => (∃ n16 : Nat, wp_X5_who_L16 m_told K57 n16 (0 : Int32) m_least)) (fun (m_least_57 : Nat → Int32) => (wp_X5_allLit m_told (fun (r63 : Int32) => (wp_X5_state (0 : Int32) r63 (fun (r66 : Int32) => (wp_X5_allLit m_told (fun (r75 : Int32) => (wp_X5_state (0 : Int32) r75 (fun (r78 : Int32) => (vp_in r78 8192 ∧ (jn (fun (K90 : Int32 → Prop) => (((m_worth_11 (ix r78)) ≤ (0 : Int32) → K90 (0 : Int32)) ∧ (¬ (m_worth_11 (ix r78)) ≤ (0 : Int32) → K90 (1 : Int32)))) (fun (y90 : Int32) => (vp_in r66 8192 ∧ (∃ n95 : Nat, wp_X5_who_L95 p0 m_told m_light_11 m_may_11 m_shine_11 m_worth_11 post n95 (0 : Int32) (0 : Int32) (upd m_least_57 (ix r66) y90))))))))))))))))))))))
abbrev rm_X5_who : Room := { frames := 5, cells := 0, slots := 0, locals := 123 }
set_option maxRecDepth 100000 in
set_option maxHeartbeats 4000000 in
theorem ct_X5_who (D : va_G) (cI cZ : ClassId) (a_M a_M_text a_M_told a_M_draft a_M_s a_M_images a_M_kept a_M_light a_M_may a_M_shine a_M_worth a_M_least : Nat) (m_trace : Int64) (m_typed : Int32) (m_at : Int32) (m_sort : Int32) (m_start : Int32) (m_size : Int32) (m_told : Nat → Int32) (m_s : Nat → Int32) (m_light : Nat → Int32) (m_may : Nat → Int32) (m_shine : Nat → Int32) (m_worth : Nat → Int32) (m_least : Nat → Int32) (p0 : Int32) {post : Int32 → (Nat → Int32) → (Nat → Int32) → (Nat → Int32) → (Nat → Int32) → (Nat → Int32) → Prop} (h : wp_X5_who p0 m_told m_s m_light m_may m_shine m_worth m_least post) (l : Launch) (sz : Nat) : Met l yX5_who (wsM yX5_who cX5_who 10 (some .int)) rm_X5_who (va_Pc [.ref a_M, .int p0] (gP D cI cZ [(a_M, .inr (5, [.long m_trace, .ref a_M_text, .int m_typed, .ref a_M_told, .ref a_M_draft, .ref a_M_s, .ref a_M_images, .ref a_M_kept, .int m_at, .int m_sort, .int m_start, .int m_size, .ref a_M_light, .ref a_M_may, .ref a_M_shine, .ref a_M_worth, .ref a_M_least])), (a_M_told, .inl (cI, 43, .inl m_told)), (a_M_s, .inl (cI, 38, .inl m_s)), (a_M_light, .inl (cI, 128, .inl m_light)), (a_M_may, .inl (cI, 128, .inl m_may)), (a_M_shine, .inl (cI, 7, .inl m_shine)), (a_M_worth, .inl (cI, 8192, .inl m_worth)), (a_M_least, .inl (cI, 8192, .inl m_least))] sz)) (gQi D (fun r (u : (Nat → Int32) × (Nat → Int32) × (Nat → Int32) × (Nat → Int32) × (Nat → Int32)) => post r u.1 u.2.1 u.2.2.1 u.2.2.2.1 u.2.2.2.2) (fun (u : (Nat → Int32) × (Nat → Int32) × (Nat → Int32) × (Nat → Int32) × (Nat → Int32)) => [(a_M, .inr (5, [.long m_trace, .ref a_M_text, .int m_typed, .ref a_M_told, .ref a_M_draft, .ref a_M_s, .ref a_M_images, .ref a_M_kept, .int m_at, .int m_sort, .int m_start, .int m_size, .ref a_M_light, .ref a_M_may, .ref a_M_shine, .ref a_M_worth, .ref a_M_least])), (a_M_told, .inl (cI, 43, .inl m_told)), (a_M_s, .inl (cI, 38, .inl m_s)), (a_M_light, .inl (cI, 128, .inl u.1)), (a_M_may, .inl (cI, 128, .inl u.2.1)), (a_M_shine, .inl (cI, 7, .inl u.2.2.1)), (a_M_worth, .inl (cI, 8192, .inl u.2.2.2.1)), (a_M_least, .inl (cI, 8192, .inl u.2.2.2.2))]) [(a_M, .inr (5, [.long m_trace, .ref a_M_text, .int m_typed, .ref a_M_told, .ref a_M_draft, .ref a_M_s, .ref a_M_images, .ref a_M_kept, .int m_at, .int m_sort, .int m_start, .int m_size, .ref a_M_light, .ref a_M_may, .ref a_M_shine, .ref a_M_worth, .ref a_M_least])), (a_M_told, .inl (cI, 43, .inl m_told)), (a_M_s, .inl (cI, 38, .inl m_s)), (a_M_light, .inl (cI, 128, .inl m_light)), (a_M_may, .inl (cI, 128, .inl m_may)), (a_M_shine, .inl (cI, 7, .inl m_shine)), (a_M_worth, .inl (cI, 8192, .inl m_worth)), (a_M_least, .inl (cI, 8192, .inl m_least))] sz) 0 0 (va_A [(a_M, .inr (5, [.long m_trace, .ref a_M_text, .int m_typed, .ref a_M_told, .ref a_M_draft, .ref a_M_s, .ref a_M_images, .ref a_M_kept, .int m_at, .int m_sort, .int m_start, .int m_size, .ref a_M_light, .ref a_M_may, .ref a_M_shine, .ref a_M_worth, .ref a_M_least])), (a_M_told, .inl (cI, 43, .inl m_told)), (a_M_s, .inl (cI, 38, .inl m_s)), (a_M_light, .inl (cI, 128, .inl m_light)), (a_M_may, .inl (cI, 128, .inl m_may)), (a_M_shine, .inl (cI, 7, .inl m_shine)), (a_M_worth, .inl (cI, 8192, .inl m_worth)), (a_M_least, .inl (cI, 8192, .inl m_least))] sz) := by
  refine q_startM (own := RX5) (Qc := gQi D (fun r (u : (Nat → Int32) × (Nat → Int32) × (Nat → Int32) × (Nat → Int32) × (Nat → Int32)) => post r u.1 u.2.1 u.2.2.1 u.2.2.2.1 u.2.2.2.2) (fun (u : (Nat → Int32) × (Nat → Int32) × (Nat → Int32) × (Nat → Int32) × (Nat → Int32)) => [(a_M, .inr (5, [.long m_trace, .ref a_M_text, .int m_typed, .ref a_M_told, .ref a_M_draft, .ref a_M_s, .ref a_M_images, .ref a_M_kept, .int m_at, .int m_sort, .int m_start, .int m_size, .ref a_M_light, .ref a_M_may, .ref a_M_shine, .ref a_M_worth, .ref a_M_least])), (a_M_told, .inl (cI, 43, .inl m_told)), (a_M_s, .inl (cI, 38, .inl m_s)), (a_M_light, .inl (cI, 128, .inl u.1)), (a_M_may, .inl (cI, 128, .inl u.2.1)), (a_M_shine, .inl (cI, 7, .inl u.2.2.1)), (a_M_worth, .inl (cI, 8192, .inl u.2.2.2.1)), (a_M_least, .inl (cI, 8192, .inl u.2.2.2.2))]) [(a_M, .inr (5, [.long m_trace, .ref a_M_text, .int m_typed, .ref a_M_told, .ref a_M_draft, .ref a_M_s, .ref a_M_images, .ref a_M_kept, .int m_at, .int m_sort, .int m_start, .int m_size, .ref a_M_light, .ref a_M_may, .ref a_M_shine, .ref a_M_worth, .ref a_M_least])), (a_M_told, .inl (cI, 43, .inl m_told)), (a_M_s, .inl (cI, 38, .inl m_s)), (a_M_light, .inl (cI, 128, .inl m_light)), (a_M_may, .inl (cI, 128, .inl m_may)), (a_M_shine, .inl (cI, 7, .inl m_shine)), (a_M_worth, .inl (cI, 8192, .inl m_worth)), (a_M_least, .inl (cI, 8192, .inl m_least))]) (by decide +kernel) rfl (Nat.le_of_ble_eq_true rfl) (fun E F Z M => ?_)
  show Wg E [(a_M, .inr (5, [.long m_trace, .ref a_M_text, .int m_typed, .ref a_M_told, .ref a_M_draft, .ref a_M_s, .ref a_M_images, .ref a_M_kept, .int m_at, .int m_sort, .int m_start, .int m_size, .ref a_M_light, .ref a_M_may, .ref a_M_shine, .ref a_M_worth, .ref a_M_least])), (a_M_told, .inl (cI, 43, .inl m_told)), (a_M_s, .inl (cI, 38, .inl m_s)), (a_M_light, .inl (cI, 128, .inl m_light)), (a_M_may, .inl (cI, 128, .inl m_may)), (a_M_shine, .inl (cI, 7, .inl m_shine)), (a_M_worth, .inl (cI, 8192, .inl m_worth)), (a_M_least, .inl (cI, 8192, .inl m_least))] 0 0 0 [(0, .ref a_M), (1, .int p0)] []
  unfold wp_X5_who at h
  refine q_aload_n (pc := 0) F 0 dX5_who_0 rfl ?_
  refine q_iload_n (pc := 1) F 1 dX5_who_1 rfl ?_
  refine q_cR (q_runV (As := [.int p0]) (rest := []) (pc := 2) F (fun l sz => ct_X5_isLamp D cI cZ a_M a_M_text a_M_told a_M_draft a_M_s a_M_images a_M_kept a_M_light a_M_may a_M_shine a_M_worth a_M_least m_trace m_typed m_at m_sort m_start m_size m_told p0 h l sz) mc_yX5_isLamp im_yX5_isLamp se_yX5_isLamp mlX5_153 ⟨by decide, by decide⟩ ⟨by decide, by decide⟩ ⟨rfl, rfl⟩ [0, 1] rfl rfl rfl 0 rfl rfl rfl (Nat.le_of_ble_eq_true rfl) dX5_who_2) (fun r2 h => ?_)
  obtain ⟨hb2, h⟩ := h
  refine q_if_ne (pc := 5) (tgt := 10) F dX5_who_5 (by decide) (fun c5 => ?_) (fun c5 => ?_)
  · have h := h.2 c5
    refine q_aload_n (pc := 10) F 0 dX5_who_10 rfl ?_
    refine q_cMv (wr := [(a_M_least, .inl (cI, 8192, .inl m_least))]) (pc := 11) F M (q_runV (As := []) (rest := []) (pc := 11) F (fun l sz => ct_X5_histories D cI cZ a_M a_M_text a_M_told a_M_draft a_M_s a_M_images a_M_kept a_M_light a_M_may a_M_shine a_M_worth a_M_least m_trace m_typed m_at m_sort m_start m_size m_told m_s m_light m_may m_shine m_worth h l sz) mc_yX5_histories im_yX5_histories se_yX5_histories mlX5_188 ⟨by decide, by decide⟩ ⟨by decide, by decide⟩ ⟨rfl, rfl⟩ [0, 1, 2, 3, 4, 5, 6] rfl rfl rfl 0 rfl rfl rfl (Nat.le_of_ble_eq_true rfl) dX5_who_11) [0, 1, 2, 3, 4, 5, 6] [7] rfl rfl rfl (by decide) (fun u11 h => ?_)
    obtain ⟨m_light_11, m_may_11, m_shine_11, m_worth_11⟩ := u11
    refine q_cs (cs' := [(a_M, .inr (5, [.long m_trace, .ref a_M_text, .int m_typed, .ref a_M_told, .ref a_M_draft, .ref a_M_s, .ref a_M_images, .ref a_M_kept, .int m_at, .int m_sort, .int m_start, .int m_size, .ref a_M_light, .ref a_M_may, .ref a_M_shine, .ref a_M_worth, .ref a_M_least])), (a_M_told, .inl (cI, 43, .inl m_told)), (a_M_s, .inl (cI, 38, .inl m_s)), (a_M_light, .inl (cI, 128, .inl m_light_11)), (a_M_may, .inl (cI, 128, .inl m_may_11)), (a_M_shine, .inl (cI, 7, .inl m_shine_11)), (a_M_worth, .inl (cI, 8192, .inl m_worth_11)), (a_M_least, .inl (cI, 8192, .inl m_least))]) [1, 2, 3, 4, 5, 6, 7, 0] rfl rfl ?_
    refine q_iconst (pc := 14) F (v := 0) dX5_who_14 (by decide) ?_
    refine q_istore_n (pc := 15) F (lv' := [(2, .int (0 : Int32)), (0, .ref a_M), (1, .int p0)]) dX5_who_15 (by decide) rfl ?_
    refine jnW h (fun K => ∀ (m_least_57 : Nat → Int32), K m_least_57 → Wg E [(a_M, .inr (5, [.long m_trace, .ref a_M_text, .int m_typed, .ref a_M_told, .ref a_M_draft, .ref a_M_s, .ref a_M_images, .ref a_M_kept, .int m_at, .int m_sort, .int m_start, .int m_size, .ref a_M_light, .ref a_M_may, .ref a_M_shine, .ref a_M_worth, .ref a_M_least])), (a_M_told, .inl (cI, 43, .inl m_told)), (a_M_s, .inl (cI, 38, .inl m_s)), (a_M_light, .inl (cI, 128, .inl m_light_11)), (a_M_may, .inl (cI, 128, .inl m_may_11)), (a_M_shine, .inl (cI, 7, .inl m_shine_11)), (a_M_worth, .inl (cI, 8192, .inl m_worth_11)), (a_M_least, .inl (cI, 8192, .inl m_least_57))] 0 0 57 [(0, .ref a_M), (1, .int p0)] []) ?_ ?_
    · intro m_least_57 h
      refine q_aload_n (pc := 57) F 0 dX5_who_57 rfl ?_
      refine q_get (pc := 58) F fgX5_41 0 rfl rfl dX5_who_58 ?_
      refine q_iconst (pc := 61) F (v := 0) dX5_who_61 (by decide) ?_
      refine q_aload_n (pc := 62) F 0 dX5_who_62 rfl ?_
      refine q_cR (q_runV (As := []) (rest := [.int (0 : Int32), .ref a_M_least]) (pc := 63) F (fun l sz => ct_X5_allLit D cI cZ a_M a_M_text a_M_told a_M_draft a_M_s a_M_images a_M_kept a_M_light a_M_may a_M_shine a_M_worth a_M_least m_trace m_typed m_at m_sort m_start m_size m_told h l sz) mc_yX5_allLit im_yX5_allLit se_yX5_allLit mlX5_128 ⟨by decide, by decide⟩ ⟨by decide, by decide⟩ ⟨rfl, rfl⟩ [0, 1] rfl rfl rfl 0 rfl rfl rfl (Nat.le_of_ble_eq_true rfl) dX5_who_63) (fun r63 h => ?_)
      refine q_cR (q_runS (As := [.int (0 : Int32), .int r63]) (rest := [.ref a_M_least]) (pc := 66) F (fun l sz => ct_X5_state D cI cZ (0 : Int32) r63 h l sz) mc_yX5_state sm_yX5_state mlX5_162 ⟨by decide, by decide⟩ ⟨by decide, by decide⟩ ⟨rfl, rfl⟩ [] rfl rfl rfl rfl (Nat.le_of_ble_eq_true rfl) dX5_who_66) (fun r66 h => ?_)
      refine q_aload_n (pc := 69) F 0 dX5_who_69 rfl ?_
      refine q_get (pc := 70) F fgX5_38 0 rfl rfl dX5_who_70 ?_
      refine q_iconst (pc := 73) F (v := 0) dX5_who_73 (by decide) ?_
      refine q_aload_n (pc := 74) F 0 dX5_who_74 rfl ?_
      refine q_cR (q_runV (As := []) (rest := [.int (0 : Int32), .ref a_M_worth, .int r66, .ref a_M_least]) (pc := 75) F (fun l sz => ct_X5_allLit D cI cZ a_M a_M_text a_M_told a_M_draft a_M_s a_M_images a_M_kept a_M_light a_M_may a_M_shine a_M_worth a_M_least m_trace m_typed m_at m_sort m_start m_size m_told h l sz) mc_yX5_allLit im_yX5_allLit se_yX5_allLit mlX5_128 ⟨by decide, by decide⟩ ⟨by decide, by decide⟩ ⟨rfl, rfl⟩ [0, 1] rfl rfl rfl 0 rfl rfl rfl (Nat.le_of_ble_eq_true rfl) dX5_who_75) (fun r75 h => ?_)
      refine q_cR (q_runS (As := [.int (0 : Int32), .int r75]) (rest := [.ref a_M_worth, .int r66, .ref a_M_least]) (pc := 78) F (fun l sz => ct_X5_state D cI cZ (0 : Int32) r75 h l sz) mc_yX5_state sm_yX5_state mlX5_162 ⟨by decide, by decide⟩ ⟨by decide, by decide⟩ ⟨rfl, rfl⟩ [] rfl rfl rfl rfl (Nat.le_of_ble_eq_true rfl) dX5_who_78) (fun r78 h => ?_)
      obtain ⟨hi81, h⟩ := h
      refine q_iald (pc := 81) F 6 rfl hi81 dX5_who_81 ?_
      refine jnW h (fun K => ∀ (y90 : Int32), K y90 → Wg E [(a_M, .inr (5, [.long m_trace, .ref a_M_text, .int m_typed, .ref a_M_told, .ref a_M_draft, .ref a_M_s, .ref a_M_images, .ref a_M_kept, .int m_at, .int m_sort, .int m_start, .int m_size, .ref a_M_light, .ref a_M_may, .ref a_M_shine, .ref a_M_worth, .ref a_M_least])), (a_M_told, .inl (cI, 43, .inl m_told)), (a_M_s, .inl (cI, 38, .inl m_s)), (a_M_light, .inl (cI, 128, .inl m_light_11)), (a_M_may, .inl (cI, 128, .inl m_may_11)), (a_M_shine, .inl (cI, 7, .inl m_shine_11)), (a_M_worth, .inl (cI, 8192, .inl m_worth_11)), (a_M_least, .inl (cI, 8192, .inl m_least_57))] 0 0 90 [(0, .ref a_M), (1, .int p0)] [.int y90, .int r66, .ref a_M_least]) ?_ ?_
      · intro y90 h
        obtain ⟨hi90, h⟩ := h
        refine q_iast (pc := 90) F M (cs' := [(a_M, .inr (5, [.long m_trace, .ref a_M_text, .int m_typed, .ref a_M_told, .ref a_M_draft, .ref a_M_s, .ref a_M_images, .ref a_M_kept, .int m_at, .int m_sort, .int m_start, .int m_size, .ref a_M_light, .ref a_M_may, .ref a_M_shine, .ref a_M_worth, .ref a_M_least])), (a_M_told, .inl (cI, 43, .inl m_told)), (a_M_s, .inl (cI, 38, .inl m_s)), (a_M_light, .inl (cI, 128, .inl m_light_11)), (a_M_may, .inl (cI, 128, .inl m_may_11)), (a_M_shine, .inl (cI, 7, .inl m_shine_11)), (a_M_worth, .inl (cI, 8192, .inl m_worth_11)), (a_M_least, .inl (cI, 8192, .inl (upd m_least_57 (ix r66) y90)))]) 7 rfl hi90 rfl dX5_who_90 ?_
        refine q_iconst (pc := 91) F (v := 0) dX5_who_91 (by decide) ?_
        refine q_istore_n (pc := 92) F (lv' := [(2, .int (0 : Int32)), (0, .ref a_M), (1, .int p0)]) dX5_who_92 (by decide) rfl ?_
        refine q_iconst (pc := 93) F (v := 0) dX5_who_93 (by decide) ?_
        refine q_istore_n (pc := 94) F (lv' := [(3, .int (0 : Int32)), (2, .int (0 : Int32)), (0, .ref a_M), (1, .int p0)]) dX5_who_94 (by decide) rfl ?_
        obtain ⟨n95, h⟩ := h
        have lp95 : ∀ (n : Nat) (x2_h95 : Int32) (x3_h95 : Int32) (m_least_h95 : Nat → Int32), wp_X5_who_L95 p0 m_told m_light_11 m_may_11 m_shine_11 m_worth_11 post n x2_h95 x3_h95 m_least_h95 → Wg E [(a_M, .inr (5, [.long m_trace, .ref a_M_text, .int m_typed, .ref a_M_told, .ref a_M_draft, .ref a_M_s, .ref a_M_images, .ref a_M_kept, .int m_at, .int m_sort, .int m_start, .int m_size, .ref a_M_light, .ref a_M_may, .ref a_M_shine, .ref a_M_worth, .ref a_M_least])), (a_M_told, .inl (cI, 43, .inl m_told)), (a_M_s, .inl (cI, 38, .inl m_s)), (a_M_light, .inl (cI, 128, .inl m_light_11)), (a_M_may, .inl (cI, 128, .inl m_may_11)), (a_M_shine, .inl (cI, 7, .inl m_shine_11)), (a_M_worth, .inl (cI, 8192, .inl m_worth_11)), (a_M_least, .inl (cI, 8192, .inl m_least_h95))] 0 0 95 [(0, .ref a_M), (1, .int p0), (2, .int x2_h95), (3, .int x3_h95)] [] := by
          intro n
          induction n with
          | zero => intro x2_h95 x3_h95 m_least_h95 h; exact h.elim
          | succ n ih =>
            intro x2_h95 x3_h95 m_least_h95 h
            unfold wp_X5_who_L95 at h
            refine q_iload_n (pc := 95) F 3 dX5_who_95 rfl ?_
            refine q_aload_n (pc := 96) F 0 dX5_who_96 rfl ?_
            refine q_cR (q_runV (As := []) (rest := [.int x3_h95]) (pc := 97) F (fun l sz => ct_X5_all D cI cZ a_M a_M_text a_M_told a_M_draft a_M_s a_M_images a_M_kept a_M_light a_M_may a_M_shine a_M_worth a_M_least m_trace m_typed m_at m_sort m_start m_size m_told h l sz) mc_yX5_all im_yX5_all se_yX5_all mlX5_165 ⟨by decide, by decide⟩ ⟨by decide, by decide⟩ ⟨rfl, rfl⟩ [0, 1] rfl rfl rfl 0 rfl rfl rfl (Nat.le_of_ble_eq_true rfl) dX5_who_97) (fun r97 h => ?_)
            refine q_icmp_gt (pc := 100) (tgt := 293) F dX5_who_100 (by decide) (fun c100 => ?_) (fun c100 => ?_)
            · have h := h.1 c100
              refine q_iload_n (pc := 293) F 2 dX5_who_293 rfl ?_
              exact q_iretM (pc := 294) F Z dX5_who_294 (m_light_11, m_may_11, m_shine_11, m_worth_11, m_least_h95) h rfl
            · have h := h.2 c100
              refine q_aload_n (pc := 103) F 0 dX5_who_103 rfl ?_
              refine q_cR (q_runV (As := []) (rest := []) (pc := 104) F (fun l sz => ct_X5_allLit D cI cZ a_M a_M_text a_M_told a_M_draft a_M_s a_M_images a_M_kept a_M_light a_M_may a_M_shine a_M_worth a_M_least m_trace m_typed m_at m_sort m_start m_size m_told h l sz) mc_yX5_allLit im_yX5_allLit se_yX5_allLit mlX5_128 ⟨by decide, by decide⟩ ⟨by decide, by decide⟩ ⟨rfl, rfl⟩ [0, 1] rfl rfl rfl 0 rfl rfl rfl (Nat.le_of_ble_eq_true rfl) dX5_who_104) (fun r104 h => ?_)
              refine q_istore (pc := 107) F (lv' := [(4, .int r104), (0, .ref a_M), (1, .int p0), (2, .int x2_h95), (3, .int x3_h95)]) dX5_who_107 (by decide) rfl ?_
              refine jnW h (fun K => ∀ (x2_287 : Int32) (m_least_287 : Nat → Int32), K x2_287 m_least_287 → Wg E [(a_M, .inr (5, [.long m_trace, .ref a_M_text, .int m_typed, .ref a_M_told, .ref a_M_draft, .ref a_M_s, .ref a_M_images, .ref a_M_kept, .int m_at, .int m_sort, .int m_start, .int m_size, .ref a_M_light, .ref a_M_may, .ref a_M_shine, .ref a_M_worth, .ref a_M_least])), (a_M_told, .inl (cI, 43, .inl m_told)), (a_M_s, .inl (cI, 38, .inl m_s)), (a_M_light, .inl (cI, 128, .inl m_light_11)), (a_M_may, .inl (cI, 128, .inl m_may_11)), (a_M_shine, .inl (cI, 7, .inl m_shine_11)), (a_M_worth, .inl (cI, 8192, .inl m_worth_11)), (a_M_least, .inl (cI, 8192, .inl m_least_287))] 0 0 287 [(0, .ref a_M), (1, .int p0), (2, .int x2_287), (3, .int x3_h95)] []) ?_ ?_
              · intro x2_287 m_least_287 h
                refine q_iinc (pc := 287) F (v := x3_h95 + (1 : Int32)) (lv' := [(3, .int (x3_h95 + (1 : Int32))), (0, .ref a_M), (1, .int p0), (2, .int x2_287)]) 3 dX5_who_287 rfl rfl (by decide) rfl ?_
                refine q_goto (pc := 290) (tgt := 95) F dX5_who_290 (by decide) ?_
                refine q_lv (lv' := [(0, .ref a_M), (1, .int p0), (2, .int x2_287), (3, .int (x3_h95 + (1 : Int32)))]) [1, 2, 3, 0] rfl ?_
                exact ih x2_287 (x3_h95 + (1 : Int32)) m_least_287 h
              · intro K287 J287 h
                obtain ⟨n109, h⟩ := h
                have lp109 : ∀ (n : Nat) (x2_h109 : Int32) (x4_h109 : Int32) (m_least_h109 : Nat → Int32), wp_X5_who_L109 p0 x3_h95 m_told m_may_11 m_worth_11 K287 n x2_h109 x4_h109 m_least_h109 → Wg E [(a_M, .inr (5, [.long m_trace, .ref a_M_text, .int m_typed, .ref a_M_told, .ref a_M_draft, .ref a_M_s, .ref a_M_images, .ref a_M_kept, .int m_at, .int m_sort, .int m_start, .int m_size, .ref a_M_light, .ref a_M_may, .ref a_M_shine, .ref a_M_worth, .ref a_M_least])), (a_M_told, .inl (cI, 43, .inl m_told)), (a_M_s, .inl (cI, 38, .inl m_s)), (a_M_light, .inl (cI, 128, .inl m_light_11)), (a_M_may, .inl (cI, 128, .inl m_may_11)), (a_M_shine, .inl (cI, 7, .inl m_shine_11)), (a_M_worth, .inl (cI, 8192, .inl m_worth_11)), (a_M_least, .inl (cI, 8192, .inl m_least_h109))] 0 0 109 [(0, .ref a_M), (1, .int p0), (2, .int x2_h109), (3, .int x3_h95), (4, .int x4_h109)] [] := by
                  intro n
                  induction n with
                  | zero => intro x2_h109 x4_h109 m_least_h109 h; exact h.elim
                  | succ n ih =>
                    intro x2_h109 x4_h109 m_least_h109 h
                    unfold wp_X5_who_L109 at h
                    refine q_iload (pc := 109) F 4 dX5_who_109 rfl ?_
                    refine q_if_lt (pc := 111) (tgt := 287) F dX5_who_111 (by decide) (fun c111 => ?_) (fun c111 => ?_)
                    · have h := h.1 c111
                      refine q_lv (lv' := [(0, .ref a_M), (1, .int p0), (2, .int x2_h109), (3, .int x3_h95)]) [0, 1, 2, 3] rfl ?_
                      exact J287 x2_h109 m_least_h109 h
                    · have h := h.2 c111
                      refine q_iconst (pc := 114) F (v := 0) dX5_who_114 (by decide) ?_
                      refine q_istore (pc := 115) F (lv' := [(5, .int (0 : Int32)), (0, .ref a_M), (1, .int p0), (2, .int x2_h109), (3, .int x3_h95), (4, .int x4_h109)]) dX5_who_115 (by decide) rfl ?_
                      refine jnW h (fun K => ∀ (x2_281 : Int32) (m_least_281 : Nat → Int32), K x2_281 m_least_281 → Wg E [(a_M, .inr (5, [.long m_trace, .ref a_M_text, .int m_typed, .ref a_M_told, .ref a_M_draft, .ref a_M_s, .ref a_M_images, .ref a_M_kept, .int m_at, .int m_sort, .int m_start, .int m_size, .ref a_M_light, .ref a_M_may, .ref a_M_shine, .ref a_M_worth, .ref a_M_least])), (a_M_told, .inl (cI, 43, .inl m_told)), (a_M_s, .inl (cI, 38, .inl m_s)), (a_M_light, .inl (cI, 128, .inl m_light_11)), (a_M_may, .inl (cI, 128, .inl m_may_11)), (a_M_shine, .inl (cI, 7, .inl m_shine_11)), (a_M_worth, .inl (cI, 8192, .inl m_worth_11)), (a_M_least, .inl (cI, 8192, .inl m_least_281))] 0 0 281 [(0, .ref a_M), (1, .int p0), (2, .int x2_281), (3, .int x3_h95), (4, .int x4_h109)] []) ?_ ?_
                      · intro x2_281 m_least_281 h
                        refine q_iinc (pc := 281) F (v := x4_h109 + (-1 : Int32)) (lv' := [(4, .int (x4_h109 + (-1 : Int32))), (0, .ref a_M), (1, .int p0), (2, .int x2_281), (3, .int x3_h95)]) 4 dX5_who_281 rfl rfl (by decide) rfl ?_
                        refine q_goto (pc := 284) (tgt := 109) F dX5_who_284 (by decide) ?_
                        refine q_lv (lv' := [(0, .ref a_M), (1, .int p0), (2, .int x2_281), (3, .int x3_h95), (4, .int (x4_h109 + (-1 : Int32)))]) [1, 2, 3, 4, 0] rfl ?_
                        exact ih x2_281 (x4_h109 + (-1 : Int32)) m_least_281 h
                      · intro K281 J281 h
                        obtain ⟨n117, h⟩ := h
                        have lp117 : ∀ (n : Nat) (x2_h117 : Int32) (x5_h117 : Int32) (m_least_h117 : Nat → Int32), wp_X5_who_L117 p0 x3_h95 x4_h109 m_told m_may_11 m_worth_11 K281 n x2_h117 x5_h117 m_least_h117 → Wg E [(a_M, .inr (5, [.long m_trace, .ref a_M_text, .int m_typed, .ref a_M_told, .ref a_M_draft, .ref a_M_s, .ref a_M_images, .ref a_M_kept, .int m_at, .int m_sort, .int m_start, .int m_size, .ref a_M_light, .ref a_M_may, .ref a_M_shine, .ref a_M_worth, .ref a_M_least])), (a_M_told, .inl (cI, 43, .inl m_told)), (a_M_s, .inl (cI, 38, .inl m_s)), (a_M_light, .inl (cI, 128, .inl m_light_11)), (a_M_may, .inl (cI, 128, .inl m_may_11)), (a_M_shine, .inl (cI, 7, .inl m_shine_11)), (a_M_worth, .inl (cI, 8192, .inl m_worth_11)), (a_M_least, .inl (cI, 8192, .inl m_least_h117))] 0 0 117 [(0, .ref a_M), (1, .int p0), (2, .int x2_h117), (3, .int x3_h95), (4, .int x4_h109), (5, .int x5_h117)] [] := by
                          intro n
                          induction n with
                          | zero => intro x2_h117 x5_h117 m_least_h117 h; exact h.elim
                          | succ n ih =>
                            intro x2_h117 x5_h117 m_least_h117 h
                            unfold wp_X5_who_L117 at h
                            refine q_iload (pc := 117) F 5 dX5_who_117 rfl ?_
                            refine q_aload_n (pc := 119) F 0 dX5_who_119 rfl ?_
                            refine q_get (pc := 120) F fgX5_13 0 rfl rfl dX5_who_120 ?_
                            refine q_iconst (pc := 123) F (v := 4) dX5_who_123 (by decide) ?_
                            refine q_ialdk (pc := 124) F (k9 := 4) 1 rfl (vpd (by decide +kernel)) (by decide +kernel) dX5_who_124 ?_
                            refine q_icmp_ge (pc := 125) (tgt := 281) F dX5_who_125 (by decide) (fun c125 => ?_) (fun c125 => ?_)
                            · have h := h.1 c125
                              refine q_lv (lv' := [(0, .ref a_M), (1, .int p0), (2, .int x2_h117), (3, .int x3_h95), (4, .int x4_h109)]) [0, 1, 2, 3, 4] rfl ?_
                              exact J281 x2_h117 m_least_h117 h
                            · have h := h.2 c125
                              refine q_aload_n (pc := 128) F 0 dX5_who_128 rfl ?_
                              refine q_get (pc := 129) F fgX5_41 0 rfl rfl dX5_who_129 ?_
                              refine q_iload_n (pc := 132) F 3 dX5_who_132 rfl ?_
                              refine q_iload (pc := 133) F 4 dX5_who_133 rfl ?_
                              refine q_cR (q_runS (As := [.int x3_h95, .int x4_h109]) (rest := [.ref a_M_least]) (pc := 135) F (fun l sz => ct_X5_state D cI cZ x3_h95 x4_h109 h l sz) mc_yX5_state sm_yX5_state mlX5_162 ⟨by decide, by decide⟩ ⟨by decide, by decide⟩ ⟨rfl, rfl⟩ [] rfl rfl rfl rfl (Nat.le_of_ble_eq_true rfl) dX5_who_135) (fun r135 h => ?_)
                              obtain ⟨hi138, h⟩ := h
                              refine q_iald (pc := 138) F 7 rfl hi138 dX5_who_138 ?_
                              refine q_iconst (pc := 139) F (v := 1) dX5_who_139 (by decide) ?_
                              refine q_icmp_ne (pc := 140) (tgt := 281) F dX5_who_140 (by decide) (fun c140 => ?_) (fun c140 => ?_)
                              · have h := h.2 c140
                                refine q_lv (lv' := [(0, .ref a_M), (1, .int p0), (2, .int x2_h117), (3, .int x3_h95), (4, .int x4_h109)]) [0, 1, 2, 3, 4] rfl ?_
                                exact J281 x2_h117 m_least_h117 h
                              · have h := h.1 c140
                                refine q_aload_n (pc := 143) F 0 dX5_who_143 rfl ?_
                                refine q_get (pc := 144) F fgX5_32 0 rfl rfl dX5_who_144 ?_
                                refine q_iload (pc := 147) F 4 dX5_who_147 rfl ?_
                                obtain ⟨hi149, h⟩ := h
                                refine q_iald (pc := 149) F 4 rfl hi149 dX5_who_149 ?_
                                refine q_iload_n (pc := 150) F 3 dX5_who_150 rfl ?_
                                refine q_iconst (pc := 151) F (v := -1) dX5_who_151 (by decide) ?_
                                refine q_ixor (pc := 152) F dX5_who_152 ?_
                                refine q_iand (pc := 153) F dX5_who_153 ?_
                                refine q_iconst (pc := 154) F (v := 1) dX5_who_154 (by decide) ?_
                                refine q_iload (pc := 155) F 5 dX5_who_155 rfl ?_
                                refine q_ishl (pc := 157) F dX5_who_157 ?_
                                refine q_iand (pc := 158) F dX5_who_158 ?_
                                refine jnW h (fun K => ∀ (y167 : Int32), K y167 → Wg E [(a_M, .inr (5, [.long m_trace, .ref a_M_text, .int m_typed, .ref a_M_told, .ref a_M_draft, .ref a_M_s, .ref a_M_images, .ref a_M_kept, .int m_at, .int m_sort, .int m_start, .int m_size, .ref a_M_light, .ref a_M_may, .ref a_M_shine, .ref a_M_worth, .ref a_M_least])), (a_M_told, .inl (cI, 43, .inl m_told)), (a_M_s, .inl (cI, 38, .inl m_s)), (a_M_light, .inl (cI, 128, .inl m_light_11)), (a_M_may, .inl (cI, 128, .inl m_may_11)), (a_M_shine, .inl (cI, 7, .inl m_shine_11)), (a_M_worth, .inl (cI, 8192, .inl m_worth_11)), (a_M_least, .inl (cI, 8192, .inl m_least_h117))] 0 0 167 [(0, .ref a_M), (1, .int p0), (2, .int x2_h117), (3, .int x3_h95), (4, .int x4_h109), (5, .int x5_h117)] [.int y167]) ?_ ?_
                                · intro y167 h
                                  refine q_istore (pc := 167) F (lv' := [(6, .int y167), (0, .ref a_M), (1, .int p0), (2, .int x2_h117), (3, .int x3_h95), (4, .int x4_h109), (5, .int x5_h117)]) dX5_who_167 (by decide) rfl ?_
                                  refine q_iconst (pc := 169) F (v := 0) dX5_who_169 (by decide) ?_
                                  refine q_istore (pc := 170) F (lv' := [(7, .int (0 : Int32)), (6, .int y167), (0, .ref a_M), (1, .int p0), (2, .int x2_h117), (3, .int x3_h95), (4, .int x4_h109), (5, .int x5_h117)]) dX5_who_170 (by decide) rfl ?_
                                  refine jnW h (fun K => ∀ (x2_275 : Int32) (m_least_275 : Nat → Int32), K x2_275 m_least_275 → Wg E [(a_M, .inr (5, [.long m_trace, .ref a_M_text, .int m_typed, .ref a_M_told, .ref a_M_draft, .ref a_M_s, .ref a_M_images, .ref a_M_kept, .int m_at, .int m_sort, .int m_start, .int m_size, .ref a_M_light, .ref a_M_may, .ref a_M_shine, .ref a_M_worth, .ref a_M_least])), (a_M_told, .inl (cI, 43, .inl m_told)), (a_M_s, .inl (cI, 38, .inl m_s)), (a_M_light, .inl (cI, 128, .inl m_light_11)), (a_M_may, .inl (cI, 128, .inl m_may_11)), (a_M_shine, .inl (cI, 7, .inl m_shine_11)), (a_M_worth, .inl (cI, 8192, .inl m_worth_11)), (a_M_least, .inl (cI, 8192, .inl m_least_275))] 0 0 275 [(0, .ref a_M), (1, .int p0), (2, .int x2_275), (3, .int x3_h95), (4, .int x4_h109), (5, .int x5_h117)] []) ?_ ?_
                                  · intro x2_275 m_least_275 h
                                    refine q_iinc (pc := 275) F (v := x5_h117 + (1 : Int32)) (lv' := [(5, .int (x5_h117 + (1 : Int32))), (0, .ref a_M), (1, .int p0), (2, .int x2_275), (3, .int x3_h95), (4, .int x4_h109)]) 5 dX5_who_275 rfl rfl (by decide) rfl ?_
                                    refine q_goto (pc := 278) (tgt := 117) F dX5_who_278 (by decide) ?_
                                    refine q_lv (lv' := [(0, .ref a_M), (1, .int p0), (2, .int x2_275), (3, .int x3_h95), (4, .int x4_h109), (5, .int (x5_h117 + (1 : Int32)))]) [1, 2, 3, 4, 5, 0] rfl ?_
                                    exact ih x2_275 (x5_h117 + (1 : Int32)) m_least_275 h
                                  · intro K275 J275 h
                                    obtain ⟨n172, h⟩ := h
                                    have lp172 : ∀ (n : Nat) (x2_h172 : Int32) (x7_h172 : Int32) (m_least_h172 : Nat → Int32), wp_X5_who_L172 p0 x3_h95 x4_h109 x5_h117 y167 m_worth_11 K275 n x2_h172 x7_h172 m_least_h172 → Wg E [(a_M, .inr (5, [.long m_trace, .ref a_M_text, .int m_typed, .ref a_M_told, .ref a_M_draft, .ref a_M_s, .ref a_M_images, .ref a_M_kept, .int m_at, .int m_sort, .int m_start, .int m_size, .ref a_M_light, .ref a_M_may, .ref a_M_shine, .ref a_M_worth, .ref a_M_least])), (a_M_told, .inl (cI, 43, .inl m_told)), (a_M_s, .inl (cI, 38, .inl m_s)), (a_M_light, .inl (cI, 128, .inl m_light_11)), (a_M_may, .inl (cI, 128, .inl m_may_11)), (a_M_shine, .inl (cI, 7, .inl m_shine_11)), (a_M_worth, .inl (cI, 8192, .inl m_worth_11)), (a_M_least, .inl (cI, 8192, .inl m_least_h172))] 0 0 172 [(0, .ref a_M), (1, .int p0), (2, .int x2_h172), (3, .int x3_h95), (4, .int x4_h109), (5, .int x5_h117), (6, .int y167), (7, .int x7_h172)] [] := by
                                      intro n
                                      induction n with
                                      | zero => intro x2_h172 x7_h172 m_least_h172 h; exact h.elim
                                      | succ n ih =>
                                        intro x2_h172 x7_h172 m_least_h172 h
                                        unfold wp_X5_who_L172 at h
                                        refine q_iload (pc := 172) F 7 dX5_who_172 rfl ?_
                                        refine q_bipush (pc := 174) F (v := 6) dX5_who_174 (by decide) ?_
                                        refine q_icmp_ge (pc := 176) (tgt := 275) F dX5_who_176 (by decide) (fun c176 => ?_) (fun c176 => ?_)
                                        · have h := h.1 c176
                                          refine q_lv (lv' := [(0, .ref a_M), (1, .int p0), (2, .int x2_h172), (3, .int x3_h95), (4, .int x4_h109), (5, .int x5_h117)]) [0, 1, 2, 3, 4, 5] rfl ?_
                                          exact J275 x2_h172 m_least_h172 h
                                        · have h := h.2 c176
                                          refine q_iload (pc := 179) F 6 dX5_who_179 rfl ?_
                                          refine q_if_eq (pc := 181) (tgt := 275) F dX5_who_181 (by decide) (fun c181 => ?_) (fun c181 => ?_)
                                          · have h := h.1 c181
                                            refine q_lv (lv' := [(0, .ref a_M), (1, .int p0), (2, .int x2_h172), (3, .int x3_h95), (4, .int x4_h109), (5, .int x5_h117)]) [0, 1, 2, 3, 4, 5] rfl ?_
                                            exact J275 x2_h172 m_least_h172 h
                                          · have h := h.2 c181
                                            refine q_iload_n (pc := 184) F 3 dX5_who_184 rfl ?_
                                            refine q_iload (pc := 185) F 4 dX5_who_185 rfl ?_
                                            refine q_iload (pc := 187) F 5 dX5_who_187 rfl ?_
                                            refine q_iload (pc := 189) F 7 dX5_who_189 rfl ?_
                                            refine q_cR (q_runS (As := [.int x3_h95, .int x4_h109, .int x5_h117, .int x7_h172]) (rest := []) (pc := 191) F (fun l sz => ct_X5_then D cI cZ x3_h95 x4_h109 x5_h117 x7_h172 h l sz) mc_yX5_then sm_yX5_then mlX5_168 ⟨by decide, by decide⟩ ⟨by decide, by decide⟩ ⟨rfl, rfl⟩ [] rfl rfl rfl rfl (Nat.le_of_ble_eq_true rfl) dX5_who_191) (fun r191 h => ?_)
                                            refine q_istore (pc := 194) F (lv' := [(8, .int r191), (0, .ref a_M), (1, .int p0), (2, .int x2_h172), (3, .int x3_h95), (4, .int x4_h109), (5, .int x5_h117), (6, .int y167), (7, .int x7_h172)]) dX5_who_194 (by decide) rfl ?_
                                            refine q_iload (pc := 196) F 5 dX5_who_196 rfl ?_
                                            refine q_iload (pc := 198) F 8 dX5_who_198 rfl ?_
                                            refine q_ishr (pc := 200) F dX5_who_200 ?_
                                            refine q_iconst (pc := 201) F (v := 1) dX5_who_201 (by decide) ?_
                                            refine q_iand (pc := 202) F dX5_who_202 ?_
                                            refine q_iconst (pc := 203) F (v := 1) dX5_who_203 (by decide) ?_
                                            refine jnW h (fun K => ∀ (y222 : Int32), K y222 → Wg E [(a_M, .inr (5, [.long m_trace, .ref a_M_text, .int m_typed, .ref a_M_told, .ref a_M_draft, .ref a_M_s, .ref a_M_images, .ref a_M_kept, .int m_at, .int m_sort, .int m_start, .int m_size, .ref a_M_light, .ref a_M_may, .ref a_M_shine, .ref a_M_worth, .ref a_M_least])), (a_M_told, .inl (cI, 43, .inl m_told)), (a_M_s, .inl (cI, 38, .inl m_s)), (a_M_light, .inl (cI, 128, .inl m_light_11)), (a_M_may, .inl (cI, 128, .inl m_may_11)), (a_M_shine, .inl (cI, 7, .inl m_shine_11)), (a_M_worth, .inl (cI, 8192, .inl m_worth_11)), (a_M_least, .inl (cI, 8192, .inl m_least_h172))] 0 0 222 [(0, .ref a_M), (1, .int p0), (2, .int x2_h172), (3, .int x3_h95), (4, .int x4_h109), (5, .int x5_h117), (6, .int y167), (7, .int x7_h172), (8, .int r191)] [.int y222]) ?_ ?_
                                            · intro y222 h
                                              refine q_istore (pc := 222) F (lv' := [(9, .int y222), (0, .ref a_M), (1, .int p0), (2, .int x2_h172), (3, .int x3_h95), (4, .int x4_h109), (5, .int x5_h117), (6, .int y167), (7, .int x7_h172), (8, .int r191)]) dX5_who_222 (by decide) rfl ?_
                                              refine q_aload_n (pc := 224) F 1 dX5_who_224 rfl ?_
                                              refine q_get (pc := 225) F fgX5_41 0 rfl rfl dX5_who_225 ?_
                                              refine q_iload (pc := 228) F 9 dX5_who_228 rfl ?_
                                              refine q_iload (pc := 230) F 0 dX5_who_230 rfl ?_
                                              refine jnW h (fun K => ∀ (y246 : Int32), K y246 → Wg E [(a_M, .inr (5, [.long m_trace, .ref a_M_text, .int m_typed, .ref a_M_told, .ref a_M_draft, .ref a_M_s, .ref a_M_images, .ref a_M_kept, .int m_at, .int m_sort, .int m_start, .int m_size, .ref a_M_light, .ref a_M_may, .ref a_M_shine, .ref a_M_worth, .ref a_M_least])), (a_M_told, .inl (cI, 43, .inl m_told)), (a_M_s, .inl (cI, 38, .inl m_s)), (a_M_light, .inl (cI, 128, .inl m_light_11)), (a_M_may, .inl (cI, 128, .inl m_may_11)), (a_M_shine, .inl (cI, 7, .inl m_shine_11)), (a_M_worth, .inl (cI, 8192, .inl m_worth_11)), (a_M_least, .inl (cI, 8192, .inl m_least_h172))] 0 0 246 [(0, .ref a_M), (1, .int p0), (2, .int x2_h172), (3, .int x3_h95), (4, .int x4_h109), (5, .int x5_h117), (6, .int y167), (7, .int x7_h172), (9, .int y222)] [.int y246, .int r191, .ref a_M_least]) ?_ ?_
                                              · intro y246 h
                                                obtain ⟨hi246, h⟩ := h
                                                refine q_iast (pc := 246) F M (cs' := [(a_M, .inr (5, [.long m_trace, .ref a_M_text, .int m_typed, .ref a_M_told, .ref a_M_draft, .ref a_M_s, .ref a_M_images, .ref a_M_kept, .int m_at, .int m_sort, .int m_start, .int m_size, .ref a_M_light, .ref a_M_may, .ref a_M_shine, .ref a_M_worth, .ref a_M_least])), (a_M_told, .inl (cI, 43, .inl m_told)), (a_M_s, .inl (cI, 38, .inl m_s)), (a_M_light, .inl (cI, 128, .inl m_light_11)), (a_M_may, .inl (cI, 128, .inl m_may_11)), (a_M_shine, .inl (cI, 7, .inl m_shine_11)), (a_M_worth, .inl (cI, 8192, .inl m_worth_11)), (a_M_least, .inl (cI, 8192, .inl (upd m_least_h172 (ix r191) y246)))]) 7 rfl hi246 rfl dX5_who_246 ?_
                                                refine q_iload_n (pc := 247) F 2 dX5_who_247 rfl ?_
                                                refine q_iload (pc := 248) F 8 dX5_who_248 rfl ?_
                                                refine jnW h (fun K => ∀ (y267 : Int32), K y267 → Wg E [(a_M, .inr (5, [.long m_trace, .ref a_M_text, .int m_typed, .ref a_M_told, .ref a_M_draft, .ref a_M_s, .ref a_M_images, .ref a_M_kept, .int m_at, .int m_sort, .int m_start, .int m_size, .ref a_M_light, .ref a_M_may, .ref a_M_shine, .ref a_M_worth, .ref a_M_least])), (a_M_told, .inl (cI, 43, .inl m_told)), (a_M_s, .inl (cI, 38, .inl m_s)), (a_M_light, .inl (cI, 128, .inl m_light_11)), (a_M_may, .inl (cI, 128, .inl m_may_11)), (a_M_shine, .inl (cI, 7, .inl m_shine_11)), (a_M_worth, .inl (cI, 8192, .inl m_worth_11)), (a_M_least, .inl (cI, 8192, .inl (upd m_least_h172 (ix r191) y246)))] 0 0 267 [(0, .ref a_M), (1, .int p0), (3, .int x3_h95), (4, .int x4_h109), (5, .int x5_h117), (6, .int y167), (7, .int x7_h172)] [.int y267, .int x2_h172]) ?_ ?_
                                                · intro y267 h
                                                  refine q_ior (pc := 267) F dX5_who_267 ?_
                                                  refine q_topi (fun x2_268 ex2_268 => ?_)
                                                  have h := h x2_268 ex2_268
                                                  refine q_istore_n (pc := 268) F (lv' := [(2, .int x2_268), (0, .ref a_M), (1, .int p0), (3, .int x3_h95), (4, .int x4_h109), (5, .int x5_h117), (6, .int y167), (7, .int x7_h172)]) dX5_who_268 (by decide) rfl ?_
                                                  refine q_iinc (pc := 269) F (v := x7_h172 + (1 : Int32)) (lv' := [(7, .int (x7_h172 + (1 : Int32))), (2, .int x2_268), (0, .ref a_M), (1, .int p0), (3, .int x3_h95), (4, .int x4_h109), (5, .int x5_h117), (6, .int y167)]) 7 dX5_who_269 rfl rfl (by decide) rfl ?_
                                                  refine q_goto (pc := 272) (tgt := 172) F dX5_who_272 (by decide) ?_
                                                  refine q_lv (lv' := [(0, .ref a_M), (1, .int p0), (2, .int x2_268), (3, .int x3_h95), (4, .int x4_h109), (5, .int x5_h117), (6, .int y167), (7, .int (x7_h172 + (1 : Int32)))]) [2, 3, 1, 4, 5, 6, 7, 0] rfl ?_
                                                  exact ih x2_268 (x7_h172 + (1 : Int32)) (upd m_least_h172 (ix r191) y246) h
                                                · intro K267 J267 h
                                                  refine jnW h (fun K => K → Wg E [(a_M, .inr (5, [.long m_trace, .ref a_M_text, .int m_typed, .ref a_M_told, .ref a_M_draft, .ref a_M_s, .ref a_M_images, .ref a_M_kept, .int m_at, .int m_sort, .int m_start, .int m_size, .ref a_M_light, .ref a_M_may, .ref a_M_shine, .ref a_M_worth, .ref a_M_least])), (a_M_told, .inl (cI, 43, .inl m_told)), (a_M_s, .inl (cI, 38, .inl m_s)), (a_M_light, .inl (cI, 128, .inl m_light_11)), (a_M_may, .inl (cI, 128, .inl m_may_11)), (a_M_shine, .inl (cI, 7, .inl m_shine_11)), (a_M_worth, .inl (cI, 8192, .inl m_worth_11)), (a_M_least, .inl (cI, 8192, .inl (upd m_least_h172 (ix r191) y246)))] 0 0 266 [(0, .ref a_M), (1, .int p0), (3, .int x3_h95), (4, .int x4_h109), (5, .int x5_h117), (6, .int y167), (7, .int x7_h172)] [.int x2_h172]) ?_ ?_
                                                  · intro h
                                                    refine q_iconst (pc := 266) F (v := 0) dX5_who_266 (by decide) ?_
                                                    exact J267 (0 : Int32) h
                                                  · intro K266 J266 h
                                                    refine q_if_eq (pc := 250) (tgt := 266) F dX5_who_250 (by decide) (fun c250 => ?_) (fun c250 => ?_)
                                                    · have h := h.1 c250
                                                      refine q_lv (lv' := [(0, .ref a_M), (1, .int p0), (3, .int x3_h95), (4, .int x4_h109), (5, .int x5_h117), (6, .int y167), (7, .int x7_h172)]) [0, 1, 3, 4, 5, 6, 7] rfl ?_
                                                      exact J266 h
                                                    · have h := h.2 c250
                                                      refine q_iload (pc := 253) F 7 dX5_who_253 rfl ?_
                                                      refine q_iload_n (pc := 255) F 1 dX5_who_255 rfl ?_
                                                      refine q_icmp_ne (pc := 256) (tgt := 266) F dX5_who_256 (by decide) (fun c256 => ?_) (fun c256 => ?_)
                                                      · have h := h.2 c256
                                                        refine q_lv (lv' := [(0, .ref a_M), (1, .int p0), (3, .int x3_h95), (4, .int x4_h109), (5, .int x5_h117), (6, .int y167), (7, .int x7_h172)]) [0, 1, 3, 4, 5, 6, 7] rfl ?_
                                                        exact J266 h
                                                      · have h := h.1 c256
                                                        refine q_iconst (pc := 259) F (v := 1) dX5_who_259 (by decide) ?_
                                                        refine q_iload (pc := 260) F 5 dX5_who_260 rfl ?_
                                                        refine q_ishl (pc := 262) F dX5_who_262 ?_
                                                        refine q_goto (pc := 263) (tgt := 267) F dX5_who_263 (by decide) ?_
                                                        refine q_lv (lv' := [(0, .ref a_M), (1, .int p0), (3, .int x3_h95), (4, .int x4_h109), (5, .int x5_h117), (6, .int y167), (7, .int x7_h172)]) [0, 1, 3, 4, 5, 6, 7] rfl ?_
                                                        exact J267 (jshl (1 : Int32) x5_h117) h
                                              · intro K246 J246 h
                                                refine q_if_eq (pc := 232) (tgt := 239) F dX5_who_232 (by decide) (fun c232 => ?_) (fun c232 => ?_)
                                                · have h := h.1 c232
                                                  refine q_aload_n (pc := 239) F 1 dX5_who_239 rfl ?_
                                                  refine q_get (pc := 240) F fgX5_41 0 rfl rfl dX5_who_240 ?_
                                                  refine q_iload (pc := 243) F 9 dX5_who_243 rfl ?_
                                                  obtain ⟨hi245, h⟩ := h
                                                  refine q_iald (pc := 245) F 7 rfl hi245 dX5_who_245 ?_
                                                  refine q_lv (lv' := [(0, .ref a_M), (1, .int p0), (2, .int x2_h172), (3, .int x3_h95), (4, .int x4_h109), (5, .int x5_h117), (6, .int y167), (7, .int x7_h172), (9, .int y222)]) [1, 2, 3, 4, 5, 6, 7, 8, 0] rfl ?_
                                                  exact J246 (m_least_h172 (ix r191)) h
                                                · have h := h.2 c232
                                                  refine q_iconst (pc := 235) F (v := 1) dX5_who_235 (by decide) ?_
                                                  refine q_goto (pc := 236) (tgt := 246) F dX5_who_236 (by decide) ?_
                                                  refine q_lv (lv' := [(0, .ref a_M), (1, .int p0), (2, .int x2_h172), (3, .int x3_h95), (4, .int x4_h109), (5, .int x5_h117), (6, .int y167), (7, .int x7_h172), (9, .int y222)]) [1, 2, 3, 4, 5, 6, 7, 8, 0] rfl ?_
                                                  exact J246 (1 : Int32) h
                                            · intro K222 J222 h
                                              refine jnW h (fun K => K → Wg E [(a_M, .inr (5, [.long m_trace, .ref a_M_text, .int m_typed, .ref a_M_told, .ref a_M_draft, .ref a_M_s, .ref a_M_images, .ref a_M_kept, .int m_at, .int m_sort, .int m_start, .int m_size, .ref a_M_light, .ref a_M_may, .ref a_M_shine, .ref a_M_worth, .ref a_M_least])), (a_M_told, .inl (cI, 43, .inl m_told)), (a_M_s, .inl (cI, 38, .inl m_s)), (a_M_light, .inl (cI, 128, .inl m_light_11)), (a_M_may, .inl (cI, 128, .inl m_may_11)), (a_M_shine, .inl (cI, 7, .inl m_shine_11)), (a_M_worth, .inl (cI, 8192, .inl m_worth_11)), (a_M_least, .inl (cI, 8192, .inl m_least_h172))] 0 0 221 [(0, .ref a_M), (1, .int p0), (2, .int x2_h172), (3, .int x3_h95), (4, .int x4_h109), (5, .int x5_h117), (6, .int y167), (7, .int x7_h172), (8, .int r191)] []) ?_ ?_
                                              · intro h
                                                refine q_iconst (pc := 221) F (v := 0) dX5_who_221 (by decide) ?_
                                                exact J222 (0 : Int32) h
                                              · intro K221 J221 h
                                                refine q_icmp_ne (pc := 204) (tgt := 221) F dX5_who_204 (by decide) (fun c204 => ?_) (fun c204 => ?_)
                                                · have h := h.2 c204
                                                  refine q_lv (lv' := [(0, .ref a_M), (1, .int p0), (2, .int x2_h172), (3, .int x3_h95), (4, .int x4_h109), (5, .int x5_h117), (6, .int y167), (7, .int x7_h172), (8, .int r191)]) [1, 2, 3, 4, 5, 6, 7, 8, 0] rfl ?_
                                                  exact J221 h
                                                · have h := h.1 c204
                                                  refine q_aload_n (pc := 207) F 1 dX5_who_207 rfl ?_
                                                  refine q_get (pc := 208) F fgX5_38 0 rfl rfl dX5_who_208 ?_
                                                  refine q_iload (pc := 211) F 0 dX5_who_211 rfl ?_
                                                  obtain ⟨hi213, h⟩ := h
                                                  refine q_iald (pc := 213) F 6 rfl hi213 dX5_who_213 ?_
                                                  refine q_if_le (pc := 214) (tgt := 221) F dX5_who_214 (by decide) (fun c214 => ?_) (fun c214 => ?_)
                                                  · have h := h.1 c214
                                                    refine q_lv (lv' := [(0, .ref a_M), (1, .int p0), (2, .int x2_h172), (3, .int x3_h95), (4, .int x4_h109), (5, .int x5_h117), (6, .int y167), (7, .int x7_h172), (8, .int r191)]) [1, 2, 3, 4, 5, 6, 7, 8, 0] rfl ?_
                                                    exact J221 h
                                                  · have h := h.2 c214
                                                    refine q_iconst (pc := 217) F (v := 1) dX5_who_217 (by decide) ?_
                                                    refine q_goto (pc := 218) (tgt := 222) F dX5_who_218 (by decide) ?_
                                                    refine q_lv (lv' := [(0, .ref a_M), (1, .int p0), (2, .int x2_h172), (3, .int x3_h95), (4, .int x4_h109), (5, .int x5_h117), (6, .int y167), (7, .int x7_h172), (8, .int r191)]) [1, 2, 3, 4, 5, 6, 7, 8, 0] rfl ?_
                                                    exact J222 (1 : Int32) h
                                    refine q_lv (lv' := [(0, .ref a_M), (1, .int p0), (2, .int x2_h117), (3, .int x3_h95), (4, .int x4_h109), (5, .int x5_h117), (6, .int y167), (7, .int (0 : Int32))]) [2, 3, 4, 5, 6, 7, 1, 0] rfl ?_
                                    exact lp172 n172 x2_h117 (0 : Int32) m_least_h117 h
                                · intro K167 J167 h
                                  refine q_if_eq (pc := 159) (tgt := 166) F dX5_who_159 (by decide) (fun c159 => ?_) (fun c159 => ?_)
                                  · have h := h.1 c159
                                    refine q_iconst (pc := 166) F (v := 0) dX5_who_166 (by decide) ?_
                                    exact J167 (0 : Int32) h
                                  · have h := h.2 c159
                                    refine q_iconst (pc := 162) F (v := 1) dX5_who_162 (by decide) ?_
                                    refine q_goto (pc := 163) (tgt := 167) F dX5_who_163 (by decide) ?_
                                    exact J167 (1 : Int32) h
                        refine q_lv (lv' := [(0, .ref a_M), (1, .int p0), (2, .int x2_h109), (3, .int x3_h95), (4, .int x4_h109), (5, .int (0 : Int32))]) [1, 2, 3, 4, 5, 0] rfl ?_
                        exact lp117 n117 x2_h109 (0 : Int32) m_least_h109 h
                refine q_lv (lv' := [(0, .ref a_M), (1, .int p0), (2, .int x2_h95), (3, .int x3_h95), (4, .int r104)]) [1, 2, 3, 4, 0] rfl ?_
                exact lp109 n109 x2_h95 r104 m_least_h95 h
        refine q_lv (lv' := [(0, .ref a_M), (1, .int p0), (2, .int (0 : Int32)), (3, .int (0 : Int32))]) [2, 3, 1, 0] rfl ?_
        exact lp95 n95 (0 : Int32) (0 : Int32) (upd m_least_57 (ix r66) y90) h
      · intro K90 J90 h
        refine q_if_le (pc := 82) (tgt := 89) F dX5_who_82 (by decide) (fun c82 => ?_) (fun c82 => ?_)
        · have h := h.1 c82
          refine q_iconst (pc := 89) F (v := 0) dX5_who_89 (by decide) ?_
          exact J90 (0 : Int32) h
        · have h := h.2 c82
          refine q_iconst (pc := 85) F (v := 1) dX5_who_85 (by decide) ?_
          refine q_goto (pc := 86) (tgt := 90) F dX5_who_86 (by decide) ?_
          exact J90 (1 : Int32) h
    · intro K57 J57 h
      obtain ⟨n16, h⟩ := h
      have lp16 : ∀ (n : Nat) (x2_h16 : Int32) (m_least_h16 : Nat → Int32), wp_X5_who_L16 m_told K57 n x2_h16 m_least_h16 → Wg E [(a_M, .inr (5, [.long m_trace, .ref a_M_text, .int m_typed, .ref a_M_told, .ref a_M_draft, .ref a_M_s, .ref a_M_images, .ref a_M_kept, .int m_at, .int m_sort, .int m_start, .int m_size, .ref a_M_light, .ref a_M_may, .ref a_M_shine, .ref a_M_worth, .ref a_M_least])), (a_M_told, .inl (cI, 43, .inl m_told)), (a_M_s, .inl (cI, 38, .inl m_s)), (a_M_light, .inl (cI, 128, .inl m_light_11)), (a_M_may, .inl (cI, 128, .inl m_may_11)), (a_M_shine, .inl (cI, 7, .inl m_shine_11)), (a_M_worth, .inl (cI, 8192, .inl m_worth_11)), (a_M_least, .inl (cI, 8192, .inl m_least_h16))] 0 0 16 [(0, .ref a_M), (1, .int p0), (2, .int x2_h16)] [] := by
        intro n
        induction n with
        | zero => intro x2_h16 m_least_h16 h; exact h.elim
        | succ n ih =>
          intro x2_h16 m_least_h16 h
          unfold wp_X5_who_L16 at h
          refine q_iload_n (pc := 16) F 2 dX5_who_16 rfl ?_
          refine q_aload_n (pc := 17) F 0 dX5_who_17 rfl ?_
          refine q_cR (q_runV (As := []) (rest := [.int x2_h16]) (pc := 18) F (fun l sz => ct_X5_all D cI cZ a_M a_M_text a_M_told a_M_draft a_M_s a_M_images a_M_kept a_M_light a_M_may a_M_shine a_M_worth a_M_least m_trace m_typed m_at m_sort m_start m_size m_told h l sz) mc_yX5_all im_yX5_all se_yX5_all mlX5_165 ⟨by decide, by decide⟩ ⟨by decide, by decide⟩ ⟨rfl, rfl⟩ [0, 1] rfl rfl rfl 0 rfl rfl rfl (Nat.le_of_ble_eq_true rfl) dX5_who_18) (fun r18 h => ?_)
          refine q_icmp_gt (pc := 21) (tgt := 57) F dX5_who_21 (by decide) (fun c21 => ?_) (fun c21 => ?_)
          · have h := h.1 c21
            refine q_lv (lv' := [(0, .ref a_M), (1, .int p0)]) [0, 1] rfl ?_
            exact J57 m_least_h16 h
          · have h := h.2 c21
            refine q_iconst (pc := 24) F (v := 0) dX5_who_24 (by decide) ?_
            refine q_istore_n (pc := 25) F (lv' := [(3, .int (0 : Int32)), (0, .ref a_M), (1, .int p0), (2, .int x2_h16)]) dX5_who_25 (by decide) rfl ?_
            refine jnW h (fun K => ∀ (m_least_51 : Nat → Int32), K m_least_51 → Wg E [(a_M, .inr (5, [.long m_trace, .ref a_M_text, .int m_typed, .ref a_M_told, .ref a_M_draft, .ref a_M_s, .ref a_M_images, .ref a_M_kept, .int m_at, .int m_sort, .int m_start, .int m_size, .ref a_M_light, .ref a_M_may, .ref a_M_shine, .ref a_M_worth, .ref a_M_least])), (a_M_told, .inl (cI, 43, .inl m_told)), (a_M_s, .inl (cI, 38, .inl m_s)), (a_M_light, .inl (cI, 128, .inl m_light_11)), (a_M_may, .inl (cI, 128, .inl m_may_11)), (a_M_shine, .inl (cI, 7, .inl m_shine_11)), (a_M_worth, .inl (cI, 8192, .inl m_worth_11)), (a_M_least, .inl (cI, 8192, .inl m_least_51))] 0 0 51 [(0, .ref a_M), (1, .int p0), (2, .int x2_h16)] []) ?_ ?_
            · intro m_least_51 h
              refine q_iinc (pc := 51) F (v := x2_h16 + (1 : Int32)) (lv' := [(2, .int (x2_h16 + (1 : Int32))), (0, .ref a_M), (1, .int p0)]) 2 dX5_who_51 rfl rfl (by decide) rfl ?_
              refine q_goto (pc := 54) (tgt := 16) F dX5_who_54 (by decide) ?_
              refine q_lv (lv' := [(0, .ref a_M), (1, .int p0), (2, .int (x2_h16 + (1 : Int32)))]) [1, 2, 0] rfl ?_
              exact ih (x2_h16 + (1 : Int32)) m_least_51 h
            · intro K51 J51 h
              obtain ⟨n26, h⟩ := h
              have lp26 : ∀ (n : Nat) (x3_h26 : Int32) (m_least_h26 : Nat → Int32), wp_X5_who_L26 x2_h16 m_told K51 n x3_h26 m_least_h26 → Wg E [(a_M, .inr (5, [.long m_trace, .ref a_M_text, .int m_typed, .ref a_M_told, .ref a_M_draft, .ref a_M_s, .ref a_M_images, .ref a_M_kept, .int m_at, .int m_sort, .int m_start, .int m_size, .ref a_M_light, .ref a_M_may, .ref a_M_shine, .ref a_M_worth, .ref a_M_least])), (a_M_told, .inl (cI, 43, .inl m_told)), (a_M_s, .inl (cI, 38, .inl m_s)), (a_M_light, .inl (cI, 128, .inl m_light_11)), (a_M_may, .inl (cI, 128, .inl m_may_11)), (a_M_shine, .inl (cI, 7, .inl m_shine_11)), (a_M_worth, .inl (cI, 8192, .inl m_worth_11)), (a_M_least, .inl (cI, 8192, .inl m_least_h26))] 0 0 26 [(0, .ref a_M), (1, .int p0), (2, .int x2_h16), (3, .int x3_h26)] [] := by
                intro n
                induction n with
                | zero => intro x3_h26 m_least_h26 h; exact h.elim
                | succ n ih =>
                  intro x3_h26 m_least_h26 h
                  unfold wp_X5_who_L26 at h
                  refine q_iload_n (pc := 26) F 3 dX5_who_26 rfl ?_
                  refine q_aload_n (pc := 27) F 0 dX5_who_27 rfl ?_
                  refine q_cR (q_runV (As := []) (rest := [.int x3_h26]) (pc := 28) F (fun l sz => ct_X5_allLit D cI cZ a_M a_M_text a_M_told a_M_draft a_M_s a_M_images a_M_kept a_M_light a_M_may a_M_shine a_M_worth a_M_least m_trace m_typed m_at m_sort m_start m_size m_told h l sz) mc_yX5_allLit im_yX5_allLit se_yX5_allLit mlX5_128 ⟨by decide, by decide⟩ ⟨by decide, by decide⟩ ⟨rfl, rfl⟩ [0, 1] rfl rfl rfl 0 rfl rfl rfl (Nat.le_of_ble_eq_true rfl) dX5_who_28) (fun r28 h => ?_)
                  refine q_icmp_gt (pc := 31) (tgt := 51) F dX5_who_31 (by decide) (fun c31 => ?_) (fun c31 => ?_)
                  · have h := h.1 c31
                    refine q_lv (lv' := [(0, .ref a_M), (1, .int p0), (2, .int x2_h16)]) [0, 1, 2] rfl ?_
                    exact J51 m_least_h26 h
                  · have h := h.2 c31
                    refine q_aload_n (pc := 34) F 0 dX5_who_34 rfl ?_
                    refine q_get (pc := 35) F fgX5_41 0 rfl rfl dX5_who_35 ?_
                    refine q_iload_n (pc := 38) F 2 dX5_who_38 rfl ?_
                    refine q_iload_n (pc := 39) F 3 dX5_who_39 rfl ?_
                    refine q_cR (q_runS (As := [.int x2_h16, .int x3_h26]) (rest := [.ref a_M_least]) (pc := 40) F (fun l sz => ct_X5_state D cI cZ x2_h16 x3_h26 h l sz) mc_yX5_state sm_yX5_state mlX5_162 ⟨by decide, by decide⟩ ⟨by decide, by decide⟩ ⟨rfl, rfl⟩ [] rfl rfl rfl rfl (Nat.le_of_ble_eq_true rfl) dX5_who_40) (fun r40 h => ?_)
                    refine q_iconst (pc := 43) F (v := 0) dX5_who_43 (by decide) ?_
                    obtain ⟨hi44, h⟩ := h
                    refine q_iast (pc := 44) F M (cs' := [(a_M, .inr (5, [.long m_trace, .ref a_M_text, .int m_typed, .ref a_M_told, .ref a_M_draft, .ref a_M_s, .ref a_M_images, .ref a_M_kept, .int m_at, .int m_sort, .int m_start, .int m_size, .ref a_M_light, .ref a_M_may, .ref a_M_shine, .ref a_M_worth, .ref a_M_least])), (a_M_told, .inl (cI, 43, .inl m_told)), (a_M_s, .inl (cI, 38, .inl m_s)), (a_M_light, .inl (cI, 128, .inl m_light_11)), (a_M_may, .inl (cI, 128, .inl m_may_11)), (a_M_shine, .inl (cI, 7, .inl m_shine_11)), (a_M_worth, .inl (cI, 8192, .inl m_worth_11)), (a_M_least, .inl (cI, 8192, .inl (upd m_least_h26 (ix r40) (0 : Int32))))]) 7 rfl hi44 rfl dX5_who_44 ?_
                    refine q_iinc (pc := 45) F (v := x3_h26 + (1 : Int32)) (lv' := [(3, .int (x3_h26 + (1 : Int32))), (0, .ref a_M), (1, .int p0), (2, .int x2_h16)]) 3 dX5_who_45 rfl rfl (by decide) rfl ?_
                    refine q_goto (pc := 48) (tgt := 26) F dX5_who_48 (by decide) ?_
                    refine q_lv (lv' := [(0, .ref a_M), (1, .int p0), (2, .int x2_h16), (3, .int (x3_h26 + (1 : Int32)))]) [1, 2, 3, 0] rfl ?_
                    exact ih (x3_h26 + (1 : Int32)) (upd m_least_h26 (ix r40) (0 : Int32)) h
              refine q_lv (lv' := [(0, .ref a_M), (1, .int p0), (2, .int x2_h16), (3, .int (0 : Int32))]) [1, 2, 3, 0] rfl ?_
              exact lp26 n26 (0 : Int32) m_least_h16 h
      refine q_lv (lv' := [(0, .ref a_M), (1, .int p0), (2, .int (0 : Int32))]) [1, 2, 0] rfl ?_
      exact lp16 n16 (0 : Int32) m_least h
  · have h := h.1 c5
    refine q_iconst (pc := 8) F (v := -1) dX5_who_8 (by decide) ?_
    exact q_iretM (pc := 9) F Z dX5_who_9 (m_light, m_may, m_shine, m_worth, m_least) h rfl

def wp_X5_mark (p0 : Int32) (p1 : Int32) (m_trace : Int64) (m_told : Nat → Int32) (m_s : Nat → Int32) (post : Int32 → Int64 → Prop) : Prop := (wp_X5_in p0 (0 : Int32) (5 : Int32) (fun (r3 : Int32) => ((r3 = (0 : Int32) → post (-1000000 : Int32) m_trace) ∧ (¬ r3 = (0 : Int32) → (wp_X5_isPerson p1 m_told (fun (r11 : Int32) => ((r11 = (0 : Int32) → post (-1000000 : Int32) m_trace) ∧ (¬ r11 = (0 : Int32) → (jn (fun (K80 : Int64 → Prop) => ((p0 = (0 : Int32) → K80 (1 : Int64)) ∧ (¬ p0 = (0 : Int32) → ((p0 = (1 : Int32) → K80 (11 : Int64)) ∧ (¬ p0 = (1 : Int32) → ((p0 = (2 : Int32) → K80 (101 : Int64)) ∧ (¬ p0 = (2 : Int32) → ((p0 = (3 : Int32) → K80 (1011 : Int64)) ∧ (¬ p0 = (3 : Int32) → ((p0 = (4 : Int32) → K80 (10101 : Int64)) ∧ (¬ p0 = (4 : Int32) → K80 (100001 : Int64)))))))))))) (fun (y80 : Int64) => (vp_in ((25 : Int32) + p1) 43 ∧ (∀ x4_102 : Int32, x4_102 = (m_told (ix ((25 : Int32) + p1))) + (m_s 0) → (wp_X5_lit m_told m_s (fun (r106 : Int32) => (wp_X5_ones r106 (fun (r109 : Int32) => (∀ x5_113 : Int32, x5_113 = (m_told (ix ((25 : Int32) + p1))) + r109 → ((p0 = (0 : Int32) → post (m_told (ix ((25 : Int32) + p1))) (m_trace + y80)) ∧ (¬ p0 = (0 : Int32) → ((p0 = (1 : Int32) → post x4_102 (m_trace + y80)) ∧ (¬ p0 = (1 : Int32) → ((p0 = (2 : Int32) → post x5_113 (m_trace + y80)) ∧ (¬ p0 = (2 : Int32) → ((p0 = (3 : Int32) → post ((2 : Int32) * x4_102) (m_trace + y80)) ∧ (¬ p0 = (3 : Int32) → ((p0 = (4 : Int32) → (vp_in ((19 : Int32) + p1) 43 ∧ post (x5_113 - (m_told (ix ((19 : Int32) + p1)))) (m_trace + y80))) ∧ (¬ p0 = (4 : Int32) → (vp_in ((31 : Int32) + p1) 43 ∧ post ((m_told (ix ((25 : Int32) + p1))) + (m_told (ix ((31 : Int32) + p1)))) (m_trace + y80)))))))))))))))))))))))))))))
abbrev rm_X5_mark : Room := { frames := 2, cells := 0, slots := 0, locals := 43 }
set_option maxRecDepth 100000 in
set_option maxHeartbeats 4000000 in
theorem ct_X5_mark (D : va_G) (cI cZ : ClassId) (a_M a_M_text a_M_told a_M_draft a_M_s a_M_images a_M_kept a_M_light a_M_may a_M_shine a_M_worth a_M_least : Nat) (m_trace : Int64) (m_typed : Int32) (m_at : Int32) (m_sort : Int32) (m_start : Int32) (m_size : Int32) (m_told : Nat → Int32) (m_s : Nat → Int32) (p0 : Int32) (p1 : Int32) {post : Int32 → Int64 → Prop} (h : wp_X5_mark p0 p1 m_trace m_told m_s post) (l : Launch) (sz : Nat) : Met l yX5_mark (wsM yX5_mark cX5_mark 6 (some .int)) rm_X5_mark (va_Pc [.ref a_M, .int p0, .int p1] (gP D cI cZ [(a_M, .inr (5, [.long m_trace, .ref a_M_text, .int m_typed, .ref a_M_told, .ref a_M_draft, .ref a_M_s, .ref a_M_images, .ref a_M_kept, .int m_at, .int m_sort, .int m_start, .int m_size, .ref a_M_light, .ref a_M_may, .ref a_M_shine, .ref a_M_worth, .ref a_M_least])), (a_M_told, .inl (cI, 43, .inl m_told)), (a_M_s, .inl (cI, 38, .inl m_s))] sz)) (gQi D (fun r (u : Int64) => post r u) (fun (u : Int64) => [(a_M, .inr (5, [.long u, .ref a_M_text, .int m_typed, .ref a_M_told, .ref a_M_draft, .ref a_M_s, .ref a_M_images, .ref a_M_kept, .int m_at, .int m_sort, .int m_start, .int m_size, .ref a_M_light, .ref a_M_may, .ref a_M_shine, .ref a_M_worth, .ref a_M_least])), (a_M_told, .inl (cI, 43, .inl m_told)), (a_M_s, .inl (cI, 38, .inl m_s))]) [(a_M, .inr (5, [.long m_trace, .ref a_M_text, .int m_typed, .ref a_M_told, .ref a_M_draft, .ref a_M_s, .ref a_M_images, .ref a_M_kept, .int m_at, .int m_sort, .int m_start, .int m_size, .ref a_M_light, .ref a_M_may, .ref a_M_shine, .ref a_M_worth, .ref a_M_least])), (a_M_told, .inl (cI, 43, .inl m_told)), (a_M_s, .inl (cI, 38, .inl m_s))] sz) 0 0 (va_A [(a_M, .inr (5, [.long m_trace, .ref a_M_text, .int m_typed, .ref a_M_told, .ref a_M_draft, .ref a_M_s, .ref a_M_images, .ref a_M_kept, .int m_at, .int m_sort, .int m_start, .int m_size, .ref a_M_light, .ref a_M_may, .ref a_M_shine, .ref a_M_worth, .ref a_M_least])), (a_M_told, .inl (cI, 43, .inl m_told)), (a_M_s, .inl (cI, 38, .inl m_s))] sz) := by
  refine q_startM (own := RX5) (Qc := gQi D (fun r (u : Int64) => post r u) (fun (u : Int64) => [(a_M, .inr (5, [.long u, .ref a_M_text, .int m_typed, .ref a_M_told, .ref a_M_draft, .ref a_M_s, .ref a_M_images, .ref a_M_kept, .int m_at, .int m_sort, .int m_start, .int m_size, .ref a_M_light, .ref a_M_may, .ref a_M_shine, .ref a_M_worth, .ref a_M_least])), (a_M_told, .inl (cI, 43, .inl m_told)), (a_M_s, .inl (cI, 38, .inl m_s))]) [(a_M, .inr (5, [.long m_trace, .ref a_M_text, .int m_typed, .ref a_M_told, .ref a_M_draft, .ref a_M_s, .ref a_M_images, .ref a_M_kept, .int m_at, .int m_sort, .int m_start, .int m_size, .ref a_M_light, .ref a_M_may, .ref a_M_shine, .ref a_M_worth, .ref a_M_least])), (a_M_told, .inl (cI, 43, .inl m_told)), (a_M_s, .inl (cI, 38, .inl m_s))]) (by decide +kernel) rfl (Nat.le_of_ble_eq_true rfl) (fun E F Z M => ?_)
  show Wg E [(a_M, .inr (5, [.long m_trace, .ref a_M_text, .int m_typed, .ref a_M_told, .ref a_M_draft, .ref a_M_s, .ref a_M_images, .ref a_M_kept, .int m_at, .int m_sort, .int m_start, .int m_size, .ref a_M_light, .ref a_M_may, .ref a_M_shine, .ref a_M_worth, .ref a_M_least])), (a_M_told, .inl (cI, 43, .inl m_told)), (a_M_s, .inl (cI, 38, .inl m_s))] 0 0 0 [(0, .ref a_M), (1, .int p0), (2, .int p1)] []
  unfold wp_X5_mark at h
  refine q_iload_n (pc := 0) F 1 dX5_mark_0 rfl ?_
  refine q_iconst (pc := 1) F (v := 0) dX5_mark_1 (by decide) ?_
  refine q_iconst (pc := 2) F (v := 5) dX5_mark_2 (by decide) ?_
  refine q_cR (q_runS (As := [.int p0, .int (0 : Int32), .int (5 : Int32)]) (rest := []) (pc := 3) F (fun l sz => ct_X5_in D cI cZ p0 (0 : Int32) (5 : Int32) h l sz) mc_yX5_in sm_yX5_in mlX5_48 ⟨by decide, by decide⟩ ⟨by decide, by decide⟩ ⟨rfl, rfl⟩ [] rfl rfl rfl rfl (Nat.le_of_ble_eq_true rfl) dX5_mark_3) (fun r3 h => ?_)
  obtain ⟨hb3, h⟩ := h
  refine q_if_eq (pc := 6) (tgt := 17) F dX5_mark_6 (by decide) (fun c6 => ?_) (fun c6 => ?_)
  · have h := h.1 c6
    refine q_ldc (pc := 17) F kX5_191 dX5_mark_17 ?_
    exact q_iretM (pc := 19) F Z dX5_mark_19 m_trace h rfl
  · have h := h.2 c6
    refine q_aload_n (pc := 9) F 0 dX5_mark_9 rfl ?_
    refine q_iload_n (pc := 10) F 2 dX5_mark_10 rfl ?_
    refine q_cR (q_runV (As := [.int p1]) (rest := []) (pc := 11) F (fun l sz => ct_X5_isPerson D cI cZ a_M a_M_text a_M_told a_M_draft a_M_s a_M_images a_M_kept a_M_light a_M_may a_M_shine a_M_worth a_M_least m_trace m_typed m_at m_sort m_start m_size m_told p1 h l sz) mc_yX5_isPerson im_yX5_isPerson se_yX5_isPerson mlX5_156 ⟨by decide, by decide⟩ ⟨by decide, by decide⟩ ⟨rfl, rfl⟩ [0, 1] rfl rfl rfl 0 rfl rfl rfl (Nat.le_of_ble_eq_true rfl) dX5_mark_11) (fun r11 h => ?_)
    obtain ⟨hb11, h⟩ := h
    refine q_if_ne (pc := 14) (tgt := 20) F dX5_mark_14 (by decide) (fun c14 => ?_) (fun c14 => ?_)
    · have h := h.2 c14
      refine q_aload_n (pc := 20) F 0 dX5_mark_20 rfl ?_
      refine q_dup (pc := 21) F dX5_mark_21 rfl ?_
      refine q_get (pc := 22) F fgX5_192 0 rfl rfl dX5_mark_22 ?_
      refine q_iload_n (pc := 25) F 1 dX5_mark_25 rfl ?_
      refine jnW h (fun K => ∀ (y80 : Int64), K y80 → Wg E [(a_M, .inr (5, [.long m_trace, .ref a_M_text, .int m_typed, .ref a_M_told, .ref a_M_draft, .ref a_M_s, .ref a_M_images, .ref a_M_kept, .int m_at, .int m_sort, .int m_start, .int m_size, .ref a_M_light, .ref a_M_may, .ref a_M_shine, .ref a_M_worth, .ref a_M_least])), (a_M_told, .inl (cI, 43, .inl m_told)), (a_M_s, .inl (cI, 38, .inl m_s))] 0 0 80 [(0, .ref a_M), (1, .int p0), (2, .int p1)] [.long y80, .long m_trace, .ref a_M]) ?_ ?_
      · intro y80 h
        refine q_ladd (pc := 80) F dX5_mark_80 ?_
        refine q_put (pc := 81) F M (cs' := [(a_M, .inr (5, [.long (m_trace + y80), .ref a_M_text, .int m_typed, .ref a_M_told, .ref a_M_draft, .ref a_M_s, .ref a_M_images, .ref a_M_kept, .int m_at, .int m_sort, .int m_start, .int m_size, .ref a_M_light, .ref a_M_may, .ref a_M_shine, .ref a_M_worth, .ref a_M_least])), (a_M_told, .inl (cI, 43, .inl m_told)), (a_M_s, .inl (cI, 38, .inl m_s))]) fpX5_192 0 rfl rfl rfl (Nat.le_of_ble_eq_true rfl) rfl dX5_mark_81 ?_
        refine q_aload_n (pc := 84) F 0 dX5_mark_84 rfl ?_
        refine q_get (pc := 85) F fgX5_13 0 rfl rfl dX5_mark_85 ?_
        refine q_bipush (pc := 88) F (v := 25) dX5_mark_88 (by decide) ?_
        refine q_iload_n (pc := 90) F 2 dX5_mark_90 rfl ?_
        refine q_iadd (pc := 91) F dX5_mark_91 ?_
        obtain ⟨hi92, h⟩ := h
        refine q_iald (pc := 92) F 1 rfl hi92 dX5_mark_92 ?_
        refine q_istore_n (pc := 93) F (lv' := [(3, .int (m_told (ix ((25 : Int32) + p1)))), (0, .ref a_M), (1, .int p0), (2, .int p1)]) dX5_mark_93 (by decide) rfl ?_
        refine q_iload_n (pc := 94) F 0 dX5_mark_94 rfl ?_
        refine q_aload_n (pc := 95) F 1 dX5_mark_95 rfl ?_
        refine q_get (pc := 96) F fgX5_19 0 rfl rfl dX5_mark_96 ?_
        refine q_iconst (pc := 99) F (v := 0) dX5_mark_99 (by decide) ?_
        refine q_ialdk (pc := 100) F (k9 := 0) 2 rfl (vpd (by decide +kernel)) (by decide +kernel) dX5_mark_100 ?_
        refine q_iadd (pc := 101) F dX5_mark_101 ?_
        refine q_topi (fun x4_102 ex4_102 => ?_)
        have h := h x4_102 ex4_102
        refine q_istore (pc := 102) F (lv' := [(4, .int x4_102), (3, .int (m_told (ix ((25 : Int32) + p1)))), (0, .ref a_M), (1, .int p0), (2, .int p1)]) dX5_mark_102 (by decide) rfl ?_
        refine q_iload_n (pc := 104) F 1 dX5_mark_104 rfl ?_
        refine q_aload_n (pc := 105) F 2 dX5_mark_105 rfl ?_
        refine q_cR (q_runV (As := []) (rest := [.int (m_told (ix ((25 : Int32) + p1)))]) (pc := 106) F (fun l sz => ct_X5_lit D cI cZ a_M a_M_text a_M_told a_M_draft a_M_s a_M_images a_M_kept a_M_light a_M_may a_M_shine a_M_worth a_M_least (m_trace + y80) m_typed m_at m_sort m_start m_size m_told m_s h l sz) mc_yX5_lit im_yX5_lit se_yX5_lit mlX5_150 ⟨by decide, by decide⟩ ⟨by decide, by decide⟩ ⟨rfl, rfl⟩ [0, 1, 2] rfl rfl rfl 0 rfl rfl rfl (Nat.le_of_ble_eq_true rfl) dX5_mark_106) (fun r106 h => ?_)
        refine q_cR (q_runS (As := [.int r106]) (rest := [.int (m_told (ix ((25 : Int32) + p1)))]) (pc := 109) F (fun l sz => ct_X5_ones D cI cZ r106 h l sz) mc_yX5_ones sm_yX5_ones mlX5_175 ⟨by decide, by decide⟩ ⟨by decide, by decide⟩ ⟨rfl, rfl⟩ [] rfl rfl rfl rfl (Nat.le_of_ble_eq_true rfl) dX5_mark_109) (fun r109 h => ?_)
        refine q_iadd (pc := 112) F dX5_mark_112 ?_
        refine q_topi (fun x5_113 ex5_113 => ?_)
        have h := h x5_113 ex5_113
        refine q_istore (pc := 113) F (lv' := [(5, .int x5_113), (4, .int x4_102), (3, .int (m_told (ix ((25 : Int32) + p1)))), (0, .ref a_M), (1, .int p0), (2, .int p1)]) dX5_mark_113 (by decide) rfl ?_
        refine q_iload_n (pc := 115) F 4 dX5_mark_115 rfl ?_
        refine q_if_ne (pc := 116) (tgt := 123) F dX5_mark_116 (by decide) (fun c116 => ?_) (fun c116 => ?_)
        · have h := h.2 c116
          refine q_iload_n (pc := 123) F 4 dX5_mark_123 rfl ?_
          refine q_iconst (pc := 124) F (v := 1) dX5_mark_124 (by decide) ?_
          refine q_icmp_ne (pc := 125) (tgt := 133) F dX5_mark_125 (by decide) (fun c125 => ?_) (fun c125 => ?_)
          · have h := h.2 c125
            refine q_iload_n (pc := 133) F 4 dX5_mark_133 rfl ?_
            refine q_iconst (pc := 134) F (v := 2) dX5_mark_134 (by decide) ?_
            refine q_icmp_ne (pc := 135) (tgt := 143) F dX5_mark_135 (by decide) (fun c135 => ?_) (fun c135 => ?_)
            · have h := h.2 c135
              refine q_iload_n (pc := 143) F 4 dX5_mark_143 rfl ?_
              refine q_iconst (pc := 144) F (v := 3) dX5_mark_144 (by decide) ?_
              refine q_icmp_ne (pc := 145) (tgt := 155) F dX5_mark_145 (by decide) (fun c145 => ?_) (fun c145 => ?_)
              · have h := h.2 c145
                refine q_iload_n (pc := 155) F 4 dX5_mark_155 rfl ?_
                refine q_iconst (pc := 156) F (v := 4) dX5_mark_156 (by decide) ?_
                refine q_icmp_ne (pc := 157) (tgt := 175) F dX5_mark_157 (by decide) (fun c157 => ?_) (fun c157 => ?_)
                · have h := h.2 c157
                  refine q_iload_n (pc := 175) F 2 dX5_mark_175 rfl ?_
                  refine q_aload_n (pc := 176) F 3 dX5_mark_176 rfl ?_
                  refine q_get (pc := 177) F fgX5_13 0 rfl rfl dX5_mark_177 ?_
                  refine q_bipush (pc := 180) F (v := 31) dX5_mark_180 (by decide) ?_
                  refine q_iload_n (pc := 182) F 5 dX5_mark_182 rfl ?_
                  refine q_iadd (pc := 183) F dX5_mark_183 ?_
                  obtain ⟨hi184, h⟩ := h
                  refine q_iald (pc := 184) F 1 rfl hi184 dX5_mark_184 ?_
                  refine q_iadd (pc := 185) F dX5_mark_185 ?_
                  exact q_iretM (pc := 186) F Z dX5_mark_186 (m_trace + y80) h rfl
                · have h := h.1 c157
                  refine q_iload (pc := 160) F 0 dX5_mark_160 rfl ?_
                  refine q_aload_n (pc := 162) F 3 dX5_mark_162 rfl ?_
                  refine q_get (pc := 163) F fgX5_13 0 rfl rfl dX5_mark_163 ?_
                  refine q_bipush (pc := 166) F (v := 19) dX5_mark_166 (by decide) ?_
                  refine q_iload_n (pc := 168) F 5 dX5_mark_168 rfl ?_
                  refine q_iadd (pc := 169) F dX5_mark_169 ?_
                  obtain ⟨hi170, h⟩ := h
                  refine q_iald (pc := 170) F 1 rfl hi170 dX5_mark_170 ?_
                  refine q_isub (pc := 171) F dX5_mark_171 ?_
                  refine q_goto (pc := 172) (tgt := 186) F dX5_mark_172 (by decide) ?_
                  exact q_iretM (pc := 186) F Z dX5_mark_186 (m_trace + y80) h rfl
              · have h := h.1 c145
                refine q_iconst (pc := 148) F (v := 2) dX5_mark_148 (by decide) ?_
                refine q_iload (pc := 149) F 1 dX5_mark_149 rfl ?_
                refine q_imul (pc := 151) F dX5_mark_151 ?_
                refine q_goto (pc := 152) (tgt := 186) F dX5_mark_152 (by decide) ?_
                exact q_iretM (pc := 186) F Z dX5_mark_186 (m_trace + y80) h rfl
            · have h := h.1 c135
              refine q_iload (pc := 138) F 0 dX5_mark_138 rfl ?_
              refine q_goto (pc := 140) (tgt := 186) F dX5_mark_140 (by decide) ?_
              exact q_iretM (pc := 186) F Z dX5_mark_186 (m_trace + y80) h rfl
          · have h := h.1 c125
            refine q_iload (pc := 128) F 1 dX5_mark_128 rfl ?_
            refine q_goto (pc := 130) (tgt := 186) F dX5_mark_130 (by decide) ?_
            exact q_iretM (pc := 186) F Z dX5_mark_186 (m_trace + y80) h rfl
        · have h := h.1 c116
          refine q_iload_n (pc := 119) F 2 dX5_mark_119 rfl ?_
          refine q_goto (pc := 120) (tgt := 186) F dX5_mark_120 (by decide) ?_
          exact q_iretM (pc := 186) F Z dX5_mark_186 (m_trace + y80) h rfl
      · intro K80 J80 h
        refine q_if_ne (pc := 26) (tgt := 33) F dX5_mark_26 (by decide) (fun c26 => ?_) (fun c26 => ?_)
        · have h := h.2 c26
          refine q_iload_n (pc := 33) F 1 dX5_mark_33 rfl ?_
          refine q_iconst (pc := 34) F (v := 1) dX5_mark_34 (by decide) ?_
          refine q_icmp_ne (pc := 35) (tgt := 44) F dX5_mark_35 (by decide) (fun c35 => ?_) (fun c35 => ?_)
          · have h := h.2 c35
            refine q_iload_n (pc := 44) F 1 dX5_mark_44 rfl ?_
            refine q_iconst (pc := 45) F (v := 2) dX5_mark_45 (by decide) ?_
            refine q_icmp_ne (pc := 46) (tgt := 55) F dX5_mark_46 (by decide) (fun c46 => ?_) (fun c46 => ?_)
            · have h := h.2 c46
              refine q_iload_n (pc := 55) F 1 dX5_mark_55 rfl ?_
              refine q_iconst (pc := 56) F (v := 3) dX5_mark_56 (by decide) ?_
              refine q_icmp_ne (pc := 57) (tgt := 66) F dX5_mark_57 (by decide) (fun c57 => ?_) (fun c57 => ?_)
              · have h := h.2 c57
                refine q_iload_n (pc := 66) F 1 dX5_mark_66 rfl ?_
                refine q_iconst (pc := 67) F (v := 4) dX5_mark_67 (by decide) ?_
                refine q_icmp_ne (pc := 68) (tgt := 77) F dX5_mark_68 (by decide) (fun c68 => ?_) (fun c68 => ?_)
                · have h := h.2 c68
                  refine q_ldc2 (pc := 77) F kX5_204 dX5_mark_77 ?_
                  exact J80 (100001 : Int64) h
                · have h := h.1 c68
                  refine q_ldc2 (pc := 71) F kX5_202 dX5_mark_71 ?_
                  refine q_goto (pc := 74) (tgt := 80) F dX5_mark_74 (by decide) ?_
                  exact J80 (10101 : Int64) h
              · have h := h.1 c57
                refine q_ldc2 (pc := 60) F kX5_200 dX5_mark_60 ?_
                refine q_goto (pc := 63) (tgt := 80) F dX5_mark_63 (by decide) ?_
                exact J80 (1011 : Int64) h
            · have h := h.1 c46
              refine q_ldc2 (pc := 49) F kX5_198 dX5_mark_49 ?_
              refine q_goto (pc := 52) (tgt := 80) F dX5_mark_52 (by decide) ?_
              exact J80 (101 : Int64) h
          · have h := h.1 c35
            refine q_ldc2 (pc := 38) F kX5_196 dX5_mark_38 ?_
            refine q_goto (pc := 41) (tgt := 80) F dX5_mark_41 (by decide) ?_
            exact J80 (11 : Int64) h
        · have h := h.1 c26
          refine q_lconst (pc := 29) F (v := 1) dX5_mark_29 (by decide) ?_
          refine q_goto (pc := 30) (tgt := 80) F dX5_mark_30 (by decide) ?_
          exact J80 (1 : Int64) h
    · have h := h.1 c14
      refine q_ldc (pc := 17) F kX5_191 dX5_mark_17 ?_
      exact q_iretM (pc := 19) F Z dX5_mark_19 m_trace h rfl

def wp_X5_keep_L13 (x1 : Int32) (m_s : Nat → Int32) (K42 : (Nat → Int32) → Prop) : Nat → Int32 → (Nat → Int32) → Prop
  | 0, _, _ => False
  | n + 1, x2, m_images => (((38 : Int32) ≤ x2 → K42 m_images) ∧ (¬ (38 : Int32) ≤ x2 → (vp_in x2 38 ∧ (vp_in (((38 : Int32) * x1) + x2) 76 ∧ wp_X5_keep_L13 x1 m_s K42 n (x2 + (1 : Int32)) (upd m_images (ix (((38 : Int32) * x1) + x2)) (m_s (ix x2)))))))
def wp_X5_keep (p0 : Int32) (m_s : Nat → Int32) (m_images : Nat → Int32) (m_kept : Nat → Int32) (post : Int32 → (Nat → Int32) → (Nat → Int32) → Prop) : Prop := (wp_X5_in p0 (0 : Int32) (1 : Int32) (fun (r3 : Int32) => ((r3 = (0 : Int32) → post (-1 : Int32) m_images m_kept) ∧ (¬ r3 = (0 : Int32) → (jn (fun (K42 : (Nat → Int32) → Prop) => (∃ n13 : Nat, wp_X5_keep_L13 p0 m_s K42 n13 (0 : Int32) m_images)) (fun (m_images_42 : Nat → Int32) => (vp_in p0 2 ∧ post (m_s 0) m_images_42 (upd m_kept (ix p0) (1 : Int32)))))))))
abbrev rm_X5_keep : Room := { frames := 1, cells := 0, slots := 0, locals := 22 }
set_option maxRecDepth 100000 in
set_option maxHeartbeats 4000000 in
theorem ct_X5_keep (D : va_G) (cI cZ : ClassId) (a_M a_M_text a_M_told a_M_draft a_M_s a_M_images a_M_kept a_M_light a_M_may a_M_shine a_M_worth a_M_least : Nat) (m_trace : Int64) (m_typed : Int32) (m_at : Int32) (m_sort : Int32) (m_start : Int32) (m_size : Int32) (m_s : Nat → Int32) (m_images : Nat → Int32) (m_kept : Nat → Int32) (p0 : Int32) {post : Int32 → (Nat → Int32) → (Nat → Int32) → Prop} (h : wp_X5_keep p0 m_s m_images m_kept post) (l : Launch) (sz : Nat) : Met l yX5_keep (wsM yX5_keep cX5_keep 3 (some .int)) rm_X5_keep (va_Pc [.ref a_M, .int p0] (gP D cI cZ [(a_M, .inr (5, [.long m_trace, .ref a_M_text, .int m_typed, .ref a_M_told, .ref a_M_draft, .ref a_M_s, .ref a_M_images, .ref a_M_kept, .int m_at, .int m_sort, .int m_start, .int m_size, .ref a_M_light, .ref a_M_may, .ref a_M_shine, .ref a_M_worth, .ref a_M_least])), (a_M_s, .inl (cI, 38, .inl m_s)), (a_M_images, .inl (cI, 76, .inl m_images)), (a_M_kept, .inl (cZ, 2, .inl m_kept))] sz)) (gQi D (fun r (u : (Nat → Int32) × (Nat → Int32)) => post r u.1 u.2) (fun (u : (Nat → Int32) × (Nat → Int32)) => [(a_M, .inr (5, [.long m_trace, .ref a_M_text, .int m_typed, .ref a_M_told, .ref a_M_draft, .ref a_M_s, .ref a_M_images, .ref a_M_kept, .int m_at, .int m_sort, .int m_start, .int m_size, .ref a_M_light, .ref a_M_may, .ref a_M_shine, .ref a_M_worth, .ref a_M_least])), (a_M_s, .inl (cI, 38, .inl m_s)), (a_M_images, .inl (cI, 76, .inl u.1)), (a_M_kept, .inl (cZ, 2, .inl u.2))]) [(a_M, .inr (5, [.long m_trace, .ref a_M_text, .int m_typed, .ref a_M_told, .ref a_M_draft, .ref a_M_s, .ref a_M_images, .ref a_M_kept, .int m_at, .int m_sort, .int m_start, .int m_size, .ref a_M_light, .ref a_M_may, .ref a_M_shine, .ref a_M_worth, .ref a_M_least])), (a_M_s, .inl (cI, 38, .inl m_s)), (a_M_images, .inl (cI, 76, .inl m_images)), (a_M_kept, .inl (cZ, 2, .inl m_kept))] sz) 0 0 (va_A [(a_M, .inr (5, [.long m_trace, .ref a_M_text, .int m_typed, .ref a_M_told, .ref a_M_draft, .ref a_M_s, .ref a_M_images, .ref a_M_kept, .int m_at, .int m_sort, .int m_start, .int m_size, .ref a_M_light, .ref a_M_may, .ref a_M_shine, .ref a_M_worth, .ref a_M_least])), (a_M_s, .inl (cI, 38, .inl m_s)), (a_M_images, .inl (cI, 76, .inl m_images)), (a_M_kept, .inl (cZ, 2, .inl m_kept))] sz) := by
  refine q_startM (own := RX5) (Qc := gQi D (fun r (u : (Nat → Int32) × (Nat → Int32)) => post r u.1 u.2) (fun (u : (Nat → Int32) × (Nat → Int32)) => [(a_M, .inr (5, [.long m_trace, .ref a_M_text, .int m_typed, .ref a_M_told, .ref a_M_draft, .ref a_M_s, .ref a_M_images, .ref a_M_kept, .int m_at, .int m_sort, .int m_start, .int m_size, .ref a_M_light, .ref a_M_may, .ref a_M_shine, .ref a_M_worth, .ref a_M_least])), (a_M_s, .inl (cI, 38, .inl m_s)), (a_M_images, .inl (cI, 76, .inl u.1)), (a_M_kept, .inl (cZ, 2, .inl u.2))]) [(a_M, .inr (5, [.long m_trace, .ref a_M_text, .int m_typed, .ref a_M_told, .ref a_M_draft, .ref a_M_s, .ref a_M_images, .ref a_M_kept, .int m_at, .int m_sort, .int m_start, .int m_size, .ref a_M_light, .ref a_M_may, .ref a_M_shine, .ref a_M_worth, .ref a_M_least])), (a_M_s, .inl (cI, 38, .inl m_s)), (a_M_images, .inl (cI, 76, .inl m_images)), (a_M_kept, .inl (cZ, 2, .inl m_kept))]) (by decide +kernel) rfl (Nat.le_of_ble_eq_true rfl) (fun E F Z M => ?_)
  show Wg E [(a_M, .inr (5, [.long m_trace, .ref a_M_text, .int m_typed, .ref a_M_told, .ref a_M_draft, .ref a_M_s, .ref a_M_images, .ref a_M_kept, .int m_at, .int m_sort, .int m_start, .int m_size, .ref a_M_light, .ref a_M_may, .ref a_M_shine, .ref a_M_worth, .ref a_M_least])), (a_M_s, .inl (cI, 38, .inl m_s)), (a_M_images, .inl (cI, 76, .inl m_images)), (a_M_kept, .inl (cZ, 2, .inl m_kept))] 0 0 0 [(0, .ref a_M), (1, .int p0)] []
  unfold wp_X5_keep at h
  refine q_iload_n (pc := 0) F 1 dX5_keep_0 rfl ?_
  refine q_iconst (pc := 1) F (v := 0) dX5_keep_1 (by decide) ?_
  refine q_iconst (pc := 2) F (v := 1) dX5_keep_2 (by decide) ?_
  refine q_cR (q_runS (As := [.int p0, .int (0 : Int32), .int (1 : Int32)]) (rest := []) (pc := 3) F (fun l sz => ct_X5_in D cI cZ p0 (0 : Int32) (1 : Int32) h l sz) mc_yX5_in sm_yX5_in mlX5_48 ⟨by decide, by decide⟩ ⟨by decide, by decide⟩ ⟨rfl, rfl⟩ [] rfl rfl rfl rfl (Nat.le_of_ble_eq_true rfl) dX5_keep_3) (fun r3 h => ?_)
  obtain ⟨hb3, h⟩ := h
  refine q_if_ne (pc := 6) (tgt := 11) F dX5_keep_6 (by decide) (fun c6 => ?_) (fun c6 => ?_)
  · have h := h.2 c6
    refine q_iconst (pc := 11) F (v := 0) dX5_keep_11 (by decide) ?_
    refine q_istore_n (pc := 12) F (lv' := [(2, .int (0 : Int32)), (0, .ref a_M), (1, .int p0)]) dX5_keep_12 (by decide) rfl ?_
    refine jnW h (fun K => ∀ (m_images_42 : Nat → Int32), K m_images_42 → Wg E [(a_M, .inr (5, [.long m_trace, .ref a_M_text, .int m_typed, .ref a_M_told, .ref a_M_draft, .ref a_M_s, .ref a_M_images, .ref a_M_kept, .int m_at, .int m_sort, .int m_start, .int m_size, .ref a_M_light, .ref a_M_may, .ref a_M_shine, .ref a_M_worth, .ref a_M_least])), (a_M_s, .inl (cI, 38, .inl m_s)), (a_M_images, .inl (cI, 76, .inl m_images_42)), (a_M_kept, .inl (cZ, 2, .inl m_kept))] 0 0 42 [(0, .ref a_M), (1, .int p0)] []) ?_ ?_
    · intro m_images_42 h
      refine q_aload_n (pc := 42) F 0 dX5_keep_42 rfl ?_
      refine q_get (pc := 43) F fgX5_25 0 rfl rfl dX5_keep_43 ?_
      refine q_iload_n (pc := 46) F 1 dX5_keep_46 rfl ?_
      refine q_iconst (pc := 47) F (v := 1) dX5_keep_47 (by decide) ?_
      obtain ⟨hi48, h⟩ := h
      refine q_zast (pc := 48) F M (cs' := [(a_M, .inr (5, [.long m_trace, .ref a_M_text, .int m_typed, .ref a_M_told, .ref a_M_draft, .ref a_M_s, .ref a_M_images, .ref a_M_kept, .int m_at, .int m_sort, .int m_start, .int m_size, .ref a_M_light, .ref a_M_may, .ref a_M_shine, .ref a_M_worth, .ref a_M_least])), (a_M_s, .inl (cI, 38, .inl m_s)), (a_M_images, .inl (cI, 76, .inl m_images_42)), (a_M_kept, .inl (cZ, 2, .inl (upd m_kept (ix p0) (1 : Int32))))]) 3 rfl hi48 rfl rfl dX5_keep_48 ?_
      refine q_aload_n (pc := 49) F 0 dX5_keep_49 rfl ?_
      refine q_get (pc := 50) F fgX5_19 0 rfl rfl dX5_keep_50 ?_
      refine q_iconst (pc := 53) F (v := 0) dX5_keep_53 (by decide) ?_
      refine q_ialdk (pc := 54) F (k9 := 0) 1 rfl (vpd (by decide +kernel)) (by decide +kernel) dX5_keep_54 ?_
      exact q_iretM (pc := 55) F Z dX5_keep_55 (m_images_42, upd m_kept (ix p0) (1 : Int32)) h rfl
    · intro K42 J42 h
      obtain ⟨n13, h⟩ := h
      have lp13 : ∀ (n : Nat) (x2_h13 : Int32) (m_images_h13 : Nat → Int32), wp_X5_keep_L13 p0 m_s K42 n x2_h13 m_images_h13 → Wg E [(a_M, .inr (5, [.long m_trace, .ref a_M_text, .int m_typed, .ref a_M_told, .ref a_M_draft, .ref a_M_s, .ref a_M_images, .ref a_M_kept, .int m_at, .int m_sort, .int m_start, .int m_size, .ref a_M_light, .ref a_M_may, .ref a_M_shine, .ref a_M_worth, .ref a_M_least])), (a_M_s, .inl (cI, 38, .inl m_s)), (a_M_images, .inl (cI, 76, .inl m_images_h13)), (a_M_kept, .inl (cZ, 2, .inl m_kept))] 0 0 13 [(0, .ref a_M), (1, .int p0), (2, .int x2_h13)] [] := by
        intro n
        induction n with
        | zero => intro x2_h13 m_images_h13 h; exact h.elim
        | succ n ih =>
          intro x2_h13 m_images_h13 h
          unfold wp_X5_keep_L13 at h
          refine q_iload_n (pc := 13) F 2 dX5_keep_13 rfl ?_
          refine q_bipush (pc := 14) F (v := 38) dX5_keep_14 (by decide) ?_
          refine q_icmp_ge (pc := 16) (tgt := 42) F dX5_keep_16 (by decide) (fun c16 => ?_) (fun c16 => ?_)
          · have h := h.1 c16
            refine q_lv (lv' := [(0, .ref a_M), (1, .int p0)]) [0, 1] rfl ?_
            exact J42 m_images_h13 h
          · have h := h.2 c16
            refine q_aload_n (pc := 19) F 0 dX5_keep_19 rfl ?_
            refine q_get (pc := 20) F fgX5_22 0 rfl rfl dX5_keep_20 ?_
            refine q_bipush (pc := 23) F (v := 38) dX5_keep_23 (by decide) ?_
            refine q_iload_n (pc := 25) F 1 dX5_keep_25 rfl ?_
            refine q_imul (pc := 26) F dX5_keep_26 ?_
            refine q_iload_n (pc := 27) F 2 dX5_keep_27 rfl ?_
            refine q_iadd (pc := 28) F dX5_keep_28 ?_
            refine q_aload_n (pc := 29) F 0 dX5_keep_29 rfl ?_
            refine q_get (pc := 30) F fgX5_19 0 rfl rfl dX5_keep_30 ?_
            refine q_iload_n (pc := 33) F 2 dX5_keep_33 rfl ?_
            obtain ⟨hi34, h⟩ := h
            refine q_iald (pc := 34) F 1 rfl hi34 dX5_keep_34 ?_
            obtain ⟨hi35, h⟩ := h
            refine q_iast (pc := 35) F M (cs' := [(a_M, .inr (5, [.long m_trace, .ref a_M_text, .int m_typed, .ref a_M_told, .ref a_M_draft, .ref a_M_s, .ref a_M_images, .ref a_M_kept, .int m_at, .int m_sort, .int m_start, .int m_size, .ref a_M_light, .ref a_M_may, .ref a_M_shine, .ref a_M_worth, .ref a_M_least])), (a_M_s, .inl (cI, 38, .inl m_s)), (a_M_images, .inl (cI, 76, .inl (upd m_images_h13 (ix (((38 : Int32) * p0) + x2_h13)) (m_s (ix x2_h13))))), (a_M_kept, .inl (cZ, 2, .inl m_kept))]) 2 rfl hi35 rfl dX5_keep_35 ?_
            refine q_iinc (pc := 36) F (v := x2_h13 + (1 : Int32)) (lv' := [(2, .int (x2_h13 + (1 : Int32))), (0, .ref a_M), (1, .int p0)]) 2 dX5_keep_36 rfl rfl (by decide) rfl ?_
            refine q_goto (pc := 39) (tgt := 13) F dX5_keep_39 (by decide) ?_
            refine q_lv (lv' := [(0, .ref a_M), (1, .int p0), (2, .int (x2_h13 + (1 : Int32)))]) [1, 2, 0] rfl ?_
            exact ih (x2_h13 + (1 : Int32)) (upd m_images_h13 (ix (((38 : Int32) * p0) + x2_h13)) (m_s (ix x2_h13))) h
      refine q_lv (lv' := [(0, .ref a_M), (1, .int p0), (2, .int (0 : Int32))]) [1, 2, 0] rfl ?_
      exact lp13 n13 (0 : Int32) m_images h
  · have h := h.1 c6
    refine q_iconst (pc := 9) F (v := -1) dX5_keep_9 (by decide) ?_
    exact q_iretM (pc := 10) F Z dX5_keep_10 (m_images, m_kept) h rfl

def wp_X5_back_L25 (x1 : Int32) (m_images : Nat → Int32) (K54 : (Nat → Int32) → Prop) : Nat → Int32 → (Nat → Int32) → Prop
  | 0, _, _ => False
  | n + 1, x2, m_s => (((38 : Int32) ≤ x2 → K54 m_s) ∧ (¬ (38 : Int32) ≤ x2 → (vp_in (((38 : Int32) * x1) + x2) 76 ∧ (vp_in x2 38 ∧ wp_X5_back_L25 x1 m_images K54 n (x2 + (1 : Int32)) (upd m_s (ix x2) (m_images (ix (((38 : Int32) * x1) + x2))))))))
def wp_X5_back (p0 : Int32) (m_s : Nat → Int32) (m_images : Nat → Int32) (m_kept : Nat → Int32) (post : Int32 → (Nat → Int32) → Prop) : Prop := (wp_X5_in p0 (0 : Int32) (1 : Int32) (fun (r3 : Int32) => ((r3 = (0 : Int32) → post (-1 : Int32) m_s) ∧ (¬ r3 = (0 : Int32) → (vp_in p0 2 ∧ (((m_kept (ix p0)) = (0 : Int32) → post (-2 : Int32) m_s) ∧ (¬ (m_kept (ix p0)) = (0 : Int32) → (jn (fun (K54 : (Nat → Int32) → Prop) => (∃ n25 : Nat, wp_X5_back_L25 p0 m_images K54 n25 (0 : Int32) m_s)) (fun (m_s_54 : Nat → Int32) => post (m_s_54 0) m_s_54)))))))))
abbrev rm_X5_back : Room := { frames := 1, cells := 0, slots := 0, locals := 22 }
set_option maxRecDepth 100000 in
set_option maxHeartbeats 4000000 in
theorem ct_X5_back (D : va_G) (cI cZ : ClassId) (a_M a_M_text a_M_told a_M_draft a_M_s a_M_images a_M_kept a_M_light a_M_may a_M_shine a_M_worth a_M_least : Nat) (m_trace : Int64) (m_typed : Int32) (m_at : Int32) (m_sort : Int32) (m_start : Int32) (m_size : Int32) (m_s : Nat → Int32) (m_images : Nat → Int32) (m_kept : Nat → Int32) (p0 : Int32) {post : Int32 → (Nat → Int32) → Prop} (h : wp_X5_back p0 m_s m_images m_kept post) (l : Launch) (sz : Nat) : Met l yX5_back (wsM yX5_back cX5_back 3 (some .int)) rm_X5_back (va_Pc [.ref a_M, .int p0] (gP D cI cZ [(a_M, .inr (5, [.long m_trace, .ref a_M_text, .int m_typed, .ref a_M_told, .ref a_M_draft, .ref a_M_s, .ref a_M_images, .ref a_M_kept, .int m_at, .int m_sort, .int m_start, .int m_size, .ref a_M_light, .ref a_M_may, .ref a_M_shine, .ref a_M_worth, .ref a_M_least])), (a_M_s, .inl (cI, 38, .inl m_s)), (a_M_images, .inl (cI, 76, .inl m_images)), (a_M_kept, .inl (cZ, 2, .inl m_kept))] sz)) (gQi D (fun r (u : (Nat → Int32)) => post r u) (fun (u : (Nat → Int32)) => [(a_M, .inr (5, [.long m_trace, .ref a_M_text, .int m_typed, .ref a_M_told, .ref a_M_draft, .ref a_M_s, .ref a_M_images, .ref a_M_kept, .int m_at, .int m_sort, .int m_start, .int m_size, .ref a_M_light, .ref a_M_may, .ref a_M_shine, .ref a_M_worth, .ref a_M_least])), (a_M_s, .inl (cI, 38, .inl u)), (a_M_images, .inl (cI, 76, .inl m_images)), (a_M_kept, .inl (cZ, 2, .inl m_kept))]) [(a_M, .inr (5, [.long m_trace, .ref a_M_text, .int m_typed, .ref a_M_told, .ref a_M_draft, .ref a_M_s, .ref a_M_images, .ref a_M_kept, .int m_at, .int m_sort, .int m_start, .int m_size, .ref a_M_light, .ref a_M_may, .ref a_M_shine, .ref a_M_worth, .ref a_M_least])), (a_M_s, .inl (cI, 38, .inl m_s)), (a_M_images, .inl (cI, 76, .inl m_images)), (a_M_kept, .inl (cZ, 2, .inl m_kept))] sz) 0 0 (va_A [(a_M, .inr (5, [.long m_trace, .ref a_M_text, .int m_typed, .ref a_M_told, .ref a_M_draft, .ref a_M_s, .ref a_M_images, .ref a_M_kept, .int m_at, .int m_sort, .int m_start, .int m_size, .ref a_M_light, .ref a_M_may, .ref a_M_shine, .ref a_M_worth, .ref a_M_least])), (a_M_s, .inl (cI, 38, .inl m_s)), (a_M_images, .inl (cI, 76, .inl m_images)), (a_M_kept, .inl (cZ, 2, .inl m_kept))] sz) := by
  refine q_startM (own := RX5) (Qc := gQi D (fun r (u : (Nat → Int32)) => post r u) (fun (u : (Nat → Int32)) => [(a_M, .inr (5, [.long m_trace, .ref a_M_text, .int m_typed, .ref a_M_told, .ref a_M_draft, .ref a_M_s, .ref a_M_images, .ref a_M_kept, .int m_at, .int m_sort, .int m_start, .int m_size, .ref a_M_light, .ref a_M_may, .ref a_M_shine, .ref a_M_worth, .ref a_M_least])), (a_M_s, .inl (cI, 38, .inl u)), (a_M_images, .inl (cI, 76, .inl m_images)), (a_M_kept, .inl (cZ, 2, .inl m_kept))]) [(a_M, .inr (5, [.long m_trace, .ref a_M_text, .int m_typed, .ref a_M_told, .ref a_M_draft, .ref a_M_s, .ref a_M_images, .ref a_M_kept, .int m_at, .int m_sort, .int m_start, .int m_size, .ref a_M_light, .ref a_M_may, .ref a_M_shine, .ref a_M_worth, .ref a_M_least])), (a_M_s, .inl (cI, 38, .inl m_s)), (a_M_images, .inl (cI, 76, .inl m_images)), (a_M_kept, .inl (cZ, 2, .inl m_kept))]) (by decide +kernel) rfl (Nat.le_of_ble_eq_true rfl) (fun E F Z M => ?_)
  show Wg E [(a_M, .inr (5, [.long m_trace, .ref a_M_text, .int m_typed, .ref a_M_told, .ref a_M_draft, .ref a_M_s, .ref a_M_images, .ref a_M_kept, .int m_at, .int m_sort, .int m_start, .int m_size, .ref a_M_light, .ref a_M_may, .ref a_M_shine, .ref a_M_worth, .ref a_M_least])), (a_M_s, .inl (cI, 38, .inl m_s)), (a_M_images, .inl (cI, 76, .inl m_images)), (a_M_kept, .inl (cZ, 2, .inl m_kept))] 0 0 0 [(0, .ref a_M), (1, .int p0)] []
  unfold wp_X5_back at h
  refine q_iload_n (pc := 0) F 1 dX5_back_0 rfl ?_
  refine q_iconst (pc := 1) F (v := 0) dX5_back_1 (by decide) ?_
  refine q_iconst (pc := 2) F (v := 1) dX5_back_2 (by decide) ?_
  refine q_cR (q_runS (As := [.int p0, .int (0 : Int32), .int (1 : Int32)]) (rest := []) (pc := 3) F (fun l sz => ct_X5_in D cI cZ p0 (0 : Int32) (1 : Int32) h l sz) mc_yX5_in sm_yX5_in mlX5_48 ⟨by decide, by decide⟩ ⟨by decide, by decide⟩ ⟨rfl, rfl⟩ [] rfl rfl rfl rfl (Nat.le_of_ble_eq_true rfl) dX5_back_3) (fun r3 h => ?_)
  obtain ⟨hb3, h⟩ := h
  refine q_if_ne (pc := 6) (tgt := 11) F dX5_back_6 (by decide) (fun c6 => ?_) (fun c6 => ?_)
  · have h := h.2 c6
    refine q_aload_n (pc := 11) F 0 dX5_back_11 rfl ?_
    refine q_get (pc := 12) F fgX5_25 0 rfl rfl dX5_back_12 ?_
    refine q_iload_n (pc := 15) F 1 dX5_back_15 rfl ?_
    obtain ⟨hi16, h⟩ := h
    refine q_zald (pc := 16) F 3 rfl hi16 dX5_back_16 ?_
    refine q_if_ne (pc := 17) (tgt := 23) F dX5_back_17 (by decide) (fun c17 => ?_) (fun c17 => ?_)
    · have h := h.2 c17
      refine q_iconst (pc := 23) F (v := 0) dX5_back_23 (by decide) ?_
      refine q_istore_n (pc := 24) F (lv' := [(2, .int (0 : Int32)), (0, .ref a_M), (1, .int p0)]) dX5_back_24 (by decide) rfl ?_
      refine jnW h (fun K => ∀ (m_s_54 : Nat → Int32), K m_s_54 → Wg E [(a_M, .inr (5, [.long m_trace, .ref a_M_text, .int m_typed, .ref a_M_told, .ref a_M_draft, .ref a_M_s, .ref a_M_images, .ref a_M_kept, .int m_at, .int m_sort, .int m_start, .int m_size, .ref a_M_light, .ref a_M_may, .ref a_M_shine, .ref a_M_worth, .ref a_M_least])), (a_M_s, .inl (cI, 38, .inl m_s_54)), (a_M_images, .inl (cI, 76, .inl m_images)), (a_M_kept, .inl (cZ, 2, .inl m_kept))] 0 0 54 [(0, .ref a_M)] []) ?_ ?_
      · intro m_s_54 h
        refine q_aload_n (pc := 54) F 0 dX5_back_54 rfl ?_
        refine q_get (pc := 55) F fgX5_19 0 rfl rfl dX5_back_55 ?_
        refine q_iconst (pc := 58) F (v := 0) dX5_back_58 (by decide) ?_
        refine q_ialdk (pc := 59) F (k9 := 0) 1 rfl (vpd (by decide +kernel)) (by decide +kernel) dX5_back_59 ?_
        exact q_iretM (pc := 60) F Z dX5_back_60 m_s_54 h rfl
      · intro K54 J54 h
        obtain ⟨n25, h⟩ := h
        have lp25 : ∀ (n : Nat) (x2_h25 : Int32) (m_s_h25 : Nat → Int32), wp_X5_back_L25 p0 m_images K54 n x2_h25 m_s_h25 → Wg E [(a_M, .inr (5, [.long m_trace, .ref a_M_text, .int m_typed, .ref a_M_told, .ref a_M_draft, .ref a_M_s, .ref a_M_images, .ref a_M_kept, .int m_at, .int m_sort, .int m_start, .int m_size, .ref a_M_light, .ref a_M_may, .ref a_M_shine, .ref a_M_worth, .ref a_M_least])), (a_M_s, .inl (cI, 38, .inl m_s_h25)), (a_M_images, .inl (cI, 76, .inl m_images)), (a_M_kept, .inl (cZ, 2, .inl m_kept))] 0 0 25 [(0, .ref a_M), (1, .int p0), (2, .int x2_h25)] [] := by
          intro n
          induction n with
          | zero => intro x2_h25 m_s_h25 h; exact h.elim
          | succ n ih =>
            intro x2_h25 m_s_h25 h
            unfold wp_X5_back_L25 at h
            refine q_iload_n (pc := 25) F 2 dX5_back_25 rfl ?_
            refine q_bipush (pc := 26) F (v := 38) dX5_back_26 (by decide) ?_
            refine q_icmp_ge (pc := 28) (tgt := 54) F dX5_back_28 (by decide) (fun c28 => ?_) (fun c28 => ?_)
            · have h := h.1 c28
              refine q_lv (lv' := [(0, .ref a_M)]) [0] rfl ?_
              exact J54 m_s_h25 h
            · have h := h.2 c28
              refine q_aload_n (pc := 31) F 0 dX5_back_31 rfl ?_
              refine q_get (pc := 32) F fgX5_19 0 rfl rfl dX5_back_32 ?_
              refine q_iload_n (pc := 35) F 2 dX5_back_35 rfl ?_
              refine q_aload_n (pc := 36) F 0 dX5_back_36 rfl ?_
              refine q_get (pc := 37) F fgX5_22 0 rfl rfl dX5_back_37 ?_
              refine q_bipush (pc := 40) F (v := 38) dX5_back_40 (by decide) ?_
              refine q_iload_n (pc := 42) F 1 dX5_back_42 rfl ?_
              refine q_imul (pc := 43) F dX5_back_43 ?_
              refine q_iload_n (pc := 44) F 2 dX5_back_44 rfl ?_
              refine q_iadd (pc := 45) F dX5_back_45 ?_
              obtain ⟨hi46, h⟩ := h
              refine q_iald (pc := 46) F 2 rfl hi46 dX5_back_46 ?_
              obtain ⟨hi47, h⟩ := h
              refine q_iast (pc := 47) F M (cs' := [(a_M, .inr (5, [.long m_trace, .ref a_M_text, .int m_typed, .ref a_M_told, .ref a_M_draft, .ref a_M_s, .ref a_M_images, .ref a_M_kept, .int m_at, .int m_sort, .int m_start, .int m_size, .ref a_M_light, .ref a_M_may, .ref a_M_shine, .ref a_M_worth, .ref a_M_least])), (a_M_s, .inl (cI, 38, .inl (upd m_s_h25 (ix x2_h25) (m_images (ix (((38 : Int32) * p0) + x2_h25)))))), (a_M_images, .inl (cI, 76, .inl m_images)), (a_M_kept, .inl (cZ, 2, .inl m_kept))]) 1 rfl hi47 rfl dX5_back_47 ?_
              refine q_iinc (pc := 48) F (v := x2_h25 + (1 : Int32)) (lv' := [(2, .int (x2_h25 + (1 : Int32))), (0, .ref a_M), (1, .int p0)]) 2 dX5_back_48 rfl rfl (by decide) rfl ?_
              refine q_goto (pc := 51) (tgt := 25) F dX5_back_51 (by decide) ?_
              refine q_lv (lv' := [(0, .ref a_M), (1, .int p0), (2, .int (x2_h25 + (1 : Int32)))]) [1, 2, 0] rfl ?_
              exact ih (x2_h25 + (1 : Int32)) (upd m_s_h25 (ix x2_h25) (m_images (ix (((38 : Int32) * p0) + x2_h25)))) h
        refine q_lv (lv' := [(0, .ref a_M), (1, .int p0), (2, .int (0 : Int32))]) [1, 2, 0] rfl ?_
        exact lp25 n25 (0 : Int32) m_s h
    · have h := h.1 c17
      refine q_bipush (pc := 20) F (v := -2) dX5_back_20 (by decide) ?_
      exact q_iretM (pc := 22) F Z dX5_back_22 m_s h rfl
  · have h := h.1 c6
    refine q_iconst (pc := 9) F (v := -1) dX5_back_9 (by decide) ?_
    exact q_iretM (pc := 10) F Z dX5_back_10 m_s h rfl

def wp_X5_count (p0 : Int32) (m_typed : Int32) (m_told : Nat → Int32) (m_s : Nat → Int32) (post : Int32 → Prop) : Prop := (wp_X5_in p0 (0 : Int32) (7 : Int32) (fun (r4 : Int32) => ((r4 = (0 : Int32) → post (-1 : Int32)) ∧ (¬ r4 = (0 : Int32) → (jn (fun (K58 : Int32 → Prop) => ((p0 = (0 : Int32) → (wp_X5_cells m_told (fun (r17 : Int32) => K58 r17))) ∧ (¬ p0 = (0 : Int32) → ((p0 = (1 : Int32) → K58 (m_told 3)) ∧ (¬ p0 = (1 : Int32) → ((p0 = (2 : Int32) → K58 (m_told 4)) ∧ (¬ p0 = (2 : Int32) → (wp_X5_lit m_told m_s (fun (r52 : Int32) => (wp_X5_ones r52 (fun (r55 : Int32) => K58 r55))))))))))) (fun (y58 : Int32) => (((4 : Int32) ≤ p0 → ((p0 = (4 : Int32) → post (m_s 0)) ∧ (¬ p0 = (4 : Int32) → ((p0 = (5 : Int32) → post (m_told 2)) ∧ (¬ p0 = (5 : Int32) → ((p0 = (6 : Int32) → post (m_s 13)) ∧ (¬ p0 = (6 : Int32) → post m_typed))))))) ∧ (¬ (4 : Int32) ≤ p0 → post y58))))))))
abbrev rm_X5_count : Room := { frames := 2, cells := 0, slots := 0, locals := 42 }
set_option maxRecDepth 100000 in
set_option maxHeartbeats 4000000 in
theorem ct_X5_count (D : va_G) (cI cZ : ClassId) (a_M a_M_text a_M_told a_M_draft a_M_s a_M_images a_M_kept a_M_light a_M_may a_M_shine a_M_worth a_M_least : Nat) (m_trace : Int64) (m_typed : Int32) (m_at : Int32) (m_sort : Int32) (m_start : Int32) (m_size : Int32) (m_told : Nat → Int32) (m_s : Nat → Int32) (p0 : Int32) {post : Int32 → Prop} (h : wp_X5_count p0 m_typed m_told m_s post) (l : Launch) (sz : Nat) : Met l yX5_count (wsM yX5_count cX5_count 3 (some .int)) rm_X5_count (va_Pc [.ref a_M, .int p0] (gP D cI cZ [(a_M, .inr (5, [.long m_trace, .ref a_M_text, .int m_typed, .ref a_M_told, .ref a_M_draft, .ref a_M_s, .ref a_M_images, .ref a_M_kept, .int m_at, .int m_sort, .int m_start, .int m_size, .ref a_M_light, .ref a_M_may, .ref a_M_shine, .ref a_M_worth, .ref a_M_least])), (a_M_told, .inl (cI, 43, .inl m_told)), (a_M_s, .inl (cI, 38, .inl m_s))] sz)) (gR post) 0 0 (fun _ => False) := by
  refine q_startR (own := RX5) (by decide +kernel) rfl (Nat.le_of_ble_eq_true rfl) (fun E F Z => ?_)
  show Wg E [(a_M, .inr (5, [.long m_trace, .ref a_M_text, .int m_typed, .ref a_M_told, .ref a_M_draft, .ref a_M_s, .ref a_M_images, .ref a_M_kept, .int m_at, .int m_sort, .int m_start, .int m_size, .ref a_M_light, .ref a_M_may, .ref a_M_shine, .ref a_M_worth, .ref a_M_least])), (a_M_told, .inl (cI, 43, .inl m_told)), (a_M_s, .inl (cI, 38, .inl m_s))] 0 0 0 [(0, .ref a_M), (1, .int p0)] []
  unfold wp_X5_count at h
  refine q_iload_n (pc := 0) F 1 dX5_count_0 rfl ?_
  refine q_iconst (pc := 1) F (v := 0) dX5_count_1 (by decide) ?_
  refine q_bipush (pc := 2) F (v := 7) dX5_count_2 (by decide) ?_
  refine q_cR (q_runS (As := [.int p0, .int (0 : Int32), .int (7 : Int32)]) (rest := []) (pc := 4) F (fun l sz => ct_X5_in D cI cZ p0 (0 : Int32) (7 : Int32) h l sz) mc_yX5_in sm_yX5_in mlX5_48 ⟨by decide, by decide⟩ ⟨by decide, by decide⟩ ⟨rfl, rfl⟩ [] rfl rfl rfl rfl (Nat.le_of_ble_eq_true rfl) dX5_count_4) (fun r4 h => ?_)
  obtain ⟨hb4, h⟩ := h
  refine q_if_ne (pc := 7) (tgt := 12) F dX5_count_7 (by decide) (fun c7 => ?_) (fun c7 => ?_)
  · have h := h.2 c7
    refine q_iload_n (pc := 12) F 1 dX5_count_12 rfl ?_
    refine jnW h (fun K => ∀ (y58 : Int32), K y58 → Wg E [(a_M, .inr (5, [.long m_trace, .ref a_M_text, .int m_typed, .ref a_M_told, .ref a_M_draft, .ref a_M_s, .ref a_M_images, .ref a_M_kept, .int m_at, .int m_sort, .int m_start, .int m_size, .ref a_M_light, .ref a_M_may, .ref a_M_shine, .ref a_M_worth, .ref a_M_least])), (a_M_told, .inl (cI, 43, .inl m_told)), (a_M_s, .inl (cI, 38, .inl m_s))] 0 0 58 [(0, .ref a_M), (1, .int p0)] [.int y58]) ?_ ?_
    · intro y58 h
      refine q_istore_n (pc := 58) F (lv' := [(2, .int y58), (0, .ref a_M), (1, .int p0)]) dX5_count_58 (by decide) rfl ?_
      refine q_iload_n (pc := 59) F 2 dX5_count_59 rfl ?_
      refine q_iconst (pc := 60) F (v := 4) dX5_count_60 (by decide) ?_
      refine q_icmp_ge (pc := 61) (tgt := 68) F dX5_count_61 (by decide) (fun c61 => ?_) (fun c61 => ?_)
      · have h := h.1 c61
        refine q_iload_n (pc := 68) F 2 dX5_count_68 rfl ?_
        refine q_iconst (pc := 69) F (v := 4) dX5_count_69 (by decide) ?_
        refine q_icmp_ne (pc := 70) (tgt := 82) F dX5_count_70 (by decide) (fun c70 => ?_) (fun c70 => ?_)
        · have h := h.2 c70
          refine q_iload_n (pc := 82) F 2 dX5_count_82 rfl ?_
          refine q_iconst (pc := 83) F (v := 5) dX5_count_83 (by decide) ?_
          refine q_icmp_ne (pc := 84) (tgt := 96) F dX5_count_84 (by decide) (fun c84 => ?_) (fun c84 => ?_)
          · have h := h.2 c84
            refine q_iload_n (pc := 96) F 2 dX5_count_96 rfl ?_
            refine q_bipush (pc := 97) F (v := 6) dX5_count_97 (by decide) ?_
            refine q_icmp_ne (pc := 99) (tgt := 112) F dX5_count_99 (by decide) (fun c99 => ?_) (fun c99 => ?_)
            · have h := h.2 c99
              refine q_aload_n (pc := 112) F 1 dX5_count_112 rfl ?_
              refine q_get (pc := 113) F fgX5_52 0 rfl rfl dX5_count_113 ?_
              exact q_iretR (pc := 116) F Z dX5_count_116 h
            · have h := h.1 c99
              refine q_aload_n (pc := 102) F 1 dX5_count_102 rfl ?_
              refine q_get (pc := 103) F fgX5_19 0 rfl rfl dX5_count_103 ?_
              refine q_bipush (pc := 106) F (v := 13) dX5_count_106 (by decide) ?_
              refine q_ialdk (pc := 108) F (k9 := 13) 2 rfl (vpd (by decide +kernel)) (by decide +kernel) dX5_count_108 ?_
              refine q_goto (pc := 109) (tgt := 116) F dX5_count_109 (by decide) ?_
              exact q_iretR (pc := 116) F Z dX5_count_116 h
          · have h := h.1 c84
            refine q_aload_n (pc := 87) F 1 dX5_count_87 rfl ?_
            refine q_get (pc := 88) F fgX5_13 0 rfl rfl dX5_count_88 ?_
            refine q_iconst (pc := 91) F (v := 2) dX5_count_91 (by decide) ?_
            refine q_ialdk (pc := 92) F (k9 := 2) 1 rfl (vpd (by decide +kernel)) (by decide +kernel) dX5_count_92 ?_
            refine q_goto (pc := 93) (tgt := 116) F dX5_count_93 (by decide) ?_
            exact q_iretR (pc := 116) F Z dX5_count_116 h
        · have h := h.1 c70
          refine q_aload_n (pc := 73) F 1 dX5_count_73 rfl ?_
          refine q_get (pc := 74) F fgX5_19 0 rfl rfl dX5_count_74 ?_
          refine q_iconst (pc := 77) F (v := 0) dX5_count_77 (by decide) ?_
          refine q_ialdk (pc := 78) F (k9 := 0) 2 rfl (vpd (by decide +kernel)) (by decide +kernel) dX5_count_78 ?_
          refine q_goto (pc := 79) (tgt := 116) F dX5_count_79 (by decide) ?_
          exact q_iretR (pc := 116) F Z dX5_count_116 h
      · have h := h.2 c61
        refine q_iload_n (pc := 64) F 0 dX5_count_64 rfl ?_
        refine q_goto (pc := 65) (tgt := 116) F dX5_count_65 (by decide) ?_
        exact q_iretR (pc := 116) F Z dX5_count_116 h
    · intro K58 J58 h
      refine q_if_ne (pc := 13) (tgt := 23) F dX5_count_13 (by decide) (fun c13 => ?_) (fun c13 => ?_)
      · have h := h.2 c13
        refine q_iload_n (pc := 23) F 1 dX5_count_23 rfl ?_
        refine q_iconst (pc := 24) F (v := 1) dX5_count_24 (by decide) ?_
        refine q_icmp_ne (pc := 25) (tgt := 37) F dX5_count_25 (by decide) (fun c25 => ?_) (fun c25 => ?_)
        · have h := h.2 c25
          refine q_iload_n (pc := 37) F 1 dX5_count_37 rfl ?_
          refine q_iconst (pc := 38) F (v := 2) dX5_count_38 (by decide) ?_
          refine q_icmp_ne (pc := 39) (tgt := 51) F dX5_count_39 (by decide) (fun c39 => ?_) (fun c39 => ?_)
          · have h := h.2 c39
            refine q_aload_n (pc := 51) F 0 dX5_count_51 rfl ?_
            refine q_cR (q_runV (As := []) (rest := []) (pc := 52) F (fun l sz => ct_X5_lit D cI cZ a_M a_M_text a_M_told a_M_draft a_M_s a_M_images a_M_kept a_M_light a_M_may a_M_shine a_M_worth a_M_least m_trace m_typed m_at m_sort m_start m_size m_told m_s h l sz) mc_yX5_lit im_yX5_lit se_yX5_lit mlX5_150 ⟨by decide, by decide⟩ ⟨by decide, by decide⟩ ⟨rfl, rfl⟩ [0, 1, 2] rfl rfl rfl 0 rfl rfl rfl (Nat.le_of_ble_eq_true rfl) dX5_count_52) (fun r52 h => ?_)
            refine q_cR (q_runS (As := [.int r52]) (rest := []) (pc := 55) F (fun l sz => ct_X5_ones D cI cZ r52 h l sz) mc_yX5_ones sm_yX5_ones mlX5_175 ⟨by decide, by decide⟩ ⟨by decide, by decide⟩ ⟨rfl, rfl⟩ [] rfl rfl rfl rfl (Nat.le_of_ble_eq_true rfl) dX5_count_55) (fun r55 h => ?_)
            exact J58 r55 h
          · have h := h.1 c39
            refine q_aload_n (pc := 42) F 0 dX5_count_42 rfl ?_
            refine q_get (pc := 43) F fgX5_13 0 rfl rfl dX5_count_43 ?_
            refine q_iconst (pc := 46) F (v := 4) dX5_count_46 (by decide) ?_
            refine q_ialdk (pc := 47) F (k9 := 4) 1 rfl (vpd (by decide +kernel)) (by decide +kernel) dX5_count_47 ?_
            refine q_goto (pc := 48) (tgt := 58) F dX5_count_48 (by decide) ?_
            exact J58 (m_told 4) h
        · have h := h.1 c25
          refine q_aload_n (pc := 28) F 0 dX5_count_28 rfl ?_
          refine q_get (pc := 29) F fgX5_13 0 rfl rfl dX5_count_29 ?_
          refine q_iconst (pc := 32) F (v := 3) dX5_count_32 (by decide) ?_
          refine q_ialdk (pc := 33) F (k9 := 3) 1 rfl (vpd (by decide +kernel)) (by decide +kernel) dX5_count_33 ?_
          refine q_goto (pc := 34) (tgt := 58) F dX5_count_34 (by decide) ?_
          exact J58 (m_told 3) h
      · have h := h.1 c13
        refine q_aload_n (pc := 16) F 0 dX5_count_16 rfl ?_
        refine q_cR (q_runV (As := []) (rest := []) (pc := 17) F (fun l sz => ct_X5_cells D cI cZ a_M a_M_text a_M_told a_M_draft a_M_s a_M_images a_M_kept a_M_light a_M_may a_M_shine a_M_worth a_M_least m_trace m_typed m_at m_sort m_start m_size m_told h l sz) mc_yX5_cells im_yX5_cells se_yX5_cells mlX5_44 ⟨by decide, by decide⟩ ⟨by decide, by decide⟩ ⟨rfl, rfl⟩ [0, 1] rfl rfl rfl 0 rfl rfl rfl (Nat.le_of_ble_eq_true rfl) dX5_count_17) (fun r17 h => ?_)
        refine q_goto (pc := 20) (tgt := 58) F dX5_count_20 (by decide) ?_
        exact J58 r17 h
  · have h := h.1 c7
    refine q_iconst (pc := 10) F (v := -1) dX5_count_10 (by decide) ?_
    exact q_iretR (pc := 11) F Z dX5_count_11 h

def wp_X5_trace (m_trace : Int64) (post : Int64 → Prop) : Prop := post m_trace
abbrev rm_X5_trace : Room := { frames := 0, cells := 0, slots := 0, locals := 0 }
set_option maxRecDepth 100000 in
set_option maxHeartbeats 4000000 in
theorem ct_X5_trace (D : va_G) (cI cZ : ClassId) (a_M a_M_text a_M_told a_M_draft a_M_s a_M_images a_M_kept a_M_light a_M_may a_M_shine a_M_worth a_M_least : Nat) (m_trace : Int64) (m_typed : Int32) (m_at : Int32) (m_sort : Int32) (m_start : Int32) (m_size : Int32) {post : Int64 → Prop} (h : wp_X5_trace m_trace post) (l : Launch) (sz : Nat) : Met l yX5_trace (wsM yX5_trace cX5_trace 1 (some .long)) rm_X5_trace (va_Pc [.ref a_M] (gP D cI cZ [(a_M, .inr (5, [.long m_trace, .ref a_M_text, .int m_typed, .ref a_M_told, .ref a_M_draft, .ref a_M_s, .ref a_M_images, .ref a_M_kept, .int m_at, .int m_sort, .int m_start, .int m_size, .ref a_M_light, .ref a_M_may, .ref a_M_shine, .ref a_M_worth, .ref a_M_least]))] sz)) (gRl post) 0 0 (fun _ => False) := by
  refine q_startR (own := RX5) (by decide +kernel) rfl (Nat.le_of_ble_eq_true rfl) (fun E F Z => ?_)
  show Wg E [(a_M, .inr (5, [.long m_trace, .ref a_M_text, .int m_typed, .ref a_M_told, .ref a_M_draft, .ref a_M_s, .ref a_M_images, .ref a_M_kept, .int m_at, .int m_sort, .int m_start, .int m_size, .ref a_M_light, .ref a_M_may, .ref a_M_shine, .ref a_M_worth, .ref a_M_least]))] 0 0 0 [(0, .ref a_M)] []
  unfold wp_X5_trace at h
  refine q_aload_n (pc := 0) F 0 dX5_trace_0 rfl ?_
  refine q_get (pc := 1) F fgX5_192 0 rfl rfl dX5_trace_1 ?_
  exact q_lretR (pc := 4) F Z dX5_trace_4 h
