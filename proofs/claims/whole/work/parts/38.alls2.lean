/-! rows and grief: the reference's answers. -/
def TB2 (h : Hal) (wo le : Nat → Int32) (g S : Nat) : Prop := wo (128 * g + S) = nI (Nn (lvN h) (fun _ _ => true) (pcn (dif (allP h) g)) (dif (allP h) g) S) ∧ le (128 * g + S) = nI (Gr h (pcn (dif (allP h) g)) (dif (allP h) g) S)
theorem difP_lt {h : Hal} (o : OkH h) (g : Nat) : dif (allP h) g < 64 := by
  have h64 := two6 o.2.2.2.2.2.2.1
  have h1 := dif_le (allP h) g
  have h2 := allP_lt h
  omega
theorem mn_none : mnF 10000 (fun p => if (0 : Nat).testBit p = true then mnF 10000 (fun _ => 10000) 6 else 10000) 6 = 10000 := by decide
theorem sOn_none (f : Nat → Nat) : sOn 0 f = 0 := sm_z (fun k _ => by simp)
theorem m_allsCell {h : Hal} {t : Nat → Int32} (o : OkH h) (T : RM h t) {g S : Nat} (hg : g < 2 ^ hNp h) (hS : S < 2 ^ hNl h) {mv wo le : Nat → Int32} (hmv : mv S = nI (lvN h S)) (hch : ∀ g2 S2, g < g2 → g2 < 2 ^ hNp h → S2 < 2 ^ hNl h → TB2 h wo le g2 S2) {K : Int32 → Int32 → Prop}
    (k : K (nI (Nn (lvN h) (fun _ _ => true) (pcn (dif (allP h) g)) (dif (allP h) g) S)) (nI (Gr h (pcn (dif (allP h) g)) (dif (allP h) g) S))) : ∃ n, wp_X5_alls_L65 (nI g) (nI S) t mv wo le K n (if g = allP h then 1 else 0) (if g = allP h then 0 else 10000) 0 := by
  have hP := difP_lt o g
  have hpd := pcn_dif o hg
  by_cases e : g = allP h
  · rw [if_pos e, if_pos e]
    have eP : dif (allP h) g = 0 := by rw [e]; exact dif_self _
    rw [eP] at k
    refine m_allsRow o T hg hS hmv (fN := fun _ _ => 0) (fG := fun _ _ => 0) ?_ (a := 1) (b := 0) (by omega) ?_
    · intro p l _ _ hb
      rw [eP, Nat.and_zero] at hb
      simp at hb
    · rw [eP, Nat.and_zero, sOn_none]
      have : min 0 (mnF 10000 (fun p => if (0 : Nat).testBit p = true then mnF 10000 (fun l => if S.testBit l = true then (fun _ _ => 0) p l + adf (hPw h p) (pcn g) else 10000) 6 else 10000) 6) = 0 := Nat.zero_min _
      rw [this]
      exact k
  · rw [if_neg e, if_neg e]
    obtain ⟨j, hj⟩ : ∃ j, pcn (dif (allP h) g) = j + 1 := by
      cases hq : pcn (dif (allP h) g) with
      | zero => exact absurd (dif_all hg (pcn_0 (Nat.lt_of_lt_of_le hP (by decide)) hq)) e
      | succ j => exact ⟨j, rfl⟩
    rw [hj] at k
    refine m_allsRow o T hg hS hmv (fN := fun p l => Nn (lvN h) (fun _ _ => true) j (clr (dif (allP h) g) p) (clr S l)) (fG := fun p l => Gr h j (clr (dif (allP h) g) p) (clr S l)) ?_ (a := 0) (b := 10000) (by omega) ?_
    · intro p l hp hl hb1 hb2
      obtain ⟨h1, h2, h3, h4, h5, h6⟩ := stepG hg hS o hb1 hb2
      have hT := hch _ _ h3 h2 h5
      unfold TB2 at hT
      rw [h4] at hT
      have e1 : pcn (clr (dif (allP h) g) p) = j := by omega
      rw [e1] at hT
      exact ⟨hT.1, hT.2, Gr_le h _ _ _⟩
    · have e2 : hNp h - (j + 1) = pcn g := by omega
      rw [Nn, Gr, e2] at k
      rw [Nat.zero_add, Nat.min_eq_right (mnF_le 6)]
      exact k
theorem m_alls {h : Hal} {t : Nat → Int32} (o : OkH h) (T : RM h t) {li mv sh wo le : Nat → Int32} {post : (Nat → Int32) → (Nat → Int32) → (Nat → Int32) → (Nat → Int32) → (Nat → Int32) → Prop} (k : ∀ li2 mv2 sh2 wo2 le2 : Nat → Int32, (∀ g, g < 2 ^ hNp h → ∀ S, S < 2 ^ hNl h → TB2 h wo2 le2 g S) → post li2 mv2 sh2 wo2 le2) : wp_X5_alls t li mv sh wo le post := by
  unfold wp_X5_alls
  have hnp := o.2.2.2.2.2.2.1
  have hnl := o.2.2.2.2.2.1
  have h64 := two6 hnp
  have h64l := two6 hnl
  have hpp := p2pos (hNp h)
  have hpl := p2pos (hNl h)
  have hAP := allP_lt h
  have hAL := allL_lt h
  refine m_lights (M := 0) o T (p2pos _) (fun li2 mv2 sh2 hLT => m_allP o T ?_)
  have key : ∀ n, n ≤ 2 ^ hNp h → ∀ wo1 le1 : Nat → Int32, (∀ g, n ≤ g → g < 2 ^ hNp h → ∀ S, S < 2 ^ hNl h → TB2 h wo1 le1 g S) → wp_X5_alls_L10 t li2 mv2 sh2 post (n + 1) (nI n - 1) wo1 le1 := by
    intro n
    induction n with
    | zero =>
      intro hn wo1 le1 h1
      unfold wp_X5_alls_L10
      exact br_t (by decide) (k li2 mv2 sh2 wo1 le1 (fun g hg S hS => h1 g (Nat.zero_le _) hg S hS))
    | succ n ih =>
      intro hn wo1 le1 h1
      unfold wp_X5_alls_L10
      rw [nI_pred]
      refine br_f (nI_pos (by omega)) ?_
      unfold jn
      have key2 : ∀ m i, i + m = 2 ^ hNl h → ∀ wo2 le2 : Nat → Int32, (∀ g, n + 1 ≤ g → g < 2 ^ hNp h → ∀ S, S < 2 ^ hNl h → TB2 h wo2 le2 g S) → (∀ S, S < i → TB2 h wo2 le2 n S) → wp_X5_alls_L16 (nI n) t mv2 (fun m_worth_268 m_least_268 => wp_X5_alls_L10 t li2 mv2 sh2 post (n + 1) (nI n + (-1)) m_worth_268 m_least_268) (m + 1) (nI i) wo2 le2 := by
        intro m
        induction m with
        | zero =>
          intro i hi wo2 le2 h2 h3
          unfold wp_X5_alls_L16
          have e : i = 2 ^ hNl h := by omega
          subst e
          refine m_allL o T (br_t (nI_lt hAL (by omega)) ?_)
          have em : nI n + (-1) = nI n - 1 := by rw [Int32.sub_eq_add_neg]
          rw [em]
          refine ih (by omega) wo2 le2 ?_
          intro g hg hg2 S hS
          rcases Nat.lt_or_ge n g with q | q
          · exact h2 g q hg2 S hS
          · have : g = n := by omega
            rw [this]; exact h3 S hS
        | succ m ihm =>
          intro i hi wo2 le2 h2 h3
          unfold wp_X5_alls_L16
          refine m_allL o T (br_f (nI_nlt (by unfold allL; omega) (by omega)) (m_allP o T ?_))
          refine jn_i (b01 (decide (n = allP h))) (fun K hK => pk_eq _ _ (fun q => ?_) (fun q => ?_)) ?_
          · simp [q] at hK; exact hK
          · simp [q] at hK; exact hK
          refine jn_i (if n = allP h then 1 else 0) (fun K hK => b01_z (fun q => ?_) (fun q => ?_)) ?_
          · have q1 : ¬ n = allP h := of_decide_eq_false q
            rw [if_neg q1] at hK; exact hK
          · have q1 : n = allP h := of_decide_eq_true q
            rw [if_pos q1] at hK; exact hK
          refine jn_i (if n = allP h then 0 else 10000) (fun K hK => b01_z (fun q => ?_) (fun q => ?_)) ?_
          · have q1 : ¬ n = allP h := of_decide_eq_false q
            rw [if_neg q1] at hK; exact hK
          · have q1 : n = allP h := of_decide_eq_true q
            rw [if_pos q1] at hK; exact hK
          unfold jn
          refine m_allsCell o T (by omega) (by omega) (hLT.at o (by omega)).2 (fun g2 S2 q1 q2 q3 => h2 g2 q1 q2 S2 q3) ?_
          refine m_state ⟨vp_in_nI (by omega) (by omega), m_state ⟨vp_in_nI (by omega) (by omega), ?_⟩⟩
          rw [nI_1, ix_nI (by omega)]
          refine ihm (i + 1) (by omega) _ _ ?_ ?_
          · intro g hg hg2 S hS
            have ne : 128 * g + S ≠ 128 * n + i := by omega
            have := h2 g hg hg2 S hS
            unfold TB2 at this ⊢
            rw [upd_n ne, upd_n ne]; exact this
          · intro S hS
            unfold TB2
            by_cases q : S = i
            · subst q
              rw [upd_s, upd_s]; exact ⟨rfl, rfl⟩
            · have ne : 128 * n + S ≠ 128 * n + i := by omega
              have := h3 S (by omega)
              unfold TB2 at this
              rw [upd_n ne, upd_n ne]; exact this
      exact ⟨_, key2 (2 ^ hNl h) 0 (by omega) wo1 le1 h1 (fun S hS => by omega)⟩
  have h5 := key (2 ^ hNp h) (Nat.le_refl _) wo le (fun g h1 h2 => by omega)
  have e1 : nI (2 ^ hNp h) - 1 = nI (allP h) := pk_sub (b := 1) hpp
  rw [e1] at h5
  exact ⟨_, h5⟩
theorem m_rows {h : Hal} {w : Nw} {t s : Nat → Int32} (o : OkH h) (n : OkN h w) (T : RM h t) (S : RS w s) {li mv sh wo le : Nat → Int32} {post : Int32 → (Nat → Int32) → (Nat → Int32) → (Nat → Int32) → (Nat → Int32) → (Nat → Int32) → Prop} (k : ∀ a b c d e, post (nI (Nn (lvN h) (fun _ _ => true) (pcn (thereN h w)) (thereN h w) (litN h w))) a b c d e) : wp_X5_rows t s li mv sh wo le post := by
  unfold wp_X5_rows
  have hl := n.left o
  have h64 := two6 o.2.2.2.2.2.2.1
  have h64l := two6 o.2.2.2.2.2.1
  refine m_alls o T (fun li2 mv2 sh2 wo2 le2 hT => ?_)
  refine m_gone hl.2.2 (hwho o n) S (m_lit o n T S (m_state ?_))
  have hg := goneN_lt n
  have hlt := litN_lt h w
  refine ⟨vp_in_nI (by omega) (by omega), ?_⟩
  rw [ix_nI (by omega), (hT _ hg _ hlt).1]
  exact k _ _ _ _ _
def griA (h : Hal) (w : Nw) : Int32 := if Gr h (pcn (thereN h w)) (thereN h w) (litN h w) < 10000 then nI (Gr h (pcn (thereN h w)) (thereN h w) (litN h w)) else (-9)
theorem m_grief {h : Hal} {w : Nw} {t s : Nat → Int32} (o : OkH h) (n : OkN h w) (T : RM h t) (S : RS w s) {li mv sh wo le : Nat → Int32} {post : Int32 → (Nat → Int32) → (Nat → Int32) → (Nat → Int32) → (Nat → Int32) → (Nat → Int32) → Prop} (k : ∀ a b c d e, post (griA h w) a b c d e) : wp_X5_grief t s li mv sh wo le post := by
  unfold wp_X5_grief
  have hl := n.left o
  have h64 := two6 o.2.2.2.2.2.2.1
  have h64l := two6 o.2.2.2.2.2.1
  refine m_alls o T (fun li2 mv2 sh2 wo2 le2 hT => ?_)
  refine m_gone hl.2.2 (hwho o n) S (m_lit o n T S (m_state ?_))
  have hg := goneN_lt n
  have hlt := litN_lt h w
  refine ⟨vp_in_nI (by omega) (by omega), ?_⟩
  rw [ix_nI (by omega), (hT _ hg _ hlt).2]
  have hGl := Gr_le h (pcn (thereN h w)) (thereN h w) (litN h w)
  unfold griA at k
  refine pk_lt (Gr h (pcn (thereN h w)) (thereN h w) (litN h w)) 10000 (fun q => ?_) (fun q => ?_)
  · rw [if_pos q] at k; exact k _ _ _ _ _
  · rw [if_neg (by omega)] at k; exact k _ _ _ _ _
theorem c_rows {h : Hal} {w : Nw} (o : OkH h) {lv wy : Nat → Int32} (hlv : ∀ lit, lit < 2 ^ hNl h → lv lit = nI (lvN h lit)) {post : Int32 → (Nat → Int32) → Prop} (k : ∀ a, post (nI (Nn (lvN h) (fun _ _ => true) (pcn (thereN h w)) (thereN h w) (litN h w))) a) : wp_X4_rows (nI (goneN w)) (nI (msk (nLmp w) (nLeft w))) wy (nI (hNl h)) (nI (hNp h)) lv post := by
  unfold wp_X4_rows
  refine c_thereNow o (c_litNow o (c_cntN (v := lvN h) o.2.2.2.2.2.1 (thereN_64 o w) (litN_lt h w) hlv (fun a => ?_)))
  rw [NW (fun a b (k : sbs a b) => lvN_mono (h := h) k) _ _ _ (thereN_64 o w)] at k
  exact k a
