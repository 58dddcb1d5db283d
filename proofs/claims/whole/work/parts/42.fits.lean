/-! fits: the reference's histories. -/
theorem m_fitsSeen {h : Hal} {w : Nw} {t s : Nat → Int32} (o : OkH h) (n : OkN h w) (T : RM h t) (R : RS w s) {g S : Nat} (hg : g < 2 ^ hNp h) (hS : S < 2 ^ hNl h) {li : Nat → Int32} (hli : li S = nI (liN h S)) {post : Int32 → Prop} (k : post (b01 (okF h w (pcn (dif (allP h) g)) S))) : wp_X5_fitsSeen (nI g) (nI S) t s li post := by
  unfold wp_X5_fitsSeen
  have hnp := o.2.2.2.2.2.2.1
  have hnl := o.2.2.2.2.2.1
  have h64 := two6 hnp
  have h64l := two6 hnl
  have h8 := n.2.2.2.1
  have h12 := o.c12
  have hLb := lt32 (liN_lt o hS) (by omega)
  have hpd := pcn_dif o hg
  have hpg := pcn_le g
  unfold okF at k
  rw [show hNp h - pcn (dif (allP h) g) = pcn g by omega] at k
  have key : ∀ m i, i + m = nSeen w → wp_X5_fitsSeen_L5 (nI g) (nI S) t s li post (m + 1) (b01 (allB (fun k => okS w k (pcn g) (liN h S) && decide (nAft w k ≤ hNp h)) i)) (nI i) := by
    intro m
    induction m with
    | zero =>
      intro i hi
      unfold wp_X5_fitsSeen_L5
      have e : i = nSeen w := by omega
      subst e
      rw [R.2.1]
      exact br_t (nI_le (by omega) (by omega)) ⟨b01_B _, k⟩
    | succ m ih =>
      intro i hi
      unfold wp_X5_fitsSeen_L5
      have hk := n.2.2.2.2 i (by omega)
      have e14 : ix (14 + nI i) = 14 + i := by
        show ix (nI 14 + nI i) = _
        rw [nI_add]; exact ix_nI (by omega)
      have v14 : vp_in (14 + nI i) 38 := by
        show vp_in (nI 14 + nI i) 38
        rw [nI_add]; exact vp_in_nI (by omega) (by omega)
      have e22 : ix (22 + nI i) = 22 + i := by
        show ix (nI 22 + nI i) = _
        rw [nI_add]; exact ix_nI (by omega)
      have v22 : vp_in (22 + nI i) 38 := by
        show vp_in (nI 22 + nI i) 38
        rw [nI_add]; exact vp_in_nI (by omega) (by omega)
      have e30 : ix (30 + nI i) = 30 + i := by
        show ix (nI 30 + nI i) = _
        rw [nI_add]; exact ix_nI (by omega)
      have v30 : vp_in (30 + nI i) 38 := by
        show vp_in (nI 30 + nI i) 38
        rw [nI_add]; exact vp_in_nI (by omega) (by omega)
      have hR := R.2.2.2 i (by omega)
      rw [R.2.1, e14, e22, e30, hR.1, hR.2.1, hR.2.2, T.2.2.2.2.1]
      refine br_f (nI_ge (by omega) (by omega)) ?_
      have h9 := ih (i + 1) (by omega)
      rw [allB] at h9
      rw [nI_1]
      refine jn_i _ (fun K hK => ?_) h9
      unfold jn
      refine b01_z (fun c => ?_) (fun c => ⟨v14, m_ones (by omega) ?_⟩)
      · rw [c] at hK; exact hK
      · rw [c, Bool.true_and] at hK
        have fin : (okS w i (pcn g) (liN h S) = true) → (vp_in (14 + nI i) 38 ∧ (nI (hNp h) < nI (nAft w i) → K 0) ∧ (¬ nI (hNp h) < nI (nAft w i) → K 1)) := by
          intro ho
          rw [ho, Bool.true_and] at hK
          refine ⟨v14, pk_lt _ _ (fun q => ?_) (fun q => ?_)⟩
          · have : ¬ nAft w i ≤ hNp h := by omega
            simp [this] at hK; exact hK
          · simp [q] at hK; exact hK
        refine pk_eq _ _ (fun e => ⟨vp_in_nI (by omega) (by omega), v22, v30, ?_⟩) (fun e => ?_)
        · rw [ix_nI (by omega), hli, b_bit hLb (by omega)]
          refine ⟨fun d => fin (by simp [okS, d]), fun d => ?_⟩
          have : okS w i (pcn g) (liN h S) = false := by simp [okS, d, e]
          rw [this] at hK
          exact hK
        · exact fin (by simp [okS, e])
  exact ⟨_, key (nSeen w) 0 (by omega)⟩
def TBh (h : Hal) (w : Nw) (wo : Nat → Int32) (g S : Nat) : Prop := wo (128 * g + S) = nI (Nn (lvN h) (okF h w) (pcn (dif (allP h) g)) (dif (allP h) g) S)
theorem m_histRow {h : Hal} {t : Nat → Int32} (o : OkH h) (T : RM h t) {g S : Nat} (hg : g < 2 ^ hNp h) (hS : S < 2 ^ hNl h) {mv wo : Nat → Int32} (hmv : mv S = nI (lvN h S)) {fN : Nat → Nat → Nat} (hch : ∀ p l, p < 6 → l < 6 → (lvN h S &&& dif (allP h) g).testBit p = true → S.testBit l = true → wo (128 * (g ||| 2 ^ p) + clr S l) = nI (fN p l)) {a : Nat} {K : Int32 → Prop}
    (k : K (nI (a + sOn (lvN h S &&& dif (allP h) g) (fun p => sOn S (fun l => fN p l))))) : ∃ n, wp_X5_histories_L41 (nI g) (nI S) t mv wo K n (nI a) 0 := by
  have hnp := o.2.2.2.2.2.2.1
  have hnl := o.2.2.2.2.2.1
  have h64 := two6 hnp
  have h64l := two6 hnl
  have hvl : lvN h S < 2 ^ hNp h := mayN_lt _ _
  generalize hA : lvN h S &&& dif (allP h) g = A at *
  have key : ∀ m i, i + m = hNp h → wp_X5_histories_L41 (nI g) (nI S) t mv wo K (m + 1) (nI (a + fb_sm (fun p => if A.testBit p = true then sOn S (fun l => fN p l) else 0) i)) (nI i) := by
    intro m
    induction m with
    | zero =>
      intro i hi
      unfold wp_X5_histories_L41
      have e : i = hNp h := by omega
      subst e
      rw [T.2.2.2.2.1]
      refine br_t (nI_le (by omega) (by omega)) ?_
      have hz : ∀ q, hNp h ≤ q → ¬ A.testBit q = true := fun q hq c => by
        rw [← hA, Nat.testBit_and, Bool.and_eq_true] at c
        have := bits_lt hvl c.1
        omega
      have e6 : hNp h + (6 - hNp h) = 6 := by omega
      have e1 := sm_ext (f := fun p => if A.testBit p = true then sOn S (fun l => fN p l) else 0) (m := hNp h) (fun q hq => if_neg (hz q hq)) (6 - hNp h)
      rw [e6] at e1
      unfold sOn at k
      unfold sOn at e1
      rw [e1] at k
      exact k
    | succ m ih =>
      intro i hi
      unfold wp_X5_histories_L41
      rw [T.2.2.2.2.1]
      refine br_f (nI_ge (by omega) (by omega)) ⟨vp_in_nI (by omega) (by omega), ?_⟩
      rw [ix_nI (by omega), hmv]
      have hda : (dif (lvN h S) g).testBit i = A.testBit i := by rw [← hA]; exact dif_and hvl
      refine jn_i (b01 (A.testBit i)) (fun K hK => ⟨fun c => ?_, fun c => ?_⟩) ?_
      · have c1 := (goesB (by omega) (by omega)).mp c
        rw [hda] at c1
        rw [c1] at hK; exact hK
      · have c1 : A.testBit i = true := by
          cases hb : A.testBit i with
          | true => rfl
          | false => rw [← hda] at hb; exact absurd ((goesB (by omega) (by omega)).mpr hb) c
        rw [c1] at hK; exact hK
      unfold jn
      by_cases c : A.testBit i = true
      · have hgp : g ||| 2 ^ i < 64 := Nat.or_lt_two_pow (n := 6) (by show g < 64; omega) (Nat.pow_lt_pow_right (by decide) (by omega))
        have key2 : ∀ m2 l, l + m2 = 6 → wp_X5_histories_L80 (nI g) (nI S) (nI i) (b01 (A.testBit i)) wo (fun x3_129 => wp_X5_histories_L41 (nI g) (nI S) t mv wo K (m + 1) x3_129 (nI i + 1)) (m2 + 1) (nI (a + fb_sm (fun p => if A.testBit p = true then sOn S (fun l => fN p l) else 0) i + fb_sm (fun l => if S.testBit l = true then fN i l else 0) l)) (nI l) := by
          intro m2
          induction m2 with
          | zero =>
            intro l hl
            unfold wp_X5_histories_L80
            have e : l = 6 := by omega
            subst e
            refine br_t (nI_le (a := 6) (b := 6) (by omega) (by omega)) ?_
            have h9 := ih (i + 1) (by omega)
            rw [fb_sm_succ, if_pos c, ← Nat.add_assoc] at h9
            rw [nI_1]
            exact h9
          | succ m2 ih2 =>
            intro l hl
            unfold wp_X5_histories_L80
            have hcl := clr_le S l
            refine br_f (nI_ge (a := l) (b := 6) (by omega) (by omega)) ?_
            rw [c]
            refine br_f (by decide) ?_
            rw [b_bit (by omega) (by omega)]
            have h9 := ih2 (l + 1) (by omega)
            rw [fb_sm_succ, ← Nat.add_assoc, c] at h9
            refine jn_i (nI (if S.testBit l = true then fN i l else 0)) (fun K hK => b01_o (fun d => m_then (by omega) (by omega) (by omega) ⟨vp_in_nI (by omega) (by omega), ?_⟩) (fun d => ?_)) ?_
            · rw [ix_nI (by omega), hch i l (by omega) (by omega) c d]
              rw [if_pos d] at hK; exact hK
            · have d1 : ¬ S.testBit l = true := by rw [d]; decide
              rw [if_neg d1] at hK; exact hK
            · rw [nI_add, nI_1 l]
              exact nm_e h9
        have h8 := key2 6 0 rfl
        have e0 : fb_sm (fun l => if S.testBit l = true then fN i l else 0) 0 = 0 := rfl
        rw [e0, Nat.add_zero] at h8
        exact ⟨_, h8⟩
      · have c0 : A.testBit i = false := by simpa using c
        refine ⟨1, ?_⟩
        unfold wp_X5_histories_L80
        refine br_f (by decide) ?_
        rw [c0]
        refine br_t rfl ?_
        have h9 := ih (i + 1) (by omega)
        rw [fb_sm_succ, if_neg c, Nat.add_zero] at h9
        rw [nI_1]
        exact h9
  have h5 := key (hNp h) 0 (by omega)
  have e0 : fb_sm (fun p => if A.testBit p = true then sOn S (fun l => fN p l) else 0) 0 = 0 := rfl
  rw [e0, Nat.add_zero] at h5
  exact ⟨_, h5⟩
/-- a state's rows before what was seen is asked -/
def Nr (h : Hal) (w : Nw) : Nat → Nat → Nat → Nat
  | 0, _, _ => 1
  | j + 1, P, S => sOn (lvN h S &&& P) (fun p => sOn S (fun l => Nn (lvN h) (okF h w) j (clr P p) (clr S l)))
theorem Nn_r (h : Hal) (w : Nw) (j P S : Nat) : Nn (lvN h) (okF h w) j P S = if okF h w j S then Nr h w j P S else 0 := by
  cases j with
  | zero => rfl
  | succ j => rfl
theorem m_histCell {h : Hal} {w : Nw} {t : Nat → Int32} (o : OkH h) (T : RM h t) {g S : Nat} (hg : g < 2 ^ hNp h) (hS : S < 2 ^ hNl h) {mv wo : Nat → Int32} (hmv : mv S = nI (lvN h S)) (hch : ∀ g2 S2, g < g2 → g2 < 2 ^ hNp h → S2 < 2 ^ hNl h → TBh h w wo g2 S2) {K : Int32 → Prop}
    (k : K (nI (Nr h w (pcn (dif (allP h) g)) (dif (allP h) g) S))) : ∃ n, wp_X5_histories_L41 (nI g) (nI S) t mv wo K n (b01 (decide (g = allP h))) 0 := by
  have hP := difP_lt o g
  by_cases e : g = allP h
  · have eb : b01 (decide (g = allP h)) = nI 1 := by simp [e]; rfl
    rw [eb]
    have eP : dif (allP h) g = 0 := by rw [e]; exact dif_self _
    rw [eP] at k
    refine m_histRow o T hg hS hmv (fN := fun _ _ => 0) ?_ (a := 1) ?_
    · intro p l _ _ hb
      rw [eP, Nat.and_zero] at hb
      simp at hb
    · rw [eP, Nat.and_zero, sOn_none]
      exact k
  · have eb : b01 (decide (g = allP h)) = nI 0 := by simp [e]; rfl
    rw [eb]
    obtain ⟨j, hj⟩ : ∃ j, pcn (dif (allP h) g) = j + 1 := by
      cases hq : pcn (dif (allP h) g) with
      | zero => exact absurd (dif_all hg (pcn_0 (Nat.lt_of_lt_of_le hP (by decide)) hq)) e
      | succ j => exact ⟨j, rfl⟩
    rw [hj] at k
    refine m_histRow o T hg hS hmv (fN := fun p l => Nn (lvN h) (okF h w) j (clr (dif (allP h) g) p) (clr S l)) ?_ (a := 0) ?_
    · intro p l hp hl hb1 hb2
      obtain ⟨h1, h2, h3, h4, h5, h6⟩ := stepG hg hS o hb1 hb2
      have hT := hch _ _ h3 h2 h5
      unfold TBh at hT
      rw [h4] at hT
      have e1 : pcn (clr (dif (allP h) g) p) = j := by omega
      rw [e1] at hT
      exact hT
    · rw [Nat.zero_add]
      exact k
theorem m_hist {h : Hal} {w : Nw} {t s : Nat → Int32} (o : OkH h) (nn : OkN h w) (T : RM h t) (R : RS w s) {li mv sh wo : Nat → Int32} {post : (Nat → Int32) → (Nat → Int32) → (Nat → Int32) → (Nat → Int32) → Prop} (k : ∀ li2 mv2 sh2 wo2 : Nat → Int32, LT h 0 li2 mv2 → (∀ g, g < 2 ^ hNp h → ∀ S, S < 2 ^ hNl h → TBh h w wo2 g S) → post li2 mv2 sh2 wo2) : wp_X5_histories t s li mv sh wo post := by
  unfold wp_X5_histories
  have hnp := o.2.2.2.2.2.2.1
  have hnl := o.2.2.2.2.2.1
  have h64 := two6 hnp
  have h64l := two6 hnl
  have hpp := p2pos (hNp h)
  have hpl := p2pos (hNl h)
  have hAP := allP_lt h
  have hAL := allL_lt h
  refine m_lights (M := 0) o T (p2pos _) (fun li2 mv2 sh2 hLT => m_allP o T ?_)
  have key : ∀ n, n ≤ 2 ^ hNp h → ∀ wo1 : Nat → Int32, (∀ g, n ≤ g → g < 2 ^ hNp h → ∀ S, S < 2 ^ hNl h → TBh h w wo1 g S) → wp_X5_histories_L10 t s li2 mv2 sh2 post (n + 1) (nI n - 1) wo1 := by
    intro n
    induction n with
    | zero =>
      intro hn wo1 h1
      unfold wp_X5_histories_L10
      exact br_t (by decide) (k li2 mv2 sh2 wo1 hLT (fun g hg S hS => h1 g (Nat.zero_le _) hg S hS))
    | succ n ih =>
      intro hn wo1 h1
      unfold wp_X5_histories_L10
      rw [nI_pred]
      refine br_f (nI_pos (by omega)) ?_
      unfold jn
      have em : nI n + (-1) = nI n - 1 := by rw [Int32.sub_eq_add_neg]
      rw [em]
      have ih2 := ih (by omega)
      have key2 : ∀ m i, i + m = 2 ^ hNl h → ∀ wo2 : Nat → Int32, (∀ g, n + 1 ≤ g → g < 2 ^ hNp h → ∀ S, S < 2 ^ hNl h → TBh h w wo2 g S) → (∀ S, S < i → TBh h w wo2 n S) → ∀ K : (Nat → Int32) → Prop, (∀ wo3 : Nat → Int32, (∀ g, n ≤ g → g < 2 ^ hNp h → ∀ S, S < 2 ^ hNl h → TBh h w wo3 g S) → K wo3) → wp_X5_histories_L16 (nI n) t s li2 mv2 K (m + 1) (nI i) wo2 := by
        intro m
        induction m with
        | zero =>
          intro i hi wo2 h2 h3 K hK
          unfold wp_X5_histories_L16
          have e : i = 2 ^ hNl h := by omega
          subst e
          refine m_allL o T (br_t (nI_lt hAL (by omega)) ?_)
          refine hK wo2 ?_
          intro g hg hg2 S hS
          rcases Nat.lt_or_ge n g with q | q
          · exact h2 g q hg2 S hS
          · have : g = n := by omega
            rw [this]; exact h3 S hS
        | succ m ihm =>
          intro i hi wo2 h2 h3 K hK
          unfold wp_X5_histories_L16
          refine m_allL o T (br_f (nI_nlt (by unfold allL; omega) (by omega)) (m_allP o T ?_))
          refine jn_i (b01 (decide (n = allP h))) (fun K hK => pk_eq _ _ (fun q => ?_) (fun q => ?_)) ?_
          · simp [q] at hK; exact hK
          · simp [q] at hK; exact hK
          unfold jn
          refine m_histCell (w := w) o T (by omega) (by omega) (hLT.at o (by omega)).2 (fun g2 S2 q1 q2 q3 => h2 g2 q1 q2 S2 q3) (m_state ?_)
          refine m_fitsSeen o nn T R (by omega) (by omega) (hLT.at o (by omega)).1 ?_
          have hfin : wp_X5_histories_L16 (nI n) t s li2 mv2 K (m + 1) (nI (i + 1)) (upd wo2 (128 * n + i) (nI (Nn (lvN h) (okF h w) (pcn (dif (allP h) n)) (dif (allP h) n) i))) := by
            refine ihm (i + 1) (by omega) _ ?_ ?_ K hK
            · intro g hg hg2 S hS
              have ne : 128 * g + S ≠ 128 * n + i := by omega
              have := h2 g hg hg2 S hS
              unfold TBh at this ⊢
              rw [upd_n ne]; exact this
            · intro S hS
              unfold TBh
              by_cases q : S = i
              · subst q
                rw [upd_s]
              · have ne : 128 * n + S ≠ 128 * n + i := by omega
                have := h3 S (by omega)
                unfold TBh at this
                rw [upd_n ne]; exact this
          rw [Nn_r] at hfin
          rw [nI_1 i, ix_nI (by omega)]
          refine b01_z (fun q => ⟨vp_in_nI (by omega) (by omega), ?_⟩) (fun q => ⟨vp_in_nI (by omega) (by omega), ?_⟩)
          · rw [q] at hfin; exact hfin
          · rw [q] at hfin; exact hfin
      exact ⟨_, key2 (2 ^ hNl h) 0 (by omega) wo1 h1 (fun S hS => by omega) _ (fun wo3 hT => ih2 wo3 hT)⟩
  have h5 := key (2 ^ hNp h) (Nat.le_refl _) wo (fun g h1 h2 => by omega)
  have e1 : nI (2 ^ hNp h) - 1 = nI (allP h) := pk_sub (b := 1) hpp
  rw [e1] at h5
  exact ⟨_, h5⟩
def fitA (h : Hal) (w : Nw) : Int32 := nI (Nn (lvN h) (okF h w) (hNp h) (allP h) (allL h))
theorem m_fits {h : Hal} {w : Nw} {t s : Nat → Int32} (o : OkH h) (nn : OkN h w) (T : RM h t) (R : RS w s) {li mv sh wo : Nat → Int32} {post : Int32 → (Nat → Int32) → (Nat → Int32) → (Nat → Int32) → (Nat → Int32) → Prop} (k : ∀ a b c d, post (fitA h w) a b c d) : wp_X5_fits t s li mv sh wo post := by
  unfold wp_X5_fits
  have hnp := o.2.2.2.2.2.2.1
  have hnl := o.2.2.2.2.2.1
  have h64l := two6 hnl
  have hAL := allL_lt h
  refine m_hist o nn T R (fun li2 mv2 sh2 wo2 _ hT => m_allL o T (m_state (a := 0) ⟨vp_in_nI (by omega) (by omega), ?_⟩))
  have h1 := hT 0 (p2pos _) (allL h) hAL
  unfold TBh at h1
  rw [dif_0, show pcn (allP h) = hNp h from pcn_all (hNp h) (by omega)] at h1
  rw [ix_nI (by omega), h1]
  exact k _ _ _ _
theorem c_fits {h : Hal} {w : Nw} (o : OkH h) (nn : OkN h w) {sa sc sl wy li lv sh : Nat → Int32} (hs : ∀ k, k < nSeen w → sa k = nI (nAft w k) ∧ sc k = nI (nWhe w k) ∧ sl k = nI (nLig w k)) (T : RT h sh li lv) {post : Int32 → (Nat → Int32) → Prop} (k : ∀ a, post (fitA h w) a) : wp_X4_fits (nI (nSeen w)) sa sc sl wy (nI (hNl h)) (nI (hNp h)) li lv post := by
  unfold wp_X4_fits
  refine c_allP o (c_allL o (c_cntS (pr := 0) (lm := 0) o nn (by omega) (Or.inl rfl) hs T (fun a => ?_)))
  rw [CwW, dif_0]
  unfold fitA at k
  have hP : allP h < 64 := by
    have := two6 o.2.2.2.2.2.2.1
    have := allP_lt h
    omega
  rw [NW (fun a b (k : sbs a b) => lvN_mono (h := h) k) _ _ _ hP] at k
  exact k a
