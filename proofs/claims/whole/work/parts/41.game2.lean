/-! game and grief: the answers. -/
theorem pcn_set {a p : Nat} (hp : p < 12) (h : a.testBit p = false) : pcn (a ||| 2 ^ p) = pcn a + 1 := by
  have h1 : (a ||| 2 ^ p).testBit p = true := by rw [set_bit]; simp
  have h2 := pcn_clr hp h1
  have e : clr (a ||| 2 ^ p) p = a := by
    apply Nat.eq_of_testBit_eq
    intro i
    rw [clr_bit, set_bit]
    by_cases q : i = p
    · subst q; rw [h]; simp
    · simp [q]
  rw [e] at h2
  omega
theorem pcn_msk {f : Nat → Nat} : ∀ k, (∀ i, i < k → f i < 12) → (∀ i j, i < k → j < k → f i = f j → i = j) → pcn (msk f k) = k
  | 0, _, _ => by
    show pcn 0 = 0
    decide
  | k + 1, h1, h2 => by
    rw [msk, pcn_set (h1 k (by omega)), pcn_msk k (fun i hi => h1 i (by omega)) (fun i j hi hj => h2 i j (by omega) (by omega))]
    cases hb : (msk f k).testBit (f k) with
    | false => rfl
    | true =>
      obtain ⟨j, hj1, hj2⟩ := (msk_bit f (f k) k).mp hb
      have := h2 j k (by omega) (by omega) hj2
      omega
theorem burnN {h : Hal} {w : Nw} (o : OkH h) (n : OkN h w) : pcn (litN h w) + hNp h = hNl h + pcn (thereN h w) := by
  have hl := n.left o
  have hnl := o.2.2.2.2.2.1
  have hnp := o.2.2.2.2.2.2.1
  have h1 : pcn (goneN w) = nLeft w := pcn_msk _ (fun i hi => by have := (n.1 i hi).1; omega) n.2.1
  have h2 : pcn (msk (nLmp w) (nLeft w)) = nLeft w := pcn_msk _ (fun i hi => by have := (n.1 i hi).2; omega) n.2.2.1
  have h3 := pcn_dif o (goneN_lt n)
  have h4 : pcn (litN h w) + pcn (msk (nLmp w) (nLeft w)) = hNl h := by
    have h5 := pcn_split (allL_sbs (msk_lt (f := nLmp w) (k := nLeft w) (n := hNl h) (fun j hj => (n.1 j hj).2)))
    have h6 : pcn (allL h) = hNl h := pcn_all (hNl h) (by omega)
    unfold litN
    omega
  unfold thereN
  omega
theorem c_grief {h : Hal} {w : Nw} (o : OkH h) (n : OkN h w) {gr wi lv wish side : Nat → Int32} {kn : Int32} (hlv : ∀ lit, lit < 2 ^ hNl h → lv lit = nI (lvN h lit)) (hw : ∀ p, p < hNp h → wish p = nI (hPw h p) ∧ side p = nI (hPs h p)) (hkn : ¬ kn = 0 → ∀ P, P < 2 ^ hNp h → ∀ S, S < 2 ^ hNl h → TBc h gr wi P S) (hkB : isB kn) {post : Int32 → (Nat → Int32) → (Nat → Int32) → Int32 → Prop} (k : ∀ gr2 wi2 kn2, (∀ P, P < 2 ^ hNp h → ∀ S, S < 2 ^ hNl h → TBc h gr2 wi2 P S) → isB kn2 → post (griA h w) gr2 wi2 kn2) : wp_X4_grief (nI (goneN w)) (nI (msk (nLmp w) (nLeft w))) gr wi kn (nI (hNl h)) (nI (hNp h)) wish side lv post := by
  unfold wp_X4_grief
  have h64 := two6 o.2.2.2.2.2.2.1
  have h64l := two6 o.2.2.2.2.2.1
  refine c_thereNow o (c_litNow o ?_)
  unfold wp_X2_griefOf
  refine c_tables o hlv hw hkn (fun gr2 wi2 kn2 hT hB => c_place ?_) hkB
  have hth := thereN_lt h w
  have hlt := litN_lt h w
  refine ⟨vp_in_nI (by omega) (by omega), ?_⟩
  rw [ix_nI (by omega), (hT _ hth _ hlt (burnN o n)).1]
  have kf := k gr2 wi2 kn2 hT hB
  unfold griA at kf
  have hp6 := pcn_s64 (thereN_64 o w)
  rcases Gr_fin o (pcn (thereN h w)) (thereN h w) (litN h w) with q | q
  · rw [q] at kf ⊢
    exact br_f (by decide) kf
  · rw [if_pos (by omega)] at kf
    rw [Nat.min_eq_right (by omega)]
    exact br_t (nI_lt (b := 1000) (by omega) (by omega)) kf
def gamA (h : Hal) (w : Nw) : Int32 := if Wb h (pcn (thereN h w)) (thereN h w) (litN h w) 0 = true then 0 else 1
theorem c_game {h : Hal} {w : Nw} (o : OkH h) (n : OkN h w) {gr wi lv wish side : Nat → Int32} {kn : Int32} (hlv : ∀ lit, lit < 2 ^ hNl h → lv lit = nI (lvN h lit)) (hw : ∀ p, p < hNp h → wish p = nI (hPw h p) ∧ side p = nI (hPs h p)) (hkn : ¬ kn = 0 → ∀ P, P < 2 ^ hNp h → ∀ S, S < 2 ^ hNl h → TBc h gr wi P S) (hkB : isB kn) {post : Int32 → (Nat → Int32) → (Nat → Int32) → Int32 → Prop} (k : ∀ gr2 wi2 kn2, (∀ P, P < 2 ^ hNp h → ∀ S, S < 2 ^ hNl h → TBc h gr2 wi2 P S) → isB kn2 → post (gamA h w) gr2 wi2 kn2) : wp_X4_game (nI (goneN w)) (nI (msk (nLmp w) (nLeft w))) gr wi kn (nI (hNl h)) (nI (hNp h)) wish side lv post := by
  unfold wp_X4_game
  have h64 := two6 o.2.2.2.2.2.2.1
  have h64l := two6 o.2.2.2.2.2.1
  refine c_thereNow o (c_litNow o ?_)
  unfold wp_X2_winnerOf
  refine c_tables o hlv hw hkn (fun gr2 wi2 kn2 hT hB => c_place ?_) hkB
  have hth := thereN_lt h w
  have hlt := litN_lt h w
  refine ⟨vp_in_nI (by omega) (by omega), ?_⟩
  rw [ix_nI (by omega), (hT _ hth _ hlt (burnN o n)).2]
  have kf := k gr2 wi2 kn2 hT hB
  unfold gamA at kf
  have hw2 := w2_lt (Wb h (pcn (thereN h w)) (thereN h w) (litN h w) 0) (Wb h (pcn (thereN h w)) (thereN h w) (litN h w) 1)
  refine c_bit (k := 0) (by omega) (by omega) ?_
  rw [w2_bit (fun s => Wb h (pcn (thereN h w)) (thereN h w) (litN h w) s) (Nat.zero_le 1)]
  refine b01_o (fun d => ?_) (fun d => ?_)
  · rw [if_pos d] at kf; exact kf
  · rw [if_neg (by rw [d]; decide)] at kf; exact kf
/-! the reference -/
def TBg (h : Hal) (wo le : Nat → Int32) (g S : Nat) : Prop := wo (128 * g + S) = b01 (Wb h (pcn (dif (allP h) g)) (dif (allP h) g) S 0) ∧ le (128 * g + S) = b01 (Wb h (pcn (dif (allP h) g)) (dif (allP h) g) S 1)
theorem m_gameRow {h : Hal} {t : Nat → Int32} (o : OkH h) (T : RM h t) {g S j : Nat} (hg : g < 2 ^ hNp h) (hS : S < 2 ^ hNl h) {mv wo le : Nat → Int32} (hmv : mv S = nI (lvN h S)) (hch : ∀ p l, p < 6 → l < 6 → (lvN h S &&& dif (allP h) g).testBit p = true → S.testBit l = true → wo (128 * (g ||| 2 ^ p) + clr S l) = b01 (Wb h j (clr (dif (allP h) g) p) (clr S l) 0) ∧ le (128 * (g ||| 2 ^ p) + clr S l) = b01 (Wb h j (clr (dif (allP h) g) p) (clr S l) 1)) {K : Int32 → Prop}
    (k : K (nI (w2 (Wi h j (dif (allP h) g) S 6 0) (Wi h j (dif (allP h) g) S 6 1)))) : ∃ n, wp_X5_game_L29 (nI g) (nI S) t mv wo le K n 0 0 := by
  have hnp := o.2.2.2.2.2.2.1
  have hnl := o.2.2.2.2.2.1
  have h64 := two6 hnp
  have h64l := two6 hnl
  have hvl : lvN h S < 2 ^ hNp h := mayN_lt _ _
  generalize hPe : dif (allP h) g = P at *
  have key : ∀ m i, i + m = hNp h → wp_X5_game_L29 (nI g) (nI S) t mv wo le K (m + 1) (nI (w2 (Wi h j P S i 0) (Wi h j P S i 1))) (nI i) := by
    intro m
    induction m with
    | zero =>
      intro i hi
      unfold wp_X5_game_L29
      have e : i = hNp h := by omega
      subst e
      rw [T.2.2.2.2.1, Wi_np o, Wi_np o]
      exact br_t (nI_le (by omega) (by omega)) k
    | succ m ih =>
      intro i hi
      unfold wp_X5_game_L29
      have e31 : ix (31 + nI i) = 31 + i := by
        show ix (nI 31 + nI i) = _
        rw [nI_add]; exact ix_nI (by omega)
      have v31 : vp_in (31 + nI i) 43 := by
        show vp_in (nI 31 + nI i) 43
        rw [nI_add]; exact vp_in_nI (by omega) (by omega)
      have hsi := (o.2.2.2.2.2.2.2.2 i (by omega)).2.2
      rw [T.2.2.2.2.1]
      refine br_f (nI_ge (by omega) (by omega)) ⟨vp_in_nI (by omega) (by omega), ?_⟩
      rw [ix_nI (by omega), hmv, e31, (T.2.2.2.2.2.2.2.2 i (by omega)).2.2]
      have hda : (dif (lvN h S) g).testBit i = (lvN h S &&& P).testBit i := by rw [← hPe]; exact dif_and hvl
      refine jn_i (b01 ((lvN h S &&& P).testBit i)) (fun K hK => ⟨fun c => ?_, fun c => ?_⟩) ⟨v31, ?_⟩
      · have c1 := (goesB (by omega) (by omega)).mp c
        rw [hda] at c1
        rw [c1] at hK; exact hK
      · have c1 : (lvN h S &&& P).testBit i = true := by
          cases hb : (lvN h S &&& P).testBit i with
          | true => rfl
          | false => rw [← hda] at hb; exact absurd ((goesB (by omega) (by omega)).mpr hb) c
        rw [c1] at hK; exact hK
      unfold jn
      have h9 := ih (i + 1) (by omega)
      have hstep : ∀ s, Wi h j P S (i + 1) s = (Wi h j P S i s || ((lvN h S &&& P).testBit i && decide (hPs h i = s) && Bt (Wb h) j P S i s)) := fun s => rfl
      by_cases c : (lvN h S &&& P).testBit i = true
      · have hgp : g ||| 2 ^ i < 64 := Nat.or_lt_two_pow (n := 6) (by show g < 64; omega) (Nat.pow_lt_pow_right (by decide) (by omega))
        have key2 : ∀ m2 l, l + m2 = 6 → wp_X5_game_L80 (nI g) (nI S) (nI i) (b01 ((lvN h S &&& P).testBit i)) (nI (hPs h i)) wo le (fun x3_167 => wp_X5_game_L29 (nI g) (nI S) t mv wo le K (m + 1) x3_167 (nI i + 1)) (m2 + 1) (nI (w2 (Wi h j P S i 0 || (decide (0 = hPs h i) && anyB (fun l => S.testBit l && !(Wb h j (clr P i) (clr S l) (1 - hPs h i))) l)) (Wi h j P S i 1 || (decide (1 = hPs h i) && anyB (fun l => S.testBit l && !(Wb h j (clr P i) (clr S l) (1 - hPs h i))) l)))) (nI l) := by
          intro m2
          induction m2 with
          | zero =>
            intro l hl
            unfold wp_X5_game_L80
            have e : l = 6 := by omega
            subst e
            refine br_t (nI_le (a := 6) (b := 6) (by omega) (by omega)) ?_
            rw [nI_1]
            have e2 : ∀ s, Wi h j P S (i + 1) s = (Wi h j P S i s || (decide (s = hPs h i) && anyB (fun l => S.testBit l && !(Wb h j (clr P i) (clr S l) (1 - hPs h i))) 6)) := by
              intro s
              rw [hstep, c]
              by_cases q : s = hPs h i
              · subst q
                simp [Bt]
              · have q2 : ¬ hPs h i = s := fun z => q z.symm
                simp [q, q2]
            rw [e2, e2] at h9
            exact h9
          | succ m2 ih2 =>
            intro l hl
            unfold wp_X5_game_L80
            have hcl := clr_le S l
            refine br_f (nI_ge (a := l) (b := 6) (by omega) (by omega)) ?_
            rw [c]
            refine br_f (by decide) (m_then (by omega) (by omega) (by omega) ?_)
            rw [b_bit (by omega) (by omega)]
            have h8 := ih2 (l + 1) (by omega)
            rw [anyB, c] at h8
            refine jn_i (b01 (S.testBit l && !(Wb h j (clr P i) (clr S l) (1 - hPs h i)))) (fun K hK => ?_) ?_
            · unfold jn
              refine b01_o (fun d => ?_) (fun d => ?_)
              · have hc := hch i l (by omega) (by omega) c d
                rw [d] at hK
                have hy : ∀ K2 : Int32 → Prop, K2 (b01 (Wb h j (clr P i) (clr S l) (1 - hPs h i))) → ((nI (hPs h i) = 0 → vp_in (nI (128 * (g ||| 2 ^ i) + clr S l)) 8192 ∧ K2 (le (ix (nI (128 * (g ||| 2 ^ i) + clr S l))))) ∧ (¬ nI (hPs h i) = 0 → vp_in (nI (128 * (g ||| 2 ^ i) + clr S l)) 8192 ∧ K2 (wo (ix (nI (128 * (g ||| 2 ^ i) + clr S l)))))) := by
                  intro K2 hK2
                  rw [ix_nI (by omega), hc.1, hc.2]
                  refine ne0_nI (by omega) (fun e => ⟨vp_in_nI (by omega) (by omega), ?_⟩) (fun e => ⟨vp_in_nI (by omega) (by omega), ?_⟩)
                  · rw [e] at hK2; exact hK2
                  · have : hPs h i = 1 := by omega
                    rw [this] at hK2; exact hK2
                refine hy (fun y => (y = 0 → K 1) ∧ (¬ y = 0 → K 0)) (b01_z (fun e => ?_) (fun e => ?_))
                · rw [e] at hK; exact hK
                · rw [e] at hK; exact hK
              · rw [d] at hK; exact hK
            · by_cases d : (S.testBit l && !(Wb h j (clr P i) (clr S l) (1 - hPs h i))) = true
              · rw [d] at h8 ⊢
                refine jn_i (jshl 1 (nI (hPs h i))) (fun K hK => br_f (by decide) hK) ?_
                rw [w2_set (fun s => Wi h j P S i s || (decide (s = hPs h i) && anyB (fun l => S.testBit l && !(Wb h j (clr P i) (clr S l) (1 - hPs h i))) l)) (fun s => Wi h j P S i s || (decide (s = hPs h i) && (anyB (fun l => S.testBit l && !(Wb h j (clr P i) (clr S l) (1 - hPs h i))) l || true))) hsi]
                · refine nm_e ?_
                  rw [nI_1 l]
                  exact h8
                · intro s
                  generalize Wi h j P S i s = x
                  generalize anyB (fun l => S.testBit l && !(Wb h j (clr P i) (clr S l) (1 - hPs h i))) l = y
                  by_cases q : s = hPs h i
                  · simp [q]
                  · simp [q]
              · have d0 : (S.testBit l && !(Wb h j (clr P i) (clr S l) (1 - hPs h i))) = false := by simpa using d
                rw [d0, Bool.or_false] at h8
                rw [d0]
                refine jn_i 0 (fun K hK => br_t rfl hK) ?_
                have e0 : ∀ x : Int32, x ||| 0 = x := fun x => by simp
                rw [e0, nI_1 l]
                exact nm_e h8
        have h8 := key2 6 0 rfl
        rw [anyB, Bool.and_false, Bool.or_false, Bool.and_false, Bool.or_false] at h8
        exact ⟨_, h8⟩
      · have c0 : (lvN h S &&& P).testBit i = false := by simpa using c
        refine ⟨1, ?_⟩
        unfold wp_X5_game_L80
        refine br_f (by decide) ?_
        rw [c0]
        refine br_t rfl ?_
        have e2 : ∀ s, Wi h j P S (i + 1) s = Wi h j P S i s := by
          intro s
          rw [hstep, c0]; simp
        rw [e2, e2] at h9
        rw [nI_1]
        exact h9
  exact ⟨_, key (hNp h) 0 (by omega)⟩
theorem m_gameCell {h : Hal} {t : Nat → Int32} (o : OkH h) (T : RM h t) {g S : Nat} (hg : g < 2 ^ hNp h) (hS : S < 2 ^ hNl h) {mv wo le : Nat → Int32} (hmv : mv S = nI (lvN h S)) (hch : ∀ g2 S2, g < g2 → g2 < 2 ^ hNp h → S2 < 2 ^ hNl h → TBg h wo le g2 S2) {K : Int32 → Prop}
    (k : K (nI (w2 (Wb h (pcn (dif (allP h) g)) (dif (allP h) g) S 0) (Wb h (pcn (dif (allP h) g)) (dif (allP h) g) S 1)))) : ∃ n, wp_X5_game_L29 (nI g) (nI S) t mv wo le K n 0 0 := by
  have hP := difP_lt o g
  cases hj : pcn (dif (allP h) g) with
  | zero =>
    have eP : dif (allP h) g = 0 := pcn_0 (Nat.lt_of_lt_of_le hP (by decide)) hj
    rw [hj] at k
    refine m_gameRow (j := 0) o T hg hS hmv ?_ ?_
    · intro p l _ _ hb
      rw [eP, Nat.and_zero] at hb
      simp at hb
    · have hz : ∀ s, Wi h 0 (dif (allP h) g) S 6 s = false := by
        intro s
        unfold Wi
        have : anyB (fun p => (lvN h S &&& dif (allP h) g).testBit p && decide (hPs h p = s) && Bt (Wb h) 0 (dif (allP h) g) S p s) (0 + 6) = anyB _ 0 := anyB_ext (m := 0) (fun q _ => by rw [eP, Nat.and_zero]; simp) 6
        exact this
      rw [hz, hz]
      exact k
  | succ j =>
    rw [hj, Wb_s, Wb_s] at k
    refine m_gameRow (j := j) o T hg hS hmv ?_ k
    intro p l hp hl hb1 hb2
    obtain ⟨h1, h2, h3, h4, h5, h6⟩ := stepG hg hS o hb1 hb2
    have hT := hch _ _ h3 h2 h5
    unfold TBg at hT
    rw [h4] at hT
    have e1 : pcn (clr (dif (allP h) g) p) = j := by omega
    rw [e1] at hT
    exact hT
theorem w2_lo (a b : Bool) : nI (w2 a b) &&& 1 = b01 a := by cases a <;> cases b <;> decide
theorem w2_hi (a b : Bool) : jshr (nI (w2 a b)) 1 = b01 b := by cases a <;> cases b <;> decide
theorem m_game {h : Hal} {w : Nw} {t s : Nat → Int32} (o : OkH h) (nn : OkN h w) (T : RM h t) (S : RS w s) {li mv sh wo le : Nat → Int32} {post : Int32 → (Nat → Int32) → (Nat → Int32) → (Nat → Int32) → (Nat → Int32) → (Nat → Int32) → Prop} (k : ∀ a b c d e, post (gamA h w) a b c d e) : wp_X5_game t s li mv sh wo le post := by
  unfold wp_X5_game
  have hnp := o.2.2.2.2.2.2.1
  have hnl := o.2.2.2.2.2.1
  have h64 := two6 hnp
  have h64l := two6 hnl
  have hpp := p2pos (hNp h)
  have hpl := p2pos (hNl h)
  have hAP := allP_lt h
  have hAL := allL_lt h
  have hl := nn.left o
  refine m_lights (M := 0) o T (p2pos _) (fun li2 mv2 sh2 hLT => m_allP o T ?_)
  have fin : ∀ wo2 le2 : Nat → Int32, (∀ g, g < 2 ^ hNp h → ∀ S, S < 2 ^ hNl h → TBg h wo2 le2 g S) → wp_X5_gone s (fun (r216 : Int32) => (wp_X5_lit t s (fun (r220 : Int32) => (wp_X5_state r216 r220 (fun (r223 : Int32) => (vp_in r223 8192 ∧ (((wo2 (ix r223)) = (1 : Int32) → post (0 : Int32) li2 mv2 sh2 wo2 le2) ∧ (¬ (wo2 (ix r223)) = (1 : Int32) → post (1 : Int32) li2 mv2 sh2 wo2 le2)))))))) := by
    intro wo2 le2 hT
    refine m_gone hl.2.2 (hwho o nn) S (m_lit o nn T S (m_state ?_))
    have hg := goneN_lt nn
    have hlt := litN_lt h w
    refine ⟨vp_in_nI (by omega) (by omega), ?_⟩
    rw [ix_nI (by omega), (hT _ hg _ hlt).1]
    unfold gamA at k
    refine b01_o (fun d => ?_) (fun d => ?_)
    · have d2 : Wb h (pcn (thereN h w)) (thereN h w) (litN h w) 0 = true := d
      rw [if_pos d2] at k; exact k _ _ _ _ _
    · have d2 : Wb h (pcn (thereN h w)) (thereN h w) (litN h w) 0 = false := d
      rw [if_neg (by rw [d2]; decide)] at k; exact k _ _ _ _ _
  unfold jn
  have key : ∀ n, n ≤ 2 ^ hNp h → ∀ wo1 le1 : Nat → Int32, (∀ g, n ≤ g → g < 2 ^ hNp h → ∀ S, S < 2 ^ hNl h → TBg h wo1 le1 g S) → ∀ K : (Nat → Int32) → (Nat → Int32) → Prop, (∀ wo3 le3 : Nat → Int32, (∀ g, g < 2 ^ hNp h → ∀ S, S < 2 ^ hNl h → TBg h wo3 le3 g S) → K wo3 le3) → wp_X5_game_L10 t mv2 K (n + 1) (nI n - 1) wo1 le1 := by
    intro n
    induction n with
    | zero =>
      intro hn wo1 le1 h1 K0 hK0
      unfold wp_X5_game_L10
      exact br_t (by decide) (hK0 wo1 le1 (fun g hg S hS => h1 g (Nat.zero_le _) hg S hS))
    | succ n ih =>
      intro hn wo1 le1 h1 K0 hK0
      unfold wp_X5_game_L10
      rw [nI_pred]
      refine br_f (nI_pos (by omega)) ?_
      unfold jn
      have em : nI n + (-1) = nI n - 1 := by rw [Int32.sub_eq_add_neg]
      rw [em]
      have ih2 := ih (by omega)
      have key2 : ∀ m i, i + m = 2 ^ hNl h → ∀ wo2 le2 : Nat → Int32, (∀ g, n + 1 ≤ g → g < 2 ^ hNp h → ∀ S, S < 2 ^ hNl h → TBg h wo2 le2 g S) → (∀ S, S < i → TBg h wo2 le2 n S) → ∀ K : (Nat → Int32) → (Nat → Int32) → Prop, (∀ wo3 le3 : Nat → Int32, (∀ g, n ≤ g → g < 2 ^ hNp h → ∀ S, S < 2 ^ hNl h → TBg h wo3 le3 g S) → K wo3 le3) → wp_X5_game_L16 (nI n) t mv2 K (m + 1) (nI i) wo2 le2 := by
        intro m
        induction m with
        | zero =>
          intro i hi wo2 le2 h2 h3 K hK
          unfold wp_X5_game_L16
          have e : i = 2 ^ hNl h := by omega
          subst e
          refine m_allL o T (br_t (nI_lt hAL (by omega)) ?_)
          refine hK wo2 le2 ?_
          intro g hg hg2 S hS
          rcases Nat.lt_or_ge n g with q | q
          · exact h2 g q hg2 S hS
          · have : g = n := by omega
            rw [this]; exact h3 S hS
        | succ m ihm =>
          intro i hi wo2 le2 h2 h3 K hK
          unfold wp_X5_game_L16
          refine m_allL o T (br_f (nI_nlt (by unfold allL; omega) (by omega)) ?_)
          unfold jn
          refine m_gameCell o T (by omega) (by omega) (hLT.at o (by omega)).2 (fun g2 S2 q1 q2 q3 => h2 g2 q1 q2 S2 q3) ?_
          refine m_state ⟨vp_in_nI (by omega) (by omega), m_state ⟨vp_in_nI (by omega) (by omega), ?_⟩⟩
          rw [nI_1, ix_nI (by omega), w2_lo, w2_hi]
          refine ihm (i + 1) (by omega) _ _ ?_ ?_ K hK
          · intro g hg hg2 S hS
            have ne : 128 * g + S ≠ 128 * n + i := by omega
            have := h2 g hg hg2 S hS
            unfold TBg at this ⊢
            rw [upd_n ne, upd_n ne]; exact this
          · intro S hS
            unfold TBg
            by_cases q : S = i
            · subst q
              rw [upd_s, upd_s]; exact ⟨rfl, rfl⟩
            · have ne : 128 * n + S ≠ 128 * n + i := by omega
              have := h3 S (by omega)
              unfold TBg at this
              rw [upd_n ne, upd_n ne]; exact this
      exact ⟨_, key2 (2 ^ hNl h) 0 (by omega) wo1 le1 h1 (fun S hS => by omega) _ (fun wo3 le3 hT => ih2 wo3 le3 hT K0 hK0)⟩
  have h5 := key (2 ^ hNp h) (Nat.le_refl _) wo le (fun g h1 h2 => by omega) _ fin
  have e1 : nI (2 ^ hNp h) - 1 = nI (allP h) := pk_sub (b := 1) hpp
  rw [e1] at h5
  exact ⟨_, h5⟩
