/-! open cells; what a lamp more is worth. -/
theorem vp_ex {x : Int32} {n : Nat} (h : vp_in x n) (hn : n < 2 ^ 31) : ∃ j, j < n ∧ x = nI j := by
  have h2 := vp_in_iff.mp h
  rcases pk_ix x hn with q | q | q
  · exact absurd h (vp_neg q)
  · have := (fa_le _ _).mp q
    rw [nI_toInt hn] at this
    omega
  · exact q
def opn (h : Hal) (x : Int32) : Prop := ∃ c, c < hC h ∧ x = nI c ∧ (hWal h).testBit c = false
theorem walls_lt {h : Hal} (o : OkH h) : hWal h < 2 ^ 31 := lt32 o.2.2.1 (by have := o.c12; omega)
theorem doors_lt {h : Hal} (o : OkH h) : hDor h < 2 ^ 31 := lt32 o.2.2.2.1 (by have := o.c12; omega)
theorem opn_no {h : Hal} (o : OkH h) {c : Nat} (hc : c < hC h) (hb : (hWal h).testBit c = true) : ¬ opn h (nI c) := by
  rintro ⟨c2, h1, h2, h3⟩
  have := o.c12
  have e := nI_small h2 (by omega) (by omega)
  rw [← e, hb] at h3; cases h3
theorem c_isOpen {h : Hal} (o : OkH h) {x : Int32} {post : Int32 → Prop} (h1 : opn h x → post 1) (h0 : ¬ opn h x → post 0) : wp_X4_isOpenCell x (nI (hW h)) (nI (hH h)) (nI (hWal h)) post := by
  unfold wp_X4_isOpenCell
  have h12 := o.c12
  refine c_isCell o (fun q => ?_) (fun q => ?_)
  · obtain ⟨c, hc, e⟩ := vp_ex q (by omega)
    subst e
    unfold jn
    refine br_f (by decide) (c_bit (walls_lt o) (by omega) (b01_z (fun d => h1 ⟨c, hc, rfl, d⟩) (fun d => h0 (opn_no o hc d))))
  · unfold jn
    refine br_t rfl (h0 ?_)
    rintro ⟨c, hc, e, _⟩
    exact q (by rw [e]; exact vp_in_nI hc (by omega))
theorem m_open {h : Hal} {t : Nat → Int32} (o : OkH h) (T : RM h t) {x : Int32} {A B : Prop} (hB : opn h x → B) (hA : ¬ opn h x → A) : wp_X5_isCell x t (fun r => (r = 0 → A) ∧ (¬ r = 0 → wp_X5_isWall x t (fun q => (q = 0 → B) ∧ (¬ q = 0 → A)))) := by
  have h12 := o.c12
  refine m_isCell o T (fun q => br_f (by decide) ?_) (fun q => br_t rfl (hA ?_))
  · obtain ⟨c, hc, e⟩ := vp_ex q (by omega)
    subst e
    unfold wp_X5_isWall
    rw [T.2.2.2.2.2.1, b_bit (walls_lt o) (by omega)]
    refine b01_o (fun d => br_f (by decide) (hA (opn_no o hc d))) (fun d => br_t rfl (hB ⟨c, hc, rfl, d⟩))
  · rintro ⟨c, hc, e, _⟩
    exact q (by rw [e]; exact vp_in_nI hc (by omega))
/-- the class numbers the lamp more behind its own -/
def fC (h : Hal) (M l : Nat) : Nat := if l = hNl h then M else shL h l
def vC (h : Hal) (M lit : Nat) : Nat := mayN h (oN (fC h M) lit 7)
theorem vC_lo {h : Hal} {M a : Nat} (ha : a < 2 ^ hNl h) : vC h M a = lvN h a := by
  unfold vC lvN liN
  congr 1
  refine oN_cong (fun l hl hb => ?_)
  have := bits_lt ha hb
  unfold fC
  rw [if_neg (by omega)]
theorem vM_lo {h : Hal} (o : OkH h) {M a : Nat} (ha : a < 2 ^ hNl h) : vM h M a = lvN h a := by
  unfold vM lvN
  rw [lgt_0 o ha]
theorem vC_hi {h : Hal} (o : OkH h) {M a : Nat} (ha : a < 2 ^ hNl h) : vC h M (2 ^ hNl h + a) = vM h M (2 ^ 6 + a) := by
  unfold vC vM lgt
  congr 1
  have h6 := o.2.2.2.2.2.1
  have h64 := two6 h6
  have ha6 : a < 2 ^ 6 := Nat.lt_of_lt_of_le ha (p2lt h6)
  apply Nat.eq_of_testBit_eq
  intro i
  rw [Bool.eq_iff_iff, oN_bit, oN_bit]
  constructor
  · rintro ⟨l, h1, h2, h3⟩
    rw [pbit ha, Bool.or_eq_true, decide_eq_true_eq] at h2
    by_cases e : l = hNl h
    · refine ⟨6, by omega, ?_, ?_⟩
      · rw [pbit ha6]; simp
      · unfold fC at h3
        rw [if_pos e] at h3
        unfold f6
        rw [if_pos rfl]; exact h3
    · have h4 : a.testBit l = true := by rcases h2 with q | q; exact q; exact absurd q e
      have := bits_lt ha h4
      refine ⟨l, h1, ?_, ?_⟩
      · rw [pbit ha6, h4]; rfl
      · unfold fC at h3
        rw [if_neg e] at h3
        unfold f6
        rw [if_neg (by omega)]; exact h3
  · rintro ⟨l, h1, h2, h3⟩
    rw [pbit ha6, Bool.or_eq_true, decide_eq_true_eq] at h2
    by_cases e : l = 6
    · refine ⟨hNl h, by omega, ?_, ?_⟩
      · rw [pbit ha]; simp
      · unfold f6 at h3
        rw [if_pos e] at h3
        unfold fC
        rw [if_pos rfl]; exact h3
    · have h4 : a.testBit l = true := by rcases h2 with q | q; exact q; exact absurd q e
      have := bits_lt ha h4
      refine ⟨l, h1, ?_, ?_⟩
      · rw [pbit ha, h4]; rfl
      · unfold f6 at h3
        rw [if_neg e] at h3
        unfold fC
        rw [if_neg (by omega)]; exact h3
def worA (h : Hal) (w : Nw) (c r : Nat) : Int32 := nI (D (vM h (shN h c r)) (thereN h w) (64 + litN h w)) - nI (D (lvN h) (thereN h w) (litN h w))
theorem c_worth {h : Hal} {w : Nw} (o : OkH h) {p0 p1 : Int32} {lg sh pcl li lv : Nat → Int32} (hp : ∀ p, p < hNp h → pcl p = nI (hPc h p)) (T : RT h sh li lv) {post : Int32 → (Nat → Int32) → (Nat → Int32) → (Nat → Int32) → (Nat → Int32) → Prop} (kb : (¬ opn h p0 ∨ ¬ vp_in p1 10) → post (-1) lg sh li lv) (k : ∀ c r, c < hC h → r < 10 → opn h p0 → p0 = nI c → p1 = nI r → ∀ a b d e, RT h b d e → post (worA h w c r) a b d e) : wp_X4_worth p0 p1 (nI (goneN w)) (nI (msk (nLmp w) (nLeft w))) lg (nI (hW h)) (nI (hH h)) (nI (hWal h)) (nI (hDor h)) (nI (hLaw h)) (nI (hNl h)) (nI (hNp h)) sh pcl li lv post := by
  unfold wp_X4_worth
  have h6 := o.2.2.2.2.2.1
  have h64 := two6 h6
  have h12 := o.c12
  have kb9 : (¬ vp_in p1 10) → post (-1) lg sh li lv := fun q => kb (Or.inr q)
  refine c_isOpen o (fun q => br_f (by decide) ?_) (fun q => br_t rfl (kb (Or.inl q)))
  have e9 : (9 : Int32).toInt = 9 := by decide
  refine ⟨fun c => kb9 (vp_neg c), fun c2 => ⟨fun d => ?_, fun d => kb9 (fun q => d ?_)⟩⟩
  · have hi : vp_in p1 10 := vp_of c2 (by
      have := (fa_le _ _).mp d
      omega)
    obtain ⟨r, hr, er⟩ := vp_ex hi (by omega)
    obtain ⟨c, hc, ec, hwl⟩ := id q
    subst er
    subst ec
    refine c_thereNow o (c_litNow o (c_mostOf (v := lvN h) h6 (thereN_64 o w) (litN_lt h w) (fun lit hl => (T.2 lit hl).2) (fun lg2 _ => ?_)))
    unfold wp_X0_lightOneMore
    refine c_shineFrom o hc (by omega) ⟨vp_in_nI (by omega) (by omega), ?_⟩
    have e2 : jshl 2 (nI (hNl h)) = nI (2 * 2 ^ hNl h) := b_shl (a := 2) (by omega) (by omega)
    rw [b_one (by omega), e2, ix_nI (by omega)]
    have hM := shN_lt hc r
    refine c_fillLight (h := h) o (f := fC h (shN h c r)) (by omega) (by omega) hp ?_ ?_
    · intro lit hlit l hl hb
      have hl2 : l < hNl h + 1 := bits_lt (n := hNl h + 1) (by rw [Nat.pow_succ]; omega) hb
      unfold fC
      by_cases e : l = hNl h
      · rw [if_pos e, e, upd_s]; exact ⟨rfl, hM⟩
      · rw [if_neg e, upd_n e]; exact ⟨T.1 l (by omega), shL_lt o (by omega)⟩
    · intro li2 lv2 g1 g2
      have hRT : RT h (upd sh (hNl h) (nI (shN h c r))) li2 lv2 := by
        refine ⟨fun l hl => ?_, fun lit hl => ?_⟩
        · rw [upd_n (by omega)]; exact T.1 l hl
        · rw [(g2 lit (Or.inl hl)).1, (g2 lit (Or.inl hl)).2]; exact T.2 lit hl
      refine c_thereNow o (c_litNow o (c_mostOne (v := vC h (shN h c r)) h6 (thereN_64 o w) (litN_lt h w) ?_ (fun lg3 => ?_)))
      · intro lit hl
        rcases Nat.lt_or_ge lit (2 ^ hNl h) with z | z
        · rw [(hRT.2 lit z).2, vC_lo z]
        · exact (g1 lit z hl).2
      · have hD := D_more (v := vC h (shN h c r)) (w := vM h (shN h c r)) (P := thereN h w) (n := hNl h) (n2 := 6) h6 h6 (Nat.le_refl _) (fun a ha => by rw [vC_lo ha, vM_lo o ha]) (fun a ha => vC_hi o ha) (litN h w) (litN_lt h w)
        rw [hD]
        exact k c r hc hr q rfl rfl _ _ _ _ hRT
  · have := (vp_in_iff.mp q).2
    refine (fa_le _ _).mpr ?_
    omega
theorem itr_sub (W H g : Nat) : ∀ n x i, x.testBit i = true → (itr (fun y => widN W H y g) n x).testBit i = true
  | 0, _, _, h => h
  | n + 1, x, i, h => itr_sub W H g n _ i (widN_sub W H x g i h)
theorem shN_ne (h : Hal) (c r : Nat) : shN h c r ≠ 0 := by
  intro e
  have h1 : (shN h c r).testBit c = true := itr_sub _ _ _ r _ c (by rw [Nat.testBit_two_pow]; simp)
  rw [e] at h1
  simp at h1
theorem m_worth {h : Hal} {w : Nw} {t s : Nat → Int32} (o : OkH h) (n : OkN h w) (T : RM h t) (S : RS w s) {p0 p1 : Int32} {li mv sh wo : Nat → Int32} {post : Int32 → (Nat → Int32) → (Nat → Int32) → (Nat → Int32) → (Nat → Int32) → Prop} (kb : (¬ opn h p0 ∨ ¬ vp_in p1 10) → post (-1) li mv sh wo) (k : ∀ c r, c < hC h → r < 10 → opn h p0 → p0 = nI c → p1 = nI r → ∀ a b d e, post (worA h w c r) a b d e) : wp_X5_worth p0 p1 t s li mv sh wo post := by
  unfold wp_X5_worth
  have hl := n.left o
  have h6 := o.2.2.2.2.2.1
  have h64 := two6 o.2.2.2.2.2.2.1
  have h64l := two6 h6
  refine m_open o T (fun q => ?_) (fun q => kb (Or.inl q))
  refine in_rng (n := 10) (by omega) (by decide) (fun hi => br_f (by decide) ?_) (fun hi => br_t rfl (kb (Or.inr hi)))
  obtain ⟨r, hr, er⟩ := vp_ex hi (by omega)
  obtain ⟨c, hc, ec, hwl⟩ := id q
  subst er
  subst ec
  refine m_shines o T hc (by omega) ?_
  refine m_mosts (M := shN h c r) o T (shN_lt hc r) (fun li2 mv2 sh2 wo2 _ hW => ?_)
  refine m_gone hl.2.2 (hwho o n) S (m_lit o n T S (m_state ?_))
  have hg := goneN_lt n
  have hlt := litN_lt h w
  have e64 : nI (128 * goneN w + litN h w) + 64 = nI (128 * goneN w + (64 + litN h w)) := by
    show _ + nI 64 = _
    rw [nI_add]; congr 1; omega
  rw [e64]
  refine ⟨vp_in_nI (by omega) (by omega), vp_in_nI (by omega) (by omega), ?_⟩
  rw [ix_nI (by omega), ix_nI (by omega), wt_at o hW hg hlt]
  have hm : manyN h (shN h c r) = 2 * 2 ^ hNl h := by unfold manyN; rw [if_neg (shN_ne h c r)]
  have e : litO h (2 ^ hNl h + litN h w) = 64 + litN h w := by
    unfold litO
    rw [if_neg (by omega), Nat.add_sub_cancel_left]
  have hw := hW (goneN w) hg (2 ^ hNl h + litN h w) (by omega)
  unfold WT at hw
  have hP : dif (allP h) (goneN w) < 2 ^ 6 := thereN_64 o w
  rw [e, RD (vM_mono h _) _ _ hP] at hw
  rw [hw]
  exact k c r hc hr q rfl rfl _ _ _ _
