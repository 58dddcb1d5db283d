/-! countRows: the row for all sets of lamps. -/
def allB (f : Nat → Bool) : Nat → Bool
  | 0 => true
  | n + 1 => allB f n && f n
theorem allB_iff {f : Nat → Bool} : ∀ {n : Nat}, allB f n = true ↔ ∀ k, k < n → f k = true
  | 0 => by simp [allB]
  | n + 1 => by
    rw [allB, Bool.and_eq_true, allB_iff (n := n)]
    constructor
    · rintro ⟨h1, h2⟩ k hk
      rcases Nat.lt_or_ge k n with q | q
      · exact h1 k q
      · have : k = n := by omega
        rw [this]; exact h2
    · intro h1
      exact ⟨fun k hk => h1 k (by omega), h1 n (by omega)⟩
theorem allB_f {f : Nat → Bool} {n k : Nat} (hk : k < n) (h : f k = false) : allB f n = false := by
  cases hb : allB f n with
  | false => rfl
  | true => rw [allB_iff.mp hb k hk] at h; cases h
theorem CwW {v : Nat → Nat} {ok : Nat → Nat → Bool} {Q : Nat} : ∀ j S, Cw v ok Q 0 0 j S = Wn v ok Q j S
  | 0, S => by rw [Cw, Wn, if_pos (Nat.and_zero S)]
  | j + 1, S => by
    rw [Cw, Wn, if_pos (Nat.and_zero S)]
    have e2 : ¬ (S &&& 0 ≠ 0 ∧ v S &&& 0 ≠ 0) := by simp
    rw [if_neg e2]
    have e : fb_sm (fun l => if S.testBit l = true ∧ 2 ^ l ≠ 0 then Cw v ok Q 0 0 j (clr S l) else 0) 6 = sOn S (fun l => Wn v ok Q j (clr S l)) := by
      unfold sOn
      refine fb_sm_cong (fun l hl => ?_)
      have := p2pos l
      by_cases c : S.testBit l = true
      · rw [if_pos ⟨c, by omega⟩, if_pos c, CwW j]
      · rw [if_neg (fun q => c q.1), if_neg c]
    rw [e]
    rfl
theorem dif_0' (a : Nat) : dif a 0 = a := dif_0 a
theorem pcn_s64 {a : Nat} (ha : a < 64) : pcn a ≤ 6 := by
  rw [pcn6 ha]; exact fb_ct_le _ _
theorem c_cntN {v : Nat → Nat} {P L nl : Nat} (hnl : nl ≤ 6) (hP : P < 64) (hL : L < 2 ^ nl) {lv wy : Nat → Int32} (hlv : ∀ lit, lit < 2 ^ nl → lv lit = nI (v lit)) {post : Int32 → (Nat → Int32) → Prop} (k : ∀ wy2, post (nI (Wn v (fun _ _ => true) P (pcn P) L)) wy2) : wp_X2_countRows_n (nI P) (nI L) 0 0 wy (nI nl) lv post := by
  unfold wp_X2_countRows_n
  have h64 := two6 hnl
  have hq := pcn_s64 hP
  refine c_bc (by omega) ?_
  unfold jn
  have key : ∀ m i, i + m = L + 1 → ∀ w1 : Nat → Int32, (∀ S, S < i → sbs S L → pcn L ≤ pcn P + pcn S → w1 S = nI (Cw v (fun _ _ => true) (dif P 0) 0 0 (pcn P + pcn S - pcn L) S)) → wp_X2_countRows_n_L31 (nI P) (nI L) 0 0 (nI (pcn P)) (nI nl) lv (fun k_ways_141 => vp_in (nI L) 64 ∧ post (k_ways_141 (ix (nI L))) k_ways_141) (m + 1) (nI i) w1 := by
    intro m
    induction m with
    | zero =>
      intro i hi w1 h1
      unfold wp_X2_countRows_n_L31
      refine br_t (nI_lt (by omega) (by omega)) ⟨vp_in_nI (by omega) (by omega), ?_⟩
      have h2 := h1 L (by omega) (sbs.rf L) (by omega)
      rw [ix_nI (by omega), h2, Nat.add_sub_cancel, CwW, dif_0']
      exact k w1
    | succ m ih =>
      intro i hi w1 h1
      unfold wp_X2_countRows_n_L31
      refine br_f (nI_nlt (by omega) (by omega)) (c_bc (by omega) (c_bc (by omega) ?_))
      have hdl := dif_le i L
      have hpi := pcn_s64 (show i < 64 by omega)
      have hpL := pcn_s64 (show L < 64 by omega)
      refine nm_e ?_
      rw [b_andn (by omega), nI_1]
      by_cases hs : sbs i L
      · have hd : dif i L = 0 := by
          apply Nat.eq_of_testBit_eq
          intro b
          rw [dif_bit]
          cases hb : i.testBit b with
          | false => simp
          | true => rw [hs b hb]; simp
        have hle := pcn_sub hs
        rw [hd, pk_sub hle]
        by_cases ht : pcn L - pcn i ≤ pcn P
        · refine jn_i 1 (fun K hK => br_t rfl (br_f (nI_nlt ht (by omega)) hK)) ?_
          unfold jn
          refine br_f (by decide) ?_
          rw [pk_sub ht]
          refine c_ways (ok := fun _ _ => true) (pr := 0) (lm := 0) (j := pcn P - (pcn L - pcn i)) hnl (by omega) hP (by omega) (Or.inl rfl) (by omega) (hlv i (by omega)) ?_ rfl ⟨vp_in_nI (by omega) (by omega), ?_⟩
          · intro j' hj' l hl hb
            have hc1 := pcn_clr (show l < 12 by omega) hb
            have hcl := clr_lt hb
            rw [h1 (clr i l) (by omega) ((clr_sbs i l).tr hs) (by omega)]
            congr 2
            omega
          · refine ih (i + 1) (by omega) _ ?_
            intro S hS hsS hpS
            by_cases e : S = i
            · subst e
              rw [ix_nI (by omega), upd_s]
              congr 2
              omega
            · rw [ix_nI (by omega), upd_n e]; exact h1 S (by omega) hsS hpS
        · refine jn_i 0 (fun K hK => br_t rfl (br_t (nI_lt (by omega) (by omega)) hK)) ?_
          unfold jn
          refine br_t rfl ⟨vp_in_nI (by omega) (by omega), ?_⟩
          refine ih (i + 1) (by omega) _ ?_
          intro S hS hsS hpS
          by_cases e : S = i
          · subst e; omega
          · rw [ix_nI (by omega), upd_n e]; exact h1 S (by omega) hsS hpS
      · have hd : dif i L ≠ 0 := fun q => hs (dif0_sbs q)
        refine jn_i 0 (fun K hK => br_f (nI_ne0 (by omega) (by omega)) hK) ?_
        unfold jn
        refine br_t rfl ⟨vp_in_nI (by omega) (by omega), ?_⟩
        refine ih (i + 1) (by omega) _ ?_
        intro S hS hsS hpS
        by_cases e : S = i
        · subst e; exact absurd hsS hs
        · rw [ix_nI (by omega), upd_n e]; exact h1 S (by omega) hsS hpS
  exact ⟨_, key (L + 1) 0 (by omega) wy (fun S hS => by omega)⟩
/-! what was seen -/
def okS (w : Nw) (k a L : Nat) : Bool := decide (nAft w k ≠ a) || decide (b01 (L.testBit (nWhe w k)) = nI (nLig w k))
def okF (h : Hal) (w : Nw) (j S : Nat) : Bool := allB (fun k => okS w k (hNp h - j) (liN h S) && decide (nAft w k ≤ hNp h)) (nSeen w)
theorem c_agrees {h : Hal} {w : Nw} (n : OkN h w) (o : OkH h) {a L : Nat} (ha : a ≤ 12) (hL : L < 2 ^ hC h) {sa sc sl : Nat → Int32} (hs : ∀ k, k < nSeen w → sa k = nI (nAft w k) ∧ sc k = nI (nWhe w k) ∧ sl k = nI (nLig w k)) {post : Int32 → Prop} (k : post (b01 (allB (fun k => okS w k a L) (nSeen w)))) : wp_X1_agrees (nI a) (nI L) (nI (nSeen w)) sa sc sl post := by
  unfold wp_X1_agrees
  have h8 := n.2.2.2.1
  have h12 := o.c12
  have hLb := lt32 hL (by omega)
  have key : ∀ m i, i + m = nSeen w → allB (fun k => okS w k a L) i = true → wp_X1_agrees_L2 (nI a) (nI L) (nI (nSeen w)) sa sc sl post (m + 1) (nI i) := by
    intro m
    induction m with
    | zero =>
      intro i hi hg
      unfold wp_X1_agrees_L2
      have e : i = nSeen w := by omega
      subst e
      rw [hg] at k
      exact br_t (nI_le (by omega) (by omega)) k
    | succ m ih =>
      intro i hi hg
      unfold wp_X1_agrees_L2
      have hk := n.2.2.2.2 i (by omega)
      refine br_f (nI_ge (by omega) (by omega)) ⟨vp_in_nI (by omega) (by omega), ?_⟩
      rw [ix_nI (by omega), (hs i (by omega)).1, (hs i (by omega)).2.1, (hs i (by omega)).2.2, nI_1]
      unfold jn
      refine pk_eq _ _ (fun e => ⟨vp_in_nI (by omega) (by omega), c_bit hLb (by omega) ⟨vp_in_nI (by omega) (by omega), ⟨fun d => ?_, fun d => ?_⟩⟩⟩) (fun e => ?_)
      · refine ih (i + 1) (by omega) ?_
        rw [allB, hg]
        simp [okS, d]
      · have hf : okS w i a L = false := by simp [okS, d, e]
        rw [allB_f (f := fun k => okS w k a L) (by omega) hf] at k
        exact k
      · refine ih (i + 1) (by omega) ?_
        rw [allB, hg]
        simp [okS, e]
  exact ⟨_, key (nSeen w) 0 (by omega) rfl⟩
theorem c_sawLater {h : Hal} {w : Nw} (n : OkN h w) {np : Nat} (hp : np ≤ 6) {sa : Nat → Int32} (hs : ∀ k, k < nSeen w → sa k = nI (nAft w k)) {post : Int32 → Prop} (k0 : (∀ k, k < nSeen w → nAft w k ≤ np) → post 0) (k1 : (∃ k, k < nSeen w ∧ np < nAft w k) → post 1) : wp_X1_sawLaterThan (nI np) (nI (nSeen w)) sa post := by
  unfold wp_X1_sawLaterThan
  have h8 := n.2.2.2.1
  have key : ∀ m i, i + m = nSeen w → (∀ k, k < i → nAft w k ≤ np) → wp_X1_sawLaterThan_L2 (nI np) (nI (nSeen w)) sa post (m + 1) (nI i) := by
    intro m
    induction m with
    | zero =>
      intro i hi hg
      unfold wp_X1_sawLaterThan_L2
      have e : i = nSeen w := by omega
      subst e
      exact br_t (nI_le (by omega) (by omega)) (k0 hg)
    | succ m ih =>
      intro i hi hg
      unfold wp_X1_sawLaterThan_L2
      have hk := n.2.2.2.2 i (by omega)
      refine br_f (nI_ge (by omega) (by omega)) ⟨vp_in_nI (by omega) (by omega), ?_⟩
      rw [ix_nI (by omega), hs i (by omega), nI_1]
      refine pk_le _ _ (fun e => ih (i + 1) (by omega) ?_) (fun e => k1 ⟨i, by omega, e⟩)
      intro k hk2
      rcases Nat.lt_or_ge k i with q | q
      · exact hg k q
      · have : k = i := by omega
        rw [this]; exact e
  exact ⟨_, key (nSeen w) 0 (by omega) (fun k hk => by omega)⟩
theorem Cw_0 {v : Nat → Nat} {ok : Nat → Nat → Bool} {Q pr lm j S : Nat} (h : ok j S = false) : Cw v ok Q pr lm j S = 0 := by
  cases j with
  | zero => rw [Cw, h]; rfl
  | succ j => rw [Cw, h]; rfl
theorem allP_sbs {h : Hal} {a : Nat} (ha : a < 2 ^ hNp h) : sbs a (allP h) := by
  intro i hi
  unfold allP
  rw [all_bit]
  simp [bits_lt ha hi]
theorem allL_sbs {h : Hal} {a : Nat} (ha : a < 2 ^ hNl h) : sbs a (allL h) := by
  intro i hi
  unfold allL
  rw [all_bit]
  simp [bits_lt ha hi]
theorem pcn_all : ∀ n, n < 7 → pcn (2 ^ n - 1) = n := by decide +kernel
theorem c_cntS {h : Hal} {w : Nw} (o : OkH h) (n : OkN h w) {pr lm : Nat} (hpr : pr < 64) (hlm : lm = 0 ∨ ∃ l0, l0 < 6 ∧ lm = 2 ^ l0) {sa sc sl wy li lv sh : Nat → Int32} (hs : ∀ k, k < nSeen w → sa k = nI (nAft w k) ∧ sc k = nI (nWhe w k) ∧ sl k = nI (nLig w k)) (T : RT h sh li lv) {post : Int32 → (Nat → Int32) → Prop} (k : ∀ wy2, post (nI (Cw (lvN h) (okF h w) (dif (allP h) pr) pr lm (hNp h) (allL h))) wy2) : wp_X2_countRows_s (nI (allP h)) (nI (allL h)) (nI pr) (nI lm) (nI (nSeen w)) sa sc sl wy (nI (hNl h)) (nI (hNp h)) li lv post := by
  unfold wp_X2_countRows_s
  have hnl := o.2.2.2.2.2.1
  have hnp := o.2.2.2.2.2.2.1
  have h64 := two6 hnl
  have h64p := two6 hnp
  have hAP := allP_lt h
  have hAL := allL_lt h
  refine c_sawLater n hnp (fun k hk => (hs k hk).1) (fun hno => br_t rfl ?_) (fun hex => br_f (by decide) ?_)
  case refine_2 =>
    obtain ⟨k1, hk1, hk2⟩ := hex
    have hf : okF h w (hNp h) (allL h) = false := by
      refine allB_f hk1 ?_
      have : ¬ nAft w k1 ≤ hNp h := by omega
      simp [this]
    have := k wy
    rw [Cw_0 hf] at this
    exact this
  have hokf : ∀ j S, okF h w j S = allB (fun k => okS w k (hNp h - j) (liN h S)) (nSeen w) := by
    intro j S
    unfold okF
    rw [Bool.eq_iff_iff, allB_iff, allB_iff]
    constructor
    · intro h1 k hk
      have := h1 k hk
      rw [Bool.and_eq_true] at this
      exact this.1
    · intro h1 k hk
      rw [Bool.and_eq_true]
      exact ⟨h1 k hk, by simp [hno k hk]⟩
  have eP : pcn (allP h) = hNp h := pcn_all (hNp h) (by omega)
  have eL : pcn (allL h) = hNl h := pcn_all (hNl h) (by omega)
  refine c_bc (by omega) ?_
  rw [eP]
  unfold jn
  have key : ∀ m i, i + m = allL h + 1 → ∀ w1 : Nat → Int32, (∀ S, S < i → hNl h ≤ hNp h + pcn S → w1 S = nI (Cw (lvN h) (okF h w) (dif (allP h) pr) pr lm (hNp h + pcn S - hNl h) S)) → wp_X2_countRows_s_L31 (nI (allP h)) (nI (allL h)) (nI pr) (nI lm) (nI (hNp h)) (nI (nSeen w)) sa sc sl (nI (hNl h)) li lv (fun k_ways_141 => vp_in (nI (allL h)) 64 ∧ post (k_ways_141 (ix (nI (allL h)))) k_ways_141) (m + 1) (nI i) w1 := by
    intro m
    induction m with
    | zero =>
      intro i hi w1 h1
      unfold wp_X2_countRows_s_L31
      refine br_t (nI_lt (by omega) (by omega)) ⟨vp_in_nI (by omega) (by omega), ?_⟩
      have h2 := h1 (allL h) (by omega) (by omega)
      rw [eL, Nat.add_sub_cancel] at h2
      rw [ix_nI (by omega), h2]
      exact k w1
    | succ m ih =>
      intro i hi w1 h1
      unfold wp_X2_countRows_s_L31
      refine br_f (nI_nlt (by omega) (by omega)) (c_bc (by omega) (c_bc (by omega) ?_))
      have hdl := dif_le i (allL h)
      have hs1 : sbs i (allL h) := allL_sbs (by omega)
      have hle := pcn_sub hs1
      rw [eL] at hle
      have hd : dif i (allL h) = 0 := by
        apply Nat.eq_of_testBit_eq
        intro b
        rw [dif_bit]
        cases hb : i.testBit b with
        | false => simp
        | true => rw [hs1 b hb]; simp
      rw [eL, pk_sub hle]
      refine nm_e ?_
      rw [b_andn (by omega), nI_1, hd]
      -- what becomes of a set that does not count
      have zer : (hNl h ≤ hNp h + pcn i → okF h w (hNp h + pcn i - hNl h) i = false) → wp_X2_countRows_s_L31 (nI (allP h)) (nI (allL h)) (nI pr) (nI lm) (nI (hNp h)) (nI (nSeen w)) sa sc sl (nI (hNl h)) li lv (fun k_ways_141 => vp_in (nI (allL h)) 64 ∧ post (k_ways_141 (ix (nI (allL h)))) k_ways_141) (m + 1) (nI (i + 1)) (upd w1 (ix (nI i)) 0) := by
        intro hz
        refine ih (i + 1) (by omega) _ ?_
        intro S hS hpS
        by_cases e : S = i
        · subst e
          rw [ix_nI (by omega), upd_s, Cw_0 (hz hpS)]
          rfl
        · rw [ix_nI (by omega), upd_n e]; exact h1 S (by omega) hpS
      by_cases ht : hNl h - pcn i ≤ hNp h
      · refine jn_i 1 (fun K hK => br_t rfl (br_f (nI_nlt ht (by omega)) hK)) ?_
        unfold jn
        refine br_f (by decide) ⟨vp_in_nI (by omega) (by omega), ?_⟩
        have eli := (T.2 i (by omega)).1
        have ej : hNp h - (hNp h - (hNl h - pcn i)) = hNl h - pcn i := by omega
        have hokj := hokf (hNp h - (hNl h - pcn i)) i
        rw [ej] at hokj
        rw [ix_nI (by omega), eli]
        refine c_agrees n o (by omega) (liN_lt o (by omega)) hs ?_
        rw [← hokj]
        refine b01_z (fun hb => ⟨vp_in_nI (by omega) (by omega), ?_⟩) (fun hb => ?_)
        · have := zer (fun hq => by
            have e : hNp h + pcn i - hNl h = hNp h - (hNl h - pcn i) := by omega
            rw [e]; exact hb)
          rw [ix_nI (n := i) (by omega)] at this
          exact this
        · rw [pk_sub ht]
          refine c_ways (ok := okF h w) (j := hNp h - (hNl h - pcn i)) hnl (by omega) (by omega) hpr hlm (by omega) (T.2 i (by omega)).2 ?_ hb ⟨vp_in_nI (by omega) (by omega), ?_⟩
          · intro j' hj' l hl hbt
            have hc1 := pcn_clr (show l < 12 by omega) hbt
            have hcl := clr_lt hbt
            rw [h1 (clr i l) (by omega) (by omega)]
            congr 2
            omega
          · refine ih (i + 1) (by omega) _ ?_
            intro S hS hpS
            by_cases e : S = i
            · subst e
              rw [upd_s]
              congr 2
              omega
            · rw [upd_n e]; exact h1 S (by omega) hpS
      · refine jn_i 0 (fun K hK => br_t rfl (br_t (nI_lt (by omega) (by omega)) hK)) ?_
        unfold jn
        refine br_t rfl ⟨vp_in_nI (by omega) (by omega), ?_⟩
        exact zer (fun hq => by omega)
  exact ⟨_, key (allL h + 1) 0 (by omega) wy (fun S hS => by omega)⟩
