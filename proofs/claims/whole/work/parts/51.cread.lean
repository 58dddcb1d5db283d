/-! The class's steps over tokens. -/
def FPo (post : Int32 → Int32 → Int32 → Int32 → Int32 → Int32 → Int32 → Int32 → (Nat → Int32) → Int32 → Int32 → Int32 → Int32 → Int32 → Int32 → Int32 → Int32 → (Nat → Int32) → (Nat → Int32) → (Nat → Int32) → (Nat → Int32) → (Nat → Int32) → Prop) (s : Nat) : Prop := ∀ a b c d e f g h i j k l m n o p q r t u v, post ((-10 : Int32) - nI s) a b c d e f g h i j k l m n o p q r t u v
def CR (tb : Nat → Int32) (len : Nat) (post : Int32 → Int32 → Int32 → Int32 → Int32 → Int32 → Int32 → Int32 → (Nat → Int32) → Int32 → Int32 → Int32 → Int32 → Int32 → Int32 → Int32 → Int32 → (Nat → Int32) → (Nat → Int32) → (Nat → Int32) → (Nat → Int32) → (Nat → Int32) → Prop) (K79 : Int32 → Int32 → Int32 → Int32 → Int32 → Int32 → Int32 → (Nat → Int32) → Int32 → Int32 → Int32 → Int32 → Int32 → Int32 → Int32 → Int32 → (Nat → Int32) → (Nat → Int32) → (Nat → Int32) → (Nat → Int32) → (Nat → Int32) → Prop) (n i a : Nat) (it nt its : Int32) (nums : Nat → Int32) (lt wi hi wa dr la lm pe : Int32) (lc lr pc ws sd : Nat → Int32) : Prop := ∀ st kd vl : Int32, wp_X3_readInto_L26 tb (nI len) post K79 n (nI i) (nI a) st kd vl it nt its nums lt wi hi wa dr la lm pe lc lr pc ws sd
section
variable {b : Nat → Nat} {len : Nat} {tb : Nat → Int32}
theorem cK_2 {a : Nat} : cK b len a = 2 ↔ tK b len a = 2 ∧ nKd b (tS b len a) (tE b len a) = true := by
  unfold cK
  by_cases c0 : tK b len a = 0
  · rw [if_pos c0]
    constructor
    · intro q; exact absurd q (by decide)
    · rintro ⟨q, -⟩; omega
  · rw [if_neg c0]
    by_cases c1 : tK b len a = 1
    · rw [if_pos c1]
      constructor
      · intro q
        by_cases d : wd b (tS b len a) (tE b len a) < 6
        · rw [if_pos d] at q
          have := nI_small (b := 2) q (by omega) (by omega)
          omega
        · rw [if_neg d] at q; exact absurd q (by decide)
      · rintro ⟨q, -⟩; omega
    · rw [if_neg c1]
      by_cases c2 : tK b len a = 2
      · rw [if_pos c2]
        by_cases d : nKd b (tS b len a) (tE b len a) = true
        · rw [if_pos d]; exact ⟨fun _ => ⟨c2, d⟩, fun _ => rfl⟩
        · rw [if_neg d]
          exact ⟨fun q => absurd q (by decide), fun q => absurd q.2 d⟩
      · rw [if_neg c2]
        constructor
        · intro q
          by_cases d : tK b len a = 3
          · rw [if_pos d] at q; exact absurd q (by decide)
          · rw [if_neg d] at q; exact absurd q (by decide)
        · rintro ⟨q, -⟩; omega
theorem cK_1 {a : Nat} : cK b len a = 1 ↔ tK b len a = 3 := by
  unfold cK
  by_cases c0 : tK b len a = 0
  · rw [if_pos c0]
    constructor
    · intro q; exact absurd q (by decide)
    · intro q; omega
  · rw [if_neg c0]
    by_cases c1 : tK b len a = 1
    · rw [if_pos c1]
      constructor
      · intro q
        by_cases d : wd b (tS b len a) (tE b len a) < 6
        · rw [if_pos d] at q
          have := nI_small (b := 1) q (by omega) (by omega)
          omega
        · rw [if_neg d] at q; exact absurd q (by decide)
      · intro q; omega
    · rw [if_neg c1]
      by_cases c2 : tK b len a = 2
      · rw [if_pos c2]
        constructor
        · intro q
          by_cases d : nKd b (tS b len a) (tE b len a) = true
          · rw [if_pos d] at q; exact absurd q (by decide)
          · rw [if_neg d] at q; exact absurd q (by decide)
        · intro q; omega
      · rw [if_neg c2]
        by_cases d : tK b len a = 3
        · rw [if_pos d]; exact ⟨fun _ => d, fun _ => rfl⟩
        · rw [if_neg d]; exact ⟨fun q => absurd q (by decide), fun q => absurd q d⟩
theorem cK_0 {a : Nat} : cK b len a = 0 ↔ tK b len a = 0 := by
  unfold cK
  by_cases c0 : tK b len a = 0
  · rw [if_pos c0]; exact ⟨fun _ => c0, fun _ => rfl⟩
  · rw [if_neg c0]
    refine ⟨fun q => ?_, fun q => absurd q c0⟩
    by_cases c1 : tK b len a = 1
    · rw [if_pos c1] at q
      by_cases d : wd b (tS b len a) (tE b len a) < 6
      · rw [if_pos d] at q
        have := nI_small (b := 0) q (by omega) (by omega)
        omega
      · rw [if_neg d] at q; exact absurd q (by decide)
    · rw [if_neg c1] at q
      by_cases c2 : tK b len a = 2
      · rw [if_pos c2] at q
        by_cases d : nKd b (tS b len a) (tE b len a) = true
        · rw [if_pos d] at q; exact absurd q (by decide)
        · rw [if_neg d] at q; exact absurd q (by decide)
      · rw [if_neg c2] at q
        by_cases d : tK b len a = 3
        · rw [if_pos d] at q; exact absurd q (by decide)
        · rw [if_neg d] at q; exact absurd q (by decide)
theorem vB_6 (a : Nat) : vB b len a ≤ 6 := by
  unfold vB wd
  repeat' split
  all_goals omega
/-- the kind that begins an item -/
theorem cK_v {a : Nat} (h : vB b len a < 6) : cK b len a = nI (4 + vB b len a) := by
  unfold vB at h ⊢
  by_cases c1 : tK b len a = 1
  · rw [if_pos c1] at h ⊢
    unfold cK
    rw [if_neg (by omega), if_pos c1, if_pos h]
  · rw [if_neg c1] at h; omega
theorem cK_n {a : Nat} (h : vB b len a = 6) : ∃ j, j < 4 ∧ cK b len a = nI j := by
  unfold vB at h
  unfold cK
  by_cases c0 : tK b len a = 0
  · rw [if_pos c0]; exact ⟨0, by omega, rfl⟩
  · rw [if_neg c0]
    by_cases c1 : tK b len a = 1
    · rw [if_pos c1] at h ⊢
      rw [if_neg (by omega)]; exact ⟨3, by omega, rfl⟩
    · rw [if_neg c1]
      by_cases c2 : tK b len a = 2
      · rw [if_pos c2]
        by_cases d : nKd b (tS b len a) (tE b len a) = true
        · rw [if_pos d]; exact ⟨2, by omega, rfl⟩
        · rw [if_neg d]; exact ⟨3, by omega, rfl⟩
      · rw [if_neg c2]
        by_cases d : tK b len a = 3
        · rw [if_pos d]; exact ⟨1, by omega, rfl⟩
        · rw [if_neg d]; exact ⟨3, by omega, rfl⟩
/-- which numbers the class takes -/
theorem num_ok {a lo g : Nat} (ha : a ≤ len) (h : nOK b len a lo g = true) : cK b len a = 2 ∧ vlF b (tS b len a) (tE b len a - tS b len a) = dg b len a ∧ tK b len a = 2 ∧ lo ≤ dg b len a ∧ dg b len a ≤ g ∧ dg b len a ≤ 9 := by
  unfold nOK at h
  rw [Bool.and_eq_true, Bool.and_eq_true, Bool.and_eq_true, decide_eq_true_eq, decide_eq_true_eq, decide_eq_true_eq, decide_eq_true_eq] at h
  obtain ⟨⟨⟨h1, h2⟩, h3⟩, h4⟩ := h
  have h5 := isD_r (sK_D.mp h1).2
  have hv : vlF b (tS b len a) (tE b len a - tS b len a) = dg b len a := by
    rw [h2, vl_1 h5.2]; rfl
  have h9 : dg b len a ≤ 9 := by unfold dg; omega
  refine ⟨cK_2.mpr ⟨h1, ?_⟩, hv, h1, h3, h4, h9⟩
  unfold nKd
  rw [hv, h2]
  simp
  omega
theorem num_no {a lo g : Nat} (ha : a ≤ len) (hg : g ≤ 9) (h : nOK b len a lo g = false) (hk : cK b len a = 2) : ¬ (lo ≤ vlF b (tS b len a) (tE b len a - tS b len a) ∧ vlF b (tS b len a) (tE b len a - tS b len a) ≤ g) := by
  obtain ⟨h1, h2⟩ := cK_2.mp hk
  have h5 := isD_r (sK_D.mp h1).2
  have h6 := tE_b b ha
  have h7 := sE_b b (tS_b b ha).2
  have h8 := h7.2.2 (sK_D.mp h1).1
  have h9 : tS b len a < tE b len a := h8
  rintro ⟨q1, q2⟩
  by_cases c : tE b len a - tS b len a = 1
  · rw [c, vl_1 h5.2] at q1 q2
    unfold nOK at h
    rw [h1, c] at h
    simp at h
    have : lo ≤ dg b len a := q1
    have := h this
    have : dg b len a ≤ g := q2
    omega
  · unfold nKd at h2
    have hne : ¬ b (tS b len a) = 48 := fun e => by
      rw [e] at h2
      have : 1 < tE b len a - tS b len a := by omega
      simp [this] at h2
    obtain ⟨m, hm⟩ : ∃ m, tE b len a - tS b len a = m + 2 := ⟨tE b len a - tS b len a - 2, by omega⟩
    have := vl_big (b := b) (s := tS b len a) (by omega) m
    rw [hm] at q2
    omega
theorem c_accN {a it t lo g : Nat} {v : Int32} (ha : a ≤ len) (hit : it < 10) (hv : tK b len a = 2 → v = nI (vlF b (tS b len a) (tE b len a - tS b len a))) (hlo : lo = if it = 4 then 1 else 0) (hg : g ≤ 9) (ht : t < 4) {nums : Nat → Int32} {wi hi wa : Int32} (hgr : ∀ P : Int32 → Prop, P (nI g) → wp_X3_greatest (nI it) (nI t) wi hi P) (wb : Bool) (hwb : ¬ ((it = 6 ∨ it = 7 ∨ it = 8) ∧ t = 1) → wb = false) (hwb1 : (it = 6 ∨ it = 7 ∨ it = 8) → t = 1 → nOK b len a lo g = true → ∃ wl c, c < 32 ∧ wl < 2 ^ 31 ∧ wa = nI wl ∧ wi * nI (dg b len a) + nums 0 = nI c ∧ wb = wl.testBit c) {post : Int32 → Int32 → (Nat → Int32) → Prop} (kb : (nOK b len a lo g && !wb) = false → ∀ x y, post 0 x y) (kg : (nOK b len a lo g && !wb) = true → post 1 (nI (t + 1)) (upd nums t (nI (dg b len a)))) : wp_X3_acceptNumber (cK b len a) v (nI it) (nI t) nums wi hi wa post := by
  unfold wp_X3_acceptNumber
  refine jn_i (nI lo) (fun K hK => pk_eq it 4 (fun q => ?_) (fun q => ?_)) ?_
  · rw [if_pos q] at hlo; subst hlo; exact hK
  · rw [if_neg q] at hlo; subst hlo; exact hK
  have hlo1 : lo ≤ 1 := by
    rw [hlo]
    by_cases c : it = 4
    · rw [if_pos c]; omega
    · rw [if_neg c]; omega
  have hvl := vlF_le b (tS b len a) (tE b len a - tS b len a)
  refine ⟨fun q => ?_, fun q => kb ?_ _ _⟩
  · have h1 := (cK_2.mp q).1
    rw [hv h1]
    by_cases c : nOK b len a lo g = true
    · obtain ⟨n1, n2, n3, n4, n5, n6⟩ := num_ok ha c
      rw [n2]
      refine br_f (nI_nlt n4 (by omega)) (hgr _ (br_f (nI_nlt n5 (by omega)) (br_t (nI_lt (b := 4) ht (by omega)) ⟨vp_in_nI (by omega) (by omega), ?_⟩)))
      rw [nI_1, ix_nI (by omega)]
      rw [c, Bool.true_and] at kb kg
      refine jn_i (b01 (decide (it = 6 ∨ it = 7 ∨ it = 8))) (fun K hK => ?_) ?_
      · unfold jn
        refine pk_eq it 6 (fun q => ?_) (fun q6 => pk_eq it 7 (fun q => ?_) (fun q7 => pk_eq it 8 (fun q => ?_) (fun q8 => ?_)))
        · simp [q] at hK; exact hK
        · simp [q] at hK; exact hK
        · simp [q] at hK; exact hK
        · simp [q6, q7, q8] at hK; exact hK
      · unfold jn
        refine b01_z (fun q => kg ?_) (fun q => ?_)
        · have q1 := of_decide_eq_false q
          rw [hwb (fun z => q1 z.1)]; rfl
        · have q1 := of_decide_eq_true q
          refine pk_eq (t + 1) 2 (fun z => ?_) (fun z => kg ?_)
          · have ht1 : t = 1 := by omega
            subst ht1
            obtain ⟨wl, cc, w1, w2, w3, w4, w5⟩ := hwb1 q1 rfl c
            unfold wp_X3_cellTold
            rw [upd_s, upd_n (by omega), w4, w3]
            refine c_bit w2 w1 (b01_z (fun y => kg ?_) (fun y => kb ?_ _ _))
            · rw [w5, y]; rfl
            · rw [w5, y]; rfl
          · rw [hwb (fun y => by omega)]; rfl
    · have c0 : nOK b len a lo g = false := by simpa using c
      have hno := num_no ha hg c0 q
      have hbad : (nOK b len a lo g && !wb) = false := by rw [c0]; rfl
      refine pk_lt _ lo (fun z => kb hbad _ _) (fun z => hgr _ (pk_lt g _ (fun y => kb hbad _ _) (fun y => ?_)))
      exact absurd ⟨z, y⟩ hno
  · cases hb : nOK b len a lo g with
    | false => rfl
    | true => exact absurd (num_ok ha hb).1 q
variable {post : Int32 → Int32 → Int32 → Int32 → Int32 → Int32 → Int32 → Int32 → (Nat → Int32) → Int32 → Int32 → Int32 → Int32 → Int32 → Int32 → Int32 → Int32 → (Nat → Int32) → (Nat → Int32) → (Nat → Int32) → (Nat → Int32) → (Nat → Int32) → Prop} {K79 : Int32 → Int32 → Int32 → Int32 → Int32 → Int32 → Int32 → (Nat → Int32) → Int32 → Int32 → Int32 → Int32 → Int32 → Int32 → Int32 → Int32 → (Nat → Int32) → (Nat → Int32) → (Nat → Int32) → (Nat → Int32) → (Nat → Int32) → Prop} {n i a : Nat} {nt its : Int32} {nums : Nat → Int32} {lt wi hi wa dr la lm pe : Int32} {lc lr pc ws sd : Nat → Int32}
theorem cr_num (hl : len ≤ 300) (Y : BY b len tb) (hi2 : i ≤ a) (ha : a ≤ len) {it t cnt lo g : Nat} (hit : 4 ≤ it ∧ it < 10) (hcnt : ∀ P : Int32 → Prop, P (nI cnt) → wp_X3_numbersOf (nI it) P) (htc : t < cnt) (hc4 : cnt ≤ 4) (hlo : lo = if it = 4 then 1 else 0) (hg : g ≤ 9) (hgr : ∀ P : Int32 → Prop, P (nI g) → wp_X3_greatest (nI it) (nI t) wi hi P) (wb : Bool) (hwb : ¬ ((it = 6 ∨ it = 7 ∨ it = 8) ∧ t = 1) → wb = false) (hwb1 : (it = 6 ∨ it = 7 ∨ it = 8) → t = 1 → nOK b len a lo g = true → ∃ wl c, c < 32 ∧ wl < 2 ^ 31 ∧ wa = nI wl ∧ wi * nI (dg b len a) + nums 0 = nI c ∧ wb = wl.testBit c) (kb : (nOK b len a lo g && !wb) = false → FPo post (tS b len a)) (kg : (nOK b len a lo g && !wb) = true → CR tb len post K79 n (i + 1) (tE b len a) (nI it) (nI (t + 1)) its (upd nums t (nI (dg b len a))) lt wi hi wa dr la lm pe lc lr pc ws sd) : CR tb len post K79 (n + 1) i a (nI it) (nI t) its nums lt wi hi wa dr la lm pe lc lr pc ws sd := by
  intro st kd vl
  unfold wp_X3_readInto_L26
  have hne : ¬ nI it = 0 := nI_ne0 (by omega) (by omega)
  refine br_f (nI_nlt (by omega) (by omega)) (c_tok hl Y ha (fun v hv => ?_))
  unfold jn
  have X : wp_X3_accept (cK b len a) v (nI it) (nI t) its nums lt wi hi wa dr la lm pe lc lr pc ws sd (fun (r59 : Int32) (t_item_59 : Int32) (t_numbersTold_59 : Int32) (t_items_59 : Int32) (t_numbers_59 : Nat → Int32) (t_lawTold_59 : Int32) (h_wide_59 : Int32) (h_high_59 : Int32) (h_walls_59 : Int32) (h_doors_59 : Int32) (h_law_59 : Int32) (h_lamps_59 : Int32) (h_people_59 : Int32) (h_lampCell_59 : Nat → Int32) (h_lampReach_59 : Nat → Int32) (h_personCell_59 : Nat → Int32) (h_wish_59 : Nat → Int32) (h_side_59 : Nat → Int32) => ((r59 = (0 : Int32) → post ((-10 : Int32) - nI (tS b len a)) (nI (tE b len a)) (nI (tS b len a)) (cK b len a) v t_item_59 t_numbersTold_59 t_items_59 t_numbers_59 t_lawTold_59 h_wide_59 h_high_59 h_walls_59 h_doors_59 h_law_59 h_lamps_59 h_people_59 h_lampCell_59 h_lampReach_59 h_personCell_59 h_wish_59 h_side_59) ∧ (¬ r59 = (0 : Int32) → wp_X3_readInto_L26 tb (nI len) post K79 n (nI i + (1 : Int32)) (nI (tE b len a)) (nI (tS b len a)) (cK b len a) v t_item_59 t_numbersTold_59 t_items_59 t_numbers_59 t_lawTold_59 h_wide_59 h_high_59 h_walls_59 h_doors_59 h_law_59 h_lamps_59 h_people_59 h_lampCell_59 h_lampReach_59 h_personCell_59 h_wish_59 h_side_59))) := by
    unfold wp_X3_accept
    refine br_f hne (hcnt _ (br_f (nI_ge htc (by omega)) ?_))
    refine c_accN ha (by omega) hv hlo hg (by omega) hgr wb hwb hwb1 (fun q x y => br_t rfl (kb q _ _ _ _ _ _ _ _ _ _ _ _ _ _ _ _ _ _ _ _ _)) (fun q => br_f (by decide) ?_)
    rw [nI_1]
    exact kg q _ _ _
  exact ⟨fun _ => br_f hne X, fun _ => X⟩
theorem cr_end (hl : len ≤ 300) (Y : BY b len tb) (hi2 : i ≤ a) (ha : a ≤ len) {it cnt : Nat} (hit : 4 ≤ it ∧ it < 10) (hcnt : ∀ P : Int32 → Prop, P (nI cnt) → wp_X3_numbersOf (nI it) P) (hc4 : cnt ≤ 4) (kb : tK b len a ≠ 3 → FPo post (tS b len a)) (kg : tK b len a = 3 → wp_X3_endItem (nI it) its nums lt wi hi wa dr la lm pe lc lr pc ws sd (fun it2 its2 lt2 wi2 hi2 wa2 dr2 la2 lm2 pe2 lc2 lr2 pc2 ws2 sd2 => CR tb len post K79 n (i + 1) (tE b len a) it2 (nI cnt) its2 nums lt2 wi2 hi2 wa2 dr2 la2 lm2 pe2 lc2 lr2 pc2 ws2 sd2)) : CR tb len post K79 (n + 1) i a (nI it) (nI cnt) its nums lt wi hi wa dr la lm pe lc lr pc ws sd := by
  intro st kd vl
  unfold wp_X3_readInto_L26
  have hne : ¬ nI it = 0 := nI_ne0 (by omega) (by omega)
  refine br_f (nI_nlt (by omega) (by omega)) (c_tok hl Y ha (fun v hv => ?_))
  unfold jn
  have X : wp_X3_accept (cK b len a) v (nI it) (nI cnt) its nums lt wi hi wa dr la lm pe lc lr pc ws sd (fun (r59 : Int32) (t_item_59 : Int32) (t_numbersTold_59 : Int32) (t_items_59 : Int32) (t_numbers_59 : Nat → Int32) (t_lawTold_59 : Int32) (h_wide_59 : Int32) (h_high_59 : Int32) (h_walls_59 : Int32) (h_doors_59 : Int32) (h_law_59 : Int32) (h_lamps_59 : Int32) (h_people_59 : Int32) (h_lampCell_59 : Nat → Int32) (h_lampReach_59 : Nat → Int32) (h_personCell_59 : Nat → Int32) (h_wish_59 : Nat → Int32) (h_side_59 : Nat → Int32) => ((r59 = (0 : Int32) → post ((-10 : Int32) - nI (tS b len a)) (nI (tE b len a)) (nI (tS b len a)) (cK b len a) v t_item_59 t_numbersTold_59 t_items_59 t_numbers_59 t_lawTold_59 h_wide_59 h_high_59 h_walls_59 h_doors_59 h_law_59 h_lamps_59 h_people_59 h_lampCell_59 h_lampReach_59 h_personCell_59 h_wish_59 h_side_59) ∧ (¬ r59 = (0 : Int32) → wp_X3_readInto_L26 tb (nI len) post K79 n (nI i + (1 : Int32)) (nI (tE b len a)) (nI (tS b len a)) (cK b len a) v t_item_59 t_numbersTold_59 t_items_59 t_numbers_59 t_lawTold_59 h_wide_59 h_high_59 h_walls_59 h_doors_59 h_law_59 h_lamps_59 h_people_59 h_lampCell_59 h_lampReach_59 h_personCell_59 h_wish_59 h_side_59))) := by
    unfold wp_X3_accept
    refine br_f hne (hcnt _ (br_t (nI_le (Nat.le_refl _) (by omega)) ⟨fun q => ?_, fun q => br_t rfl (kb (fun z => q (cK_1.mpr z)) _ _ _ _ _ _ _ _ _ _ _ _ _ _ _ _ _ _ _ _ _)⟩))
    have h1 := kg (cK_1.mp q)
    rw [nI_1]
    unfold wp_X3_endItem at h1 ⊢
    unfold jn at h1 ⊢
    refine ⟨fun z => br_f (by decide) (h1.1 z _ _ _), fun z => ⟨fun z2 => br_f (by decide) ((h1.2 z).1 z2 _ _ _), fun z2 => ⟨fun z3 => br_f (by decide) (((h1.2 z).2 z2).1 z3 _ _ _), fun z3 => ⟨fun z4 => ?_, fun z4 => ⟨fun z5 => ?_, fun z5 => br_f (by decide) ((((((h1.2 z).2 z2).2 z3).2 z4).2 z5) _ _ _)⟩⟩⟩⟩⟩
    · have h2 := (((h1.2 z).2 z2).2 z3).1 z4
      unfold wp_X3_cellTold wp_X0_addLamp at h2 ⊢
      exact ⟨fun y => br_f (by decide) (h2.1 y _ _ _), fun y => ⟨(h2.2 y).1, (h2.2 y).2.1, br_f (by decide) ((h2.2 y).2.2 _ _ _)⟩⟩
    · have h2 := ((((h1.2 z).2 z2).2 z3).2 z4).1 z5
      unfold wp_X3_cellTold wp_X0_addPerson at h2 ⊢
      exact ⟨fun y => br_f (by decide) (h2.1 y _ _ _), fun y => ⟨(h2.2 y).1, (h2.2 y).2.1, (h2.2 y).2.2.1, br_f (by decide) ((h2.2 y).2.2.2 _ _ _)⟩⟩
  exact ⟨fun _ => br_f hne X, fun _ => X⟩
theorem cr_begin (hl : len ≤ 300) (Y : BY b len tb) (hi2 : i ≤ a) (ha : a ≤ len) (k0 : tK b len a = 0 → ∀ x1 x2 x3 x4, post its x1 x2 x3 x4 0 nt its nums lt wi hi wa dr la lm pe lc lr pc ws sd) (ok : Bool) (kok : tK b len a ≠ 0 → ∀ P : Int32 → Int32 → Int32 → Prop, P (b01 ok) (cK b len a) 0 → wp_X3_beginItem (cK b len a) 0 nt its lt dr lm pe P) (kb : tK b len a ≠ 0 → ok = false → FPo post (tS b len a)) (kg : tK b len a ≠ 0 → ok = true → CR tb len post K79 n (i + 1) (tE b len a) (cK b len a) 0 its nums lt wi hi wa dr la lm pe lc lr pc ws sd) : CR tb len post K79 (n + 1) i a 0 nt its nums lt wi hi wa dr la lm pe lc lr pc ws sd := by
  intro st kd vl
  unfold wp_X3_readInto_L26
  refine br_f (nI_nlt (by omega) (by omega)) (c_tok hl Y ha (fun v hv => ?_))
  unfold jn
  refine ⟨fun q => br_t rfl (k0 (cK_0.mp q) _ _ _ _), fun q => ?_⟩
  have h0 : tK b len a ≠ 0 := fun z => q (cK_0.mpr z)
  unfold wp_X3_accept
  refine br_t rfl (kok h0 _ ?_)
  rw [nI_1]
  exact b01_z (fun z => kb h0 z _ _ _ _ _ _ _ _ _ _ _ _ _ _ _ _ _ _ _ _ _) (fun z => kg h0 z _ _ _)
end
