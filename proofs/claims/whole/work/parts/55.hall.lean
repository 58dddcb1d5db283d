/-! hall. -/
theorem tS_le {b : Nat → Nat} {len k : Nat} (h : k ≤ len) : tS b len k ≤ len := (tS_b b h).2
theorem pF_le {b : Nat → Nat} {len e : Nat} {h : Hal} (he : e ≤ len) : pF b len e h ≤ len := by
  unfold pF
  split
  · exact tS_le (tE_b b he).2.1
  · exact tS_le he
theorem itm_fail {b : Nat → Nat} {len a : Nat} {h : Hal} {its laws s : Nat} (ha : a ≤ len) (e : itm0 b len a h its laws = .inl s) : s ≤ len := by
  have t : ∀ k, k ≤ len → tE b len k ≤ len := fun k hk => (tE_b b hk).2.1
  unfold itm0 at e
  repeat' split at e
  all_goals first
    | (cases e; done)
    | (have e5 := Sum.inl.inj e
       rw [← e5]
       first
         | exact tS_le ha
         | exact tS_le (t _ ha)
         | exact tS_le (t _ (t _ ha))
         | exact tS_le (t _ (t _ (t _ ha)))
         | exact tS_le (t _ (t _ (t _ (t _ ha))))
         | exact pF_le (t _ ha))
theorem prs_le {b : Nat → Nat} {len : Nat} : ∀ f a h its laws s, len - a < f → PI b len a h its laws → prs b len f a h its laws = .inl s → s ≤ len := by
  intro f
  induction f with
  | zero => intro a h its laws s hf; omega
  | succ f ih =>
    intro a h its laws s hf P e
    rw [prs] at e
    by_cases c : tK b len a = 0
    · rw [if_pos c] at e; cases e
    · rw [if_neg c] at e
      cases e2 : itF b len (itm0 b len a h its laws) with
      | inl s2 =>
        rw [e2] at e
        have e3 : s2 = s := Sum.inl.inj e
        subst e3
        cases e4 : itm0 b len a h its laws with
        | inl s3 =>
          rw [e4] at e2
          have e5 : s3 = s2 := Sum.inl.inj e2
          subst e5
          exact itm_fail P.2.1 e4
        | inr r =>
          obtain ⟨a3, h3, l3⟩ := r
          rw [e4] at e2
          unfold itF at e2
          by_cases d : tK b len a3 = 3
          · simp [d] at e2
          · simp [d] at e2
            rw [← e2]
            exact tS_le (itm_end P e4)
      | inr r =>
        obtain ⟨a2, h2, l2⟩ := r
        rw [e2] at e
        have hok := itm_ok P c e2
        have := hok.1.2.1
        exact ih a2 h2 (its + 1) l2 s (by omega) hok.1 e
def PR (b : Nat → Nat) (len : Nat) : Sum Nat (Hal × Nat) := prs b len (len + 1) 0 h00 0 0
theorem PI_0 (b : Nat → Nat) (len : Nat) : PI b len 0 h00 0 0 := ⟨h00_ok, Nat.zero_le _, Nat.le_refl _, Nat.zero_le _, fun _ => ⟨rfl, rfl, rfl, rfl⟩⟩
theorem PR_le {b : Nat → Nat} {len s : Nat} (e : PR b len = .inl s) : s ≤ len := prs_le (len + 1) 0 h00 0 0 s (by omega) (PI_0 b len) e
theorem neg10 {s : Nat} (h : s ≤ 300) : (-10 : Int32) - nI s < 0 := by
  have : ∀ s, s < 301 → decide ((-10 : Int32) - nI s < 0) = true := by decide +kernel
  exact of_decide_eq_true (this s (by omega))
theorem c_hall {b : Nat → Nat} {len : Nat} {tb : Nat → Int32} (hl : len ≤ 300) (Y : BY b len tb) {kp : Nat → Int32} {t1 t2 t3 t4 t5 t6 t7 : Int32} {t8 : Nat → Int32} {t9 n1 n2 n3 n4 kn d1 d2 d3 d4 d5 d6 d7 : Int32} {lc lr sh pc ws sd li lv : Nat → Int32} {post : Int32 → Bool → (Nat → Int32) → Int32 → Int32 → Int32 → Int32 → Int32 → Int32 → Int32 → Int32 → (Nat → Int32) → Int32 → Int32 → Int32 → Int32 → Int32 → Int32 → Int32 → Int32 → Int32 → Int32 → Int32 → Int32 → Int32 → (Nat → Int32) → (Nat → Int32) → (Nat → Int32) → (Nat → Int32) → (Nat → Int32) → (Nat → Int32) → (Nat → Int32) → (Nat → Int32) → Prop}
    (kF : ∀ s, PR b len = .inl s → ∀ x1 x2 x3 x4 x5 x6 x7 x8 x9 y1 y2 y3 y4 y5 y6 y7 z1 z2 z3 z4 z5 z6 z7 z8, post ((-10) - nI s) false kp (nI len) x1 x2 x3 x4 x5 x6 x7 x8 x9 n1 n2 n3 n4 kn y1 y2 y3 y4 y5 y6 y7 z1 z2 z3 z4 z5 z6 z7 z8)
    (kS : ∀ h2 its2, PR b len = .inr (h2, its2) → OkH h2 → ∀ kp2, kp2 0 = 0 → kp2 1 = 0 → ∀ x1 x2 x3 x4 x5 x6 x7 x8 x9 lc2 lr2 sh2 pc2 ws2 sd2 li2 lv2, AR h2 lc2 lr2 pc2 ws2 sd2 → RT h2 sh2 li2 lv2 → post (nI its2) true kp2 0 x1 x2 x3 x4 x5 x6 x7 x8 x9 0 0 0 0 0 (nI (hW h2)) (nI (hH h2)) (nI (hWal h2)) (nI (hDor h2)) (nI (hLaw h2)) (nI (hNl h2)) (nI (hNp h2)) lc2 lr2 sh2 pc2 ws2 sd2 li2 lv2) :
    wp_X4_hall kp tb (nI len) t1 t2 t3 t4 t5 t6 t7 t8 t9 n1 n2 n3 n4 kn d1 d2 d3 d4 d5 d6 d7 lc lr sh pc ws sd li lv post := by
  unfold wp_X4_hall wp_X3_readInto wp_X0_empty jn
  refine ⟨len + 1, ?_⟩
  refine c_parse (b := b) hl Y (len + 1) 0 h00 0 0 (by omega) (PI_0 b len) (len + 1) 0 _ _ _ _ _ _ _ (Nat.le_refl _) (by omega) ⟨fun l hl2 => absurd hl2 (Nat.not_lt_zero _), fun p hp2 => absurd hp2 (Nat.not_lt_zero _)⟩ (fun s e => ?_) (fun h2 its2 e o2 hi2 x1 x2 x3 x4 x5 x6 x7 x8 lc2 lr2 pc2 ws2 sd2 A => ?_) _ _ _
  · intro a1 a2 a3 a4 a5 a6 a7 a8 a9 a10 a11 a12 a13 a14 a15 a16 a17 a18 a19 a20 a21
    have := PR_le e
    exact br_t (neg10 (by omega)) (kF s e _ _ _ _ _ _ _ _ _ _ _ _ _ _ _ _ _ _ _ _ _ _ _ _)
  · refine br_f (nI_pos (by omega)) ?_
    unfold wp_X4_beginAnew
    refine c_lightUp (wish := ws2) (side := sd2) o2 ⟨rfl, rfl, rfl, rfl, rfl, rfl, rfl, A.1, A.2⟩ (fun sh3 li3 lv3 T3 => ?_)
    unfold wp_X2_lookAt wp_X1_restart
    refine ⟨3, ?_⟩
    unfold wp_X4_beginAnew_L45
    refine br_f (by decide) ⟨pk_in 0 2 (by omega), ?_⟩
    unfold wp_X4_beginAnew_L45
    refine br_f (by decide) ⟨pk_in 1 2 (by omega), ?_⟩
    unfold wp_X4_beginAnew_L45
    refine br_t (by decide) ?_
    have e0 : ix (0 : Int32) = 0 := ix_nI (n := 0) (by omega)
    have e1 : ix ((0 : Int32) + 1) = 1 := ix_nI (n := 1) (by omega)
    rw [e0, e1]
    exact kS h2 its2 e o2 _ (by rw [upd_n (by omega), upd_s]) (by rw [upd_s]) _ _ _ _ _ _ _ _ _ _ _ _ _ _ _ _ _ A T3
theorem RM_cong {h : Hal} {t t2 : Nat → Int32} (o : OkH h) (e : ∀ k, k < 43 → t2 k = t k) (R : RM h t) : RM h t2 := by
  have h1 := o.2.2.2.2.2.1
  have h2 := o.2.2.2.2.2.2.1
  refine ⟨by rw [e 0 (by omega)]; exact R.1, by rw [e 1 (by omega)]; exact R.2.1, by rw [e 2 (by omega)]; exact R.2.2.1, by rw [e 3 (by omega)]; exact R.2.2.2.1, by rw [e 4 (by omega)]; exact R.2.2.2.2.1, by rw [e 5 (by omega)]; exact R.2.2.2.2.2.1, by rw [e 6 (by omega)]; exact R.2.2.2.2.2.2.1, fun l hl => ?_, fun p hp => ?_⟩
  · rw [e (7 + l) (by omega), e (13 + l) (by omega)]; exact R.2.2.2.2.2.2.2.1 l hl
  · rw [e (19 + p) (by omega), e (25 + p) (by omega), e (31 + p) (by omega)]; exact R.2.2.2.2.2.2.2.2 p hp
theorem m_hall {b : Nat → Nat} {len : Nat} {mt : Nat → Int32} (hl : len ≤ 300) (Y : BY b len mt) {told d s kp : Nat → Int32} {a1 a2 a3 a4 : Int32} {post : Int32 → Int32 → (Nat → Int32) → (Nat → Int32) → (Nat → Int32) → (Nat → Int32) → Int32 → Int32 → Int32 → Int32 → Prop}
    (kF : ∀ q, PR b len = .inl q → ∀ d2 x y z w, post ((-10) - nI q) (nI len) told d2 s kp x y z w)
    (kS : ∀ h2 its2, PR b len = .inr (h2, its2) → OkH h2 → ∀ told2 d2 s2 x y z w, RM h2 told2 → (∀ k, k < 38 → s2 k = 0) → post (nI its2) 0 told2 d2 s2 (upd (upd kp 0 0) 1 0) x y z w) : wp_X5_hall mt (nI len) told d s kp a1 a2 a3 a4 post := by
  unfold wp_X5_hall wp_X5_reads
  unfold jn
  -- the draft is emptied
  have clear : ∀ K : (Nat → Int32) → Prop, (∀ d2 : Nat → Int32, (∀ k, k < 43 → d2 k = 0) → K d2) → ∃ n, wp_X5_reads_L2 K n 0 d := by
    intro K hK
    have key : ∀ m i, i + m = 43 → ∀ d1 : Nat → Int32, (∀ k, k < i → d1 k = 0) → wp_X5_reads_L2 K (m + 1) (nI i) d1 := by
      intro m
      induction m with
      | zero =>
        intro i hi d1 g
        unfold wp_X5_reads_L2
        have e : i = 43 := by omega
        subst e
        exact br_t (nI_le (a := 43) (b := 43) (by omega) (by omega)) (hK d1 g)
      | succ m ih =>
        intro i hi d1 g
        unfold wp_X5_reads_L2
        refine br_f (nI_ge (b := 43) (by omega) (by omega)) ⟨vp_in_nI (by omega) (by omega), ?_⟩
        rw [nI_1, ix_nI (by omega)]
        refine ih (i + 1) (by omega) _ (fun k hk => ?_)
        by_cases e : k = i
        · rw [e, upd_s]
        · rw [upd_n e]; exact g k (by omega)
    exact ⟨_, key 43 0 rfl d (fun k hk => by omega)⟩
  refine clear _ (fun d2 hd2 => ?_)
  refine m_tok (b := b) hl Y (a := 0) (Nat.zero_le _) ⟨len + 1, ?_⟩
  refine m_parse (b := b) hl Y (len + 1) 0 h00 0 0 _ (by omega) (PI_0 b len) ?_ (fun q e d3 x y z => br_t rfl (kF q e _ _ _ _ _)) (fun h2 its2 e o2 hi2 d3 x y z w R3 e38 => br_f (by decide) ?_)
  · refine ⟨⟨?_, ?_, ?_, ?_, ?_, ?_, ?_, fun l hl2 => absurd hl2 (Nat.not_lt_zero _), fun p hp2 => absurd hp2 (Nat.not_lt_zero _)⟩, ?_, ?_⟩
    · rw [upd_n (by omega), upd_s]; rfl
    · rw [upd_s]; rfl
    · rw [upd_n (by omega), upd_n (by omega), hd2 2 (by omega)]; rfl
    · rw [upd_n (by omega), upd_n (by omega), hd2 3 (by omega)]; rfl
    · rw [upd_n (by omega), upd_n (by omega), hd2 4 (by omega)]; rfl
    · rw [upd_n (by omega), upd_n (by omega), hd2 5 (by omega)]; rfl
    · rw [upd_n (by omega), upd_n (by omega), hd2 6 (by omega)]; rfl
    · rw [upd_n (by omega), upd_n (by omega), hd2 37 (by omega)]; rfl
    · rw [upd_n (by omega), upd_n (by omega), hd2 38 (by omega)]; rfl
  · -- copied, and the state is new
    have copy : ∀ K : (Nat → Int32) → Prop, (∀ told2 : Nat → Int32, (∀ k, k < 43 → told2 k = d3 k) → K told2) → ∃ n, wp_X5_hall_L17 d3 K n 0 told := by
      intro K hK
      have key : ∀ m i, i + m = 43 → ∀ d1 : Nat → Int32, (∀ k, k < i → d1 k = d3 k) → wp_X5_hall_L17 d3 K (m + 1) (nI i) d1 := by
        intro m
        induction m with
        | zero =>
          intro i hi d1 g
          unfold wp_X5_hall_L17
          have e : i = 43 := by omega
          subst e
          exact br_t (nI_le (a := 43) (b := 43) (by omega) (by omega)) (hK d1 g)
        | succ m ih =>
          intro i hi d1 g
          unfold wp_X5_hall_L17
          refine br_f (nI_ge (b := 43) (by omega) (by omega)) ⟨vp_in_nI (by omega) (by omega), vp_in_nI (by omega) (by omega), ?_⟩
          rw [nI_1, ix_nI (by omega)]
          refine ih (i + 1) (by omega) _ (fun k hk => ?_)
          by_cases e : k = i
          · rw [e, upd_s]
          · rw [upd_n e]; exact g k (by omega)
      exact ⟨_, key 43 0 rfl told (fun k hk => by omega)⟩
    have anew : ∀ K : (Nat → Int32) → Prop, (∀ s2 : Nat → Int32, (∀ k, k < 38 → s2 k = 0) → K s2) → ∃ n, wp_X5_hall_L43 K n 0 s := by
      intro K hK
      have key : ∀ m i, i + m = 38 → ∀ d1 : Nat → Int32, (∀ k, k < i → d1 k = 0) → wp_X5_hall_L43 K (m + 1) (nI i) d1 := by
        intro m
        induction m with
        | zero =>
          intro i hi d1 g
          unfold wp_X5_hall_L43
          have e : i = 38 := by omega
          subst e
          exact br_t (nI_le (a := 38) (b := 38) (by omega) (by omega)) (hK d1 g)
        | succ m ih =>
          intro i hi d1 g
          unfold wp_X5_hall_L43
          refine br_f (nI_ge (b := 38) (by omega) (by omega)) ⟨vp_in_nI (by omega) (by omega), ?_⟩
          rw [nI_1, ix_nI (by omega)]
          refine ih (i + 1) (by omega) _ (fun k hk => ?_)
          by_cases e : k = i
          · rw [e, upd_s]
          · rw [upd_n e]; exact g k (by omega)
      exact ⟨_, key 38 0 rfl s (fun k hk => by omega)⟩
    refine copy _ (fun told2 g2 => anew _ (fun s2 g3 => ?_))
    rw [g2 38 (by omega), e38]
    exact kS h2 its2 e o2 _ _ _ _ _ _ _ (RM_cong o2 g2 R3) g3
