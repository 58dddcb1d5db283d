/-! The class's count of rows. -/
def Cw (v : Nat → Nat) (ok : Nat → Nat → Bool) (Q pr lm : Nat) : Nat → Nat → Nat
  | 0, S => if ok 0 S then (if S &&& lm = 0 then 1 else 0) else 0
  | j + 1, S => if ok (j + 1) S then (pcn (v S &&& Q) - (if S &&& lm = 0 then j else j - 1)) * fb_sm (fun l => if S.testBit l = true ∧ 2 ^ l ≠ lm then Cw v ok Q pr lm j (clr S l) else 0) 6 + (if S &&& lm ≠ 0 ∧ v S &&& pr ≠ 0 then Cw v ok Q pr lm j (dif S lm) else 0) else 0
theorem oth_1 : ∀ c, c < 16 → ∀ j, j < 16 → jmax 0 (nI c - jmax 0 (nI (j + 1) - 1)) = nI (c - j) := by decide +kernel
theorem oth_2 : ∀ c, c < 16 → ∀ j, j < 16 → jmax 0 (nI c - jmax 0 (nI (j + 1) - 2)) = nI (c - (j - 1)) := by decide +kernel
theorem sm_ext {f : Nat → Nat} {m : Nat} (h : ∀ k, m ≤ k → f k = 0) : ∀ n, fb_sm f (m + n) = fb_sm f m
  | 0 => rfl
  | n + 1 => by
    have e : m + (n + 1) = (m + n) + 1 := by omega
    rw [e, fb_sm_succ, sm_ext h n, h (m + n) (by omega)]
    rfl
theorem and_pow (a i : Nat) : a &&& 2 ^ i = if a.testBit i = true then 2 ^ i else 0 := by
  apply Nat.eq_of_testBit_eq
  intro k
  rw [Nat.testBit_and, Nat.testBit_two_pow]
  by_cases c : a.testBit i = true
  · rw [if_pos c, Nat.testBit_two_pow]
    by_cases e : i = k
    · subst e; simp [c]
    · simp [e]
  · rw [if_neg c]
    by_cases e : i = k
    · subst e; simp [c]
    · simp [e]
theorem and_dif (a Q pr : Nat) : a &&& dif Q pr = dif (a &&& Q) pr := by
  apply Nat.eq_of_testBit_eq
  intro k
  rw [Nat.testBit_and, dif_bit, dif_bit, Nat.testBit_and, Bool.and_assoc]
theorem ne0_nI {a : Nat} (ha : a < 2 ^ 31) {A B : Prop} (f : a = 0 → A) (g : a ≠ 0 → B) : (nI a = 0 → A) ∧ (¬ nI a = 0 → B) := by
  refine ⟨fun c => f (nI_small (b := 0) c ha (by decide)), fun c => g (fun e => c (by rw [e]; rfl))⟩
theorem c_ways {v : Nat → Nat} {ok : Nat → Nat → Bool} {Q pr lm nl j S : Nat} (hnl : nl ≤ 6) (hS : S < 2 ^ nl) (hQ : Q < 64) (hpr : pr < 64) (hlm : lm = 0 ∨ ∃ l0, l0 < 6 ∧ lm = 2 ^ l0) (hj : j ≤ 6) {lv wy : Nat → Int32} (hlv : lv S = nI (v S)) (hwy : ∀ j', j = j' + 1 → ∀ l, l < 6 → S.testBit l = true → wy (clr S l) = nI (Cw v ok (dif Q pr) pr lm j' (clr S l))) (hok : ok j S = true) {post : Int32 → Prop} (k : post (nI (Cw v ok (dif Q pr) pr lm j S))) : wp_X2_waysFrom (nI Q) (nI S) (nI j) (nI pr) (nI lm) wy (nI nl) lv post := by
  unfold wp_X2_waysFrom
  have h64 := two6 hnl
  have hlm64 : lm < 64 := by
    rcases hlm with q | ⟨l0, h0, q⟩
    · omega
    · rw [q]; exact Nat.pow_lt_pow_right (n := 6) (by decide) h0
  have hand : S &&& lm < 64 := and64 hlm64
  rw [fa_and]
  refine jn_i (b01 (decide (S &&& lm ≠ 0))) (fun K hK => ne0_nI (by omega) (fun c => ?_) (fun c => ?_)) ?_
  · simp [c] at hK; exact hK
  · simp [c] at hK; exact hK
  cases j with
  | zero =>
    refine br_t rfl ?_
    rw [Cw, if_pos hok] at k
    by_cases c : S &&& lm = 0
    · rw [if_pos c] at k
      have : decide (S &&& lm ≠ 0) = false := by simp [c]
      rw [this]
      exact br_t rfl k
    · rw [if_neg c] at k
      have : decide (S &&& lm ≠ 0) = true := by simp [c]
      rw [this]
      exact br_f (by decide) k
  | succ j =>
    refine br_f (nI_ne0 (by omega) (by omega)) ?_
    have hvQ : v S &&& Q < 64 := and64 hQ
    have hdf := dif_le (v S &&& Q) pr
    have hpc := pcn_le (v S &&& dif Q pr)
    have hwy2 := hwy j rfl
    rw [Cw, if_pos hok] at k
    -- the sum
    have sums : ∀ (c : Nat) (K : Int32 → Prop), K (nI (c * fb_sm (fun l => if S.testBit l = true ∧ 2 ^ l ≠ lm then Cw v ok (dif Q pr) pr lm j (clr S l) else 0) 6)) → ∃ n, wp_X2_waysFrom_L83 (nI S) (nI lm) (nI c) wy (nI nl) K n 0 0 := by
      intro c K hK
      have key : ∀ m i, i + m = nl → wp_X2_waysFrom_L83 (nI S) (nI lm) (nI c) wy (nI nl) K (m + 1) (nI (c * fb_sm (fun l => if S.testBit l = true ∧ 2 ^ l ≠ lm then Cw v ok (dif Q pr) pr lm j (clr S l) else 0) i)) (nI i) := by
        intro m
        induction m with
        | zero =>
          intro i hi
          unfold wp_X2_waysFrom_L83
          have e : i = nl := by omega
          subst e
          refine br_t (nI_le (by omega) (by omega)) ?_
          have e6 : i + (6 - i) = 6 := by omega
          have := sm_ext (f := fun l => if S.testBit l = true ∧ 2 ^ l ≠ lm then Cw v ok (dif Q pr) pr lm j (clr S l) else 0) (m := i) (fun k hk => by
            have : ¬ S.testBit k = true := fun q => by have := bits_lt hS q; omega
            simp [this]) (6 - i)
          rw [e6] at this
          rw [this] at hK
          exact hK
        | succ m ih =>
          intro i hi
          unfold wp_X2_waysFrom_L83
          refine br_f (nI_ge (by omega) (by omega)) ?_
          have hp : 2 ^ i < 64 := Nat.pow_lt_pow_right (n := 6) (by decide) (by omega)
          have hsa : S &&& 2 ^ i < 64 := and64 hp
          rw [b_one (by omega), fa_and]
          refine nm_e ?_
          have hcl := clr_le S i
          refine jn_i (nI (c * fb_sm (fun l => if S.testBit l = true ∧ 2 ^ l ≠ lm then Cw v ok (dif Q pr) pr lm j (clr S l) else 0) (i + 1))) (fun K hK => ?_) ?_
          · rw [fb_sm_succ, Nat.mul_add] at hK
            refine ne0_nI (by omega) (fun d => ?_) (fun d => ?_)
            · have hb : ¬ S.testBit i = true := fun q => by
                rw [and_pow, if_pos q] at d
                have := p2pos i
                omega
              simp [hb] at hK
              exact hK
            · have hb : S.testBit i = true := by
                rw [and_pow] at d
                by_cases q : S.testBit i = true
                · exact q
                · rw [if_neg q] at d; exact absurd rfl d
              rw [and_pow, if_pos hb]
              refine pk_eq _ _ (fun e => ?_) (fun e => ?_)
              · simp [e] at hK
                exact hK
              · rw [b_andn (by omega), dif_pow]
                refine ⟨vp_in_nI (by omega) (by omega), ?_⟩
                rw [ix_nI (by omega), hwy2 i (by omega) hb, pk_mul, nI_add]
                refine nm_e ?_
                rw [if_pos ⟨hb, e⟩] at hK
                exact hK
          · rw [nI_1]; exact ih (i + 1) (by omega)
      have h5 := key nl 0 (by omega)
      have e0 : c * fb_sm (fun l => if S.testBit l = true ∧ 2 ^ l ≠ lm then Cw v ok (dif Q pr) pr lm j (clr S l) else 0) 0 = 0 := rfl
      rw [e0] at h5
      exact ⟨_, h5⟩
    by_cases c : S &&& lm = 0
    · have ew : decide (S &&& lm ≠ 0) = false := by simp [c]
      rw [ew]
      refine jn_i (nI (j + 1) - 1) (fun K hK => br_t rfl hK) ⟨vp_in_nI (by omega) (by omega), ?_⟩
      rw [ix_nI (by omega), hlv, fa_and, b_andn (by omega)]
      refine c_bc (by omega) ?_
      rw [← and_dif, oth_1 _ (by omega) _ (by omega)]
      refine nm_e ?_
      simp only [c, if_pos] at k
      refine jn_i _ (fun K hK => sums _ K hK) (br_t rfl ?_)
      simp at k
      exact k
    · have ew : decide (S &&& lm ≠ 0) = true := by simp [c]
      rw [ew]
      refine jn_i (nI (j + 1) - 2) (fun K hK => br_f (by decide) hK) ⟨vp_in_nI (by omega) (by omega), ?_⟩
      rw [ix_nI (by omega), hlv, fa_and, b_andn (by omega)]
      refine c_bc (by omega) ?_
      rw [← and_dif, oth_2 _ (by omega) _ (by omega)]
      refine nm_e ?_
      rw [if_neg c] at k
      refine jn_i _ (fun K hK => sums _ K hK) (br_f (by decide) ⟨vp_in_nI (by omega) (by omega), ?_⟩)
      have hvp : v S &&& pr < 64 := and64 hpr
      rw [fa_and, b_andn (by omega)]
      have hdl := dif_le S lm
      refine ne0_nI (by omega) (fun d => ?_) (fun d => ⟨vp_in_nI (by omega) (by omega), ?_⟩)
      · rw [if_neg (fun q => q.2 d), Nat.add_zero] at k
        exact k
      · rw [if_pos ⟨c, d⟩] at k
        obtain ⟨l0, h0, e0⟩ : ∃ l0, l0 < 6 ∧ lm = 2 ^ l0 := by
          rcases hlm with q | q
          · rw [q] at c; simp at c
          · exact q
        have hb : S.testBit l0 = true := by
          rw [e0, and_pow] at c
          by_cases q : S.testBit l0 = true
          · exact q
          · rw [if_neg q] at c; exact absurd rfl c
        have e1 : dif S lm = clr S l0 := by rw [e0, dif_pow]
        rw [ix_nI (by omega), e1, hwy2 l0 h0 hb, nI_add]
        refine nm_e ?_
        rw [e1] at k
        exact k
