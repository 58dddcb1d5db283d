/-! worth: one lamp more, numbered otherwise on either side; bar. -/
theorem D_cong {v w : Nat → Nat} {P n : Nat} : ∀ S, S < 2 ^ n → (∀ a, a < 2 ^ n → v a = w a) → D v P S = D w P S := by
  intro S
  induction S using Nat.strongRecOn with
  | ind S ih =>
    intro hS hv
    rw [D_eq, D_eq, hv S hS]
    congr 1
    apply maxF_cong
    intro l _
    unfold Dl
    by_cases c : S.testBit l = true
    · have h1 := clr_lt c
      rw [if_pos c, if_pos c, ih (clr S l) h1 (by omega) hv]
    · rw [if_neg c, if_neg c]
theorem pbit {n a l : Nat} (ha : a < 2 ^ n) : (2 ^ n + a).testBit l = (a.testBit l || decide (l = n)) := by
  rw [← or_pow ha, set_bit]
theorem pclr {n a l : Nat} (ha : a < 2 ^ n) (hl : l < n) : clr (2 ^ n + a) l = 2 ^ n + clr a l := by
  have h2 := clr_le a l
  apply Nat.eq_of_testBit_eq
  intro i
  rw [clr_bit, pbit ha, pbit (by omega), clr_bit]
  by_cases e : i = n
  · subst e
    have : ¬ i = l := by omega
    simp [this]
  · simp [e]
theorem pclrn {n a : Nat} (ha : a < 2 ^ n) : clr (2 ^ n + a) n = a := by
  apply Nat.eq_of_testBit_eq
  intro i
  rw [clr_bit, pbit ha]
  by_cases e : i = n
  · subst e
    have : a.testBit i = false := Nat.testBit_lt_two_pow ha
    simp [this]
  · simp [e]
theorem D_more {v w : Nat → Nat} {P n n2 : Nat} (hn : n ≤ 6) (hn2 : n ≤ n2) (hn3 : n2 ≤ 6) (h1 : ∀ a, a < 2 ^ n → v a = w a) (h2 : ∀ a, a < 2 ^ n → v (2 ^ n + a) = w (2 ^ n2 + a)) : ∀ a, a < 2 ^ n → D v P (2 ^ n + a) = D w P (2 ^ n2 + a) := by
  intro a
  induction a using Nat.strongRecOn with
  | ind a ih =>
    intro ha
    have hp : 2 ^ n ≤ 2 ^ n2 := p2lt hn2
    have ha2 : a < 2 ^ n2 := by omega
    have e0 := D_cong (v := v) (w := w) (P := P) a ha h1
    rw [D_eq, D_eq, h2 a ha]
    congr 1
    have an : a.testBit n = false := Nat.testBit_lt_two_pow ha
    apply Nat.le_antisymm
    · refine maxF_le (fun l hl => ?_)
      unfold Dl
      by_cases c : (2 ^ n + a).testBit l = true
      · rw [if_pos c]
        rw [pbit ha, Bool.or_eq_true] at c
        rcases c with c | c
        · have hln := bits_lt ha c
          have hc := clr_lt c
          rw [pclr ha hln, ih (clr a l) hc (by omega)]
          have h5 := le_maxF (f := Dl w P (2 ^ n2 + a)) (l := l) (n := 7) hl
          unfold Dl at h5
          rw [if_pos (by rw [pbit ha2, c]; rfl), pclr ha2 (by omega)] at h5
          exact h5
        · have e := of_decide_eq_true c
          subst e
          rw [pclrn ha, e0]
          have h5 := le_maxF (f := Dl w P (2 ^ n2 + a)) (l := n2) (n := 7) (by omega)
          unfold Dl at h5
          rw [if_pos (by rw [pbit ha2]; simp), pclrn ha2] at h5
          exact h5
      · rw [if_neg c]; omega
    · refine maxF_le (fun l hl => ?_)
      unfold Dl
      by_cases c : (2 ^ n2 + a).testBit l = true
      · rw [if_pos c]
        rw [pbit ha2, Bool.or_eq_true] at c
        rcases c with c | c
        · have hln := bits_lt ha c
          have hc := clr_lt c
          rw [pclr ha2 (by omega), ← ih (clr a l) hc (by omega)]
          have h5 := le_maxF (f := Dl v P (2 ^ n + a)) (l := l) (n := 7) hl
          unfold Dl at h5
          rw [if_pos (by rw [pbit ha, c]; rfl), pclr ha hln] at h5
          exact h5
        · have e := of_decide_eq_true c
          subst e
          rw [pclrn ha2, ← e0]
          have h5 := le_maxF (f := Dl v P (2 ^ n + a)) (l := n) (n := 7) (by omega)
          unfold Dl at h5
          rw [if_pos (by rw [pbit ha]; simp), pclrn ha] at h5
          exact h5
      · rw [if_neg c]; omega
/-! bar -/
def fB (bars : Nat → Bool) : Nat → Nat
  | 0 => 0
  | i + 1 => if decide (1 ≤ i) && bars i && (decide (fB bars i = 0) || decide (pcn i < pcn (fB bars i))) then i else fB bars i
theorem fB_lt (bars : Nat → Bool) : ∀ i, fB bars i ≤ i
  | 0 => Nat.le_refl _
  | i + 1 => by
    rw [fB]
    have := fB_lt bars i
    by_cases c : (decide (1 ≤ i) && bars i && (decide (fB bars i = 0) || decide (pcn i < pcn (fB bars i)))) = true
    · rw [if_pos c]; omega
    · rw [if_neg c]; omega
theorem fB_lt2 (bars : Nat → Bool) : ∀ i, 0 < i → fB bars i < i
  | 0, h => by omega
  | i + 1, _ => by
    rw [fB]
    have := fB_lt bars i
    by_cases c : (decide (1 ≤ i) && bars i && (decide (fB bars i = 0) || decide (pcn i < pcn (fB bars i)))) = true
    · rw [if_pos c]; omega
    · rw [if_neg c]; omega
theorem fB_bars (bars : Nat → Bool) : ∀ i, fB bars i ≠ 0 → bars (fB bars i) = true
  | 0, h => absurd rfl h
  | i + 1, h => by
    rw [fB] at h ⊢
    by_cases c : (decide (1 ≤ i) && bars i && (decide (fB bars i = 0) || decide (pcn i < pcn (fB bars i)))) = true
    · rw [if_pos c]
      simp at c; exact c.1.2
    · rw [if_neg c] at h ⊢; exact fB_bars bars i h
/-- which sets of lamps bar it -/
def brs (v : Nat → Nat) (P lit out : Nat) : Bool := decide (dif out lit = 0) && decide (D v P (dif lit out) < D v P lit)
def barN (v : Nat → Nat) (P lit : Nat) : Nat := fB (brs v P lit) (lit + 1)
theorem dif0_sbs {a b : Nat} (h : dif a b = 0) : sbs a b := by
  intro i hi
  have := dif_bit a b i
  rw [h, hi] at this
  simp at this
  exact this
theorem brs_sbs {v : Nat → Nat} {P lit out : Nat} (h : brs v P lit out = true) : sbs out lit := by
  unfold brs at h
  rw [Bool.and_eq_true] at h
  exact dif0_sbs (of_decide_eq_true h.1)
theorem barN_eq {v : Nat → Nat} {P lit : Nat} (hl : lit < 64) (h0 : v 0 = 0) (hpos : 0 < D v P lit) : barN v P lit = (if fB (brs v P lit) lit = 0 then lit else fB (brs v P lit) lit) := by
  have hlit : 0 < lit := by
    rcases Nat.eq_zero_or_pos lit with q | q
    · subst q
      have := D_le (v := v) (P := P) (S := 0)
      rw [h0] at this
      simp at this
      have e : pcn 0 = 0 := by decide
      omega
    · exact q
  have hb : brs v P lit lit = true := by
    unfold brs
    have e1 : dif lit lit = 0 := by
      apply Nat.eq_of_testBit_eq; intro i; rw [dif_bit]; cases lit.testBit i <;> simp
    have e2 : D v P 0 = 0 := by
      have := D_le (v := v) (P := P) (S := 0)
      rw [h0] at this
      simp at this
      have e : pcn 0 = 0 := by decide
      omega
    rw [e1, e2]; simp; exact hpos
  unfold barN
  rw [fB, hb]
  by_cases c : fB (brs v P lit) lit = 0
  · rw [if_pos c]
    simp [c, hlit]
    intro q; omega
  · rw [if_neg c]
    have h1 := fB_bars _ _ c
    have h2 := fB_lt2 (brs v P lit) lit hlit
    have h4 := pcn_sub (brs_sbs h1)
    have : ¬ pcn lit < pcn (fB (brs v P lit) lit) := by omega
    simp [c, this]
theorem c_barOf {v : Nat → Nat} {P lit nl : Nat} (hnl : nl ≤ 6) (hP : P < 64) (hl : lit < 2 ^ nl) (h0 : v 0 = 0) {lv lg : Nat → Int32} (hv : ∀ lit, lit < 2 ^ nl → lv lit = nI (v lit)) {post : Int32 → (Nat → Int32) → Prop} (k0 : D v P lit = 0 → ∀ lg2, post (-9) lg2) (k1 : 0 < D v P lit → ∀ lg2, post (nI (barN v P lit)) lg2) : wp_X2_barOf (nI P) (nI lit) lg (nI nl) lv post := by
  unfold wp_X2_barOf
  have h64 := two6 hnl
  refine c_mostOf (v := v) hnl hP hl hv (fun lg2 h2 => ?_)
  have hD := D_16 v P lit
  refine ⟨fun c => ?_, fun c => ?_⟩
  · exact k0 (nI_small (b := 0) c (by omega) (by omega)) lg2
  · have hpos : 0 < D v P lit := by
      rcases Nat.eq_zero_or_pos (D v P lit) with q | q
      · rw [q] at c; exact absurd rfl c
      · exact q
    have k2 := k1 hpos lg2
    rw [barN_eq (by omega) h0 hpos] at k2
    have key : ∀ m i, i + m = lit → 1 ≤ i → wp_X2_barOf_L20 (nI lit) (nI (D v P lit)) lg2 post (m + 1) (nI (if fB (brs v P lit) i = 0 then lit else fB (brs v P lit) i)) (nI i) := by
      intro m
      induction m with
      | zero =>
        intro i hi h1
        unfold wp_X2_barOf_L20
        have e : i = lit := by omega
        subst e
        exact br_t (nI_le (by omega) (by omega)) k2
      | succ m ih =>
        intro i hi h1
        unfold wp_X2_barOf_L20
        refine br_f (nI_ge (by omega) (by omega)) ?_
        have hdl := dif_le lit i
        have hd2 := dif_le i lit
        have hD2 := D_16 v P (dif lit i)
        have hf := fB_lt (brs v P lit) i
        rw [b_andn (by omega), b_andn (by omega)]
        refine jn_i (b01 (brs v P lit i)) (fun K hK => ?_) ?_
        · unfold jn
          unfold brs at hK
          refine ⟨fun d => ⟨vp_in_nI (by omega) (by omega), ?_⟩, fun d => ?_⟩
          · have d1 : dif i lit = 0 := nI_small (b := 0) d (by omega) (by omega)
            rw [ix_nI (by omega), h2 _ (by omega)]
            refine ⟨fun q => ?_, fun q => ?_⟩
            · have q1 := (nI_leI (by omega) (by omega)).mp q
              have q2 : ¬ D v P (dif lit i) < D v P lit := by omega
              simp [d1, q2] at hK; exact hK
            · have q1 : ¬ D v P lit ≤ D v P (dif lit i) := fun z => q ((nI_leI (by omega) (by omega)).mpr z)
              have q2 : D v P (dif lit i) < D v P lit := by omega
              simp [d1, q2] at hK; exact hK
          · have d1 : ¬ dif i lit = 0 := fun z => d (by rw [z]; rfl)
            simp [d1] at hK; exact hK
        · refine jn_i (nI (if fB (brs v P lit) (i + 1) = 0 then lit else fB (brs v P lit) (i + 1))) (fun K hK => ?_) ?_
          · rw [fB] at hK
            refine b01_z (fun d => ?_) (fun d => ?_)
            · rw [d] at hK
              simp at hK; exact hK
            · have hsb : sbs i lit := by
                unfold brs at d
                rw [Bool.and_eq_true] at d
                exact dif0_sbs (of_decide_eq_true d.1)
              have hlt : pcn i < pcn lit := pcn_strict hsb (by omega) (by omega)
              have hpi := pcn_le i
              have hpl := pcn_le lit
              refine c_bc (by omega) ?_
              by_cases z : fB (brs v P lit) i = 0
              · rw [if_pos z]
                refine c_bc (by omega) (br_f (nI_ge (by omega) (by omega)) ?_)
                simp [d, z, h1] at hK
                have : ¬ i = 0 := by omega
                simp [this] at hK
                exact hK
              · rw [if_neg z]
                have hpf := pcn_le (fB (brs v P lit) i)
                refine c_bc (by omega) ⟨fun q => ?_, fun q => ?_⟩
                · have q1 := (nI_leI (by omega) (by omega)).mp q
                  have q2 : ¬ pcn i < pcn (fB (brs v P lit) i) := by omega
                  simp [d, z, q2] at hK
                  exact hK
                · have q1 : ¬ pcn (fB (brs v P lit) i) ≤ pcn i := fun w => q ((nI_leI (by omega) (by omega)).mpr w)
                  have q2 : pcn i < pcn (fB (brs v P lit) i) := by omega
                  have : ¬ i = 0 := by omega
                  simp [d, z, q2, h1, this] at hK
                  exact hK
          · rw [nI_1]; exact ih (i + 1) (by omega) (by omega)
    have hlit : 1 ≤ lit := by
      rcases Nat.eq_zero_or_pos lit with q | q
      · subst q
        have := D_le (v := v) (P := P) (S := 0)
        rw [h0] at this
        simp at this
        have e : pcn 0 = 0 := by decide
        omega
      · exact q
    have h5 := key (lit - 1) 1 (by omega) (by omega)
    have e5 : fB (brs v P lit) 1 = 0 := by simp [fB]
    rw [e5, if_pos rfl] at h5
    exact ⟨_, h5⟩
