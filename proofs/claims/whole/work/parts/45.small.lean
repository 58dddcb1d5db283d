/-! The small calls. -/
def vpB (x : Int32) (n : Nat) : Bool := decide (¬ (x < 0 ∨ n ≤ x.toNatClampNeg))
theorem vpB_t {x : Int32} {n : Nat} : vpB x n = true ↔ vp_in x n := by
  unfold vpB vp_in
  exact decide_eq_true_iff
theorem vpB_f {x : Int32} {n : Nat} : vpB x n = false ↔ ¬ vp_in x n := by
  constructor
  · intro h q
    rw [vpB_t.mpr q] at h; cases h
  · intro h
    cases hb : vpB x n with
    | false => rfl
    | true => exact absurd (vpB_t.mp hb) h
theorem vpB_n {j n : Nat} (h : j < n) (hn : n < 2 ^ 31) : vpB (nI j) n = true := vpB_t.mpr (vp_in_nI h hn)
/-! text -/
theorem shu_t : ∀ j, j < 8 → ((8 * nI j).toInt64.toUInt64 &&& Int64.toUInt64 63) = UInt64.ofNat (8 * j) := by decide +kernel
theorem shs_t : ∀ j, j < 8 → ((8 * nI j).toInt64 &&& 63).toBitVec.smod 64 = BitVec.ofNat 64 (8 * j) := by decide +kernel
theorem b255 : ∀ i, i < 64 → (255 : Int64).toBitVec.getLsbD i = decide (i < 8) := by decide +kernel
theorem sh_eq (x : Int64) {j : Nat} (hj : j < 8) : jlshr x (8 * nI j) &&& 255 = jlushr x (8 * nI j) &&& 255 := by
  apply Int64.toBitVec_inj.1
  apply BitVec.eq_of_getLsbD_eq
  intro i hi
  have e1 : (jlshr x (8 * nI j)).toBitVec = x.toBitVec.sshiftRight (8 * j) := by
    unfold jlshr
    rw [Int64.toBitVec_shiftRight, shs_t j hj]
    show x.toBitVec.sshiftRight ((BitVec.ofNat 64 (8 * j)).toNat) = _
    rw [BitVec.toNat_ofNat, Nat.mod_eq_of_lt (by omega)]
  have e2 : (jlushr x (8 * nI j)).toBitVec = x.toBitVec >>> (8 * j) := by
    unfold jlushr
    rw [shu_t j hj]
    show (x.toUInt64 >>> UInt64.ofNat (8 * j)).toBitVec = _
    rw [UInt64.toBitVec_shiftRight]
    show x.toBitVec >>> ((BitVec.ofNat 64 (8 * j)) % 64) = _
    have : (BitVec.ofNat 64 (8 * j)) % 64 = BitVec.ofNat 64 (8 * j) := by
      have : ∀ j, j < 8 → (BitVec.ofNat 64 (8 * j)) % 64 = BitVec.ofNat 64 (8 * j) := by decide +kernel
      exact this j hj
    rw [this]
    show x.toBitVec >>> (BitVec.ofNat 64 (8 * j)).toNat = _
    rw [BitVec.toNat_ofNat, Nat.mod_eq_of_lt (by omega)]
  show ((jlshr x (8 * nI j)).toBitVec &&& (255 : Int64).toBitVec).getLsbD i = ((jlushr x (8 * nI j)).toBitVec &&& (255 : Int64).toBitVec).getLsbD i
  rw [e1, e2, BitVec.getLsbD_and, BitVec.getLsbD_and, b255 i hi, BitVec.getLsbD_sshiftRight, BitVec.getLsbD_ushiftRight]
  by_cases c : i < 8
  · have h1 : 8 * j + i < 64 := by omega
    simp [c, h1, hi]
  · simp [c]
theorem oct_t : ∀ b, b < 256 → (lN b).toInt32 = nI b := by decide +kernel
theorem oct (z : Int64) : ∃ b, b < 256 ∧ Int64.toInt32 (z &&& 255) = nI b := by
  refine ⟨z.toBitVec.toNat % 256, Nat.mod_lt _ (by decide), ?_⟩
  have e : z &&& 255 = lN (z.toBitVec.toNat % 256) := by
    have e1 : z = lN z.toBitVec.toNat := by
      apply Int64.toBitVec_inj.1
      show z.toBitVec = BitVec.ofNat 64 z.toBitVec.toNat
      rw [BitVec.ofNat_toNat, BitVec.setWidth_eq]
    have e2 := fb_maskL z.toBitVec.toNat 8
    rw [← e1] at e2
    exact e2
  rw [e]
  exact oct_t _ (Nat.mod_lt _ (by decide))
def TX (len : Nat) (tb : Nat → Int32) (tl : Int32) (mt : Nat → Int32) (my : Int32) : Prop := len ≤ 300 ∧ tl = nI len ∧ my = nI len ∧ ∀ k, k < len → ∃ b, b < 256 ∧ tb k = nI b ∧ mt k = nI b
def Rg (x : Int32) (a b : Nat) : Prop := ∃ n, a ≤ n ∧ n ≤ b ∧ x = nI n
theorem rg_lo {x : Int32} {a b : Nat} (hb : b < 2 ^ 31) (h : x < nI a) (ha : a < 2 ^ 31) : ¬ Rg x a b := by
  rintro ⟨n, h1, h2, e⟩
  subst e
  have := (nI_ltI (by omega) ha).mp h
  omega
theorem rg_hi {x : Int32} {a b : Nat} (hb : b < 2 ^ 31) (h : ¬ x ≤ nI b) : ¬ Rg x a b := by
  rintro ⟨n, h1, h2, e⟩
  subst e
  exact h (nI_le h2 hb)
theorem rg_in {x : Int32} {a b : Nat} (hb : b < 2 ^ 31) (ha : a < 2 ^ 31) (h1 : ¬ x < nI a) (h2 : x ≤ nI b) : Rg x a b := by
  have h3 := (fa_le _ _).mp h2
  rw [nI_toInt hb] at h3
  have h4 : ¬ x.toInt < (nI a).toInt := fun q => h1 ((fa_lt _ _).mpr q)
  rw [nI_toInt ha] at h4
  have h0 : ¬ x < 0 := fun q => by
    have := (fa_lt _ _).mp q
    rw [i0] at this
    omega
  obtain ⟨n, hn, e⟩ := nI_of h0
  subst e
  rw [nI_toInt hn] at h3 h4
  exact ⟨n, by omega, by omega, rfl⟩
theorem m_rg {x lo hi : Int32} {a b : Nat} (ha : a < 2 ^ 31) (hb : b < 2 ^ 31) (e1 : lo = nI a) (e2 : hi = nI b) {post : Int32 → Prop} (h1 : Rg x a b → post 1) (h0 : ¬ Rg x a b → post 0) : wp_X5_in x lo hi post := by
  subst e1 e2
  unfold wp_X5_in jn
  refine ⟨fun c => h0 (rg_lo hb c ha), fun c => ⟨fun d => h0 (rg_hi hb ?_), fun d => h1 (rg_in hb ha c (fa_of_nlt d))⟩⟩
  intro q
  exact (fa_of_lt d).2.1 q
def tyA (len : Nat) (x : Int32) : Int32 := if 1 ≤ ix x ∧ ix x ≤ 8 ∧ ¬ x < 0 then (if len + ix x ≤ 300 then nI (len + ix x) else (-3)) else (-1)
theorem tyA_b {len : Nat} {x : Int32} (h : ¬ Rg x 1 8) : tyA len x = (-1) := by
  unfold tyA
  rw [if_neg]
  rintro ⟨h1, h2, h3⟩
  obtain ⟨n, hn, e⟩ := nI_of h3
  subst e
  rw [ix_nI hn] at h1 h2
  exact h ⟨n, h1, h2, rfl⟩
theorem tyA_n {len n : Nat} (h1 : 1 ≤ n) (h2 : n ≤ 8) : tyA len (nI n) = if len + n ≤ 300 then nI (len + n) else (-3) := by
  unfold tyA
  rw [ix_nI (by omega), if_pos ⟨h1, h2, nI_pos (by omega)⟩]
def tyN (len : Nat) (x : Int32) : Nat := if 1 ≤ ix x ∧ ix x ≤ 8 ∧ ¬ x < 0 ∧ len + ix x ≤ 300 then ix x else 0
theorem tyN_b {len : Nat} {x : Int32} (h : ¬ Rg x 1 8) : tyN len x = 0 := by
  unfold tyN
  rw [if_neg]
  rintro ⟨h1, h2, h3, -⟩
  obtain ⟨n, hn, e⟩ := nI_of h3
  subst e
  rw [ix_nI hn] at h1 h2
  exact h ⟨n, h1, h2, rfl⟩
theorem tyN_n {len n : Nat} (h1 : 1 ≤ n) (h2 : n ≤ 8) : tyN len (nI n) = if len + n ≤ 300 then n else 0 := by
  unfold tyN
  rw [ix_nI (by omega)]
  by_cases c : len + n ≤ 300
  · rw [if_pos ⟨h1, h2, nI_pos (by omega), c⟩, if_pos c]
  · rw [if_neg (fun q => c q.2.2.2), if_neg c]
theorem c_type {len : Nat} (hl : len ≤ 300) {v : Int64} {x : Int32} {tb : Nat → Int32} {post : Int32 → (Nat → Int32) → Int32 → Prop} (k : ∀ tb2, (∀ i, i < len → tb2 i = tb i) → (∀ i, i < tyN len x → tb2 (len + i) = Int64.toInt32 (jlushr v (8 * nI (tyN len x - 1 - i)) &&& 255)) → post (tyA len x) tb2 (nI (len + tyN len x))) : wp_X4_type v x tb (nI len) post := by
  unfold wp_X4_type
  have bad : ¬ Rg x 1 8 → post (-1) tb (nI len) := fun q => by
    have := k tb (fun i _ => rfl) (fun i hi => by rw [tyN_b q] at hi; omega)
    rw [tyA_b q, tyN_b q] at this
    exact this
  refine ⟨fun c => bad (rg_lo (a := 1) (by omega) c (by omega)), fun c => ⟨fun d => ?_, fun d => bad (rg_hi (b := 8) (by omega) d)⟩⟩
  obtain ⟨n, h1, h2, e⟩ := rg_in (a := 1) (b := 8) (by omega) (by omega) c d
  subst e
  rw [nI_add]
  refine pk_le (len + n) 300 (fun q => ?_) (fun q => ?_)
  · unfold jn
    have e1 : nI n - 1 = nI (n - 1) := pk_sub (b := 1) h1
    rw [tyA_n h1 h2, tyN_n h1 h2, if_pos q, if_pos q] at k
    have key : ∀ m, m ≤ n → ∀ tb1, (∀ i, i < len → tb1 i = tb i) → (∀ i, i < n - m → tb1 (len + i) = Int64.toInt32 (jlushr v (8 * nI (n - 1 - i)) &&& 255)) → wp_X4_type_L36 v (fun a b => post b a b) (m + 1) (nI m - 1) tb1 (nI (len + (n - m))) := by
      intro m
      induction m with
      | zero =>
        intro hm tb1 g1 g2
        unfold wp_X4_type_L36
        exact br_t (by decide) (k tb1 g1 g2)
      | succ m ih =>
        intro hm tb1 g1 g2
        unfold wp_X4_type_L36 wp_X3_add
        rw [nI_pred]
        refine br_f (nI_pos (by omega)) (br_f (nI_ge (b := 300) (by omega) (by omega)) ⟨vp_in_nI (by omega) (by omega), ?_⟩)
        have em : nI m + (-1) = nI m - 1 := by rw [Int32.sub_eq_add_neg]
        rw [em, ix_nI (by omega), nI_1, show len + (n - (m + 1)) + 1 = len + (n - m) by omega]
        refine ih (by omega) _ ?_ ?_
        · intro i hi
          rw [upd_n (by omega)]; exact g1 i hi
        · intro i hi
          by_cases e : i = n - (m + 1)
          · rw [e, upd_s, show n - 1 - (n - (m + 1)) = m by omega]
          · rw [upd_n (by omega)]; exact g2 i (by omega)
    have h5 := key n (Nat.le_refl _) tb (fun i _ => rfl) (fun i hi => by omega)
    rw [Nat.sub_self, Nat.add_zero] at h5
    exact ⟨_, h5⟩
  · rw [tyA_n h1 h2, tyN_n h1 h2, if_neg (by omega), if_neg (by omega)] at k
    exact k tb (fun i _ => rfl) (fun i hi => by omega)
theorem m_type {len : Nat} (hl : len ≤ 300) {v : Int64} {x : Int32} {tb : Nat → Int32} {post : Int32 → (Nat → Int32) → Int32 → Prop} (k : ∀ tb2, (∀ i, i < len → tb2 i = tb i) → (∀ i, i < tyN len x → tb2 (len + i) = Int64.toInt32 (jlshr v (8 * nI (tyN len x - 1 - i)) &&& 255)) → post (tyA len x) tb2 (nI (len + tyN len x))) : wp_X5_type v x tb (nI len) post := by
  unfold wp_X5_type
  have bad : ¬ Rg x 1 8 → post (-1) tb (nI len) := fun q => by
    have := k tb (fun i _ => rfl) (fun i hi => by rw [tyN_b q] at hi; omega)
    rw [tyA_b q, tyN_b q] at this
    exact this
  refine m_rg (a := 1) (b := 8) (by omega) (by omega) rfl rfl (fun q => br_f (by decide) ?_) (fun q => br_t rfl (bad q))
  obtain ⟨n, h1, h2, e⟩ := q
  subst e
  rw [nI_add]
  refine pk_le (len + n) 300 (fun q => ?_) (fun q => ?_)
  · unfold jn
    have e1 : nI n - 1 = nI (n - 1) := pk_sub (b := 1) h1
    rw [tyA_n h1 h2, tyN_n h1 h2, if_pos q, if_pos q] at k
    have key : ∀ m, m ≤ n → ∀ tb1, (∀ i, i < len → tb1 i = tb i) → (∀ i, i < n - m → tb1 (len + i) = Int64.toInt32 (jlshr v (8 * nI (n - 1 - i)) &&& 255)) → wp_X5_type_L32 v (fun a b => post b a b) (m + 1) (nI m - 1) tb1 (nI (len + (n - m))) := by
      intro m
      induction m with
      | zero =>
        intro hm tb1 g1 g2
        unfold wp_X5_type_L32
        exact br_t (by decide) (k tb1 g1 g2)
      | succ m ih =>
        intro hm tb1 g1 g2
        unfold wp_X5_type_L32
        rw [nI_pred]
        refine br_f (nI_pos (by omega)) ⟨vp_in_nI (by omega) (by omega), ?_⟩
        have em : nI m + (-1) = nI m - 1 := by rw [Int32.sub_eq_add_neg]
        rw [em, ix_nI (by omega), nI_1, show len + (n - (m + 1)) + 1 = len + (n - m) by omega]
        refine ih (by omega) _ ?_ ?_
        · intro i hi
          rw [upd_n (by omega)]; exact g1 i hi
        · intro i hi
          by_cases e : i = n - (m + 1)
          · rw [e, upd_s, show n - 1 - (n - (m + 1)) = m by omega]
          · rw [upd_n (by omega)]; exact g2 i (by omega)
    have h5 := key n (Nat.le_refl _) tb (fun i _ => rfl) (fun i hi => by omega)
    rw [Nat.sub_self, Nat.add_zero] at h5
    exact ⟨_, h5⟩
  · rw [tyA_n h1 h2, tyN_n h1 h2, if_neg (by omega), if_neg (by omega)] at k
    exact k tb (fun i _ => rfl) (fun i hi => by omega)
theorem tx_type {len : Nat} {v : Int64} {x : Int32} {tb mt tb2 mt2 : Nat → Int32} (k : TX len tb (nI len) mt (nI len)) (a1 : ∀ i, i < len → tb2 i = tb i) (a2 : ∀ i, i < tyN len x → tb2 (len + i) = Int64.toInt32 (jlushr v (8 * nI (tyN len x - 1 - i)) &&& 255)) (b1 : ∀ i, i < len → mt2 i = mt i) (b2 : ∀ i, i < tyN len x → mt2 (len + i) = Int64.toInt32 (jlshr v (8 * nI (tyN len x - 1 - i)) &&& 255)) : TX (len + tyN len x) tb2 (nI (len + tyN len x)) mt2 (nI (len + tyN len x)) := by
  have hn : tyN len x ≤ 8 ∧ len + tyN len x ≤ 300 := by
    unfold tyN
    by_cases c : 1 ≤ ix x ∧ ix x ≤ 8 ∧ ¬ x < 0 ∧ len + ix x ≤ 300
    · rw [if_pos c]; exact ⟨c.2.1, c.2.2.2⟩
    · rw [if_neg c]; exact ⟨by omega, k.1⟩
  refine ⟨hn.2, rfl, rfl, fun i hi => ?_⟩
  rcases Nat.lt_or_ge i len with q | q
  · rw [a1 i q, b1 i q]; exact k.2.2.2 i q
  · obtain ⟨j, hj⟩ : ∃ j, i = len + j := ⟨i - len, by omega⟩
    subst hj
    rw [a2 j (by omega), b2 j (by omega), sh_eq v (by omega)]
    obtain ⟨b, hb, e⟩ := oct (jlushr v (8 * nI (tyN len x - 1 - j)))
    exact ⟨b, hb, e, e⟩
