/-! Tokens of the reference. -/
theorem m_byteAt {b : Nat → Nat} {len a : Nat} {mt : Nat → Int32} (hl : len ≤ 300) (Y : BY b len mt) (ha : a < 2 ^ 31) {post : Int32 → Prop} (k1 : a < len → post (nI (b a))) (k0 : len ≤ a → post (-1)) : wp_X5_byteAt (nI a) mt (nI len) post := by
  unfold wp_X5_byteAt
  refine pk_le len a (fun q => k0 q) (fun q => ⟨vp_in_nI (by omega) (by omega), ?_⟩)
  rw [ix_nI (by omega), (Y a q).2]
  exact k1 q
theorem m_btw {x a c : Nat} {la lc : Int32} (ha : la = nI a) (hc : lc = nI c) (hx : x < 2 ^ 31) (ha2 : a < 2 ^ 31) (hc2 : c < 2 ^ 31) {post : Int32 → Prop} (k : post (b01 (decide (a ≤ x) && decide (x ≤ c)))) : wp_X5_in (nI x) la lc post := by
  unfold wp_X5_in jn
  exact cmp_between ha hc hx ha2 hc2 (fun q => by rw [q] at k; exact k) (fun q => by rw [q] at k; exact k)
theorem m_sortAt {b : Nat → Nat} {len a : Nat} {mt : Nat → Int32} (hl : len ≤ 300) (Y : BY b len mt) (ha : a < 2 ^ 31) {post : Int32 → Prop} (k : post (nI (sK b len a))) : wp_X5_byteAt (nI a) mt (nI len) (fun r => wp_X5_sortOf r post) := by
  unfold sK at k
  refine m_byteAt hl Y ha (fun q => ?_) (fun q => ?_)
  · rw [if_pos q] at k
    have hb := (Y a q).1
    unfold wp_X5_sortOf
    refine br_t (nI_pos' (by omega)) ?_
    refine m_btw (a := 97) (c := 122) rfl rfl (by omega) (by omega) (by omega) (b01_z (fun d => ?_) (fun d => ?_))
    · have d1 : ¬ isL (b a) = true := by unfold isL; rw [d]; decide
      rw [if_neg d1] at k
      refine m_btw (a := 48) (c := 57) rfl rfl (by omega) (by omega) (by omega) (b01_z (fun e => ?_) (fun e => ?_))
      · have e1 : ¬ isD (b a) = true := by unfold isD; rw [e]; decide
        rw [if_neg e1] at k
        refine pk_eq (b a) 59 (fun f => ?_) (fun f => ?_)
        · rw [if_pos f] at k; exact k
        · rw [if_neg f] at k; exact k
      · have e1 : isD (b a) = true := e
        rw [if_pos e1] at k; exact k
    · have d1 : isL (b a) = true := d
      rw [if_pos d1] at k; exact k
  · rw [if_neg (by omega)] at k
    unfold wp_X5_sortOf
    exact br_f (by decide) k
theorem m_skip {b : Nat → Nat} {len : Nat} {mt : Nat → Int32} (hl : len ≤ 300) (Y : BY b len mt) {K : Int32 → Prop} : ∀ m a, a + m = len → K (nI (tS b len a)) → wp_X5_token_L0 mt (nI len) K (m + 1) (nI a) := by
  intro m
  induction m with
  | zero =>
    intro a ha k
    unfold wp_X5_token_L0
    unfold tS at k
    rw [rn_stop (Or.inl (by omega))] at k
    exact m_byteAt hl Y (by omega) (fun q => by omega) (fun q => br_f (by decide) k)
  | succ m ih =>
    intro a ha k
    unfold wp_X5_token_L0
    have hb := Y a (by omega)
    refine m_byteAt hl Y (by omega) (fun q => ?_) (fun q => by omega)
    rw [nI_1]
    refine pk_eq (b a) 32 (fun e => ih (a + 1) (by omega) ?_) (fun e => ?_)
    · unfold tS at k ⊢
      rw [rn_step (by omega) (by simp [e])] at k
      exact k
    · unfold tS at k
      rw [rn_stop (Or.inr (by simp [e]))] at k
      exact k
theorem sK_L {b : Nat → Nat} {len a : Nat} : sK b len a = 1 ↔ a < len ∧ isL (b a) = true := by
  unfold sK
  by_cases c : a < len
  · rw [if_pos c]
    by_cases d : isL (b a) = true
    · rw [if_pos d]; simp [c, d]
    · rw [if_neg d]
      by_cases e : isD (b a) = true
      · rw [if_pos e]; simp [d]
      · rw [if_neg e]
        by_cases f : b a = 59
        · rw [if_pos f]; simp [d]
        · rw [if_neg f]; simp [d]
  · rw [if_neg c]; simp [c]
theorem isLD {x : Nat} (h : isD x = true) : isL x = false := by
  have := isD_r h
  unfold isL
  have : ¬ 97 ≤ x := by omega
  simp [this]
theorem sK_D {b : Nat → Nat} {len a : Nat} : sK b len a = 2 ↔ a < len ∧ isD (b a) = true := by
  unfold sK
  by_cases c : a < len
  · rw [if_pos c]
    by_cases d : isL (b a) = true
    · rw [if_pos d]
      constructor
      · intro q; cases q
      · rintro ⟨-, q⟩
        rw [isLD q] at d; cases d
    · rw [if_neg d]
      by_cases e : isD (b a) = true
      · rw [if_pos e]; simp [c, e]
      · rw [if_neg e]
        by_cases f : b a = 59
        · rw [if_pos f]; simp [e]
        · rw [if_neg f]; simp [e]
  · rw [if_neg c]; simp [c]
theorem sK_4 (b : Nat → Nat) (len a : Nat) : sK b len a ≤ 4 := by
  unfold sK
  by_cases c : a < len
  · rw [if_pos c]
    by_cases d : isL (b a) = true
    · rw [if_pos d]; omega
    · rw [if_neg d]
      by_cases e : isD (b a) = true
      · rw [if_pos e]; omega
      · rw [if_neg e]
        by_cases f : b a = 59
        · rw [if_pos f]; omega
        · rw [if_neg f]; omega
  · rw [if_neg c]; omega
/-- the tail of a word or of figures -/
theorem m_tail {b : Nat → Nat} {len s so : Nat} {mt : Nat → Int32} {q : Nat → Bool} (hl : len ≤ 300) (Y : BY b len mt) (hso : so = 1 ∨ so = 2) (hq : ∀ a, a ≤ len → (sK b len a = so ↔ a < len ∧ q a = true)) {post : Int32 → Int32 → Int32 → Int32 → Prop} : ∀ m a, a + m = len → s < a → post (nI (rn q len a)) (nI so) (nI s) (nI (rn q len a - s)) → wp_X5_token_L54 mt (nI len) (nI so) (nI s) post (m + 1) (nI a) (nI (a - s)) := by
  intro m
  induction m with
  | zero =>
    intro a ha hs k
    unfold wp_X5_token_L54
    rw [rn_stop (Or.inl (by omega))] at k
    unfold jn
    refine br_f (nI_ne0 (by omega) (by omega)) ?_
    have h4 := sK_4 b len a
    have fin : wp_X5_byteAt (nI a) mt (nI len) (fun (r89 : Int32) => (wp_X5_sortOf r89 (fun (r92 : Int32) => ((r92 = nI so → wp_X5_token_L54 mt (nI len) (nI so) (nI s) post 0 (nI a + 1) (nI (a - s) + 1)) ∧ (¬ r92 = nI so → post (nI a) (nI so) (nI s) (nI (a - s))))))) := by
      refine m_sortAt hl Y (by omega) ?_
      refine pk_eq (sK b len a) so (fun e => ?_) (fun e => k)
      have := (hq a (by omega)).mp e
      omega
    rcases hso with e | e
    · subst e
      exact br_t rfl fin
    · subst e
      exact br_f (by decide) (br_t rfl fin)
  | succ m ih =>
    intro a ha hs k
    unfold wp_X5_token_L54
    unfold jn
    refine br_f (nI_ne0 (by omega) (by omega)) ?_
    have h4 := sK_4 b len a
    have fin : wp_X5_byteAt (nI a) mt (nI len) (fun (r89 : Int32) => (wp_X5_sortOf r89 (fun (r92 : Int32) => ((r92 = nI so → wp_X5_token_L54 mt (nI len) (nI so) (nI s) post (m + 1) (nI a + 1) (nI (a - s) + 1)) ∧ (¬ r92 = nI so → post (nI a) (nI so) (nI s) (nI (a - s))))))) := by
      refine m_sortAt hl Y (by omega) ?_
      refine pk_eq (sK b len a) so (fun e => ?_) (fun e => ?_)
      · have h5 := (hq a (by omega)).mp e
        rw [nI_1, nI_1, show a - s + 1 = a + 1 - s by omega]
        rw [rn_step (by omega) h5.2] at k
        exact ih (a + 1) (by omega) (by omega) k
      · have h5 : q a = false := by
          cases hb : q a with
          | false => rfl
          | true => exact absurd ((hq a (by omega)).mpr ⟨by omega, hb⟩) e
        rw [rn_stop (Or.inr h5)] at k
        exact k
    rcases hso with e | e
    · subst e
      exact br_t rfl fin
    · subst e
      exact br_f (by decide) (br_t rfl fin)
theorem m_tok {b : Nat → Nat} {len a : Nat} {mt : Nat → Int32} {so st sz : Int32} (hl : len ≤ 300) (Y : BY b len mt) (ha : a ≤ len) {post : Int32 → Int32 → Int32 → Int32 → Prop} (k : post (nI (tE b len a)) (nI (tK b len a)) (nI (tS b len a)) (nI (tE b len a - tS b len a))) : wp_X5_token mt (nI len) (nI a) so st sz post := by
  unfold wp_X5_token
  have h1 := tS_b b ha
  refine jn_i (nI (tS b len a)) (fun K hK => ⟨_, m_skip hl Y (len - a) a (by omega) hK⟩) ?_
  refine m_sortAt hl Y (by omega) ?_
  have h4 := sK_4 b len (tS b len a)
  have h0 := sK_0 (b := b) h1.2
  have h2 := sE_b b h1.2
  unfold tE tK at k
  generalize tS b len a = s at *
  have first : sK b len s ≠ 0 → ∀ n, wp_X5_token_L54 mt (nI len) (nI (sK b len s)) (nI s) post n (nI (s + 1)) (nI (s + 1 - s)) → wp_X5_token_L54 mt (nI len) (nI (sK b len s)) (nI s) post (n + 1) (nI s) 0 := by
    intro hn n hx
    unfold wp_X5_token_L54
    unfold jn
    refine br_t rfl (br_f (nI_ne0 (by omega) (by omega)) ?_)
    rw [nI_1]
    rw [show s + 1 - s = 1 by omega] at hx
    exact hx
  by_cases e0 : sK b len s = 0
  · have es := h0.mp e0
    refine ⟨1, ?_⟩
    unfold wp_X5_token_L54
    unfold sE at k
    rw [if_neg (by omega), Nat.sub_self] at k
    unfold jn
    rw [e0] at k ⊢
    exact br_t rfl (br_t rfl (br_f (by decide) (br_f (by decide) k)))
  · have hs : s < len := by
      have : ¬ s = len := fun q => e0 (h0.mpr q)
      omega
    unfold sE at k
    rw [if_pos hs] at k
    by_cases e1 : sK b len s = 1
    · have h5 := sK_L.mp e1
      rw [if_pos h5.2] at k
      have e2 : rn (fun k => isL (b k)) len s = rn (fun k => isL (b k)) len (s + 1) := rn_step (q := fun k => isL (b k)) hs h5.2
      rw [e2, e1] at k
      refine ⟨_, first e0 (len - (s + 1) + 1) ?_⟩
      rw [e1]
      exact m_tail (q := fun k => isL (b k)) hl Y (Or.inl rfl) (fun a _ => sK_L) _ (s + 1) (by omega) (by omega) k
    · by_cases e2 : sK b len s = 2
      · have h5 := sK_D.mp e2
        have h6 : ¬ isL (b s) = true := by rw [isLD h5.2]; decide
        rw [if_neg h6, if_pos h5.2] at k
        have e3 : rn (fun k => isD (b k)) len s = rn (fun k => isD (b k)) len (s + 1) := rn_step (q := fun k => isD (b k)) hs h5.2
        rw [e3, e2] at k
        refine ⟨_, first e0 (len - (s + 1) + 1) ?_⟩
        rw [e2]
        exact m_tail (q := fun k => isD (b k)) hl Y (Or.inr rfl) (fun a _ => sK_D) _ (s + 1) (by omega) (by omega) k
      · have h5 : ¬ isL (b s) = true := fun q => e1 (sK_L.mpr ⟨hs, q⟩)
        have h6 : ¬ isD (b s) = true := fun q => e2 (sK_D.mpr ⟨hs, q⟩)
        rw [if_neg h5, if_neg h6] at k
        refine ⟨_, first e0 1 ?_⟩
        unfold wp_X5_token_L54
        unfold jn
        have n1 : ¬ nI (sK b len s) = 1 := fun q => e1 (nI_small (b := 1) q (by omega) (by omega))
        have n2 : ¬ nI (sK b len s) = 2 := fun q => e2 (nI_small (b := 2) q (by omega) (by omega))
        exact br_f (nI_ne0 (by omega) (by omega)) (br_f n1 (br_f n2 k))
theorem m_number {b : Nat → Nat} {len a lo hi : Nat} {mt : Nat → Int32} {so st sz plo phi : Int32} (hl : len ≤ 300) (Y : BY b len mt) (ha : a ≤ len) (hlo : lo ≤ 9) (hhi : hi ≤ 9) (e1 : plo = nI lo) (e2 : phi = nI hi) {post : Int32 → Int32 → Int32 → Int32 → Int32 → Prop} (k : post (if nOK b len a lo hi then nI (dg b len a) else (-9)) (nI (tE b len a)) (nI (tK b len a)) (nI (tS b len a)) (nI (tE b len a - tS b len a))) : wp_X5_number plo phi mt (nI len) (nI a) so st sz post := by
  subst e1 e2
  unfold wp_X5_number
  refine m_tok hl Y ha ?_
  have h1 := tS_b b ha
  have h3 := tE_b b ha
  have h4 : tK b len a ≤ 4 := sK_4 _ _ _
  unfold jn
  by_cases c : tK b len a = 2
  · have h5 := sK_D.mp c
    have hr := isD_r h5.2
    refine m_byteAt hl Y (by omega) (fun q => ?_) (fun q => by omega)
    rw [c] at k ⊢
    refine br_t rfl ?_
    unfold nOK at k
    refine pk_eq (tE b len a - tS b len a) 1 (fun d => ?_) (fun d => ?_)
    · have e3 : nI (b (tS b len a)) - 48 = nI (dg b len a) := pk_sub (b := 48) hr.1
      have hd : dg b len a ≤ 9 := by unfold dg; omega
      rw [e3]
      rw [c, d] at k
      refine m_btw (a := lo) (c := hi) rfl rfl (by omega) (by omega) (by omega) (b01_z (fun f => ?_) (fun f => ?_))
      · have f2 : (decide (2 = 2) && decide (1 = 1) && decide (lo ≤ dg b len a) && decide (dg b len a ≤ hi)) = false := by
          rw [show (decide (2 = 2) && decide (1 = 1)) = true from rfl, Bool.true_and]; exact f
        rw [f2] at k
        rw [d]
        exact k
      · have f2 : (decide (2 = 2) && decide (1 = 1) && decide (lo ≤ dg b len a) && decide (dg b len a ≤ hi)) = true := by
          rw [show (decide (2 = 2) && decide (1 = 1)) = true from rfl, Bool.true_and]; exact f
        rw [f2] at k
        rw [d]
        exact k
    · have f2 : (decide (tK b len a = 2) && decide (tE b len a - tS b len a = 1) && decide (lo ≤ dg b len a) && decide (dg b len a ≤ hi)) = false := by simp [d]
      rw [f2] at k
      exact k
  · have f2 : nOK b len a lo hi = false := by unfold nOK; simp [c]
    rw [f2] at k
    have n2 : ¬ nI (tK b len a) = 2 := fun q => c (nI_small (b := 2) q (by omega) (by omega))
    refine m_byteAt hl Y (by omega) (fun q => br_f n2 k) (fun q => br_f n2 k)
/-! the verb -/
def hv (b : Nat → Nat) (s : Nat) : Nat → Nat
  | 0 => 0
  | n + 1 => 256 * hv b s n + b (s + n)
theorem hv_0 (b : Nat → Nat) (s n : Nat) (hn : n ≤ 7) (h : ∀ k, k < n → 97 ≤ b (s + k) ∧ b (s + k) ≤ 122) : hv b s n = 1751215212 ↔ n = 4 ∧ b (s + 0) = 104 ∧ b (s + 1) = 97 ∧ b (s + 2) = 108 ∧ b (s + 3) = 108 := by
  have hc : n = 0 ∨ n = 1 ∨ n = 2 ∨ n = 3 ∨ n = 4 ∨ n = 5 ∨ n = 6 ∨ n = 7 := by omega
  rcases hc with q | q | q | q | q | q | q | q
  · subst q
    simp only [hv]
    omega
  · subst q
    have h0 := h 0 (by omega)
    simp only [hv]
    omega
  · subst q
    have h0 := h 0 (by omega)
    have h1 := h 1 (by omega)
    simp only [hv]
    omega
  · subst q
    have h0 := h 0 (by omega)
    have h1 := h 1 (by omega)
    have h2 := h 2 (by omega)
    simp only [hv]
    omega
  · subst q
    have h0 := h 0 (by omega)
    have h1 := h 1 (by omega)
    have h2 := h 2 (by omega)
    have h3 := h 3 (by omega)
    constructor
    · intro hh
      simp only [hv] at hh
      refine ⟨rfl, ?_, ?_, ?_, ?_⟩ <;> omega
    · rintro ⟨-, g0, g1, g2, g3⟩
      simp only [hv]
      omega
  · subst q
    have h0 := h 0 (by omega)
    have h1 := h 1 (by omega)
    have h2 := h 2 (by omega)
    have h3 := h 3 (by omega)
    have h4 := h 4 (by omega)
    simp only [hv]
    omega
  · subst q
    have h0 := h 0 (by omega)
    have h1 := h 1 (by omega)
    have h2 := h 2 (by omega)
    have h3 := h 3 (by omega)
    have h4 := h 4 (by omega)
    have h5 := h 5 (by omega)
    simp only [hv]
    omega
  · subst q
    have h0 := h 0 (by omega)
    have h1 := h 1 (by omega)
    have h2 := h 2 (by omega)
    have h3 := h 3 (by omega)
    have h4 := h 4 (by omega)
    have h5 := h 5 (by omega)
    have h6 := h 6 (by omega)
    simp only [hv]
    omega
theorem wIs_0 (b : Nat → Nat) (s e : Nat) : wIs b s e 0 = true ↔ e - s = 4 ∧ b (s + 0) = 104 ∧ b (s + 1) = 97 ∧ b (s + 2) = 108 ∧ b (s + 3) = 108 := by
  have e1 : nlJ 0 = 4 := rfl
  unfold wIs
  rw [e1, Bool.and_eq_true, decide_eq_true_eq, allB_iff]
  constructor
  · rintro ⟨h1, h2⟩
    exact ⟨h1, of_decide_eq_true (h2 0 (by omega)), of_decide_eq_true (h2 1 (by omega)), of_decide_eq_true (h2 2 (by omega)), of_decide_eq_true (h2 3 (by omega))⟩
  · rintro ⟨h1, g0, g1, g2, g3⟩
    refine ⟨h1, fun k hk => ?_⟩
    have hc : k = 0 ∨ k = 1 ∨ k = 2 ∨ k = 3 := by omega
    rcases hc with q | q | q | q
    · subst q; exact decide_eq_true g0
    · subst q; exact decide_eq_true g1
    · subst q; exact decide_eq_true g2
    · subst q; exact decide_eq_true g3
theorem wv_0 {b : Nat → Nat} {s e : Nat} (h : ∀ k, k < e - s → 97 ≤ b (s + k) ∧ b (s + k) ≤ 122) : hv b s (min (e - s) 7) = 1751215212 ↔ wIs b s e 0 = true := by
  rw [hv_0 b s (min (e - s) 7) (by omega) (fun k hk => h k (by omega)), wIs_0]
  constructor
  · rintro ⟨h1, h2⟩
    exact ⟨by omega, h2⟩
  · rintro ⟨h1, h2⟩
    exact ⟨by omega, h2⟩
theorem hv_1 (b : Nat → Nat) (s n : Nat) (hn : n ≤ 7) (h : ∀ k, k < n → 97 ≤ b (s + k) ∧ b (s + k) ≤ 122) : hv b s n = 2002873452 ↔ n = 4 ∧ b (s + 0) = 119 ∧ b (s + 1) = 97 ∧ b (s + 2) = 108 ∧ b (s + 3) = 108 := by
  have hc : n = 0 ∨ n = 1 ∨ n = 2 ∨ n = 3 ∨ n = 4 ∨ n = 5 ∨ n = 6 ∨ n = 7 := by omega
  rcases hc with q | q | q | q | q | q | q | q
  · subst q
    simp only [hv]
    omega
  · subst q
    have h0 := h 0 (by omega)
    simp only [hv]
    omega
  · subst q
    have h0 := h 0 (by omega)
    have h1 := h 1 (by omega)
    simp only [hv]
    omega
  · subst q
    have h0 := h 0 (by omega)
    have h1 := h 1 (by omega)
    have h2 := h 2 (by omega)
    simp only [hv]
    omega
  · subst q
    have h0 := h 0 (by omega)
    have h1 := h 1 (by omega)
    have h2 := h 2 (by omega)
    have h3 := h 3 (by omega)
    constructor
    · intro hh
      simp only [hv] at hh
      refine ⟨rfl, ?_, ?_, ?_, ?_⟩ <;> omega
    · rintro ⟨-, g0, g1, g2, g3⟩
      simp only [hv]
      omega
  · subst q
    have h0 := h 0 (by omega)
    have h1 := h 1 (by omega)
    have h2 := h 2 (by omega)
    have h3 := h 3 (by omega)
    have h4 := h 4 (by omega)
    simp only [hv]
    omega
  · subst q
    have h0 := h 0 (by omega)
    have h1 := h 1 (by omega)
    have h2 := h 2 (by omega)
    have h3 := h 3 (by omega)
    have h4 := h 4 (by omega)
    have h5 := h 5 (by omega)
    simp only [hv]
    omega
  · subst q
    have h0 := h 0 (by omega)
    have h1 := h 1 (by omega)
    have h2 := h 2 (by omega)
    have h3 := h 3 (by omega)
    have h4 := h 4 (by omega)
    have h5 := h 5 (by omega)
    have h6 := h 6 (by omega)
    simp only [hv]
    omega
theorem wIs_1 (b : Nat → Nat) (s e : Nat) : wIs b s e 1 = true ↔ e - s = 4 ∧ b (s + 0) = 119 ∧ b (s + 1) = 97 ∧ b (s + 2) = 108 ∧ b (s + 3) = 108 := by
  have e1 : nlJ 1 = 4 := rfl
  unfold wIs
  rw [e1, Bool.and_eq_true, decide_eq_true_eq, allB_iff]
  constructor
  · rintro ⟨h1, h2⟩
    exact ⟨h1, of_decide_eq_true (h2 0 (by omega)), of_decide_eq_true (h2 1 (by omega)), of_decide_eq_true (h2 2 (by omega)), of_decide_eq_true (h2 3 (by omega))⟩
  · rintro ⟨h1, g0, g1, g2, g3⟩
    refine ⟨h1, fun k hk => ?_⟩
    have hc : k = 0 ∨ k = 1 ∨ k = 2 ∨ k = 3 := by omega
    rcases hc with q | q | q | q
    · subst q; exact decide_eq_true g0
    · subst q; exact decide_eq_true g1
    · subst q; exact decide_eq_true g2
    · subst q; exact decide_eq_true g3
theorem wv_1 {b : Nat → Nat} {s e : Nat} (h : ∀ k, k < e - s → 97 ≤ b (s + k) ∧ b (s + k) ≤ 122) : hv b s (min (e - s) 7) = 2002873452 ↔ wIs b s e 1 = true := by
  rw [hv_1 b s (min (e - s) 7) (by omega) (fun k hk => h k (by omega)), wIs_1]
  constructor
  · rintro ⟨h1, h2⟩
    exact ⟨by omega, h2⟩
  · rintro ⟨h1, h2⟩
    exact ⟨by omega, h2⟩
theorem hv_2 (b : Nat → Nat) (s n : Nat) (hn : n ≤ 7) (h : ∀ k, k < n → 97 ≤ b (s + k) ∧ b (s + k) ≤ 122) : hv b s n = 1685024626 ↔ n = 4 ∧ b (s + 0) = 100 ∧ b (s + 1) = 111 ∧ b (s + 2) = 111 ∧ b (s + 3) = 114 := by
  have hc : n = 0 ∨ n = 1 ∨ n = 2 ∨ n = 3 ∨ n = 4 ∨ n = 5 ∨ n = 6 ∨ n = 7 := by omega
  rcases hc with q | q | q | q | q | q | q | q
  · subst q
    simp only [hv]
    omega
  · subst q
    have h0 := h 0 (by omega)
    simp only [hv]
    omega
  · subst q
    have h0 := h 0 (by omega)
    have h1 := h 1 (by omega)
    simp only [hv]
    omega
  · subst q
    have h0 := h 0 (by omega)
    have h1 := h 1 (by omega)
    have h2 := h 2 (by omega)
    simp only [hv]
    omega
  · subst q
    have h0 := h 0 (by omega)
    have h1 := h 1 (by omega)
    have h2 := h 2 (by omega)
    have h3 := h 3 (by omega)
    constructor
    · intro hh
      simp only [hv] at hh
      refine ⟨rfl, ?_, ?_, ?_, ?_⟩ <;> omega
    · rintro ⟨-, g0, g1, g2, g3⟩
      simp only [hv]
      omega
  · subst q
    have h0 := h 0 (by omega)
    have h1 := h 1 (by omega)
    have h2 := h 2 (by omega)
    have h3 := h 3 (by omega)
    have h4 := h 4 (by omega)
    simp only [hv]
    omega
  · subst q
    have h0 := h 0 (by omega)
    have h1 := h 1 (by omega)
    have h2 := h 2 (by omega)
    have h3 := h 3 (by omega)
    have h4 := h 4 (by omega)
    have h5 := h 5 (by omega)
    simp only [hv]
    omega
  · subst q
    have h0 := h 0 (by omega)
    have h1 := h 1 (by omega)
    have h2 := h 2 (by omega)
    have h3 := h 3 (by omega)
    have h4 := h 4 (by omega)
    have h5 := h 5 (by omega)
    have h6 := h 6 (by omega)
    simp only [hv]
    omega
theorem wIs_2 (b : Nat → Nat) (s e : Nat) : wIs b s e 2 = true ↔ e - s = 4 ∧ b (s + 0) = 100 ∧ b (s + 1) = 111 ∧ b (s + 2) = 111 ∧ b (s + 3) = 114 := by
  have e1 : nlJ 2 = 4 := rfl
  unfold wIs
  rw [e1, Bool.and_eq_true, decide_eq_true_eq, allB_iff]
  constructor
  · rintro ⟨h1, h2⟩
    exact ⟨h1, of_decide_eq_true (h2 0 (by omega)), of_decide_eq_true (h2 1 (by omega)), of_decide_eq_true (h2 2 (by omega)), of_decide_eq_true (h2 3 (by omega))⟩
  · rintro ⟨h1, g0, g1, g2, g3⟩
    refine ⟨h1, fun k hk => ?_⟩
    have hc : k = 0 ∨ k = 1 ∨ k = 2 ∨ k = 3 := by omega
    rcases hc with q | q | q | q
    · subst q; exact decide_eq_true g0
    · subst q; exact decide_eq_true g1
    · subst q; exact decide_eq_true g2
    · subst q; exact decide_eq_true g3
theorem wv_2 {b : Nat → Nat} {s e : Nat} (h : ∀ k, k < e - s → 97 ≤ b (s + k) ∧ b (s + k) ≤ 122) : hv b s (min (e - s) 7) = 1685024626 ↔ wIs b s e 2 = true := by
  rw [hv_2 b s (min (e - s) 7) (by omega) (fun k hk => h k (by omega)), wIs_2]
  constructor
  · rintro ⟨h1, h2⟩
    exact ⟨by omega, h2⟩
  · rintro ⟨h1, h2⟩
    exact ⟨by omega, h2⟩
theorem hv_3 (b : Nat → Nat) (s n : Nat) (hn : n ≤ 7) (h : ∀ k, k < n → 97 ≤ b (s + k) ∧ b (s + k) ≤ 122) : hv b s n = 1818324336 ↔ n = 4 ∧ b (s + 0) = 108 ∧ b (s + 1) = 97 ∧ b (s + 2) = 109 ∧ b (s + 3) = 112 := by
  have hc : n = 0 ∨ n = 1 ∨ n = 2 ∨ n = 3 ∨ n = 4 ∨ n = 5 ∨ n = 6 ∨ n = 7 := by omega
  rcases hc with q | q | q | q | q | q | q | q
  · subst q
    simp only [hv]
    omega
  · subst q
    have h0 := h 0 (by omega)
    simp only [hv]
    omega
  · subst q
    have h0 := h 0 (by omega)
    have h1 := h 1 (by omega)
    simp only [hv]
    omega
  · subst q
    have h0 := h 0 (by omega)
    have h1 := h 1 (by omega)
    have h2 := h 2 (by omega)
    simp only [hv]
    omega
  · subst q
    have h0 := h 0 (by omega)
    have h1 := h 1 (by omega)
    have h2 := h 2 (by omega)
    have h3 := h 3 (by omega)
    constructor
    · intro hh
      simp only [hv] at hh
      refine ⟨rfl, ?_, ?_, ?_, ?_⟩ <;> omega
    · rintro ⟨-, g0, g1, g2, g3⟩
      simp only [hv]
      omega
  · subst q
    have h0 := h 0 (by omega)
    have h1 := h 1 (by omega)
    have h2 := h 2 (by omega)
    have h3 := h 3 (by omega)
    have h4 := h 4 (by omega)
    simp only [hv]
    omega
  · subst q
    have h0 := h 0 (by omega)
    have h1 := h 1 (by omega)
    have h2 := h 2 (by omega)
    have h3 := h 3 (by omega)
    have h4 := h 4 (by omega)
    have h5 := h 5 (by omega)
    simp only [hv]
    omega
  · subst q
    have h0 := h 0 (by omega)
    have h1 := h 1 (by omega)
    have h2 := h 2 (by omega)
    have h3 := h 3 (by omega)
    have h4 := h 4 (by omega)
    have h5 := h 5 (by omega)
    have h6 := h 6 (by omega)
    simp only [hv]
    omega
theorem wIs_3 (b : Nat → Nat) (s e : Nat) : wIs b s e 3 = true ↔ e - s = 4 ∧ b (s + 0) = 108 ∧ b (s + 1) = 97 ∧ b (s + 2) = 109 ∧ b (s + 3) = 112 := by
  have e1 : nlJ 3 = 4 := rfl
  unfold wIs
  rw [e1, Bool.and_eq_true, decide_eq_true_eq, allB_iff]
  constructor
  · rintro ⟨h1, h2⟩
    exact ⟨h1, of_decide_eq_true (h2 0 (by omega)), of_decide_eq_true (h2 1 (by omega)), of_decide_eq_true (h2 2 (by omega)), of_decide_eq_true (h2 3 (by omega))⟩
  · rintro ⟨h1, g0, g1, g2, g3⟩
    refine ⟨h1, fun k hk => ?_⟩
    have hc : k = 0 ∨ k = 1 ∨ k = 2 ∨ k = 3 := by omega
    rcases hc with q | q | q | q
    · subst q; exact decide_eq_true g0
    · subst q; exact decide_eq_true g1
    · subst q; exact decide_eq_true g2
    · subst q; exact decide_eq_true g3
theorem wv_3 {b : Nat → Nat} {s e : Nat} (h : ∀ k, k < e - s → 97 ≤ b (s + k) ∧ b (s + k) ≤ 122) : hv b s (min (e - s) 7) = 1818324336 ↔ wIs b s e 3 = true := by
  rw [hv_3 b s (min (e - s) 7) (by omega) (fun k hk => h k (by omega)), wIs_3]
  constructor
  · rintro ⟨h1, h2⟩
    exact ⟨by omega, h2⟩
  · rintro ⟨h1, h2⟩
    exact ⟨by omega, h2⟩
theorem hv_4 (b : Nat → Nat) (s n : Nat) (hn : n ≤ 7) (h : ∀ k, k < n → 97 ≤ b (s + k) ∧ b (s + k) ≤ 122) : hv b s n = 123581014175598 ↔ n = 6 ∧ b (s + 0) = 112 ∧ b (s + 1) = 101 ∧ b (s + 2) = 114 ∧ b (s + 3) = 115 ∧ b (s + 4) = 111 ∧ b (s + 5) = 110 := by
  have hc : n = 0 ∨ n = 1 ∨ n = 2 ∨ n = 3 ∨ n = 4 ∨ n = 5 ∨ n = 6 ∨ n = 7 := by omega
  rcases hc with q | q | q | q | q | q | q | q
  · subst q
    simp only [hv]
    omega
  · subst q
    have h0 := h 0 (by omega)
    simp only [hv]
    omega
  · subst q
    have h0 := h 0 (by omega)
    have h1 := h 1 (by omega)
    simp only [hv]
    omega
  · subst q
    have h0 := h 0 (by omega)
    have h1 := h 1 (by omega)
    have h2 := h 2 (by omega)
    simp only [hv]
    omega
  · subst q
    have h0 := h 0 (by omega)
    have h1 := h 1 (by omega)
    have h2 := h 2 (by omega)
    have h3 := h 3 (by omega)
    simp only [hv]
    omega
  · subst q
    have h0 := h 0 (by omega)
    have h1 := h 1 (by omega)
    have h2 := h 2 (by omega)
    have h3 := h 3 (by omega)
    have h4 := h 4 (by omega)
    simp only [hv]
    omega
  · subst q
    have h0 := h 0 (by omega)
    have h1 := h 1 (by omega)
    have h2 := h 2 (by omega)
    have h3 := h 3 (by omega)
    have h4 := h 4 (by omega)
    have h5 := h 5 (by omega)
    constructor
    · intro hh
      simp only [hv] at hh
      refine ⟨rfl, ?_, ?_, ?_, ?_, ?_, ?_⟩ <;> omega
    · rintro ⟨-, g0, g1, g2, g3, g4, g5⟩
      simp only [hv]
      omega
  · subst q
    have h0 := h 0 (by omega)
    have h1 := h 1 (by omega)
    have h2 := h 2 (by omega)
    have h3 := h 3 (by omega)
    have h4 := h 4 (by omega)
    have h5 := h 5 (by omega)
    have h6 := h 6 (by omega)
    simp only [hv]
    omega
theorem wIs_4 (b : Nat → Nat) (s e : Nat) : wIs b s e 4 = true ↔ e - s = 6 ∧ b (s + 0) = 112 ∧ b (s + 1) = 101 ∧ b (s + 2) = 114 ∧ b (s + 3) = 115 ∧ b (s + 4) = 111 ∧ b (s + 5) = 110 := by
  have e1 : nlJ 4 = 6 := rfl
  unfold wIs
  rw [e1, Bool.and_eq_true, decide_eq_true_eq, allB_iff]
  constructor
  · rintro ⟨h1, h2⟩
    exact ⟨h1, of_decide_eq_true (h2 0 (by omega)), of_decide_eq_true (h2 1 (by omega)), of_decide_eq_true (h2 2 (by omega)), of_decide_eq_true (h2 3 (by omega)), of_decide_eq_true (h2 4 (by omega)), of_decide_eq_true (h2 5 (by omega))⟩
  · rintro ⟨h1, g0, g1, g2, g3, g4, g5⟩
    refine ⟨h1, fun k hk => ?_⟩
    have hc : k = 0 ∨ k = 1 ∨ k = 2 ∨ k = 3 ∨ k = 4 ∨ k = 5 := by omega
    rcases hc with q | q | q | q | q | q
    · subst q; exact decide_eq_true g0
    · subst q; exact decide_eq_true g1
    · subst q; exact decide_eq_true g2
    · subst q; exact decide_eq_true g3
    · subst q; exact decide_eq_true g4
    · subst q; exact decide_eq_true g5
theorem wv_4 {b : Nat → Nat} {s e : Nat} (h : ∀ k, k < e - s → 97 ≤ b (s + k) ∧ b (s + k) ≤ 122) : hv b s (min (e - s) 7) = 123581014175598 ↔ wIs b s e 4 = true := by
  rw [hv_4 b s (min (e - s) 7) (by omega) (fun k hk => h k (by omega)), wIs_4]
  constructor
  · rintro ⟨h1, h2⟩
    exact ⟨by omega, h2⟩
  · rintro ⟨h1, h2⟩
    exact ⟨by omega, h2⟩
theorem hv_5 (b : Nat → Nat) (s n : Nat) (hn : n ≤ 7) (h : ∀ k, k < n → 97 ≤ b (s + k) ∧ b (s + k) ≤ 122) : hv b s n = 7102839 ↔ n = 3 ∧ b (s + 0) = 108 ∧ b (s + 1) = 97 ∧ b (s + 2) = 119 := by
  have hc : n = 0 ∨ n = 1 ∨ n = 2 ∨ n = 3 ∨ n = 4 ∨ n = 5 ∨ n = 6 ∨ n = 7 := by omega
  rcases hc with q | q | q | q | q | q | q | q
  · subst q
    simp only [hv]
    omega
  · subst q
    have h0 := h 0 (by omega)
    simp only [hv]
    omega
  · subst q
    have h0 := h 0 (by omega)
    have h1 := h 1 (by omega)
    simp only [hv]
    omega
  · subst q
    have h0 := h 0 (by omega)
    have h1 := h 1 (by omega)
    have h2 := h 2 (by omega)
    constructor
    · intro hh
      simp only [hv] at hh
      refine ⟨rfl, ?_, ?_, ?_⟩ <;> omega
    · rintro ⟨-, g0, g1, g2⟩
      simp only [hv]
      omega
  · subst q
    have h0 := h 0 (by omega)
    have h1 := h 1 (by omega)
    have h2 := h 2 (by omega)
    have h3 := h 3 (by omega)
    simp only [hv]
    omega
  · subst q
    have h0 := h 0 (by omega)
    have h1 := h 1 (by omega)
    have h2 := h 2 (by omega)
    have h3 := h 3 (by omega)
    have h4 := h 4 (by omega)
    simp only [hv]
    omega
  · subst q
    have h0 := h 0 (by omega)
    have h1 := h 1 (by omega)
    have h2 := h 2 (by omega)
    have h3 := h 3 (by omega)
    have h4 := h 4 (by omega)
    have h5 := h 5 (by omega)
    simp only [hv]
    omega
  · subst q
    have h0 := h 0 (by omega)
    have h1 := h 1 (by omega)
    have h2 := h 2 (by omega)
    have h3 := h 3 (by omega)
    have h4 := h 4 (by omega)
    have h5 := h 5 (by omega)
    have h6 := h 6 (by omega)
    simp only [hv]
    omega
theorem wIs_5 (b : Nat → Nat) (s e : Nat) : wIs b s e 5 = true ↔ e - s = 3 ∧ b (s + 0) = 108 ∧ b (s + 1) = 97 ∧ b (s + 2) = 119 := by
  have e1 : nlJ 5 = 3 := rfl
  unfold wIs
  rw [e1, Bool.and_eq_true, decide_eq_true_eq, allB_iff]
  constructor
  · rintro ⟨h1, h2⟩
    exact ⟨h1, of_decide_eq_true (h2 0 (by omega)), of_decide_eq_true (h2 1 (by omega)), of_decide_eq_true (h2 2 (by omega))⟩
  · rintro ⟨h1, g0, g1, g2⟩
    refine ⟨h1, fun k hk => ?_⟩
    have hc : k = 0 ∨ k = 1 ∨ k = 2 := by omega
    rcases hc with q | q | q
    · subst q; exact decide_eq_true g0
    · subst q; exact decide_eq_true g1
    · subst q; exact decide_eq_true g2
theorem wv_5 {b : Nat → Nat} {s e : Nat} (h : ∀ k, k < e - s → 97 ≤ b (s + k) ∧ b (s + k) ≤ 122) : hv b s (min (e - s) 7) = 7102839 ↔ wIs b s e 5 = true := by
  rw [hv_5 b s (min (e - s) 7) (by omega) (fun k hk => h k (by omega)), wIs_5]
  constructor
  · rintro ⟨h1, h2⟩
    exact ⟨by omega, h2⟩
  · rintro ⟨h1, h2⟩
    exact ⟨by omega, h2⟩
theorem jn_i64 {F : (Int64 → Prop) → Prop} {K : Int64 → Prop} (v : Int64) (hF : ∀ K : Int64 → Prop, K v → F K) (hK : K v) : jn F K := hF K hK
theorem nm_e64 {x : Int64} {P : Int64 → Prop} (h : P x) : ∀ y : Int64, y = x → P y := fun y e => by rw [e]; exact h
theorem wIs_ne {b : Nat → Nat} {s e i j : Nat} (hi : i < 6) (hj : j < 6) (hij : i ≠ j) : ¬ (wIs b s e i = true ∧ wIs b s e j = true) := by
  rintro ⟨h1, h2⟩
  have ci : i = 0 ∨ i = 1 ∨ i = 2 ∨ i = 3 ∨ i = 4 ∨ i = 5 := by omega
  have cj : j = 0 ∨ j = 1 ∨ j = 2 ∨ j = 3 ∨ j = 4 ∨ j = 5 := by omega
  rcases ci with q | q | q | q | q | q <;> rcases cj with r | r | r | r | r | r <;> subst q <;> subst r <;> (first | exact hij rfl | (first | rw [wIs_0] at h1 h2 | skip); (first | rw [wIs_0] at h1 | rw [wIs_1] at h1 | rw [wIs_2] at h1 | rw [wIs_3] at h1 | rw [wIs_4] at h1 | rw [wIs_5] at h1); (first | rw [wIs_0] at h2 | rw [wIs_1] at h2 | rw [wIs_2] at h2 | rw [wIs_3] at h2 | rw [wIs_4] at h2 | rw [wIs_5] at h2); omega)
theorem wd_is {b : Nat → Nat} {s e : Nat} (i : Nat) (hi : i < 6) : wIs b s e i = true ↔ wd b s e = i := by
  have ne : ∀ j, j < 6 → j ≠ i → wIs b s e i = true → wIs b s e j = false := by
    intro j hj hij h1
    cases h2 : wIs b s e j with
    | false => rfl
    | true => exact absurd ⟨h1, h2⟩ (wIs_ne hi hj (fun q => hij q.symm))
  have ci : i = 0 ∨ i = 1 ∨ i = 2 ∨ i = 3 ∨ i = 4 ∨ i = 5 := by omega
  unfold wd
  constructor
  · intro h
    rcases ci with q | q | q | q | q | q
    · subst q; rw [if_pos h]
    · subst q; rw [ne 0 (by omega) (by omega) h, h]; rfl
    · subst q; rw [ne 0 (by omega) (by omega) h, ne 1 (by omega) (by omega) h, h]; rfl
    · subst q; rw [ne 0 (by omega) (by omega) h, ne 1 (by omega) (by omega) h, ne 2 (by omega) (by omega) h, h]; rfl
    · subst q; rw [ne 0 (by omega) (by omega) h, ne 1 (by omega) (by omega) h, ne 2 (by omega) (by omega) h, ne 3 (by omega) (by omega) h, h]; rfl
    · subst q; rw [ne 0 (by omega) (by omega) h, ne 1 (by omega) (by omega) h, ne 2 (by omega) (by omega) h, ne 3 (by omega) (by omega) h, ne 4 (by omega) (by omega) h, h]; rfl
  · intro h
    by_cases c0 : wIs b s e 0 = true
    · rw [if_pos c0] at h; subst h; exact c0
    · rw [if_neg c0] at h
      by_cases c1 : wIs b s e 1 = true
      · rw [if_pos c1] at h; subst h; exact c1
      · rw [if_neg c1] at h
        by_cases c2 : wIs b s e 2 = true
        · rw [if_pos c2] at h; subst h; exact c2
        · rw [if_neg c2] at h
          by_cases c3 : wIs b s e 3 = true
          · rw [if_pos c3] at h; subst h; exact c3
          · rw [if_neg c3] at h
            by_cases c4 : wIs b s e 4 = true
            · rw [if_pos c4] at h; subst h; exact c4
            · rw [if_neg c4] at h
              by_cases c5 : wIs b s e 5 = true
              · rw [if_pos c5] at h; subst h; exact c5
              · rw [if_neg c5] at h; omega
theorem hv_lt {b : Nat → Nat} {s : Nat} : ∀ n, (∀ k, k < n → b (s + k) < 256) → hv b s n < 256 ^ n
  | 0, _ => Nat.zero_lt_one
  | n + 1, h => by
    have h1 := hv_lt n (fun k hk => h k (by omega))
    have h2 := h n (by omega)
    rw [hv, Nat.pow_succ]
    omega
def vB (b : Nat → Nat) (len a : Nat) : Nat := if tK b len a = 1 then wd b (tS b len a) (tE b len a) else 6
def vI (w : Nat) : Int32 := if w < 6 then nI w else (-9)
theorem lN_br {a c : Nat} (ha : a < 2 ^ 63) (hc : c < 2 ^ 63) {y : Int64} (e : y = lN c) {A B : Prop} (h1 : a = c → A) (h0 : ¬ a = c → B) : (lg_cmp (lN a) y = 0 → A) ∧ (¬ lg_cmp (lN a) y = 0 → B) := by
  subst e
  refine ⟨fun q => h1 ((fb_lN_inj ha hc).mp ((lg_cmp_eq _ _).mp q)), fun q => h0 (fun z => q ((lg_cmp_eq _ _).mpr (by rw [z])))⟩
theorem lN_mul2 (a : Nat) : (256 : Int64) * lN a = lN (256 * a) := (Int64.ofNat_mul 256 a).symm
theorem m_verb {b : Nat → Nat} {len a : Nat} {mt : Nat → Int32} (hl : len ≤ 300) (Y : BY b len mt) (ha : a ≤ len) {post : Int32 → Prop} (k : post (vI (vB b len a))) : wp_X5_verb mt (nI len) (nI (tK b len a)) (nI (tS b len a)) (nI (tE b len a - tS b len a)) post := by
  unfold wp_X5_verb
  have h1 := tS_b b ha
  have h3 := tE_b b ha
  have h4 : tK b len a ≤ 4 := sK_4 _ _ _
  -- what is compared
  have tail : ∀ V, V < 2 ^ 63 → (V = 1751215212 ↔ vB b len a = 0) → (V = 2002873452 ↔ vB b len a = 1) → (V = 1685024626 ↔ vB b len a = 2) → (V = 1818324336 ↔ vB b len a = 3) → (V = 123581014175598 ↔ vB b len a = 4) → (V = 7102839 ↔ vB b len a = 5) → vB b len a ≤ 6 → (jn (fun (K88 : Int32 → Prop) => (((lg_cmp (lN V) (1751215212 : Int64)) = (0 : Int32) → K88 (0 : Int32)) ∧ (¬ (lg_cmp (lN V) (1751215212 : Int64)) = (0 : Int32) → (((lg_cmp (lN V) (2002873452 : Int64)) = (0 : Int32) → K88 (1 : Int32)) ∧ (¬ (lg_cmp (lN V) (2002873452 : Int64)) = (0 : Int32) → (((lg_cmp (lN V) (1685024626 : Int64)) = (0 : Int32) → K88 (2 : Int32)) ∧ (¬ (lg_cmp (lN V) (1685024626 : Int64)) = (0 : Int32) → K88 (-9 : Int32)))))))) (fun (y88 : Int32) => ((y88 = (-9 : Int32) → (((lg_cmp (lN V) (1818324336 : Int64)) = (0 : Int32) → post (3 : Int32)) ∧ (¬ (lg_cmp (lN V) (1818324336 : Int64)) = (0 : Int32) → (((lg_cmp (lN V) (123581014175598 : Int64)) = (0 : Int32) → post (4 : Int32)) ∧ (¬ (lg_cmp (lN V) (123581014175598 : Int64)) = (0 : Int32) → (((lg_cmp (lN V) (7102839 : Int64)) = (0 : Int32) → post (5 : Int32)) ∧ (¬ (lg_cmp (lN V) (7102839 : Int64)) = (0 : Int32) → post (-9 : Int32)))))))) ∧ (¬ y88 = (-9 : Int32) → post y88)))) := by
    intro V hV g0 g1 g2 g3 g4 g5 g6
    unfold jn
    refine lN_br (c := 1751215212) hV (by omega) rfl (fun q => br_f (by decide) ?_) (fun q0 => lN_br (c := 2002873452) hV (by omega) rfl (fun q => br_f (by decide) ?_) (fun q1 => lN_br (c := 1685024626) hV (by omega) rfl (fun q => br_f (by decide) ?_) (fun q2 => br_t rfl (lN_br (c := 1818324336) hV (by omega) rfl (fun q => ?_) (fun q3 => lN_br (c := 123581014175598) hV (by omega) rfl (fun q => ?_) (fun q4 => lN_br (c := 7102839) hV (by omega) rfl (fun q => ?_) (fun q5 => ?_)))))))
    · rw [g0.mp q] at k; exact k
    · rw [g1.mp q] at k; exact k
    · rw [g2.mp q] at k; exact k
    · rw [g3.mp q] at k; exact k
    · rw [g4.mp q] at k; exact k
    · rw [g5.mp q] at k; exact k
    · rw [g0] at q0
      rw [g1] at q1
      rw [g2] at q2
      rw [g3] at q3
      rw [g4] at q4
      rw [g5] at q5
      have : vB b len a = 6 := by omega
      rw [this] at k
      exact k
  by_cases c : tK b len a = 1
  · have h5 := sK_L.mp c
    have hletters : ∀ k, k < tE b len a - tS b len a → 97 ≤ b (tS b len a + k) ∧ b (tS b len a + k) ≤ 122 := by
      intro k hk
      have e1 : tE b len a = rn (fun k => isL (b k)) len (tS b len a) := by
        unfold tE sE
        rw [if_pos h5.1, if_pos h5.2]
      rw [e1] at hk
      exact isL_r (rn_all (q := fun k => isL (b k)) (len := len) (len - tS b len a) (tS b len a) (by omega) (tS b len a + k) (by omega) (by omega))
    have e1 : vB b len a = wd b (tS b len a) (tE b len a) := by unfold vB; rw [if_pos c]
    rw [e1] at tail
    rw [c]
    generalize tS b len a = s at *
    generalize tE b len a = e at *
    refine jn_i64 (lN (hv b s (min (e - s) 7))) (fun K hK => ?_) ?_
    · have key : ∀ m i, i + m = min (e - s) 7 → wp_X5_verb_L4 mt (nI len) 1 (nI s) (nI (e - s)) K (m + 1) (lN (hv b s i)) (nI i) := by
        intro m
        induction m with
        | zero =>
          intro i hi
          unfold wp_X5_verb_L4
          have ei : i = min (e - s) 7 := by omega
          rw [← ei] at hK
          refine pk_le (e - s) i (fun q => hK) (fun q => br_t (nI_le (a := 7) (by omega) (by omega)) hK)
        | succ m ih =>
          intro i hi
          unfold wp_X5_verb_L4
          refine br_f (nI_ge (by omega) (by omega)) (br_f (nI_ge (b := 7) (by omega) (by omega)) (br_t rfl ?_))
          rw [nI_add]
          refine m_byteAt hl Y (by omega) (fun q => ?_) (fun q => by omega)
          have hb := (Y _ q).1
          rw [nI_l (by omega), lN_mul2, lN_add, nI_1]
          exact nm_e64 (ih (i + 1) (by omega))
      exact ⟨_, key (min (e - s) 7) 0 (by omega)⟩
    · have hvl := hv_lt (b := b) (s := s) (min (e - s) 7) (fun k hk => by have := hletters k (by omega); omega)
      have hp : (256 : Nat) ^ min (e - s) 7 ≤ 256 ^ 7 := Nat.pow_le_pow_right (by decide) (by omega)
      have h256 : (256 : Nat) ^ 7 < 2 ^ 63 := by decide
      have d0 : ∀ i j, i < 6 → j < 6 → i ≠ j → wIs b s e i = true → wIs b s e j = false := by
        intro i j hi hj hij h1
        cases h2 : wIs b s e j with
        | false => rfl
        | true => exact absurd ⟨h1, h2⟩ (wIs_ne hi hj hij)
      have w6 : wd b s e ≤ 6 := by
        unfold wd
        repeat' split
        all_goals omega
      refine tail _ (by omega) ?_ ?_ ?_ ?_ ?_ ?_ w6
      · rw [wv_0 hletters]; exact wd_is 0 (by omega)
      · rw [wv_1 hletters]; exact wd_is 1 (by omega)
      · rw [wv_2 hletters]; exact wd_is 2 (by omega)
      · rw [wv_3 hletters]; exact wd_is 3 (by omega)
      · rw [wv_4 hletters]; exact wd_is 4 (by omega)
      · rw [wv_5 hletters]; exact wd_is 5 (by omega)
  · have e1 : vB b len a = 6 := by unfold vB; rw [if_neg c]
    rw [e1] at tail
    have n1 : ¬ nI (tK b len a) = 1 := fun q => c (nI_small (b := 1) q (by omega) (by omega))
    refine jn_i64 (lN 0) (fun K hK => ⟨1, ?_⟩) (tail 0 (by omega) (by omega) (by omega) (by omega) (by omega) (by omega) (by omega) (by omega))
    unfold wp_X5_verb_L4
    refine pk_le (tE b len a - tS b len a) 0 (fun q => hK) (fun q => br_f (by decide) (br_f n1 hK))
