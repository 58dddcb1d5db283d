/-! How many can leave: the class's row and the reference's table. -/
theorem maxF_s (f : Nat → Nat) (n : Nat) : maxF f (n + 1) = max (maxF f n) (f n) := by
  rw [maxF]
  by_cases c : maxF f n < f n
  · rw [if_pos c]; omega
  · rw [if_neg c]; omega
theorem jmax_t : ∀ a, a < 16 → ∀ d, d < 16 → jmax (nI a - 1) (nI d) = nI (max a (d + 1)) - 1 := by decide +kernel
theorem jmin_t : ∀ c, c < 16 → ∀ a, a < 16 → jmin (nI c) (1 + (nI a - 1)) = nI (min c a) := by decide +kernel
def Dl (v : Nat → Nat) (P S l : Nat) : Nat := if S.testBit l = true then D v P (clr S l) + 1 else 0
theorem D_eq (v : Nat → Nat) (P S : Nat) : D v P S = min (pcn (v S &&& P)) (maxF (Dl v P S) 7) := by
  rw [D]
  congr 1
theorem D_16 (v : Nat → Nat) (P S : Nat) : D v P S ≤ 12 := Nat.le_trans D_le (pcn_le _)
theorem Dl_16 (v : Nat → Nat) (P S l : Nat) : Dl v P S l ≤ 13 := by
  unfold Dl
  have := D_16 v P (clr S l)
  by_cases c : S.testBit l = true
  · rw [if_pos c]; omega
  · rw [if_neg c]; omega
theorem c_fillLongest {v : Nat → Nat} {P N : Nat} (hN : N ≤ 128) (hP : P < 64) {lv lg : Nat → Int32} (hv : ∀ lit, lit < N → lv lit = nI (v lit)) {post : (Nat → Int32) → Prop} (k : ∀ lg2 : Nat → Int32, (∀ lit, lit < N → lg2 lit = nI (D v P lit)) → post lg2) : wp_X2_fillLongest (nI P) (nI N) lg lv post := by
  unfold wp_X2_fillLongest
  have key : ∀ m S, S + m = N → ∀ lg1 : Nat → Int32, (∀ lit, lit < S → lg1 lit = nI (D v P lit)) → wp_X2_fillLongest_L2 (nI P) (nI N) lv post (m + 1) (nI S) lg1 := by
    intro m
    induction m with
    | zero =>
      intro S hS lg1 h1
      unfold wp_X2_fillLongest_L2
      have e : S = N := by omega
      subst e
      exact br_t (nI_le (by omega) (by omega)) (k lg1 h1)
    | succ m ih =>
      intro S hS lg1 h1
      unfold wp_X2_fillLongest_L2
      refine br_f (nI_ge (by omega) (by omega)) ?_
      refine jn_i (nI (maxF (Dl v P S) 7) - 1) (fun K hK => ?_) ?_
      · have key2 : ∀ m2 i, i + m2 = 7 → wp_X2_fillLongest_L13 (nI S) lg1 K (m2 + 1) (nI (maxF (Dl v P S) i) - 1) (nI i) := by
          intro m2
          induction m2 with
          | zero =>
            intro i hi
            unfold wp_X2_fillLongest_L13
            have e : i = 7 := by omega
            subst e
            exact br_t (nI_le (a := 7) (b := 7) (by omega) (by omega)) hK
          | succ m2 ih2 =>
            intro i hi
            unfold wp_X2_fillLongest_L13
            refine br_f (nI_ge (a := i) (b := 7) (by omega) (by omega)) (c_bit (by omega) (by omega) ?_)
            have hm : maxF (Dl v P S) i ≤ 13 := maxF_le (fun l _ => Dl_16 v P S l)
            rw [b_clr (by omega) (by omega)]
            have hcl := clr_le S i
            refine jn_i (nI (maxF (Dl v P S) (i + 1)) - 1) (fun K hK => b01_o (fun c => ⟨vp_in_nI (by omega) (by omega), ?_⟩) (fun c => ?_)) ?_
            · rw [ix_nI (by omega), h1 _ (clr_lt c), jmax_t _ (by omega) _ (by have := D_16 v P (clr S i); omega)]
              refine nm_e ?_
              rw [maxF_s] at hK
              unfold Dl at hK
              rw [if_pos c] at hK
              exact hK
            · rw [maxF_s] at hK
              have : Dl v P S i = 0 := by unfold Dl; rw [if_neg (by rw [c]; decide)]
              rw [this, Nat.max_zero] at hK
              exact hK
            · rw [nI_1]; exact ih2 (i + 1) (by omega)
        exact ⟨_, key2 7 0 rfl⟩
      · refine ⟨vp_in_nI (by omega) (by omega), ?_⟩
        have hvP : v S &&& P < 64 := Nat.and_lt_two_pow (n := 6) _ hP
        rw [ix_nI (by omega), hv S (by omega), fa_and]
        refine c_bc (by omega) ⟨vp_in_nI (by omega) (by omega), ?_⟩
        have hm : maxF (Dl v P S) 7 ≤ 13 := maxF_le (fun l _ => Dl_16 v P S l)
        have hpc := pcn_le (v S &&& P)
        rw [jmin_t _ (by omega) _ (by omega), ← D_eq, nI_1]
        refine ih (S + 1) (by omega) _ ?_
        intro lit hl
        by_cases e : lit = S
        · subst e; rw [upd_s]
        · rw [upd_n e]; exact h1 lit (by omega)
  exact ⟨_, key N 0 (by omega) lg (fun lit h => by omega)⟩
theorem c_mostOf {v : Nat → Nat} {P lit nl : Nat} (hnl : nl ≤ 6) (hP : P < 64) (hl : lit < 2 ^ nl) {lv lg : Nat → Int32} (hv : ∀ lit, lit < 2 ^ nl → lv lit = nI (v lit)) {post : Int32 → (Nat → Int32) → Prop} (k : ∀ lg2 : Nat → Int32, (∀ lit, lit < 2 ^ nl → lg2 lit = nI (D v P lit)) → post (nI (D v P lit)) lg2) : wp_X2_mostOf (nI P) (nI lit) lg (nI nl) lv post := by
  unfold wp_X2_mostOf
  have h64 := two6 hnl
  rw [b_one (by omega)]
  refine c_fillLongest (v := v) (by omega) hP hv (fun lg2 h2 => ⟨vp_in_nI (by omega) (by omega), ?_⟩)
  rw [ix_nI (by omega), h2 lit hl]
  exact k lg2 h2
theorem or_pow {a n : Nat} (h : a < 2 ^ n) : a ||| 2 ^ n = 2 ^ n + a := by
  rw [Nat.or_comm]
  have := Nat.two_pow_add_eq_or_of_lt (i := n) h 1
  rw [Nat.mul_one] at this
  exact this.symm
theorem c_mostOne {v : Nat → Nat} {P lit nl : Nat} (hnl : nl ≤ 6) (hP : P < 64) (hl : lit < 2 ^ nl) {lv lg : Nat → Int32} (hv : ∀ lit, lit < 2 * 2 ^ nl → lv lit = nI (v lit)) {post : Int32 → (Nat → Int32) → Prop} (k : ∀ lg2 : Nat → Int32, post (nI (D v P (2 ^ nl + lit))) lg2) : wp_X2_mostWithOneMore (nI P) (nI lit) lg (nI nl) lv post := by
  unfold wp_X2_mostWithOneMore
  have h64 := two6 hnl
  have e : jshl 2 (nI nl) = nI (2 * 2 ^ nl) := b_shl (a := 2) (by omega) (by omega)
  rw [e, b_set (by omega), or_pow hl]
  refine c_fillLongest (v := v) (by omega) hP hv (fun lg2 h2 => ⟨vp_in_nI (by omega) (by omega), ?_⟩)
  rw [ix_nI (by omega), h2 _ (by omega)]
  exact k lg2
/-! the reference -/
def vM (h : Hal) (M lit : Nat) : Nat := mayN h (lgt h M lit)
theorem vM_mono (h : Hal) (M : Nat) : ∀ a b, sbs a b → sbs (vM h M a) (vM h M b) := fun _ _ k => mayN_mono (oN_mono k)
def Rl (v : Nat → Nat) (P S p l : Nat) : Nat := if S.testBit l = true then R v (clr P p) (clr S l) + 1 else 0
def Rp (v : Nat → Nat) (P S p : Nat) : Nat := if (v S &&& P).testBit p = true then maxF (Rl v P S p) 7 else 0
theorem R_eq (v : Nat → Nat) (P S : Nat) : R v P S = maxF (Rp v P S) 6 := by
  rw [R.eq_def]
  apply maxF_cong
  intro p _
  unfold Rp
  by_cases c : (v S &&& P).testBit p = true
  · rw [if_pos c, if_pos c]
    apply maxF_cong
    intro l _
    unfold Rl
    by_cases d : S.testBit l = true
    · simp [d]
    · simp [d]
  · rw [if_neg c, if_neg c]
theorem litO_clr {h : Hal} (o : OkH h) {M k l : Nat} (hk : k < manyN h M) (hb : (litO h k).testBit l = true) : ∃ j, j < manyN h M ∧ litO h j = clr (litO h k) l := by
  have h64 := two6 o.2.2.2.2.2.1
  have hmn : 2 ^ hNl h ≤ manyN h M := by
    unfold manyN
    by_cases d : M = 0
    · rw [if_pos d]; exact Nat.le_refl _
    · rw [if_neg d]; omega
  by_cases c : k < 2 ^ hNl h
  · have e : litO h k = k := by unfold litO; rw [if_pos c]
    rw [e]
    have hlt := clr_le k l
    refine ⟨clr k l, by omega, ?_⟩
    unfold litO
    rw [if_pos (by omega)]
  · have hd : ¬ M = 0 := fun d => by
      unfold manyN at hk
      rw [if_pos d] at hk; omega
    have em : manyN h M = 2 * 2 ^ hNl h := by unfold manyN; rw [if_neg hd]
    have e : litO h k = 64 + (k - 2 ^ hNl h) := by unfold litO; rw [if_neg c]
    rw [e] at hb ⊢
    have hj : k - 2 ^ hNl h < 64 := by omega
    by_cases l6 : l = 6
    · refine ⟨k - 2 ^ hNl h, by omega, ?_⟩
      have e2 : litO h (k - 2 ^ hNl h) = k - 2 ^ hNl h := by unfold litO; rw [if_pos (by omega)]
      rw [e2]
      apply Nat.eq_of_testBit_eq
      intro i
      rw [clr_bit, bit64 hj, l6]
      by_cases i6 : i = 6
      · subst i6
        have : (k - 2 ^ hNl h).testBit 6 = false := Nat.testBit_lt_two_pow hj
        rw [this]; simp
      · simp [i6]
    · rw [bit64 hj] at hb
      have hb2 : (k - 2 ^ hNl h).testBit l = true := by simpa [l6] using hb
      have hlt := clr_le (k - 2 ^ hNl h) l
      refine ⟨2 ^ hNl h + clr (k - 2 ^ hNl h) l, by omega, ?_⟩
      have e2 : litO h (2 ^ hNl h + clr (k - 2 ^ hNl h) l) = 64 + clr (k - 2 ^ hNl h) l := by
        unfold litO
        rw [if_neg (by omega), Nat.add_sub_cancel_left]
      rw [e2]
      apply Nat.eq_of_testBit_eq
      intro i
      rw [clr_bit, bit64 hj, bit64 (by omega), clr_bit]
      by_cases i6 : i = 6
      · subst i6
        have : ¬ 6 = l := fun q => l6 q.symm
        simp [this]
      · simp [i6]
theorem dif_set (a g p : Nat) : dif a (g ||| 2 ^ p) = clr (dif a g) p := by
  rw [← dif_or, dif_pow]
/-- worth[state(gone, lit)] of the reference for all sets from a certain number on -/
def WT (h : Hal) (M : Nat) (wo : Nat → Int32) (g j : Nat) : Prop := wo (128 * g + litO h j) = nI (R (vM h M) (dif (allP h) g) (litO h j))
theorem R_small (v : Nat → Nat) (hv : ∀ a b, sbs a b → sbs (v a) (v b)) (P S : Nat) (hP : P < 64) : R v P S ≤ 12 := by
  rw [RD hv S P hP]; exact D_16 v P S
theorem goesB {m g p : Nat} (hm : m < 2 ^ 32) (hp : p < 31) : ((nI m &&& (nI g ^^^ (-1))) &&& jshl 1 (nI p) = 0) ↔ (dif m g).testBit p = false := by
  rw [b_andn hm]; exact b_has hp
theorem dif_and {h : Hal} {m g p : Nat} (hm : m < 2 ^ hNp h) : (dif m g).testBit p = (m &&& dif (allP h) g).testBit p := by
  rw [dif_bit, Nat.testBit_and, dif_bit]
  unfold allP
  rw [all_bit]
  cases hb : m.testBit p with
  | false => rfl
  | true => simp [bits_lt hm hb]
theorem m_state {a b : Nat} {post : Int32 → Prop} (k : post (nI (128 * a + b))) : wp_X5_state (nI a) (nI b) post := by
  unfold wp_X5_state
  have e : (128 : Int32) * nI a + nI b = nI (128 * a + b) := by
    show nI 128 * nI a + nI b = _
    rw [pk_mul, nI_add]
  rw [e]; exact k
theorem m_then {g s p l : Nat} (hs : s < 2 ^ 32) (hp : p < 32) (hl : l < 32) {post : Int32 → Prop} (k : post (nI (128 * (g ||| 2 ^ p) + clr s l))) : wp_X5_then (nI g) (nI s) (nI p) (nI l) post := by
  unfold wp_X5_then
  rw [b_set hp, b_clr hs hl]
  exact m_state k
theorem jle {a b : Nat} (ha : a < 2 ^ 31) (hb : b < 2 ^ 31) {K : Int32 → Prop} (k : K (nI (max b a))) : (nI a ≤ nI b → K (nI b)) ∧ (¬ nI a ≤ nI b → K (nI a)) := by
  refine ⟨fun c => ?_, fun c => ?_⟩
  · have := (nI_leI ha hb).mp c
    rw [Nat.max_eq_left this] at k; exact k
  · have : ¬ a ≤ b := fun q => c ((nI_leI ha hb).mpr q)
    rw [Nat.max_eq_right (by omega)] at k; exact k
theorem m_mosts {h : Hal} {t : Nat → Int32} (o : OkH h) (T : RM h t) {M : Nat} (hM : M < 2 ^ hC h) {li mv sh wo : Nat → Int32} {post : (Nat → Int32) → (Nat → Int32) → (Nat → Int32) → (Nat → Int32) → Prop} (k : ∀ li2 mv2 sh2 wo2 : Nat → Int32, LT h M li2 mv2 → (∀ g, g < 2 ^ hNp h → ∀ j, j < manyN h M → WT h M wo2 g j) → post li2 mv2 sh2 wo2) : wp_X5_mosts (nI M) t li mv sh wo post := by
  unfold wp_X5_mosts
  have h6 := o.2.2.2.2.2.2.1
  have h64 := two6 h6
  have hm := manyN_le o M
  have hpp := p2pos (hNp h)
  have h12 := o.c12
  have h4 := two12 h12.2
  have hmp : 0 < manyN h M := by
    have := p2pos (hNl h)
    unfold manyN
    by_cases d : M = 0
    · rw [if_pos d]; exact this
    · rw [if_neg d]; omega
  refine m_lights o T hM (fun li2 mv2 sh2 hLT => ?_)
  refine jn_i (b01 (decide (M ≠ 0))) (fun K hK => ⟨fun c => ?_, fun c => ?_⟩) (m_many o T rfl (m_allP o T ?_))
  · have c1 : M = 0 := nI_small (b := 0) c (by omega) (by omega)
    subst c1; exact hK
  · have c1 : ¬ M = 0 := fun q => c (by rw [q]; rfl)
    simp [c1] at hK; exact hK
  have hprod : manyN h M * 2 ^ hNp h ≤ 128 * 64 := Nat.mul_le_mul hm h64
  have hpos : 0 < manyN h M * 2 ^ hNp h := Nat.mul_pos hmp hpp
  have e1 : nI (manyN h M) * (nI (allP h) + 1) - 1 = nI (manyN h M * 2 ^ hNp h - 1) := by
    rw [nI_1, show allP h + 1 = 2 ^ hNp h by unfold allP; omega, pk_mul]
    exact pk_sub (b := 1) hpos
  rw [e1]
  refine nm_e ?_
  -- n: how many are still to be done
  have key : ∀ n, n ≤ manyN h M * 2 ^ hNp h → ∀ wo1 : Nat → Int32, (∀ g, g < 2 ^ hNp h → ∀ j, j < manyN h M → n ≤ manyN h M * g + (manyN h M - 1 - j) → WT h M wo1 g j) → wp_X5_mosts_L30 (nI (manyN h M)) t li2 mv2 sh2 post (n + 1) (nI n - 1) wo1 := by
    intro n
    induction n with
    | zero =>
      intro hn wo1 h1
      unfold wp_X5_mosts_L30
      refine br_t (by decide) (k li2 mv2 sh2 wo1 hLT (fun g hg j hj => h1 g hg j hj (Nat.zero_le _)))
    | succ n ih =>
      intro hn wo1 h1
      unfold wp_X5_mosts_L30
      rw [nI_pred]
      refine br_f (nI_pos (by omega)) ⟨nz hmp (by omega), ?_⟩
      have eg : nI n / nI (manyN h M) = nI (n / manyN h M) := pk_div (by omega) hmp (by omega)
      rw [eg]
      refine nm_e ⟨nz hmp (by omega), ?_⟩
      have er : jrem (nI n) (nI (manyN h M)) = nI (n % manyN h M) := rem_nI (by omega) hmp (by omega)
      have hmod := Nat.mod_lt n hmp
      have ed : nI (manyN h M) - 1 - nI (n % manyN h M) = nI (manyN h M - 1 - n % manyN h M) := by
        have : nI (manyN h M) - 1 = nI (manyN h M - 1) := pk_sub (b := 1) hmp
        rw [this, pk_sub (by omega)]
      rw [er, ed]
      have hgl : n / manyN h M < 2 ^ hNp h := by
        rw [Nat.div_lt_iff_lt_mul hmp, Nat.mul_comm]; omega
      have hdm := Nat.div_add_mod n (manyN h M)
      refine m_litOf o T (M := M) (by omega) ?_
      generalize hg : n / manyN h M = g at *
      generalize hj : manyN h M - 1 - n % manyN h M = j at *
      have hjm : j < manyN h M := by omega
      have hS := litO_lt o hjm
      generalize hSe : litO h j = S at *
      have hmv : mv2 S = nI (vM h M S) := by rw [← hSe]; exact (hLT j hjm).2
      have hvl : vM h M S < 2 ^ hNp h := mayN_lt _ _
      have hPl : dif (allP h) g < 64 := by
        have := dif_le (allP h) g
        have := allP_lt h
        omega
      have hRc : ∀ p, p < 6 → ∀ l, l < 7 → (vM h M S &&& dif (allP h) g).testBit p = true → S.testBit l = true → wo1 (128 * (g ||| 2 ^ p) + clr S l) = nI (R (vM h M) (clr (dif (allP h) g) p) (clr S l)) ∧ 128 * (g ||| 2 ^ p) + clr S l < 8192 := by
        intro p hp l hl hb1 hb2
        rw [← hSe] at hb2
        obtain ⟨j2, hj2, e2⟩ := litO_clr o hjm hb2
        rw [hSe] at e2
        have hpg : (dif (allP h) g).testBit p = true := by
          rw [Nat.testBit_and, Bool.and_eq_true] at hb1; exact hb1.2
        have hpg2 := hpg
        rw [dif_bit, Bool.and_eq_true] at hpg2
        have hpn : p < hNp h := by
          have := hpg2.1
          unfold allP at this
          rw [all_bit] at this
          exact of_decide_eq_true this
        have hgn : g.testBit p = false := by simpa using hpg2.2
        have hg2 : g ||| 2 ^ p < 2 ^ hNp h := Nat.or_lt_two_pow hgl (Nat.pow_lt_pow_right (by decide) hpn)
        have hgt : g < g ||| 2 ^ p := by
          have h1 : sbs g (g ||| 2 ^ p) := fun i hi => by rw [set_bit, hi]; rfl
          have h2 := h1.le
          have h3 : g ≠ g ||| 2 ^ p := fun e => by
            have := set_bit g p p
            rw [← e, hgn] at this
            simp at this
          omega
        have hmul : manyN h M * (g + 1) ≤ manyN h M * (g ||| 2 ^ p) := Nat.mul_le_mul_left _ hgt
        have hmul2 : manyN h M * (g + 1) = manyN h M * g + manyN h M := Nat.mul_succ _ _
        have hw := h1 (g ||| 2 ^ p) hg2 j2 hj2 (by omega)
        unfold WT at hw
        rw [e2, dif_set] at hw
        have hcl := clr_le S l
        exact ⟨hw, by omega⟩
      have hRs : ∀ p l, R (vM h M) (clr (dif (allP h) g) p) (clr S l) ≤ 12 := fun p l => R_small _ (vM_mono h M) _ _ (by have := clr_le (dif (allP h) g) p; omega)
      have hRl : ∀ p l, Rl (vM h M) (dif (allP h) g) S p l ≤ 13 := by
        intro p l
        unfold Rl
        have := hRs p l
        by_cases c : S.testBit l = true
        · rw [if_pos c]; omega
        · rw [if_neg c]; omega
      have hRp : ∀ p, Rp (vM h M) (dif (allP h) g) S p ≤ 13 := by
        intro p
        unfold Rp
        by_cases c : (vM h M S &&& dif (allP h) g).testBit p = true
        · rw [if_pos c]; exact maxF_le (fun l _ => hRl p l)
        · rw [if_neg c]; omega
      refine jn_i (nI (R (vM h M) (dif (allP h) g) S)) (fun K hK => ?_) ?_
      · have key2 : ∀ m2 i, i + m2 = hNp h → wp_X5_mosts_L58 (nI g) (nI S) t mv2 wo1 K (m2 + 1) (nI (maxF (Rp (vM h M) (dif (allP h) g) S) i)) (nI i) := by
          intro m2
          induction m2 with
          | zero =>
            intro i hi
            unfold wp_X5_mosts_L58
            have e : i = hNp h := by omega
            subst e
            rw [T.2.2.2.2.1]
            refine br_t (nI_le (by omega) (by omega)) ?_
            have e2 : maxF (Rp (vM h M) (dif (allP h) g) S) (hNp h) = R (vM h M) (dif (allP h) g) S := by
              rw [R_eq]
              apply Nat.le_antisymm
              · exact maxF_le (fun l hl => le_maxF (by omega))
              · refine maxF_le (fun p hp => ?_)
                rcases Nat.lt_or_ge p (hNp h) with q | q
                · exact le_maxF q
                · have : (vM h M S &&& dif (allP h) g).testBit p = false := by
                    cases hb : (vM h M S &&& dif (allP h) g).testBit p with
                    | false => rfl
                    | true =>
                      rw [Nat.testBit_and, Bool.and_eq_true] at hb
                      have := bits_lt hvl hb.1
                      omega
                  unfold Rp
                  rw [if_neg (by rw [this]; decide)]
                  omega
            rw [e2]; exact hK
          | succ m2 ih2 =>
            intro i hi
            unfold wp_X5_mosts_L58
            rw [T.2.2.2.2.1]
            refine br_f (nI_ge (by omega) (by omega)) ⟨vp_in_nI hS (by omega), ?_⟩
            rw [ix_nI (by omega), hmv]
            have hmx : maxF (Rp (vM h M) (dif (allP h) g) S) i ≤ 13 := maxF_le (fun p _ => hRp p)
            refine jn_i (b01 ((vM h M S &&& dif (allP h) g).testBit i)) (fun K hK => ?_) ?_
            · have hB := goesB (m := vM h M S) (g := g) (p := i) (by omega) (by omega)
              rw [dif_and hvl] at hB
              refine ⟨fun c => ?_, fun c => ?_⟩
              · rw [hB.mp c] at hK; exact hK
              · have : (vM h M S &&& dif (allP h) g).testBit i = true := by
                  cases hb : (vM h M S &&& dif (allP h) g).testBit i with
                  | true => rfl
                  | false => exact absurd (hB.mpr hb) c
                rw [this] at hK; exact hK
            · refine jn_i (nI (maxF (Rp (vM h M) (dif (allP h) g) S) (i + 1))) (fun K hK => ?_) ?_
              · have key3 : ∀ m3 l, l + m3 = 7 → wp_X5_mosts_L99 (nI g) (nI S) (nI i) (b01 ((vM h M S &&& dif (allP h) g).testBit i)) wo1 K (m3 + 1) (nI (if (vM h M S &&& dif (allP h) g).testBit i = true then max (maxF (Rp (vM h M) (dif (allP h) g) S) i) (maxF (Rl (vM h M) (dif (allP h) g) S i) l) else maxF (Rp (vM h M) (dif (allP h) g) S) i)) (nI l) := by
                  intro m3
                  induction m3 with
                  | zero =>
                    intro l hl
                    unfold wp_X5_mosts_L99
                    have e : l = 7 := by omega
                    subst e
                    refine br_t (nI_lt (a := 6) (b := 7) (by omega) (by omega)) ?_
                    rw [maxF_s] at hK
                    unfold Rp at hK
                    by_cases c : (vM h M S &&& dif (allP h) g).testBit i = true
                    · rw [if_pos c] at hK ⊢; exact hK
                    · rw [if_neg c, Nat.max_zero] at hK
                      rw [if_neg c]; exact hK
                  | succ m3 ih3 =>
                    intro l hl
                    unfold wp_X5_mosts_L99
                    refine br_f (nI_nlt (a := 6) (b := l) (by omega) (by omega)) ?_
                    refine b01_z (fun c => ?_) (fun c => ?_)
                    · rw [maxF_s] at hK
                      unfold Rp at hK
                      rw [if_neg (by rw [c]; decide), Nat.max_zero] at hK
                      rw [if_neg (by rw [c]; decide)]; exact hK
                    · rw [if_pos c]
                      rw [b_bit (by omega) (by omega)]
                      have hml : maxF (Rl (vM h M) (dif (allP h) g) S i) l ≤ 13 := maxF_le (fun l _ => hRl i l)
                      have hr := hRl i l
                      refine jn_i (nI (Rl (vM h M) (dif (allP h) g) S i l)) (fun K hK => b01_o (fun d => ?_) (fun d => ?_)) ?_
                      · obtain ⟨w1, w2⟩ := hRc i (by omega) l (by omega) c d
                        refine m_then (by omega) (by omega) (by omega) ⟨vp_in_nI w2 (by omega), ?_⟩
                        rw [ix_nI (by omega), w1]
                        unfold Rl at hK
                        rw [if_pos d, Nat.add_comm] at hK
                        rw [show (1 : Int32) = nI 1 from rfl, nI_add]
                        exact hK
                      · unfold Rl at hK
                        rw [if_neg (by rw [d]; decide)] at hK
                        exact hK
                      · refine jn_i (nI (max (max (maxF (Rp (vM h M) (dif (allP h) g) S) i) (maxF (Rl (vM h M) (dif (allP h) g) S i) l)) (Rl (vM h M) (dif (allP h) g) S i l))) (fun K hK => jle (by omega) (by omega) hK) ?_
                        have := ih3 (l + 1) (by omega)
                        rw [if_pos c, maxF_s, ← Nat.max_assoc] at this
                        rw [nI_1]; exact this
                have h0 := key3 7 0 rfl
                have e0 : (if (vM h M S &&& dif (allP h) g).testBit i = true then max (maxF (Rp (vM h M) (dif (allP h) g) S) i) (maxF (Rl (vM h M) (dif (allP h) g) S i) 0) else maxF (Rp (vM h M) (dif (allP h) g) S) i) = maxF (Rp (vM h M) (dif (allP h) g) S) i := by
                  by_cases c : (vM h M S &&& dif (allP h) g).testBit i = true
                  · rw [if_pos c]; exact Nat.max_zero _
                  · rw [if_neg c]
                rw [e0] at h0
                exact ⟨_, h0⟩
              · rw [nI_1]; exact ih2 (i + 1) (by omega)
        exact ⟨_, key2 (hNp h) 0 (by omega)⟩
      · have hst : 128 * g + S < 8192 := by omega
        refine m_state ⟨vp_in_nI hst (by omega), ?_⟩
        rw [ix_nI (by omega), show nI n + (-1) = nI n - 1 from by rw [Int32.sub_eq_add_neg]]
        refine ih (by omega) _ ?_
        intro g2 hg2 j2 hj2 hle
        unfold WT
        by_cases e : g2 = g ∧ j2 = j
        · rw [e.1, e.2, hSe, upd_s]
        · have hne : 128 * g2 + litO h j2 ≠ 128 * g + S := by
            intro q
            have hl2 := litO_lt o hj2
            have q1 : g2 = g := by omega
            have q2 : litO h j2 = litO h j := by omega
            exact e ⟨q1, litO_inj o q2⟩
          rw [upd_n hne]
          refine h1 g2 hg2 j2 hj2 ?_
          apply Classical.byContradiction
          intro hc
          have q : n = manyN h M * g2 + (manyN h M - 1 - j2) := by omega
          apply e
          have q1 : g2 = g := by
            rw [← hg, q, Nat.mul_add_div hmp, Nat.div_eq_of_lt (by omega), Nat.add_zero]
          refine ⟨q1, ?_⟩
          rw [q1] at q
          omega
  have h0 := key (manyN h M * 2 ^ hNp h) (Nat.le_refl _) wo (fun g hg j hj hle => by
    have : manyN h M * (g + 1) ≤ manyN h M * 2 ^ hNp h := Nat.mul_le_mul_left _ hg
    have e : manyN h M * (g + 1) = manyN h M * g + manyN h M := Nat.mul_succ _ _
    omega)
  have e2 : nI (manyN h M * 2 ^ hNp h) - 1 = nI (manyN h M * 2 ^ hNp h - 1) := pk_sub (b := 1) hpos
  rw [e2] at h0
  exact ⟨_, h0⟩
