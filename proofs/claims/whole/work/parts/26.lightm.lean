/-! The reference's tables of light. -/
def f6 (h : Hal) (M l : Nat) : Nat := if l = 6 then M else shL h l
def lgt (h : Hal) (M lit : Nat) : Nat := oN (f6 h M) lit 7
def manyN (h : Hal) (M : Nat) : Nat := if M = 0 then 2 ^ hNl h else 2 * 2 ^ hNl h
def litO (h : Hal) (k : Nat) : Nat := if k < 2 ^ hNl h then k else 64 + (k - 2 ^ hNl h)
def LT (h : Hal) (M : Nat) (li mv : Nat → Int32) : Prop := ∀ k, k < manyN h M → li (litO h k) = nI (lgt h M (litO h k)) ∧ mv (litO h k) = nI (mayN h (lgt h M (litO h k)))
theorem manyN_le {h : Hal} (o : OkH h) (M : Nat) : manyN h M ≤ 128 := by
  have := two6 o.2.2.2.2.2.1
  unfold manyN
  by_cases c : M = 0
  · rw [if_pos c]; omega
  · rw [if_neg c]; omega
theorem litO_lt {h : Hal} (o : OkH h) {M k : Nat} (hk : k < manyN h M) : litO h k < 128 := by
  have h64 := two6 o.2.2.2.2.2.1
  unfold manyN at hk
  unfold litO
  by_cases c : k < 2 ^ hNl h
  · rw [if_pos c]; omega
  · rw [if_neg c]
    by_cases d : M = 0
    · rw [if_pos d] at hk; omega
    · rw [if_neg d] at hk; omega
theorem litO_inj {h : Hal} (o : OkH h) {j k : Nat} (e : litO h j = litO h k) : j = k := by
  have h64 := two6 o.2.2.2.2.2.1
  unfold litO at e
  by_cases c : j < 2 ^ hNl h <;> by_cases d : k < 2 ^ hNl h
  · rw [if_pos c, if_pos d] at e; exact e
  · rw [if_pos c, if_neg d] at e; omega
  · rw [if_neg c, if_pos d] at e; omega
  · rw [if_neg c, if_neg d] at e; omega
theorem bit64 {j l : Nat} (hj : j < 64) : (64 + j).testBit l = (j.testBit l || decide (l = 6)) := by
  have e : 64 + j = j ||| 2 ^ 6 := by
    rw [Nat.or_comm]
    exact Nat.two_pow_add_eq_or_of_lt (i := 6) hj 1
  rw [e, set_bit]
theorem litO_bit {h : Hal} (o : OkH h) {M k l : Nat} (hk : k < manyN h M) (hb : (litO h k).testBit l = true) : l < hNl h ∨ (l = 6 ∧ M ≠ 0) := by
  have h64 := two6 o.2.2.2.2.2.1
  unfold manyN at hk
  unfold litO at hb
  by_cases c : k < 2 ^ hNl h
  · rw [if_pos c] at hb; exact Or.inl (bits_lt c hb)
  · rw [if_neg c] at hb
    by_cases d : M = 0
    · rw [if_pos d] at hk; omega
    · rw [if_neg d] at hk
      rw [bit64 (by omega)] at hb
      rw [Bool.or_eq_true] at hb
      rcases hb with hb | hb
      · exact Or.inl (bits_lt (by omega) hb)
      · exact Or.inr ⟨of_decide_eq_true hb, d⟩
theorem m_litOf {h : Hal} {t : Nat → Int32} (o : OkH h) (R : RM h t) {M k : Nat} (hk : k < manyN h M) {post : Int32 → Prop} (g : post (nI (litO h k))) : wp_X5_litOf (nI k) t post := by
  unfold wp_X5_litOf
  have h64 := two6 o.2.2.2.2.2.1
  have hm := manyN_le o M
  have hp := p2pos (hNl h)
  refine m_allL o R ⟨fun c => m_allL o R ?_, fun c => ?_⟩
  · have c1 := (nI_ltI (by unfold allL; omega) (by omega)).mp c
    unfold allL at c1
    have c2 : ¬ k < 2 ^ hNl h := by omega
    unfold manyN at hk
    have hk2 : k - 2 ^ hNl h < 64 := by
      by_cases d : M = 0
      · rw [if_pos d] at hk; omega
      · rw [if_neg d] at hk; omega
    unfold litO at g
    rw [if_neg c2] at g
    have e1 : nI k - nI (allL h) = nI (k - allL h) := pk_sub (by unfold allL; omega)
    have e2 : nI (k - allL h) - 1 = nI (k - allL h - 1) := pk_sub (a := k - allL h) (b := 1) (by unfold allL; omega)
    rw [e1, e2]
    have e3 := fa_or_sum (a := k - allL h - 1) (k := 6) 1 (by unfold allL; omega)
    have e4 : k - allL h - 1 = k - 2 ^ hNl h := by unfold allL; omega
    rw [e4] at e3 ⊢
    have e5 : (64 : Int32) ||| nI (k - 2 ^ hNl h) = nI (64 + (k - 2 ^ hNl h)) := e3
    rw [e5]; exact g
  · have c1 : ¬ allL h < k := fun q => c ((nI_ltI (by unfold allL; omega) (by omega)).mpr q)
    unfold allL at c1
    have c2 : k < 2 ^ hNl h := by omega
    unfold litO at g
    rw [if_pos c2] at g; exact g
theorem m_many {h : Hal} {t : Nat → Int32} (o : OkH h) (R : RM h t) {M : Nat} {y : Int32} (hy : y = b01 (decide (M ≠ 0))) {post : Int32 → Prop} (g : post (nI (manyN h M))) : wp_X5_many y t post := by
  unfold wp_X5_many
  have hp := p2pos (hNl h)
  rw [hy]
  unfold manyN at g
  refine b01_z (fun c => m_allL o R ?_) (fun c => m_allL o R ?_)
  · have c1 : M = 0 := by simpa using c
    rw [if_pos c1] at g
    rw [nI_1]
    rw [show allL h + 1 = 2 ^ hNl h by unfold allL; omega]; exact g
  · have c1 : ¬ M = 0 := by simpa using c
    rw [if_neg c1] at g
    have e : (2 : Int32) * nI (allL h) + 2 = nI (2 * allL h + 2) := by
      show nI 2 * nI (allL h) + nI 2 = _
      rw [pk_mul, nI_add]
    rw [e, show 2 * allL h + 2 = 2 * 2 ^ hNl h by unfold allL; omega]; exact g
theorem jn_a {F : ((Nat → Int32) → Prop) → Prop} {K : (Nat → Int32) → Prop} (P : (Nat → Int32) → Prop) (hF : ∀ K : (Nat → Int32) → Prop, (∀ v, P v → K v) → F K) (hK : ∀ v, P v → K v) : jn F K := hF K hK
theorem m_set {h : Hal} {sh : Nat → Int32} {f : Nat → Nat} {lit : Nat} (hl : lit < 2 ^ 31) (hs : ∀ l, l < 7 → lit.testBit l = true → sh l = nI (f l)) {K : Int32 → Prop} (k : K (nI (oN f lit 7))) : ∃ n, wp_X5_lights_L85 (nI lit) sh K n 0 0 := by
  have key : ∀ m i, i + m = 7 → wp_X5_lights_L85 (nI lit) sh K (m + 1) (nI (oN f lit i)) (nI i) := by
    intro m
    induction m with
    | zero =>
      intro i hi
      unfold wp_X5_lights_L85
      have e : i = 7 := by omega
      subst e
      exact br_t (nI_lt (a := 6) (b := 7) (by omega) (by omega)) k
    | succ m ih =>
      intro i hi
      unfold wp_X5_lights_L85
      refine br_f (nI_nlt (a := 6) (b := i) (by omega) (by omega)) ?_
      rw [b_bit hl (by omega)]
      refine jn_i (nI (if lit.testBit i then f i else 0)) (fun K hK => b01_o (fun c => ⟨vp_in_nI (by omega) (by omega), ?_⟩) (fun c => ?_)) ?_
      · rw [ix_nI (by omega), hs i (by omega) c]
        rw [if_pos c] at hK; exact hK
      · rw [c] at hK; exact hK
      · rw [fa_or]
        refine nm_e ?_
        rw [nI_1]; exact ih (i + 1) (by omega)
  exact ⟨_, key 7 0 rfl⟩
theorem m_lights {h : Hal} {t : Nat → Int32} (o : OkH h) (R : RM h t) {M : Nat} (hM : M < 2 ^ hC h) {li mv sh : Nat → Int32} {post : (Nat → Int32) → (Nat → Int32) → (Nat → Int32) → Prop} (k : ∀ li2 mv2 sh2 : Nat → Int32, LT h M li2 mv2 → post li2 mv2 sh2) : wp_X5_lights (nI M) t li mv sh post := by
  unfold wp_X5_lights
  have h6 := o.2.2.2.2.2.1
  have h7 := o.2.2.2.2.2.2.1
  have h12 := o.c12
  have h4 := two12 h12.2
  have hm := manyN_le o M
  refine jn_a (fun v => ∀ l, l < hNl h → v l = nI (shL h l)) (fun K hK => ?_) (fun sh1 hs => ?_)
  · have key : ∀ m i, i + m = hNl h → ∀ sh1 : Nat → Int32, (∀ l, l < i → sh1 l = nI (shL h l)) → wp_X5_lights_L2 t K (m + 1) (nI i) sh1 := by
      intro m
      induction m with
      | zero =>
        intro i hi sh1 h1
        unfold wp_X5_lights_L2
        have e : i = hNl h := by omega
        subst e
        rw [R.2.2.2.1]
        exact br_t (nI_le (by omega) (by omega)) (hK sh1 h1)
      | succ m ih =>
        intro i hi sh1 h1
        unfold wp_X5_lights_L2
        have e7 : ix (7 + nI i) = 7 + i := by
          show ix (nI 7 + nI i) = _
          rw [nI_add]; exact ix_nI (by omega)
        have e13 : ix (13 + nI i) = 13 + i := by
          show ix (nI 13 + nI i) = _
          rw [nI_add]; exact ix_nI (by omega)
        have v7 : vp_in (7 + nI i) 43 := by
          show vp_in (nI 7 + nI i) 43
          rw [nI_add]; exact vp_in_nI (by omega) (by omega)
        have v13 : vp_in (13 + nI i) 43 := by
          show vp_in (nI 13 + nI i) 43
          rw [nI_add]; exact vp_in_nI (by omega) (by omega)
        have hli := o.2.2.2.2.2.2.2.1 i (by omega)
        have hri := R.2.2.2.2.2.2.2.1 i (by omega)
        rw [R.2.2.2.1]
        refine br_f (nI_ge (by omega) (by omega)) ⟨v7, v13, ?_⟩
        rw [e7, e13, hri.1, hri.2]
        refine m_shines o R hli.1 hli.2 ⟨vp_in_nI (by omega) (by omega), ?_⟩
        rw [nI_1, ix_nI (by omega)]
        refine ih (i + 1) (by omega) _ ?_
        intro l hl1
        by_cases e : l = i
        · subst e; rw [upd_s]; rfl
        · rw [upd_n e]; exact h1 l (by omega)
    exact ⟨_, key (hNl h) 0 (by omega) sh (fun l hl => by omega)⟩
  · have hs6 : ∀ k, k < manyN h M → ∀ l, l < 7 → (litO h k).testBit l = true → upd sh1 6 (nI M) l = nI (f6 h M l) ∧ f6 h M l < 2 ^ hC h := by
      intro k hk l hl hb
      unfold f6
      by_cases e : l = 6
      · subst e; rw [upd_s, if_pos rfl]; exact ⟨rfl, hM⟩
      · rw [upd_n e, if_neg e]
        rcases litO_bit o hk hb with q | q
        · exact ⟨hs l q, shL_lt o q⟩
        · exact absurd q.1 e
    have key : ∀ m i, i + m = manyN h M → ∀ li1 mv1 : Nat → Int32, (∀ k, k < i → li1 (litO h k) = nI (lgt h M (litO h k)) ∧ mv1 (litO h k) = nI (mayN h (lgt h M (litO h k)))) → wp_X5_lights_L56 (nI M) t (upd sh1 6 (nI M)) post (m + 1) (nI i) li1 mv1 := by
      intro m
      induction m with
      | zero =>
        intro i hi li1 mv1 h1
        unfold wp_X5_lights_L56
        have e : i = manyN h M := by omega
        subst e
        refine jn_i (b01 (decide (M ≠ 0))) (fun K hK => ⟨fun c => ?_, fun c => ?_⟩) (m_many o R rfl (br_t (nI_le (by omega) (by omega)) (k li1 mv1 _ h1)))
        · have c1 : M = 0 := nI_small (b := 0) c (by omega) (by omega)
          subst c1; exact hK
        · have c1 : ¬ M = 0 := fun q => c (by rw [q]; rfl)
          simp [c1] at hK; exact hK
      | succ m ih =>
        intro i hi li1 mv1 h1
        unfold wp_X5_lights_L56
        have hlo := litO_lt o (M := M) (k := i) (by omega)
        refine jn_i (b01 (decide (M ≠ 0))) (fun K hK => ⟨fun c => ?_, fun c => ?_⟩) (m_many o R rfl (br_f (nI_ge (by omega) (by omega)) (m_litOf o R (M := M) (by omega) ?_)))
        · have c1 : M = 0 := nI_small (b := 0) c (by omega) (by omega)
          subst c1; exact hK
        · have c1 : ¬ M = 0 := fun q => c (by rw [q]; rfl)
          simp [c1] at hK; exact hK
        have hL : lgt h M (litO h i) < 2 ^ hC h := oN_lt (fun l hl hb => (hs6 i (by omega) l hl hb).2)
        refine jn_i (nI (lgt h M (litO h i))) (fun K hK => m_set (h := h) (f := f6 h M) (by omega) (fun l hl hb => (hs6 i (by omega) l hl hb).1) hK) ⟨vp_in_nI hlo (by omega), ?_⟩
        refine jn_i (nI (outN h (lgt h M (litO h i)))) (fun K hK => ⟨fun c => ?_, fun c => ?_⟩) ⟨vp_in_nI hlo (by omega), ?_⟩
        · have hlaw := o.2.2.2.2.1
          rw [R.2.2.1] at c
          have c1 : hLaw h = 1 := nI_small (b := 1) c (by omega) (by omega)
          refine m_toDoors o R hL ?_
          unfold outN at hK
          rw [if_pos c1] at hK; exact hK
        · have c1 : ¬ hLaw h = 1 := fun e => c (by rw [R.2.2.1, e]; rfl)
          unfold outN at hK
          rw [if_neg c1] at hK; exact hK
        have ho := outN_lt hL
        rw [ix_nI (by omega)]
        refine jn_a (fun v => v (litO h i) = nI (mayN h (lgt h M (litO h i))) ∧ ∀ j, j ≠ litO h i → v j = mv1 j) (fun K hK => ?_) (fun mv2 hmv => ?_)
        · have key2 : ∀ m2 q, q + m2 = hNp h → ∀ mv2 : Nat → Int32, mv2 (litO h i) = nI (mkM (fun p => (outN h (lgt h M (litO h i))).testBit (hPc h p)) q) → (∀ j, j ≠ litO h i → mv2 j = mv1 j) → wp_X5_lights_L165 (nI (litO h i)) (nI (outN h (lgt h M (litO h i)))) t K (m2 + 1) (nI q) mv2 := by
            intro m2
            induction m2 with
            | zero =>
              intro q hq mv2 g1 g2
              unfold wp_X5_lights_L165
              have e : q = hNp h := by omega
              subst e
              rw [R.2.2.2.2.1]
              exact br_t (nI_le (by omega) (by omega)) (hK mv2 ⟨g1, g2⟩)
            | succ m2 ih2 =>
              intro q hq mv2 g1 g2
              unfold wp_X5_lights_L165
              have e19 : ix (19 + nI q) = 19 + q := by
                show ix (nI 19 + nI q) = _
                rw [nI_add]; exact ix_nI (by omega)
              have v19 : vp_in (19 + nI q) 43 := by
                show vp_in (nI 19 + nI q) 43
                rw [nI_add]; exact vp_in_nI (by omega) (by omega)
              have hpq := (o.2.2.2.2.2.2.2.2 q (by omega)).1
              rw [R.2.2.2.2.1]
              refine br_f (nI_ge (by omega) (by omega)) ⟨vp_in_nI hlo (by omega), v19, ?_⟩
              rw [e19, (R.2.2.2.2.2.2.2.2 q (by omega)).1, b_bit (by omega) (by omega)]
              refine jn_i (nI (if (outN h (lgt h M (litO h i))).testBit (hPc h q) then 2 ^ q else 0)) (fun K hK => b01_o (fun c => ?_) (fun c => ?_)) ⟨vp_in_nI hlo (by omega), ?_⟩
              · rw [if_pos c] at hK
                rw [b_one (by omega)]; exact hK
              · rw [c] at hK; exact hK
              · rw [ix_nI (by omega), g1, fa_or, nI_1]
                refine ih2 (q + 1) (by omega) _ ?_ ?_
                · rw [upd_s]; rfl
                · intro j hj; rw [upd_n hj]; exact g2 j hj
          exact ⟨_, key2 (hNp h) 0 (by omega) _ (by rw [upd_s]; rfl) (fun j hj => upd_n hj)⟩
        · rw [nI_1]
          refine ih (i + 1) (by omega) _ _ ?_
          intro k hk
          by_cases e : k = i
          · subst e; rw [upd_s]; exact ⟨rfl, hmv.1⟩
          · have e2 : litO h k ≠ litO h i := fun q => e (litO_inj o q)
            rw [upd_n e2, hmv.2 _ e2]; exact h1 k (by omega)
    exact ⟨_, key (manyN h M) 0 (by omega) li mv (fun k hk => by omega)⟩
theorem lgt_0 {h : Hal} (o : OkH h) {M lit : Nat} (hl : lit < 2 ^ hNl h) : lgt h M lit = liN h lit := by
  have h6 := o.2.2.2.2.2.1
  refine oN_cong (fun l hl7 hb => ?_)
  have := bits_lt hl hb
  unfold f6
  rw [if_neg (by omega)]
theorem LT.at {h : Hal} (o : OkH h) {M : Nat} {li mv : Nat → Int32} (k : LT h M li mv) {lit : Nat} (hl : lit < 2 ^ hNl h) : li lit = nI (liN h lit) ∧ mv lit = nI (lvN h lit) := by
  have e : litO h lit = lit := by unfold litO; rw [if_pos hl]
  have hm : lit < manyN h M := by
    unfold manyN
    by_cases c : M = 0
    · rw [if_pos c]; exact hl
    · rw [if_neg c]; omega
  have := k lit hm
  rw [e, lgt_0 o hl] at this
  exact this
