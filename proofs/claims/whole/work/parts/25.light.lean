/-! Which cells are light, who could leave, by the set of lamps that are lit. -/
def oN (f : Nat → Nat) (lit : Nat) : Nat → Nat
  | 0 => 0
  | l + 1 => oN f lit l ||| (if lit.testBit l then f l else 0)
theorem oN_bit (f : Nat → Nat) (lit i : Nat) : ∀ n, (oN f lit n).testBit i = true ↔ ∃ l, l < n ∧ lit.testBit l = true ∧ (f l).testBit i = true
  | 0 => by simp [oN]
  | n + 1 => by
    rw [oN, Nat.testBit_or, Bool.or_eq_true, oN_bit f lit i n]
    constructor
    · rintro (⟨l, h1, h2, h3⟩ | h)
      · exact ⟨l, by omega, h2, h3⟩
      · by_cases c : lit.testBit n = true
        · rw [if_pos c] at h; exact ⟨n, by omega, c, h⟩
        · rw [if_neg c] at h; simp at h
    · rintro ⟨l, h1, h2, h3⟩
      rcases Nat.lt_or_ge l n with q | q
      · exact Or.inl ⟨l, q, h2, h3⟩
      · have e : l = n := by omega
        subst e
        right; rw [if_pos h2]; exact h3
theorem oN_lt {f : Nat → Nat} {lit m : Nat} : ∀ {n : Nat}, (∀ l, l < n → lit.testBit l = true → f l < 2 ^ m) → oN f lit n < 2 ^ m
  | 0, _ => p2pos m
  | n + 1, h => by
    rw [oN]
    refine Nat.or_lt_two_pow (oN_lt (fun l hl => h l (by omega))) ?_
    by_cases c : lit.testBit n = true
    · rw [if_pos c]; exact h n (by omega) c
    · rw [if_neg c]; exact p2pos m
theorem oN_cong {f g : Nat → Nat} {lit : Nat} : ∀ {n : Nat}, (∀ l, l < n → lit.testBit l = true → f l = g l) → oN f lit n = oN g lit n
  | 0, _ => rfl
  | n + 1, h => by
    rw [oN, oN, oN_cong (fun l hl => h l (by omega))]
    by_cases c : lit.testBit n = true
    · rw [if_pos c, if_pos c, h n (by omega) c]
    · rw [if_neg c, if_neg c]
def mkM (q : Nat → Bool) : Nat → Nat
  | 0 => 0
  | p + 1 => mkM q p ||| (if q p then 2 ^ p else 0)
theorem mkM_bit (q : Nat → Bool) (i : Nat) : ∀ n, (mkM q n).testBit i = (decide (i < n) && q i)
  | 0 => by simp [mkM]
  | n + 1 => by
    rw [mkM, Nat.testBit_or, mkM_bit q i n]
    by_cases c : q n = true
    · rw [if_pos c, Nat.testBit_two_pow]
      by_cases e : n = i
      · subst e; simp [c]
      · have : (i < n + 1) ↔ (i < n) := by omega
        simp [e, this]
    · rw [if_neg c]
      by_cases e : i = n
      · subst e; simp at c; simp [c]
      · have : (i < n + 1) ↔ (i < n) := by omega
        simp [this]
theorem mkM_lt (q : Nat → Bool) (n : Nat) : mkM q n < 2 ^ n := lt_of_bits (fun i hi => by
  rw [mkM_bit] at hi; simp at hi; exact hi.1)
def mayN (h : Hal) (L : Nat) : Nat := mkM (fun p => (outN h L).testBit (hPc h p)) (hNp h)
def shL (h : Hal) (l : Nat) : Nat := shN h (hLc h l) (hLr h l)
def liN (h : Hal) (lit : Nat) : Nat := oN (shL h) lit 7
def lvN (h : Hal) (lit : Nat) : Nat := mayN h (liN h lit)
theorem shL_lt {h : Hal} (o : OkH h) {l : Nat} (hl : l < hNl h) : shL h l < 2 ^ hC h := shN_lt (o.2.2.2.2.2.2.2.1 l hl).1 _
theorem liN_lt {h : Hal} (o : OkH h) {lit : Nat} (hl : lit < 2 ^ hNl h) : liN h lit < 2 ^ hC h := oN_lt (fun l _ hb => shL_lt o (bits_lt hl hb))
theorem outN_lt {h : Hal} {L : Nat} (hL : L < 2 ^ hC h) : outN h L < 2 ^ hC h := by
  unfold outN
  by_cases c : hLaw h = 1
  · rw [if_pos c]; exact itr_lt hL 12 _ (Nat.and_lt_two_pow _ hL)
  · rw [if_neg c]; exact hL
theorem mayN_lt (h : Hal) (L : Nat) : mayN h L < 2 ^ hNp h := mkM_lt _ _
theorem c_lightOf {sh : Nat → Int32} {f : Nat → Nat} {lit : Nat} (hl : lit < 2 ^ 31) (hs : ∀ l, l < 7 → lit.testBit l = true → sh l = nI (f l)) {post : Int32 → Prop} (k : post (nI (oN f lit 7))) : wp_X0_lightOf (nI lit) sh post := by
  unfold wp_X0_lightOf
  have key : ∀ m i, i + m = 7 → wp_X0_lightOf_L4 (nI lit) sh post (m + 1) (nI (oN f lit i)) (nI i) := by
    intro m
    induction m with
    | zero =>
      intro i hi
      unfold wp_X0_lightOf_L4
      have e : i = 7 := by omega
      subst e
      exact br_t (nI_le (a := 7) (b := 7) (by omega) (by omega)) k
    | succ m ih =>
      intro i hi
      unfold wp_X0_lightOf_L4
      refine br_f (nI_ge (a := i) (b := 7) (by omega) (by omega)) (c_bit hl (by omega) ?_)
      refine jn_i (nI (oN f lit (i + 1))) (fun K hK => b01_o (fun c => ⟨vp_in_nI (by omega) (by omega), ?_⟩) (fun c => ?_)) ?_
      · rw [ix_nI (by omega), hs i (by omega) c, fa_or]
        refine nm_e ?_
        rw [oN, if_pos c] at hK; exact hK
      · rw [oN, c] at hK
        simp at hK; exact hK
      · rw [nI_1]; exact ih (i + 1) (by omega)
  exact ⟨_, key 7 0 rfl⟩
theorem b01_shl {b : Bool} {k : Nat} (hk : k < 31) : jshl (b01 b) (nI k) = nI (if b then 2 ^ k else 0) := by
  cases b
  · have := b_shl (a := 0) (k := k) (by omega) (by rw [Nat.zero_mul]; decide)
    rw [Nat.zero_mul] at this
    exact this
  · exact b_one (by omega)
theorem c_leaversIn {h : Hal} (o : OkH h) {pcl : Nat → Int32} (hp : ∀ p, p < hNp h → pcl p = nI (hPc h p)) {L : Nat} (hL : L < 2 ^ hC h) {post : Int32 → Prop} (k : post (nI (mayN h L))) : wp_X0_leaversIn (nI L) (nI (hW h)) (nI (hH h)) (nI (hDor h)) (nI (hLaw h)) (nI (hNp h)) pcl post := by
  unfold wp_X0_leaversIn
  have h12 := o.c12
  have h4 := two12 h12.2
  have h6 := o.2.2.2.2.2.2.1
  have hlaw := o.2.2.2.2.1
  refine jn_i (nI (outN h L)) (fun K hK => ⟨fun c => ?_, fun c => ?_⟩) ?_
  · have c1 : hLaw h = 1 := nI_small (b := 1) c (by omega) (by omega)
    rw [fa_and]
    refine c_spread (n := 12) o.1 o.2.1.2 (up12 (Nat.and_lt_two_pow _ hL) h12.2) (up12 hL h12.2) (by omega) ?_
    unfold outN at hK
    rw [if_pos c1] at hK; exact hK
  · have c1 : ¬ hLaw h = 1 := fun e => c (by rw [e]; rfl)
    unfold outN at hK
    rw [if_neg c1] at hK; exact hK
  · have ho := outN_lt hL
    have key : ∀ m i, i + m = hNp h → wp_X0_leaversIn_L31 (nI (outN h L)) (nI (hNp h)) pcl post (m + 1) (nI (mkM (fun p => (outN h L).testBit (hPc h p)) i)) (nI i) := by
      intro m
      induction m with
      | zero =>
        intro i hi
        unfold wp_X0_leaversIn_L31
        have e : i = hNp h := by omega
        subst e
        exact br_t (nI_le (by omega) (by omega)) k
      | succ m ih =>
        intro i hi
        unfold wp_X0_leaversIn_L31
        have hpc := (o.2.2.2.2.2.2.2.2 i (by omega)).1
        refine br_f (nI_ge (by omega) (by omega)) ⟨vp_in_nI (by omega) (by omega), ?_⟩
        rw [ix_nI (by omega), hp i (by omega)]
        refine c_bit (by omega) (by omega) ?_
        rw [b01_shl (by omega), fa_or]
        refine nm_e ?_
        rw [nI_1]
        exact ih (i + 1) (by omega)
    exact ⟨_, key (hNp h) 0 (by omega)⟩
theorem upd_s {f : Nat → Int32} {k : Nat} {x : Int32} : upd f k x k = x := pk_us
theorem upd_n {f : Nat → Int32} {k j : Nat} {x : Int32} (h : j ≠ k) : upd f k x j = f j := pk_un h
theorem c_fillLight {h : Hal} (o : OkH h) {sh pcl li lv : Nat → Int32} {f : Nat → Nat} {a b : Nat} (hab : a ≤ b) (hb : b ≤ 128) (hp : ∀ p, p < hNp h → pcl p = nI (hPc h p)) (hf : ∀ lit, lit < b → ∀ l, l < 7 → lit.testBit l = true → sh l = nI (f l) ∧ f l < 2 ^ hC h) {post : (Nat → Int32) → (Nat → Int32) → Prop}
    (k : ∀ li2 lv2 : Nat → Int32, (∀ lit, a ≤ lit → lit < b → li2 lit = nI (oN f lit 7) ∧ lv2 lit = nI (mayN h (oN f lit 7))) → (∀ j, j < a ∨ b ≤ j → li2 j = li j ∧ lv2 j = lv j) → post li2 lv2) :
    wp_X0_fillLight (nI a) (nI b) (nI (hW h)) (nI (hH h)) (nI (hDor h)) (nI (hLaw h)) (nI (hNp h)) sh pcl li lv post := by
  unfold wp_X0_fillLight
  have key : ∀ m i, i + m = b → a ≤ i → ∀ li1 lv1 : Nat → Int32, (∀ lit, a ≤ lit → lit < i → li1 lit = nI (oN f lit 7) ∧ lv1 lit = nI (mayN h (oN f lit 7))) → (∀ j, j < a ∨ i ≤ j → li1 j = li j ∧ lv1 j = lv j) → wp_X0_fillLight_L2 (nI b) (nI (hW h)) (nI (hH h)) (nI (hDor h)) (nI (hLaw h)) (nI (hNp h)) sh pcl post (m + 1) (nI i) li1 lv1 := by
    intro m
    induction m with
    | zero =>
      intro i hi ha li1 lv1 h1 h2
      unfold wp_X0_fillLight_L2
      have e : i = b := by omega
      subst e
      exact br_t (nI_le (by omega) (by omega)) (k li1 lv1 h1 h2)
    | succ m ih =>
      intro i hi ha li1 lv1 h1 h2
      unfold wp_X0_fillLight_L2
      refine br_f (nI_ge (by omega) (by omega)) (c_lightOf (f := f) (by omega) (fun l hl hbt => (hf i (by omega) l hl hbt).1) ⟨vp_in_nI (by omega) (by omega), vp_in_nI (by omega) (by omega), ?_⟩)
      rw [ix_nI (by omega), upd_s]
      refine c_leaversIn o hp (oN_lt (fun l hl hbt => (hf i (by omega) l hl hbt).2)) ⟨vp_in_nI (by omega) (by omega), ?_⟩
      rw [nI_1]
      refine ih (i + 1) (by omega) (by omega) _ _ ?_ ?_
      · intro lit hl1 hl2
        by_cases e : lit = i
        · subst e; rw [upd_s, upd_s]; exact ⟨rfl, rfl⟩
        · rw [upd_n e, upd_n e]; exact h1 lit hl1 (by omega)
      · intro j hj
        have e : j ≠ i := by omega
        rw [upd_n e, upd_n e]; exact h2 j (by omega)
  exact ⟨_, key (b - a) a (by omega) (Nat.le_refl _) li lv (fun lit h1 h2 => by omega) (fun j _ => ⟨rfl, rfl⟩)⟩
/-- the class's hall with what it computes -/
def RT (h : Hal) (sh li lv : Nat → Int32) : Prop := (∀ l, l < hNl h → sh l = nI (shL h l)) ∧ ∀ lit, lit < 2 ^ hNl h → li lit = nI (liN h lit) ∧ lv lit = nI (lvN h lit)
theorem c_lightUp {h : Hal} (o : OkH h) {wide high walls doors law lamps people : Int32} {lampCell lampReach personCell wish side sh li lv : Nat → Int32} (R : RH0 h wide high walls doors law lamps people lampCell lampReach personCell wish side) {post : (Nat → Int32) → (Nat → Int32) → (Nat → Int32) → Prop}
    (k : ∀ sh2 li2 lv2 : Nat → Int32, RT h sh2 li2 lv2 → post sh2 li2 lv2) : wp_X0_lightUp wide high walls doors law lamps people lampCell lampReach sh personCell li lv post := by
  obtain ⟨rfl, rfl, rfl, rfl, rfl, rfl, rfl, hl, hp⟩ := R
  have h6 := o.2.2.2.2.2.1
  have hB := two6 h6
  unfold wp_X0_lightUp jn
  have key : ∀ m i, i + m = hNl h → ∀ sh1 : Nat → Int32, (∀ l, l < i → sh1 l = nI (shL h l)) → wp_X0_lightUp_L2 (nI (hW h)) (nI (hH h)) (nI (hWal h)) (nI (hNl h)) lampCell lampReach (fun h_shine_38 => wp_X0_fillLight 0 (jshl 1 (nI (hNl h))) (nI (hW h)) (nI (hH h)) (nI (hDor h)) (nI (hLaw h)) (nI (hNp h)) h_shine_38 personCell li lv (fun h_light_46 h_leavers_46 => post h_shine_38 h_light_46 h_leavers_46)) (m + 1) (nI i) sh1 := by
    intro m
    induction m with
    | zero =>
      intro i hi sh1 h1
      unfold wp_X0_lightUp_L2
      have e : i = hNl h := by omega
      subst e
      refine br_t (nI_le (by omega) (by omega)) ?_
      rw [b_one (by omega)]
      refine c_fillLight (a := 0) o (Nat.zero_le _) (by omega) (fun p hp1 => (hp p hp1).1) (f := shL h) (fun lit hlit l hl7 hb => ⟨h1 l (bits_lt hlit hb), shL_lt o (bits_lt hlit hb)⟩) ?_
      intro li2 lv2 g1 g2
      exact k sh1 li2 lv2 ⟨h1, fun lit hlit => g1 lit (Nat.zero_le _) hlit⟩
    | succ m ih =>
      intro i hi sh1 h1
      unfold wp_X0_lightUp_L2
      refine br_f (nI_ge (by omega) (by omega)) ⟨vp_in_nI (by omega) (by omega), vp_in_nI (by omega) (by omega), ?_⟩
      have hli := o.2.2.2.2.2.2.2.1 i (by omega)
      rw [ix_nI (by omega), (hl i (by omega)).1, (hl i (by omega)).2]
      refine c_shineFrom o hli.1 hli.2 ⟨vp_in_nI (by omega) (by omega), ?_⟩
      rw [nI_1]
      refine ih (i + 1) (by omega) _ ?_
      intro l hl1
      by_cases e : l = i
      · subst e; rw [upd_s]; rfl
      · rw [upd_n e]; exact h1 l (by omega)
  exact ⟨_, key (hNl h) 0 (by omega) sh (fun l hl => by omega)⟩
