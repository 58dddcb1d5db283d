/-! The small methods of both sides. -/
theorem i0 : (0 : Int32).toInt = 0 := by decide
theorem vp_of {x : Int32} {n : Nat} (h1 : ¬ x < 0) (h2 : x.toInt < n) : vp_in x n := by
  refine vp_in_iff.mpr ⟨?_, h2⟩
  rcases Int.lt_or_le x.toInt 0 with q | q
  · exact absurd ((fa_lt x 0).mpr (by rw [i0]; exact q)) h1
  · exact q
theorem vp_neg {x : Int32} {n : Nat} (h : x < 0) : ¬ vp_in x n := fun q => q (Or.inl h)
theorem vp_big {x : Int32} {n : Nat} (h : (n : Int) ≤ x.toInt) : ¬ vp_in x n := fun q => by
  have := (vp_in_iff.mp q).2
  omega
theorem in_rng {x hi : Int32} {n : Nat} {post : Int32 → Prop} (hn : n < 2 ^ 30) (e : hi = nI n - 1) (h1 : vp_in x n → post 1) (h0 : ¬ vp_in x n → post 0) : wp_X5_in x 0 hi post := by
  subst e
  unfold wp_X5_in jn
  have e1 : (nI n - 1).toInt = (n : Int) - (1 : Nat) := pk_sub_toInt (a := n) (b := 1) hn (by decide)
  refine ⟨fun c => h0 (vp_neg c), fun c => ⟨fun d => h0 ?_, fun d => h1 ?_⟩⟩
  · have := (fa_lt _ _).mp d
    exact vp_big (by omega)
  · have : ¬ (nI n - 1).toInt < x.toInt := fun q => d ((fa_lt _ _).mpr q)
    exact vp_of c (by omega)
theorem c_rngP {x : Int32} {n : Nat} {K1 K0 : Prop} (hn : n < 2 ^ 31) (h1 : vp_in x n → K1) (h0 : ¬ vp_in x n → K0) : (x < 0 → K0) ∧ (¬ x < 0 → ((nI n ≤ x → K0) ∧ (¬ nI n ≤ x → K1))) := by
  have e1 : (nI n).toInt = (n : Int) := nI_toInt hn
  refine ⟨fun c => h0 (vp_neg c), fun c => ⟨fun d => h0 ?_, fun d => h1 ?_⟩⟩
  · have := (fa_le _ _).mp d
    exact vp_big (by omega)
  · have : ¬ (nI n).toInt ≤ x.toInt := fun q => d ((fa_le _ _).mpr q)
    exact vp_of c (by omega)
theorem c_isCell {x : Int32} {h : Hal} (o : OkH h) {post : Int32 → Prop} (h1 : vp_in x (hC h) → post 1) (h0 : ¬ vp_in x (hC h) → post 0) : wp_X4_isCell x (nI (hW h)) (nI (hH h)) post := by
  unfold wp_X4_isCell jn wp_X0_cells
  rw [pk_mul]
  have := o.c12
  exact c_rngP (by show hC h < 2 ^ 31; omega) h1 h0
theorem c_isLamp {x : Int32} {n : Nat} (hn : n ≤ 6) {post : Int32 → Prop} (h1 : vp_in x n → post 1) (h0 : ¬ vp_in x n → post 0) : wp_X4_isLamp x (nI n) post := by
  unfold wp_X4_isLamp jn
  exact c_rngP (by omega) h1 h0
theorem c_isPerson {x : Int32} {n : Nat} (hn : n ≤ 6) {post : Int32 → Prop} (h1 : vp_in x n → post 1) (h0 : ¬ vp_in x n → post 0) : wp_X4_isPerson x (nI n) post := by
  unfold wp_X4_isPerson jn
  exact c_rngP (by omega) h1 h0
theorem m_cells {h : Hal} {t : Nat → Int32} (R : RM h t) {post : Int32 → Prop} (k : post (nI (hC h))) : wp_X5_cells t post := by
  unfold wp_X5_cells
  rw [R.1, R.2.1, pk_mul]
  exact k
theorem m_isCell {x : Int32} {h : Hal} {t : Nat → Int32} (o : OkH h) (R : RM h t) {post : Int32 → Prop} (h1 : vp_in x (hC h) → post 1) (h0 : ¬ vp_in x (hC h) → post 0) : wp_X5_isCell x t post := by
  unfold wp_X5_isCell
  have := o.c12
  exact m_cells R (in_rng (by omega) rfl h1 h0)
theorem m_isLamp {x : Int32} {h : Hal} {t : Nat → Int32} (o : OkH h) (R : RM h t) {post : Int32 → Prop} (h1 : vp_in x (hNl h) → post 1) (h0 : ¬ vp_in x (hNl h) → post 0) : wp_X5_isLamp x t post := by
  unfold wp_X5_isLamp
  rw [R.2.2.2.1]
  have := o.2.2.2.2.2.1
  exact in_rng (by omega) rfl h1 h0
theorem m_isPerson {x : Int32} {h : Hal} {t : Nat → Int32} (o : OkH h) (R : RM h t) {post : Int32 → Prop} (h1 : vp_in x (hNp h) → post 1) (h0 : ¬ vp_in x (hNp h) → post 0) : wp_X5_isPerson x t post := by
  unfold wp_X5_isPerson
  rw [R.2.2.2.2.1]
  have := o.2.2.2.2.2.2.1
  exact in_rng (by omega) rfl h1 h0
theorem c_bit {a k : Nat} (ha : a < 2 ^ 31) (hk : k < 32) {post : Int32 → Prop} (h : post (b01 (a.testBit k))) : wp_X4_bitOf (nI a) (nI k) post := by
  unfold wp_X4_bitOf
  rw [b_ubit ha hk]; exact h
theorem c_bc {a : Nat} (ha : a < 128) {post : Int32 → Prop} (h : post (nI (pcn a))) : wp_J6_bitCount_0f7a4 (nI a) post := by
  unfold wp_J6_bitCount_0f7a4
  intro x1 e1 x2 e2 x3 e3 x4 e4 x5 e5
  have e : x5 &&& 63 = nI (pcn a) := by
    rw [← bc_tab a ha, e5, e4, e3, e2, e1]; rfl
  rw [e]; exact h
theorem all1 {n : Nat} (hn : n ≤ 30) : jshl 1 (nI n) - 1 = nI (2 ^ n - 1) := by
  rw [b_one (by omega)]
  exact pk_sub (a := 2 ^ n) (b := 1) (p2pos n)
theorem c_allL {h : Hal} (o : OkH h) {post : Int32 → Prop} (k : post (nI (allL h))) : wp_X0_allLamps (nI (hNl h)) post := by
  unfold wp_X0_allLamps
  have := o.2.2.2.2.2.1
  rw [all1 (by omega)]; exact k
theorem c_allP {h : Hal} (o : OkH h) {post : Int32 → Prop} (k : post (nI (allP h))) : wp_X0_allPeople (nI (hNp h)) post := by
  unfold wp_X0_allPeople
  have := o.2.2.2.2.2.2.1
  rw [all1 (by omega)]; exact k
theorem lt32 {a n : Nat} (h : a < 2 ^ n) (hn : n ≤ 31) : a < 2 ^ 31 := Nat.lt_of_lt_of_le h (p2lt hn)
theorem c_litNow {h : Hal} {w : Nw} (o : OkH h) {post : Int32 → Prop} (k : post (nI (litN h w))) : wp_X4_litNow (nI (msk (nLmp w) (nLeft w))) (nI (hNl h)) post := by
  unfold wp_X4_litNow
  refine c_allL o ?_
  have h6 := o.2.2.2.2.2.1
  have := lt32 (allL_lt h) (by omega)
  rw [b_andn (by omega)]
  exact k
theorem c_thereNow {h : Hal} {w : Nw} (o : OkH h) {post : Int32 → Prop} (k : post (nI (thereN h w))) : wp_X4_thereNow (nI (goneN w)) (nI (hNp h)) post := by
  unfold wp_X4_thereNow
  refine c_allP o ?_
  have h6 := o.2.2.2.2.2.2.1
  have := lt32 (allP_lt h) (by omega)
  rw [b_andn (by omega)]
  exact k
theorem m_allL {h : Hal} {t : Nat → Int32} (o : OkH h) (R : RM h t) {post : Int32 → Prop} (k : post (nI (allL h))) : wp_X5_allLit t post := by
  unfold wp_X5_allLit
  have := o.2.2.2.2.2.1
  rw [R.2.2.2.1, all1 (by omega)]; exact k
theorem m_allP {h : Hal} {t : Nat → Int32} (o : OkH h) (R : RM h t) {post : Int32 → Prop} (k : post (nI (allP h))) : wp_X5_all t post := by
  unfold wp_X5_all
  have := o.2.2.2.2.2.2.1
  rw [R.2.2.2.2.1, all1 (by omega)]; exact k
theorem ix_nI {n : Nat} (h : n < 2 ^ 31) : ix (nI n) = n := nI_clamp h
theorem add_nI (a b : Nat) : nI a + nI b = nI (a + b) := nI_add a b
theorem m_gone {w : Nw} {s : Nat → Int32} (hl : nLeft w ≤ 6) (hw : ∀ k, k < nLeft w → nWho w k < 6) (R : RS w s) {post : Int32 → Prop} (k : post (nI (goneN w))) : wp_X5_gone s post := by
  unfold wp_X5_gone
  have key : ∀ m i, i + m = nLeft w → wp_X5_gone_L4 s post (m + 1) (nI (msk (nWho w) i)) (nI i) := by
    intro m
    induction m with
    | zero =>
      intro i hi
      unfold wp_X5_gone_L4
      rw [R.1]
      have e : i = nLeft w := by omega
      refine br_t (nI_le (by omega) (by omega)) ?_
      rw [e]; exact k
    | succ m ih =>
      intro i hi
      unfold wp_X5_gone_L4
      rw [R.1]
      refine br_f (nI_ge (by omega) (by omega)) ⟨?_, ?_⟩
      · show vp_in (nI 1 + nI i) 38
        rw [nI_add]; exact vp_in_nI (by omega) (by omega)
      · have e1 : ix (1 + nI i) = 1 + i := by
          show ix (nI 1 + nI i) = _
          rw [nI_add]; exact ix_nI (by omega)
        rw [e1, (R.2.2.1 i (by omega)).1]
        have := hw i (by omega)
        rw [b_set (by omega)]
        intro x ex
        rw [ex, nI_1]
        exact ih (i + 1) (by omega)
  exact ⟨_, key (nLeft w) 0 (by omega)⟩
theorem dif_0 (a : Nat) : dif a 0 = a := by
  apply Nat.eq_of_testBit_eq; intro i; rw [dif_bit]; simp
theorem dif_or (a b c : Nat) : dif (dif a b) c = dif a (b ||| c) := by
  apply Nat.eq_of_testBit_eq; intro i; rw [dif_bit, dif_bit, dif_bit, Nat.testBit_or]
  cases a.testBit i <;> cases b.testBit i <;> cases c.testBit i <;> rfl
theorem m_lit {h : Hal} {w : Nw} {t s : Nat → Int32} (o : OkH h) (n : OkN h w) (T : RM h t) (R : RS w s) {post : Int32 → Prop} (k : post (nI (litN h w))) : wp_X5_lit t s post := by
  unfold wp_X5_lit
  refine m_allL o T ?_
  have hl := n.left o
  have h6 := o.2.2.2.2.2.1
  have hA := lt32 (allL_lt h) (by omega)
  have key : ∀ m i, i + m = nLeft w → wp_X5_lit_L7 s post (m + 1) (nI (dif (allL h) (msk (nLmp w) i))) (nI i) := by
    intro m
    induction m with
    | zero =>
      intro i hi
      unfold wp_X5_lit_L7
      rw [R.1]
      have e : i = nLeft w := by omega
      refine br_t (nI_le (by omega) (by omega)) ?_
      rw [e]; exact k
    | succ m ih =>
      intro i hi
      unfold wp_X5_lit_L7
      rw [R.1]
      refine br_f (nI_ge (by omega) (by omega)) ⟨?_, ?_⟩
      · show vp_in (nI 7 + nI i) 38
        rw [nI_add]; exact vp_in_nI (by omega) (by omega)
      · have e1 : ix (7 + nI i) = 7 + i := by
          show ix (nI 7 + nI i) = _
          rw [nI_add]; exact ix_nI (by omega)
        have hlt := (n.1 i (by omega)).2
        have hd := dif_le (allL h) (msk (nLmp w) i)
        rw [e1, (R.2.2.1 i (by omega)).2, b_clr (by omega) (by omega), ← dif_pow, dif_or]
        intro x ex
        rw [ex, nI_1]
        exact ih (i + 1) (by omega)
  have h0 := key (nLeft w) 0 (by omega)
  rw [show msk (nLmp w) 0 = 0 from rfl, dif_0] at h0
  exact ⟨_, h0⟩
theorem m_ones {a : Nat} (ha : a < 4096) {post : Int32 → Prop} (k : post (nI (pcn a))) : wp_X5_ones (nI a) post := by
  unfold wp_X5_ones
  have key : ∀ m i, i + m = 12 → wp_X5_ones_L4 (nI a) post (m + 1) (nI (fb_ct a.testBit i)) (nI i) := by
    intro m
    induction m with
    | zero =>
      intro i hi
      unfold wp_X5_ones_L4
      have e : i = 12 := by omega
      subst e
      exact br_t (nI_le (a := 12) (b := 12) (by omega) (by omega)) k
    | succ m ih =>
      intro i hi
      unfold wp_X5_ones_L4
      refine br_f (nI_ge (a := i) (b := 12) (by omega) (by omega)) ?_
      rw [b_bit (by omega) (by omega)]
      intro x ex
      have e : nI (fb_ct a.testBit i) + b01 (a.testBit i) = nI (fb_ct a.testBit (i + 1)) := by
        rw [fb_ct_succ]
        cases a.testBit i
        · exact nI_add _ 0
        · exact nI_add _ 1
      rw [ex, e, nI_1]
      exact ih (i + 1) (by omega)
  exact ⟨_, key 12 0 rfl⟩
