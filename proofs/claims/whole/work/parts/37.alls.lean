/-! The reference's tables of rows and grief. -/
theorem stepG {h : Hal} {g S p l : Nat} (hg : g < 2 ^ hNp h) (hS : S < 2 ^ hNl h) (o : OkH h) (hp : (lvN h S &&& dif (allP h) g).testBit p = true) (hb : S.testBit l = true) : p < hNp h ∧ g ||| 2 ^ p < 2 ^ hNp h ∧ g < g ||| 2 ^ p ∧ dif (allP h) (g ||| 2 ^ p) = clr (dif (allP h) g) p ∧ clr S l < 2 ^ hNl h ∧ pcn (clr (dif (allP h) g) p) + 1 = pcn (dif (allP h) g) := by
  have hnp := o.2.2.2.2.2.2.1
  have hpg := hp
  rw [Nat.testBit_and, Bool.and_eq_true] at hpg
  have hpg2 := hpg.2
  rw [dif_bit, Bool.and_eq_true] at hpg2
  have hpn : p < hNp h := bits_lt (allP_lt h) hpg2.1
  have hgn : g.testBit p = false := by simpa using hpg2.2
  have hg2 : g ||| 2 ^ p < 2 ^ hNp h := Nat.or_lt_two_pow hg (Nat.pow_lt_pow_right (by decide) hpn)
  have hgt : g < g ||| 2 ^ p := by
    have h1 : sbs g (g ||| 2 ^ p) := fun i hi => by rw [set_bit, hi]; rfl
    have h2 := h1.le
    have h3 : g ≠ g ||| 2 ^ p := fun e => by
      have := set_bit g p p
      rw [← e, hgn] at this
      simp at this
    omega
  exact ⟨hpn, hg2, hgt, dif_set _ _ _, Nat.lt_of_le_of_lt (clr_le S l) hS, pcn_clr (by omega) hpg.2⟩
theorem pcn_dif {h : Hal} (o : OkH h) {g : Nat} (hg : g < 2 ^ hNp h) : pcn (dif (allP h) g) + pcn g = hNp h := by
  have hnp := o.2.2.2.2.2.2.1
  have h1 := pcn_split (allP_sbs hg)
  have h2 : pcn (allP h) = hNp h := pcn_all (hNp h) (by omega)
  omega
theorem pcn_0 {a : Nat} (ha : a < 2 ^ 12) (h : pcn a = 0) : a = 0 := by
  apply Nat.eq_of_testBit_eq
  intro i
  rw [Nat.zero_testBit]
  cases hb : a.testBit i with
  | false => rfl
  | true =>
    have hi := bits_lt ha hb
    have := fb_ct_zero.mp h i hi
    rw [this] at hb; cases hb
theorem dif_self (a : Nat) : dif a a = 0 := by
  apply Nat.eq_of_testBit_eq
  intro i
  rw [dif_bit]; simp
theorem dif_all {h : Hal} {g : Nat} (hg : g < 2 ^ hNp h) (e : dif (allP h) g = 0) : g = allP h := by
  apply Nat.eq_of_testBit_eq
  intro i
  have h1 := dif_bit (allP h) g i
  rw [e, Nat.zero_testBit] at h1
  unfold allP at h1 ⊢
  rw [all_bit] at h1 ⊢
  cases hb : g.testBit i with
  | true => simp [bits_lt hg hb]
  | false => rw [hb] at h1; simpa using h1
def mnF (b : Nat) (f : Nat → Nat) : Nat → Nat
  | 0 => b
  | n + 1 => min (mnF b f n) (f n)
theorem mnF_le {b : Nat} {f : Nat → Nat} : ∀ n, mnF b f n ≤ b
  | 0 => Nat.le_refl _
  | n + 1 => Nat.le_trans (Nat.min_le_left _ _) (mnF_le n)
theorem le_mnF {b k : Nat} {f : Nat → Nat} : ∀ {n : Nat}, k ≤ mnF b f n ↔ k ≤ b ∧ ∀ i, i < n → k ≤ f i
  | 0 => ⟨fun h => ⟨h, fun i hi => absurd hi (Nat.not_lt_zero _)⟩, fun h => h.1⟩
  | n + 1 => by
    rw [mnF, Nat.le_min, le_mnF (n := n)]
    constructor
    · rintro ⟨⟨h1, h2⟩, h3⟩
      refine ⟨h1, fun i hi => ?_⟩
      rcases Nat.lt_or_ge i n with q | q
      · exact h2 i q
      · have : i = n := by omega
        rw [this]; exact h3
    · rintro ⟨h1, h2⟩
      exact ⟨⟨h1, fun i hi => h2 i (by omega)⟩, h2 n (by omega)⟩
def adf (a b : Nat) : Nat := if a < b then b - a else a - b
theorem adf_t1 : ∀ a, a < 16 → ∀ b, b < 16 → (if (0 : Int32) ≤ nI a - nI b then nI a - nI b else 0 - (nI a - nI b)) = nI (adf a b) := by decide +kernel
theorem adf_t2 : ∀ a, a < 16 → ∀ b, b < 16 → jabs (nI a - nI b) = nI (adf a b) := by decide +kernel
theorem adf_le {a b : Nat} (ha : a ≤ 9) (hb : b ≤ 9) : adf a b ≤ 9 := by
  unfold adf
  by_cases c : a < b
  · rw [if_pos c]; omega
  · rw [if_neg c]; omega
/-- the least grief, without a cap below 10000 -/
def Gr (h : Hal) : Nat → Nat → Nat → Nat
  | 0, _, _ => 0
  | j + 1, P, S => mnF 10000 (fun p => if (lvN h S &&& P).testBit p = true then mnF 10000 (fun l => if S.testBit l = true then Gr h j (clr P p) (clr S l) + adf (hPw h p) (hNp h - (j + 1)) else 10000) 6 else 10000) 6
theorem Gr_le (h : Hal) : ∀ j P S, Gr h j P S ≤ 10000
  | 0, _, _ => Nat.zero_le _
  | j + 1, P, S => mnF_le 6
theorem min_10 {a b : Nat} (h : a ≤ b) : min a b = a := Nat.min_eq_left h
/-- the two inner loops, for one state -/
theorem m_allsRow {h : Hal} {t : Nat → Int32} (o : OkH h) (T : RM h t) {g S : Nat} (hg : g < 2 ^ hNp h) (hS : S < 2 ^ hNl h) {mv wo le : Nat → Int32} (hmv : mv S = nI (lvN h S)) {fN fG : Nat → Nat → Nat} (hch : ∀ p l, p < 6 → l < 6 → (lvN h S &&& dif (allP h) g).testBit p = true → S.testBit l = true → wo (128 * (g ||| 2 ^ p) + clr S l) = nI (fN p l) ∧ le (128 * (g ||| 2 ^ p) + clr S l) = nI (fG p l) ∧ fG p l ≤ 10000) {a b : Nat} (hb : b ≤ 10000) {K : Int32 → Int32 → Prop}
    (k : K (nI (a + sOn (lvN h S &&& dif (allP h) g) (fun p => sOn S (fun l => fN p l)))) (nI (min b (mnF 10000 (fun p => if (lvN h S &&& dif (allP h) g).testBit p = true then mnF 10000 (fun l => if S.testBit l = true then fG p l + adf (hPw h p) (pcn g) else 10000) 6 else 10000) 6)))) : ∃ n, wp_X5_alls_L65 (nI g) (nI S) t mv wo le K n (nI a) (nI b) 0 := by
  have hnp := o.2.2.2.2.2.2.1
  have hnl := o.2.2.2.2.2.1
  have h64 := two6 hnp
  have h64l := two6 hnl
  have hvl : lvN h S < 2 ^ hNp h := mayN_lt _ _
  have hpg := pcn_s64 (show g < 64 by omega)
  -- a row's sum and least
  generalize hA : lvN h S &&& dif (allP h) g = A at *
  have key : ∀ m i, i + m = hNp h → wp_X5_alls_L65 (nI g) (nI S) t mv wo le K (m + 1) (nI (a + fb_sm (fun p => if A.testBit p = true then sOn S (fun l => fN p l) else 0) i)) (nI (min b (mnF 10000 (fun p => if A.testBit p = true then mnF 10000 (fun l => if S.testBit l = true then fG p l + adf (hPw h p) (pcn g) else 10000) 6 else 10000) i))) (nI i) := by
    intro m
    induction m with
    | zero =>
      intro i hi
      unfold wp_X5_alls_L65
      have e : i = hNp h := by omega
      subst e
      rw [T.2.2.2.2.1]
      refine br_t (nI_le (by omega) (by omega)) ?_
      have hz : ∀ q, hNp h ≤ q → ¬ A.testBit q = true := fun q hq c => by
        rw [← hA, Nat.testBit_and, Bool.and_eq_true] at c
        have := bits_lt hvl c.1
        omega
      have e6 : hNp h + (6 - hNp h) = 6 := by omega
      have e1 := sm_ext (f := fun p => if A.testBit p = true then sOn S (fun l => fN p l) else 0) (m := hNp h) (fun q hq => if_neg (hz q hq)) (6 - hNp h)
      rw [e6] at e1
      have e2 : ∀ n, mnF 10000 (fun p => if A.testBit p = true then mnF 10000 (fun l => if S.testBit l = true then fG p l + adf (hPw h p) (pcn g) else 10000) 6 else 10000) (hNp h + n) = mnF 10000 (fun p => if A.testBit p = true then mnF 10000 (fun l => if S.testBit l = true then fG p l + adf (hPw h p) (pcn g) else 10000) 6 else 10000) (hNp h) := by
        intro n
        induction n with
        | zero => rfl
        | succ n ih =>
          have e3 : hNp h + (n + 1) = (hNp h + n) + 1 := by omega
          rw [e3, mnF, ih, if_neg (hz _ (by omega))]
          exact min_10 (mnF_le _)
      have e2 := e2 (6 - hNp h)
      rw [e6] at e2
      unfold sOn at k
      unfold sOn at e1
      rw [e1, e2] at k
      exact k
    | succ m ih =>
      intro i hi
      unfold wp_X5_alls_L65
      have e25 : ix (25 + nI i) = 25 + i := by
        show ix (nI 25 + nI i) = _
        rw [nI_add]; exact ix_nI (by omega)
      have v25 : vp_in (25 + nI i) 43 := by
        show vp_in (nI 25 + nI i) 43
        rw [nI_add]; exact vp_in_nI (by omega) (by omega)
      have hw := (o.2.2.2.2.2.2.2.2 i (by omega)).2.1
      rw [T.2.2.2.2.1]
      refine br_f (nI_ge (by omega) (by omega)) ⟨vp_in_nI (by omega) (by omega), ?_⟩
      rw [ix_nI (by omega), hmv, e25, (T.2.2.2.2.2.2.2.2 i (by omega)).2.1]
      have hda : (dif (lvN h S) g).testBit i = A.testBit i := by rw [← hA]; exact dif_and hvl
      refine jn_i (b01 (A.testBit i)) (fun K hK => ⟨fun c => ?_, fun c => ?_⟩) ⟨v25, m_ones (by omega) ?_⟩
      · have c1 := (goesB (by omega) (by omega)).mp c
        rw [hda] at c1
        rw [c1] at hK; exact hK
      · have c1 : A.testBit i = true := by
          cases hb : A.testBit i with
          | true => rfl
          | false => rw [← hda] at hb; exact absurd ((goesB (by omega) (by omega)).mpr hb) c
        rw [c1] at hK; exact hK
      refine nm_e ?_
      unfold jn
      by_cases c : A.testBit i = true
      · -- the lamps
        have hgp : g ||| 2 ^ i < 64 := Nat.or_lt_two_pow (n := 6) (by show g < 64; omega) (Nat.pow_lt_pow_right (by decide) (by omega))
        have key2 : ∀ m2 l, l + m2 = 6 → wp_X5_alls_L121 (nI g) (nI S) (nI i) (b01 (A.testBit i)) (nI (hPw h i) - nI (pcn g)) wo le (fun x4_232 x5_232 => wp_X5_alls_L65 (nI g) (nI S) t mv wo le K (m + 1) x4_232 x5_232 (nI i + 1)) (m2 + 1) (nI (a + fb_sm (fun p => if A.testBit p = true then sOn S (fun l => fN p l) else 0) i + fb_sm (fun l => if S.testBit l = true then fN i l else 0) l)) (nI (min (min b (mnF 10000 (fun p => if A.testBit p = true then mnF 10000 (fun l => if S.testBit l = true then fG p l + adf (hPw h p) (pcn g) else 10000) 6 else 10000) i)) (mnF 10000 (fun l => if S.testBit l = true then fG i l + adf (hPw h i) (pcn g) else 10000) l))) (nI l) := by
          intro m2
          induction m2 with
          | zero =>
            intro l hl
            unfold wp_X5_alls_L121
            have e : l = 6 := by omega
            subst e
            refine br_t (nI_le (a := 6) (b := 6) (by omega) (by omega)) ?_
            have h9 := ih (i + 1) (by omega)
            rw [fb_sm_succ, mnF, if_pos c, if_pos c, ← Nat.add_assoc, ← Nat.min_assoc] at h9
            rw [nI_1]
            exact h9
          | succ m2 ih2 =>
            intro l hl
            unfold wp_X5_alls_L121
            have hcl := clr_le S l
            refine br_f (nI_ge (a := l) (b := 6) (by omega) (by omega)) ?_
            rw [c]
            refine br_f (by decide) (m_then (by omega) (by omega) (by omega) ?_)
            rw [b_bit (by omega) (by omega)]
            refine jn_i (b01 (S.testBit l)) (fun K hK => b01_o (fun d => ?_) (fun d => ?_)) ⟨vp_in_nI (by omega) (by omega), ?_⟩
            · rw [d] at hK; exact hK
            · rw [d] at hK; exact hK
            have hadf := adf_t1 (hPw h i) (by omega) (pcn g) (by omega)
            refine jn_i (nI (adf (hPw h i) (pcn g))) (fun K hK => ⟨fun d => ?_, fun d => ?_⟩) ?_
            · rw [if_pos d] at hadf; rw [hadf]; exact hK
            · rw [if_neg d] at hadf; rw [hadf]; exact hK
            refine nm_e ?_
            have hal := adf_le hw (show pcn g ≤ 9 by omega)
            have hml : mnF 10000 (fun l => if S.testBit l = true then fG i l + adf (hPw h i) (pcn g) else 10000) l ≤ 10000 := mnF_le l
            have hml2 : mnF 10000 (fun p => if A.testBit p = true then mnF 10000 (fun l => if S.testBit l = true then fG p l + adf (hPw h p) (pcn g) else 10000) 6 else 10000) i ≤ 10000 := mnF_le i
            by_cases d : S.testBit l = true
            · have hc := hch i l (by omega) (by omega) c d
              rw [d]
              rw [ix_nI (by omega), hc.1, hc.2.1, nI_add]
              refine jn_i (nI (fN i l)) (fun K hK => br_f (by decide) ⟨vp_in_nI (by omega) (by omega), hK⟩) ?_
              rw [nI_add]
              refine nm_e ?_
              have h9 := ih2 (l + 1) (by omega)
              rw [fb_sm_succ, mnF, if_pos d, if_pos d, ← Nat.add_assoc, ← Nat.min_assoc, c] at h9
              rw [nI_1 l]
              have hx := Nat.le_trans (Nat.min_le_left (min b (mnF 10000 (fun p => if A.testBit p = true then mnF 10000 (fun l => if S.testBit l = true then fG p l + adf (hPw h p) (pcn g) else 10000) 6 else 10000) i)) (mnF 10000 (fun l => if S.testBit l = true then fG i l + adf (hPw h i) (pcn g) else 10000) l)) (Nat.le_trans (Nat.min_le_left _ _) hb)
              generalize min (min b (mnF 10000 (fun p => if A.testBit p = true then mnF 10000 (fun l => if S.testBit l = true then fG p l + adf (hPw h p) (pcn g) else 10000) 6 else 10000) i)) (mnF 10000 (fun l => if S.testBit l = true then fG i l + adf (hPw h i) (pcn g) else 10000) l) = x at *
              refine jn_i (nI (min x (fG i l + adf (hPw h i) (pcn g)))) (fun K hK => ?_) h9
              unfold jn
              refine br_f (by decide) ?_
              refine pk_le _ _ (fun q => ?_) (fun q => ?_)
              · rw [Nat.min_eq_left q] at hK; exact hK
              · rw [Nat.min_eq_right (by omega)] at hK; exact hK
            · have d0 : S.testBit l = false := by simpa using d
              rw [d0]
              refine jn_i 0 (fun K hK => br_t rfl hK) ?_
              refine nm_e ?_
              have h9 := ih2 (l + 1) (by omega)
              rw [fb_sm_succ, mnF, if_neg d, if_neg d, min_10 hml, Nat.add_zero, c] at h9
              rw [nI_1 l]
              refine jn_i (nI (min (min b (mnF 10000 (fun p => if A.testBit p = true then mnF 10000 (fun l => if S.testBit l = true then fG p l + adf (hPw h p) (pcn g) else 10000) 6 else 10000) i)) (mnF 10000 (fun l => if S.testBit l = true then fG i l + adf (hPw h i) (pcn g) else 10000) l))) (fun K hK => ?_) ?_
              · unfold jn
                exact br_t rfl hK
              · have e0 : ∀ x : Int32, x + 0 = x := fun x => by simp
                rw [e0]
                exact h9
        have h8 := key2 6 0 rfl
        have e0 : fb_sm (fun l => if S.testBit l = true then fN i l else 0) 0 = 0 := rfl
        rw [e0, Nat.add_zero, mnF, min_10 (Nat.le_trans (Nat.min_le_left _ _) hb)] at h8
        exact ⟨_, h8⟩
      · have c0 : A.testBit i = false := by simpa using c
        refine ⟨1, ?_⟩
        unfold wp_X5_alls_L121
        refine br_f (by decide) ?_
        rw [c0]
        refine br_t rfl ?_
        have h9 := ih (i + 1) (by omega)
        rw [fb_sm_succ, mnF, if_neg c, if_neg c, Nat.add_zero, min_10 (mnF_le i)] at h9
        rw [nI_1]
        exact h9
  have h5 := key (hNp h) 0 (by omega)
  have e0 : fb_sm (fun p => if A.testBit p = true then sOn S (fun l => fN p l) else 0) 0 = 0 := rfl
  rw [e0, Nat.add_zero, mnF, min_10 hb] at h5
  exact ⟨_, h5⟩
