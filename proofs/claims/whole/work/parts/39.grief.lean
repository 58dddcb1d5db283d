/-! grief: the class's table. -/
theorem jmin_nI {a b : Nat} (ha : a < 2 ^ 31) (hb : b < 2 ^ 31) : jmin (nI a) (nI b) = nI (min a b) := by
  unfold jmin
  by_cases c : b < a
  · rw [if_pos (nI_lt c ha), Nat.min_eq_right (by omega)]
  · rw [if_neg (nI_nlt (by omega) hb), Nat.min_eq_left (by omega)]
theorem c_place {a b : Nat} {post : Int32 → Prop} (k : post (nI (64 * a + b))) : wp_X2_placeIn (nI a) (nI b) post := by
  unfold wp_X2_placeIn
  have e : nI a * (64 : Int32) + nI b = nI (64 * a + b) := by
    show nI a * nI 64 + nI b = _
    rw [pk_mul, nI_add, Nat.mul_comm]
  rw [e]; exact k
theorem Gr_no {h : Hal} : ∀ j P S, pcn P = j → P < 64 → P ≠ 0 → ¬ sbs P (lvN h S) → Gr h j P S = 10000
  | 0, P, S, hj, hP, h0, _ => absurd (pcn_0 (Nat.lt_of_lt_of_le hP (by decide)) hj) h0
  | j + 1, P, S, hj, hP, h0, hn => by
    apply Nat.le_antisymm (Gr_le h _ _ _)
    rw [Gr, le_mnF]
    refine ⟨Nat.le_refl _, fun p hp => ?_⟩
    by_cases c : (lvN h S &&& P).testBit p = true
    · rw [if_pos c, le_mnF]
      refine ⟨Nat.le_refl _, fun l hl => ?_⟩
      by_cases d : S.testBit l = true
      · rw [if_pos d]
        rw [Nat.testBit_and, Bool.and_eq_true] at c
        obtain ⟨q, hq1, hq2⟩ : ∃ q, P.testBit q = true ∧ (lvN h S).testBit q = false := by
          apply Classical.byContradiction
          intro hno
          refine hn (fun i hi => ?_)
          cases hb : (lvN h S).testBit i with
          | true => rfl
          | false => exact absurd ⟨i, hi, hb⟩ hno
        have hqp : ¬ q = p := fun e => by rw [e, c.1] at hq2; cases hq2
        have hq3 : (clr P p).testBit q = true := by rw [clr_bit, hq1]; simp [hqp]
        have hpc := pcn_clr (show p < 12 by omega) c.2
        have hcl := clr_le P p
        rw [Gr_no j (clr P p) (clr S l) (by omega) (by omega) (fun e => by rw [e] at hq3; simp at hq3) (fun hs => ?_)]
        · omega
        · have := lvN_mono (clr_sbs S l) q (hs q hq3)
          rw [this] at hq2; cases hq2
      · rw [if_neg d]; exact Nat.le_refl _
    · rw [if_neg c]; exact Nat.le_refl _
def Gb (h : Hal) (j P S p : Nat) : Nat := mnF 1000 (fun l => if S.testBit l = true then min 1000 (Gr h j (clr P p) (clr S l)) else 1000) 6
def Gp (h : Hal) (j P S : Nat) (i : Nat) : Nat := mnF 1000 (fun p => if P.testBit p = true then adf (hPw h p) (hNp h - (j + 1)) + Gb h j P S p else 1000) i
theorem Gc_step {h : Hal} {j P S : Nat} (hs : sbs P (lvN h S)) : min 1000 (Gr h (j + 1) P S) = Gp h j P S 6 := by
  have eA : lvN h S &&& P = P := by
    apply Nat.eq_of_testBit_eq
    intro i
    rw [Nat.testBit_and]
    cases hb : P.testBit i with
    | false => simp
    | true => rw [hs i hb]; rfl
  have key : ∀ k, k ≤ min 1000 (Gr h (j + 1) P S) ↔ k ≤ Gp h j P S 6 := by
    intro k
    unfold Gp
    rw [Nat.le_min, Gr, le_mnF, le_mnF, eA]
    constructor
    · rintro ⟨h1, h2, h3⟩
      refine ⟨h1, fun p hp => ?_⟩
      have h4 := h3 p hp
      by_cases c : P.testBit p = true
      · rw [if_pos c] at h4 ⊢
        rw [le_mnF] at h4
        have h5 : k - adf (hPw h p) (hNp h - (j + 1)) ≤ Gb h j P S p := by
          unfold Gb
          rw [le_mnF]
          refine ⟨by omega, fun l hl => ?_⟩
          have h6 := h4.2 l hl
          by_cases d : S.testBit l = true
          · rw [if_pos d] at h6 ⊢
            rw [Nat.le_min]
            omega
          · rw [if_neg d]; omega
        omega
      · rw [if_neg c]; exact h1
    · rintro ⟨h1, h2⟩
      refine ⟨h1, by omega, fun p hp => ?_⟩
      have h4 := h2 p hp
      by_cases c : P.testBit p = true
      · rw [if_pos c] at h4 ⊢
        rw [le_mnF]
        refine ⟨by omega, fun l hl => ?_⟩
        by_cases d : S.testBit l = true
        · rw [if_pos d]
          have h5 : Gb h j P S p ≤ Gb h j P S p := Nat.le_refl _
          unfold Gb at h5
          rw [le_mnF] at h5
          have h6 := h5.2 l hl
          rw [if_pos d, Nat.le_min] at h6
          unfold Gb at h4
          omega
        · rw [if_neg d]; omega
      · rw [if_neg c]; omega
  exact Nat.le_antisymm ((key _).mp (Nat.le_refl _)) ((key _).mpr (Nat.le_refl _))
theorem mn_ext {b : Nat} {f : Nat → Nat} {m : Nat} (h : ∀ k, m ≤ k → b ≤ f k) : ∀ n, mnF b f (m + n) = mnF b f m
  | 0 => rfl
  | n + 1 => by
    have e : m + (n + 1) = (m + n) + 1 := by omega
    rw [e, mnF, mn_ext h n]
    exact min_10 (Nat.le_trans (mnF_le m) (h _ (by omega)))
theorem c_behind {h : Hal} (o : OkH h) {P S j p : Nat} (hP : P < 64) (hS : S < 2 ^ hNl h) {gr : Nat → Int32} (hch : ∀ l, l < 6 → S.testBit l = true → gr (64 * clr P p + clr S l) = nI (min 1000 (Gr h j (clr P p) (clr S l)))) {post : Int32 → Prop} (k : post (nI (Gb h j P S p))) : wp_X2_leastGriefBehind (nI (clr P p)) (nI S) gr (nI (hNl h)) post := by
  unfold wp_X2_leastGriefBehind
  have hnl := o.2.2.2.2.2.1
  have h64l := two6 hnl
  have key : ∀ m i, i + m = hNl h → wp_X2_leastGriefBehind_L7 (nI (clr P p)) (nI S) gr (nI (hNl h)) post (m + 1) (nI (mnF 1000 (fun l => if S.testBit l = true then min 1000 (Gr h j (clr P p) (clr S l)) else 1000) i)) (nI i) := by
    intro m
    induction m with
    | zero =>
      intro i hi
      unfold wp_X2_leastGriefBehind_L7
      have e : i = hNl h := by omega
      subst e
      refine br_t (nI_le (by omega) (by omega)) ?_
      have e6 : hNl h + (6 - hNl h) = 6 := by omega
      have := mn_ext (b := 1000) (f := fun l => if S.testBit l = true then min 1000 (Gr h j (clr P p) (clr S l)) else 1000) (m := hNl h) (fun q hq => by
        have : ¬ S.testBit q = true := fun z => by have := bits_lt hS z; omega
        rw [if_neg this]; exact Nat.le_refl _) (6 - hNl h)
      rw [e6] at this
      rw [← this]
      exact k
    | succ m ih =>
      intro i hi
      unfold wp_X2_leastGriefBehind_L7
      have hc1 := clr_le P p
      have hc2 := clr_le S i
      have hm : mnF 1000 (fun l => if S.testBit l = true then min 1000 (Gr h j (clr P p) (clr S l)) else 1000) i ≤ 1000 := mnF_le i
      refine br_f (nI_ge (by omega) (by omega)) (c_bit (by omega) (by omega) ?_)
      rw [b_clr (by omega) (by omega)]
      have h9 := ih (i + 1) (by omega)
      rw [mnF] at h9
      rw [nI_1]
      refine jn_i _ (fun K hK => b01_o (fun d => c_place ⟨vp_in_nI (by omega) (by omega), ?_⟩) (fun d => ?_)) h9
      · rw [if_pos d] at hK
        have hmm := Nat.min_le_left 1000 (Gr h j (clr P p) (clr S i))
        rw [ix_nI (by omega), hch i (by omega) d, jmin_nI (by omega) (by omega)]
        exact nm_e hK
      · have d1 : ¬ S.testBit i = true := by rw [d]; decide
        rw [if_neg d1, min_10 hm] at hK
        exact hK
  exact ⟨_, key (hNl h) 0 (by omega)⟩
theorem c_leastGrief {h : Hal} (o : OkH h) {P S : Nat} (hP : P < 2 ^ hNp h) (hS : S < 2 ^ hNl h) {gr lv wish : Nat → Int32} (hlv : lv S = nI (lvN h S)) (hw : ∀ p, p < hNp h → wish p = nI (hPw h p)) (hch : ∀ p l, p < 6 → l < 6 → P.testBit p = true → S.testBit l = true → gr (64 * clr P p + clr S l) = nI (min 1000 (Gr h (pcn P - 1) (clr P p) (clr S l)))) {post : Int32 → Prop} (k : post (nI (min 1000 (Gr h (pcn P) P S)))) : wp_X2_leastGrief (nI P) (nI S) gr (nI (hNl h)) (nI (hNp h)) wish lv post := by
  unfold wp_X2_leastGrief
  have hnl := o.2.2.2.2.2.1
  have hnp := o.2.2.2.2.2.2.1
  have h64 := two6 hnp
  have h64l := two6 hnl
  refine ne0_nI (by omega) (fun e => ?_) (fun e => ⟨vp_in_nI (by omega) (by omega), ?_⟩)
  · have : pcn P = 0 := by rw [e]; decide
    rw [this, Gr, Nat.min_zero] at k
    exact k
  · rw [ix_nI (by omega), hlv, b_andn (by omega)]
    have hd := dif_le P (lvN h S)
    obtain ⟨j, hj⟩ : ∃ j, pcn P = j + 1 := by
      cases hq : pcn P with
      | zero => exact absurd (pcn_0 (Nat.lt_of_lt_of_le hP (Nat.le_trans h64 (by decide))) hq) e
      | succ j => exact ⟨j, rfl⟩
    refine ne0_nI (by omega) (fun hs => c_bc (by omega) ?_) (fun hs => ?_)
    · have hs1 := dif0_sbs hs
      have hpP : pcn P ≤ hNp h := by
        have := pcn_sub (allP_sbs hP)
        have e2 : pcn (allP h) = hNp h := pcn_all (hNp h) (by omega)
        omega
      rw [pk_sub hpP]
      refine nm_e ?_
      rw [hj, Gc_step hs1] at k
      rw [hj] at hch hpP ⊢
      have key : ∀ m i, i + m = hNp h → wp_X2_leastGrief_L47 (nI P) (nI S) (nI (hNp h - (j + 1))) gr (nI (hNl h)) (nI (hNp h)) wish post (m + 1) (nI (Gp h j P S i)) (nI i) := by
        intro m
        induction m with
        | zero =>
          intro i hi
          unfold wp_X2_leastGrief_L47
          have e : i = hNp h := by omega
          subst e
          refine br_t (nI_le (by omega) (by omega)) ?_
          have e6 : hNp h + (6 - hNp h) = 6 := by omega
          have := mn_ext (b := 1000) (f := fun p => if P.testBit p = true then adf (hPw h p) (hNp h - (j + 1)) + Gb h j P S p else 1000) (m := hNp h) (fun q hq => by
            have : ¬ P.testBit q = true := fun z => by have := bits_lt hP z; omega
            rw [if_neg this]; exact Nat.le_refl _) (6 - hNp h)
          rw [e6] at this
          unfold Gp at k ⊢
          rw [← this]
          exact k
        | succ m ih =>
          intro i hi
          unfold wp_X2_leastGrief_L47
          have hm : Gp h j P S i ≤ 1000 := mnF_le i
          have hwi := (o.2.2.2.2.2.2.2.2 i (by omega)).2.1
          refine br_f (nI_ge (by omega) (by omega)) (c_bit (by omega) (by omega) ?_)
          have h9 := ih (i + 1) (by omega)
          unfold Gp at h9
          rw [mnF] at h9
          rw [nI_1]
          refine jn_i _ (fun K hK => b01_o (fun d => ⟨vp_in_nI (by omega) (by omega), ?_⟩) (fun d => ?_)) h9
          · rw [if_pos d] at hK
            rw [ix_nI (by omega), hw i (by omega), adf_t2 _ (by omega) _ (by omega)]
            refine nm_e ?_
            rw [b_clr (by omega) (by omega)]
            refine c_behind (j := j) o (by omega) hS (fun l hl hb => ?_) ?_
            · have := hch i l (by omega) hl d hb
              rw [Nat.add_sub_cancel] at this
              exact this
            · have hgb : Gb h j P S i ≤ 1000 := mnF_le 6
              have had := adf_le hwi (show hNp h - (j + 1) ≤ 9 by omega)
              rw [nI_add, jmin_nI (by omega) (by omega)]
              exact nm_e hK
          · have d1 : ¬ P.testBit i = true := by rw [d]; decide
            unfold Gp at hm
            rw [if_neg d1, min_10 hm] at hK
            exact hK
      exact ⟨_, key (hNp h) 0 (by omega)⟩
    · have hn : ¬ sbs P (lvN h S) := fun q => hs (by
        apply Nat.eq_of_testBit_eq
        intro b
        rw [dif_bit]
        cases hb : P.testBit b with
        | false => simp
        | true => rw [q b hb]; simp)
      rw [Gr_no (pcn P) P S rfl (by omega) e hn] at k
      exact k
theorem Gr_fin {h : Hal} (o : OkH h) : ∀ j P S, Gr h j P S = 10000 ∨ Gr h j P S ≤ 9 * j
  | 0, P, S => Or.inr (Nat.le_refl _)
  | j + 1, P, S => by
    rcases Nat.lt_or_ge (Gr h (j + 1) P S) 10000 with q | q
    · right
      apply Classical.byContradiction
      intro hc
      have hnp := o.2.2.2.2.2.2.1
      have : Gr h (j + 1) P S + 1 ≤ Gr h (j + 1) P S := by
        conv => rhs; rw [Gr]
        rw [le_mnF]
        refine ⟨q, fun p hp => ?_⟩
        by_cases c : (lvN h S &&& P).testBit p = true
        · rw [if_pos c, le_mnF]
          refine ⟨q, fun l hl => ?_⟩
          by_cases d : S.testBit l = true
          · rw [if_pos d]
            have hle : Gr h (j + 1) P S ≤ Gr h j (clr P p) (clr S l) + adf (hPw h p) (hNp h - (j + 1)) := by
              have h1 : Gr h (j + 1) P S ≤ Gr h (j + 1) P S := Nat.le_refl _
              conv at h1 => rhs; rw [Gr]
              rw [le_mnF] at h1
              have h2 := h1.2 p hp
              rw [if_pos c, le_mnF] at h2
              have h3 := h2.2 l hl
              rw [if_pos d] at h3
              exact h3
            have hpn : p < hNp h := by
              rw [Nat.testBit_and, Bool.and_eq_true] at c
              exact bits_lt (mayN_lt _ _) c.1
            have had := adf_le (o.2.2.2.2.2.2.2.2 p hpn).2.1 (show hNp h - (j + 1) ≤ 9 by omega)
            rcases Gr_fin o j (clr P p) (clr S l) with r | r
            · omega
            · omega
          · rw [if_neg d]; exact q
        · rw [if_neg c]; exact q
      omega
    · left
      exact Nat.le_antisymm (Gr_le h _ _ _) q
