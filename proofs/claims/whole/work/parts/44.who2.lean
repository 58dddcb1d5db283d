/-! who: the class's loop and the reference's. -/
def whoA (h : Hal) (w : Nw) (l0 : Nat) : Nat := mkM (fun p => decide (0 < whoN h w p l0)) (hNp h)
theorem allP64 {h : Hal} (o : OkH h) : allP h < 64 := by
  have := two6 o.2.2.2.2.2.2.1
  have := allP_lt h
  omega
theorem whoN_lt {h : Hal} {w : Nw} (o : OkH h) {p0 l0 : Nat} (z : p0 < 6 ∧ l0 < 6) : whoN h w p0 l0 < 2 ^ 31 := by
  have hnp := o.2.2.2.2.2.2.1
  exact Nat.lt_of_le_of_lt (Np_le z _ _ _) (Nn_lt (allP64 o) (by omega))
theorem c_who {h : Hal} {w : Nw} (o : OkH h) (nn : OkN h w) {x : Int32} {sa sc sl wy li lv sh : Nat → Int32} (hs : ∀ k, k < nSeen w → sa k = nI (nAft w k) ∧ sc k = nI (nWhe w k) ∧ sl k = nI (nLig w k)) (T : RT h sh li lv) {post : Int32 → (Nat → Int32) → Prop} (kb : ¬ vp_in x (hNl h) → post (-1) wy) (k : ∀ l, l < hNl h → x = nI l → ∀ a, post (nI (whoA h w l)) a) : wp_X4_who x (nI (nSeen w)) sa sc sl wy (nI (hNl h)) (nI (hNp h)) li lv post := by
  unfold wp_X4_who
  have hnp := o.2.2.2.2.2.2.1
  have hnl := o.2.2.2.2.2.1
  refine c_isLamp hnl (fun hi => br_f (by decide) ?_) (fun hi => br_t rfl (kb hi))
  obtain ⟨l0, hl0, e⟩ := vp_ex hi (by omega)
  subst e
  have kf := k l0 hl0 rfl
  have key : ∀ m i, i + m = hNp h → ∀ w1 : Nat → Int32, wp_X4_who_L14 (nI l0) (nI (nSeen w)) sa sc sl (nI (hNl h)) (nI (hNp h)) li lv post (m + 1) (nI (mkM (fun p => decide (0 < whoN h w p l0)) i)) (nI i) w1 := by
    intro m
    induction m with
    | zero =>
      intro i hi w1
      unfold wp_X4_who_L14
      have e : i = hNp h := by omega
      subst e
      exact br_t (nI_le (by omega) (by omega)) (kf w1)
    | succ m ih =>
      intro i hi w1
      unfold wp_X4_who_L14
      refine br_f (nI_ge (by omega) (by omega)) (c_allP o (c_allL o ?_))
      have hp : 2 ^ i < 64 := Nat.pow_lt_pow_right (n := 6) (by decide) (by omega)
      rw [b_one (by omega), b_one (by omega)]
      refine c_cntS o nn hp (Or.inr ⟨l0, by omega, rfl⟩) hs T (fun a => ?_)
      have hbp : (allP h).testBit i = true := by unfold allP; rw [all_bit]; simp; omega
      have hbl : (allL h).testBit l0 = true := by unfold allL; rw [all_bit]; simp; omega
      rw [dif_pow, ← NpC (fun a b (k : sbs a b) => lvN_mono (h := h) k) _ _ _ (allP64 o) hbp hbl]
      have hwl := whoN_lt (w := w) o (show i < 6 ∧ l0 < 6 by omega)
      have ew : Np (lvN h) (okF h w) i l0 (hNp h) (allP h) (allL h) = whoN h w i l0 := rfl
      rw [ew, nI_1]
      have h9 := ih (i + 1) (by omega) a
      rw [mkM] at h9
      refine jn_i _ (fun K hK => pk_le _ 0 (fun q => ?_) (fun q => ?_)) h9
      · have : ¬ 0 < whoN h w i l0 := by omega
        simp [this] at hK
        exact hK
      · rw [fa_or]
        refine nm_e ?_
        simp [q] at hK
        exact hK
  exact ⟨_, key (hNp h) 0 (by omega) wy⟩
/-! the reference's marks -/
def WI (h : Hal) (w : Nw) (l0 : Nat) (D : Nat → Nat → Nat → Nat → Prop) (f : Nat) (le : Nat → Int32) : Prop := (∀ g S, g < 2 ^ hNp h → S < 2 ^ hNl h → le (128 * g + S) = 0 ∨ (le (128 * g + S) = 1 ∧ Rch h w g S)) ∧ (0 < NN h w 0 (allL h) → le (allL h) = 1) ∧ (∀ g S p l, D g S p l → g < 2 ^ hNp h → S < 2 ^ hNl h → le (128 * g + S) = 1 → good h w g S p l → le (128 * (g ||| 2 ^ p) + clr S l) = 1 ∧ (l = l0 → f.testBit p = true)) ∧ f < 64 ∧ ∀ p, f.testBit p = true → ∃ g S, Rch h w g S ∧ good h w g S p l0
def D95 (g0 : Nat) : Nat → Nat → Nat → Nat → Prop := fun g _ _ _ => g < g0
def D109 (g0 n : Nat) : Nat → Nat → Nat → Nat → Prop := fun g S _ _ => g < g0 ∨ (g = g0 ∧ n ≤ S)
def D117 (g0 S0 i : Nat) : Nat → Nat → Nat → Nat → Prop := fun g S p _ => g < g0 ∨ (g = g0 ∧ S0 < S) ∨ (g = g0 ∧ S = S0 ∧ p < i)
def D172 (g0 S0 p0 i : Nat) : Nat → Nat → Nat → Nat → Prop := fun g S p l => g < g0 ∨ (g = g0 ∧ S0 < S) ∨ (g = g0 ∧ S = S0 ∧ p < p0) ∨ (g = g0 ∧ S = S0 ∧ p = p0 ∧ l < i)
theorem WI.imp {h : Hal} {w : Nw} {l0 f : Nat} {D D2 : Nat → Nat → Nat → Nat → Prop} {le : Nat → Int32} (k : WI h w l0 D f le) (hD : ∀ g S p l, D2 g S p l → le (128 * g + S) = 1 → good h w g S p l → D g S p l) : WI h w l0 D2 f le :=
  ⟨k.1, k.2.1, fun g S p l h1 h2 h3 h4 h5 => k.2.2.1 g S p l (hD g S p l h1 h4 h5) h2 h3 h4 h5, k.2.2.2⟩
theorem WI.set {h : Hal} {w : Nw} (o : OkH h) {l0 f g0 S0 p l : Nat} {le : Nat → Int32} (hg : g0 < 2 ^ hNp h) (hS : S0 < 2 ^ hNl h) (k : WI h w l0 (D172 g0 S0 p l) f le) (hm : le (128 * g0 + S0) = 1) (hgd : good h w g0 S0 p l) {f2 : Nat} (hf : f2 = if l = l0 then f ||| 2 ^ p else f) : WI h w l0 (D172 g0 S0 p (l + 1)) f2 (upd le (128 * (g0 ||| 2 ^ p) + clr S0 l) 1) := by
  have hnp := o.2.2.2.2.2.2.1
  have hnl := o.2.2.2.2.2.1
  have h64 := two6 hnp
  have h64l := two6 hnl
  obtain ⟨k1, k2, k3, k4, k5⟩ := k
  have hR : Rch h w g0 S0 := by
    rcases k1 g0 S0 hg hS with q | q
    · rw [hm] at q; exact absurd q (by decide)
    · exact q.2
  obtain ⟨q1, q2, q3, q4, q5, q6⟩ := stepG hg hS o hgd.2.2.1 hgd.2.2.2.1
  have up1 : ∀ x, le x = 1 → upd le (128 * (g0 ||| 2 ^ p) + clr S0 l) 1 x = 1 := by
    intro x hx
    by_cases e : x = 128 * (g0 ||| 2 ^ p) + clr S0 l
    · rw [e, upd_s]
    · rw [upd_n e]; exact hx
  have hfm : ∀ i, f.testBit i = true → f2.testBit i = true := by
    intro i hi
    rw [hf]
    by_cases e : l = l0
    · rw [if_pos e, set_bit, hi]; rfl
    · rw [if_neg e]; exact hi
  refine ⟨?_, fun q => up1 _ (k2 q), ?_, ?_, ?_⟩
  · intro g S h1 h2
    by_cases e : 128 * g + S = 128 * (g0 ||| 2 ^ p) + clr S0 l
    · have e1 : g = g0 ||| 2 ^ p := by omega
      have e2 : S = clr S0 l := by omega
      rw [e, upd_s, e1, e2]
      exact Or.inr ⟨rfl, Rch_go hR hgd⟩
    · rw [upd_n e]; exact k1 g S h1 h2
  · intro g S p1 l1 hD h1 h2 h3 h4
    have hle : g ≤ g0 := by
      rcases hD with q | q | q | q <;> omega
    have ne : 128 * g + S ≠ 128 * (g0 ||| 2 ^ p) + clr S0 l := by omega
    rw [upd_n ne] at h3
    by_cases e : g = g0 ∧ S = S0 ∧ p1 = p ∧ l1 = l
    · obtain ⟨e1, e2, e3, e4⟩ := e
      subst e1 e2 e3 e4
      rw [upd_s]
      refine ⟨rfl, fun e5 => ?_⟩
      rw [hf, if_pos e5, set_bit]; simp
    · have hD2 : D172 g0 S0 p l g S p1 l1 := by
        rcases hD with q | q | q | q
        · exact Or.inl q
        · exact Or.inr (Or.inl q)
        · exact Or.inr (Or.inr (Or.inl q))
        · refine Or.inr (Or.inr (Or.inr ⟨q.1, q.2.1, q.2.2.1, ?_⟩))
          have : ¬ l1 = l := fun e5 => e ⟨q.1, q.2.1, q.2.2.1, e5⟩
          omega
      have h5 := k3 g S p1 l1 hD2 h1 h2 h3 h4
      exact ⟨up1 _ h5.1, fun e5 => hfm _ (h5.2 e5)⟩
  · rw [hf]
    by_cases e : l = l0
    · rw [if_pos e]
      exact Nat.or_lt_two_pow (n := 6) k4 (Nat.pow_lt_pow_right (by decide) (by omega))
    · rw [if_neg e]; exact k4
  · intro i hi
    rw [hf] at hi
    by_cases e : l = l0
    · rw [if_pos e, set_bit, Bool.or_eq_true, decide_eq_true_eq] at hi
      rcases hi with q | q
      · exact k5 i q
      · subst q
        subst e
        exact ⟨g0, S0, hR, hgd⟩
    · rw [if_neg e] at hi; exact k5 i hi
theorem NN_lt {h : Hal} {w : Nw} (o : OkH h) (g S : Nat) : NN h w g S < 2 ^ 31 := by
  have := pcn_s64 (difP_lt o g)
  exact Nn_lt (difP_lt o g) (by omega)
/-- the lamps, of one state and one person -/
theorem m_whoL {h : Hal} {w : Nw} (o : OkH h) {l0 g S p : Nat} (hg : g < 2 ^ hNp h) (hS : S < 2 ^ hNl h) (hp : (lvN h S &&& dif (allP h) g).testBit p = true) (hl0 : l0 < 6) {wo : Nat → Int32} (hT : ∀ g, g < 2 ^ hNp h → ∀ S, S < 2 ^ hNl h → wo (128 * g + S) = nI (NN h w g S)) {K : Int32 → (Nat → Int32) → Prop} {f0 : Nat} {le0 : Nat → Int32} (hm0 : le0 (128 * g + S) = 1) (hI0 : WI h w l0 (D172 g S p 0) f0 le0) (k : ∀ f le, WI h w l0 (D172 g S p 6) f le → le (128 * g + S) = 1 → K (nI f) le) : ∃ n, wp_X5_who_L172 (nI l0) (nI g) (nI S) (nI p) 1 wo K n (nI f0) 0 le0 := by
  have hnp := o.2.2.2.2.2.2.1
  have hnl := o.2.2.2.2.2.1
  have h64 := two6 hnp
  have h64l := two6 hnl
  have hpn : p < hNp h := by
    have := hp
    rw [Nat.testBit_and, Bool.and_eq_true] at this
    exact bits_lt (mayN_lt _ _) this.1
  have hgp : g ||| 2 ^ p < 2 ^ hNp h := Nat.or_lt_two_pow hg (Nat.pow_lt_pow_right (by decide) hpn)
  have hgt : g < g ||| 2 ^ p := by
    have h1 : sbs g (g ||| 2 ^ p) := fun i hi => by rw [set_bit, hi]; rfl
    have h2 := h1.le
    have h3 : g ≠ g ||| 2 ^ p := fun e => by
      have := set_bit g p p
      rw [← e] at this
      rw [Nat.testBit_and, dif_bit] at hp
      rw [this] at hp
      simp at hp
    omega
  have key : ∀ m l, l + m = 6 → ∀ f le, le (128 * g + S) = 1 → WI h w l0 (D172 g S p l) f le → wp_X5_who_L172 (nI l0) (nI g) (nI S) (nI p) 1 wo K (m + 1) (nI f) (nI l) le := by
    intro m
    induction m with
    | zero =>
      intro l hl f le hm hI
      unfold wp_X5_who_L172
      have e : l = 6 := by omega
      subst e
      exact br_t (nI_le (a := 6) (b := 6) (by omega) (by omega)) (k f le hI hm)
    | succ m ih =>
      intro l hl f le hm hI
      unfold wp_X5_who_L172
      have hcl := clr_le S l
      refine br_f (nI_ge (a := l) (b := 6) (by omega) (by omega)) (br_f (by decide) (m_then (by omega) (by omega) (by omega) ?_))
      rw [b_bit (by omega) (by omega), nI_1]
      have hNl := NN_lt (w := w) o (g ||| 2 ^ p) (clr S l)
      have ewo := hT _ hgp (clr S l) (by omega)
      have vin : vp_in (nI (128 * (g ||| 2 ^ p) + clr S l)) 8192 := vp_in_nI (by omega) (by omega)
      rw [ix_nI (by omega), ewo]
      refine jn_i (b01 (S.testBit l && decide (0 < NN h w (g ||| 2 ^ p) (clr S l)))) (fun K hK => ?_) ?_
      · unfold jn
        refine b01_o (fun d => ⟨vin, ?_⟩) (fun d => ?_)
        · rw [d] at hK
          refine pk_le _ 0 (fun q => ?_) (fun q => ?_)
          · have : ¬ 0 < NN h w (g ||| 2 ^ p) (clr S l) := by omega
            simp [this] at hK; exact hK
          · simp [q] at hK; exact hK
        · rw [d] at hK; exact hK
      · by_cases d : S.testBit l = true ∧ 0 < NN h w (g ||| 2 ^ p) (clr S l)
        · have eb : (S.testBit l && decide (0 < NN h w (g ||| 2 ^ p) (clr S l))) = true := by simp [d.1, d.2]
          rw [eb]
          have hgd : good h w g S p l := ⟨by omega, by omega, hp, d.1, d.2⟩
          refine jn_i 1 (fun K hK => br_f (by decide) hK) ⟨vin, ?_⟩
          have hset := WI.set o hg hS hI hm hgd rfl
          have hm2 : upd le (128 * (g ||| 2 ^ p) + clr S l) 1 (128 * g + S) = 1 := by
            rw [upd_n (by omega)]; exact hm
          have h9 := ih (l + 1) (by omega) _ _ hm2 hset
          by_cases e : l = l0
          · rw [if_pos e] at h9
            refine jn_i (jshl 1 (nI p)) (fun K hK => ?_) ?_
            · unfold jn
              refine br_f (by decide) (br_t (by rw [e]) hK)
            · rw [b_set (by omega)]
              exact nm_e h9
          · rw [if_neg e] at h9
            refine jn_i 0 (fun K hK => ?_) ?_
            · unfold jn
              refine br_f (by decide) (br_f (fun q => e (nI_small q (by omega) (by omega))) hK)
            · have e0 : ∀ x : Int32, x ||| 0 = x := fun x => by simp
              rw [e0]
              exact nm_e h9
        · have eb : (S.testBit l && decide (0 < NN h w (g ||| 2 ^ p) (clr S l))) = false := by
            cases hb : S.testBit l with
            | false => rfl
            | true =>
              have : ¬ 0 < NN h w (g ||| 2 ^ p) (clr S l) := fun q => d ⟨hb, q⟩
              simp [this]
          rw [eb]
          refine jn_i (le (128 * (g ||| 2 ^ p) + clr S l)) (fun K hK => br_t rfl ⟨vin, hK⟩) ⟨vin, ?_⟩
          refine jn_i 0 (fun K hK => ?_) ?_
          · unfold jn
            exact br_t rfl hK
          · have e0 : ∀ x : Int32, x ||| 0 = x := fun x => by simp
            rw [e0, fa_upd_same rfl]
            refine nm_e (ih (l + 1) (by omega) f le hm (hI.imp ?_))
            intro g1 S1 p1 l1 hD h1 hgd
            rcases hD with q | q | q | q
            · exact Or.inl q
            · exact Or.inr (Or.inl q)
            · exact Or.inr (Or.inr (Or.inl q))
            · refine Or.inr (Or.inr (Or.inr ⟨q.1, q.2.1, q.2.2.1, ?_⟩))
              have : ¬ l1 = l := fun e5 => by
                obtain ⟨q1, q2, q3, q4⟩ := q
                subst q1 q2 q3 e5
                exact d ⟨hgd.2.2.2.1, hgd.2.2.2.2⟩
              omega
  exact ⟨_, key 6 0 rfl f0 le0 hm0 hI0⟩
theorem m_whoP {h : Hal} {w : Nw} {t : Nat → Int32} (o : OkH h) (T : RM h t) {l0 g S : Nat} (hg : g < 2 ^ hNp h) (hS : S < 2 ^ hNl h) (hl0 : l0 < 6) {mv wo : Nat → Int32} (hmv : mv S = nI (lvN h S)) (hT : ∀ g, g < 2 ^ hNp h → ∀ S, S < 2 ^ hNl h → wo (128 * g + S) = nI (NN h w g S)) {K : Int32 → (Nat → Int32) → Prop} {f0 : Nat} {le0 : Nat → Int32} (hI0 : WI h w l0 (D117 g S 0) f0 le0) (k : ∀ f le, WI h w l0 (D109 g S) f le → K (nI f) le) : ∃ n, wp_X5_who_L117 (nI l0) (nI g) (nI S) t mv wo K n (nI f0) 0 le0 := by
  have hnp := o.2.2.2.2.2.2.1
  have hnl := o.2.2.2.2.2.1
  have h64 := two6 hnp
  have h64l := two6 hnl
  have hvl : lvN h S < 2 ^ hNp h := mayN_lt _ _
  have key : ∀ m i, i + m = hNp h → ∀ f le, WI h w l0 (D117 g S i) f le → wp_X5_who_L117 (nI l0) (nI g) (nI S) t mv wo K (m + 1) (nI f) (nI i) le := by
    intro m
    induction m with
    | zero =>
      intro i hi f le hI
      unfold wp_X5_who_L117
      have e : i = hNp h := by omega
      subst e
      rw [T.2.2.2.2.1]
      refine br_t (nI_le (by omega) (by omega)) (k f le (hI.imp ?_))
      intro g1 S1 p1 l1 hD h1 hgd
      rcases hD with q | q
      · exact Or.inl q
      · by_cases e : S1 = S
        · refine Or.inr (Or.inr ⟨q.1, e, ?_⟩)
          have := hgd.2.2.1
          rw [Nat.testBit_and, Bool.and_eq_true] at this
          exact bits_lt (mayN_lt _ _) this.1
        · exact Or.inr (Or.inl ⟨q.1, by omega⟩)
    | succ m ih =>
      intro i hi f le hI
      unfold wp_X5_who_L117
      rw [T.2.2.2.2.1]
      refine br_f (nI_ge (by omega) (by omega)) (m_state ⟨vp_in_nI (by omega) (by omega), ?_⟩)
      rw [ix_nI (by omega), ix_nI (by omega), hmv]
      refine ⟨fun hm => ⟨vp_in_nI (by omega) (by omega), ?_⟩, fun hm => ?_⟩
      · have hda : (dif (lvN h S) g).testBit i = (lvN h S &&& dif (allP h) g).testBit i := dif_and hvl
        refine jn_i (b01 ((lvN h S &&& dif (allP h) g).testBit i)) (fun K hK => ⟨fun c => ?_, fun c => ?_⟩) ?_
        · have c1 := (goesB (by omega) (by omega)).mp c
          rw [hda] at c1
          rw [c1] at hK; exact hK
        · have c1 : (lvN h S &&& dif (allP h) g).testBit i = true := by
            cases hb : (lvN h S &&& dif (allP h) g).testBit i with
            | true => rfl
            | false => rw [← hda] at hb; exact absurd ((goesB (by omega) (by omega)).mpr hb) c
          rw [c1] at hK; exact hK
        unfold jn
        rw [nI_1]
        by_cases c : (lvN h S &&& dif (allP h) g).testBit i = true
        · rw [c]
          refine m_whoL o hg hS c hl0 hT hm (hI.imp ?_) (fun f2 le2 hI2 _ => ih (i + 1) (by omega) f2 le2 (hI2.imp ?_))
          · intro g1 S1 p1 l1 hD h1 hgd
            rcases hD with q | q | q | q
            · exact Or.inl q
            · exact Or.inr (Or.inl q)
            · exact Or.inr (Or.inr q)
            · exact absurd q.2.2.2 (Nat.not_lt_zero _)
          · intro g1 S1 p1 l1 hD h1 hgd
            rcases hD with q | q | q
            · exact Or.inl q
            · exact Or.inr (Or.inl q)
            · by_cases e : p1 = i
              · exact Or.inr (Or.inr (Or.inr ⟨q.1, q.2.1, e, hgd.2.1⟩))
              · exact Or.inr (Or.inr (Or.inl ⟨q.1, q.2.1, by omega⟩))
        · have c0 : (lvN h S &&& dif (allP h) g).testBit i = false := by simpa using c
          refine ⟨1, ?_⟩
          unfold wp_X5_who_L172
          refine br_f (by decide) ?_
          rw [c0]
          refine br_t rfl (ih (i + 1) (by omega) f le (hI.imp ?_))
          intro g1 S1 p1 l1 hD h1 hgd
          rcases hD with q | q | q
          · exact Or.inl q
          · exact Or.inr (Or.inl q)
          · refine Or.inr (Or.inr ⟨q.1, q.2.1, ?_⟩)
            have : ¬ p1 = i := fun e5 => by
              obtain ⟨q1, q2, q3⟩ := q
              subst q1 q2 e5
              exact c hgd.2.2.1
            omega
      · refine k f le (hI.imp ?_)
        intro g1 S1 p1 l1 hD h1 hgd
        rcases hD with q | q
        · exact Or.inl q
        · by_cases e : S1 = S
          · obtain ⟨q1, q2⟩ := q
            subst q1 e
            exact absurd h1 hm
          · exact Or.inr (Or.inl ⟨q.1, by omega⟩)
  exact ⟨_, key (hNp h) 0 (by omega) f0 le0 hI0⟩
theorem m_who {h : Hal} {w : Nw} {t s : Nat → Int32} (o : OkH h) (nn : OkN h w) (T : RM h t) (R : RS w s) {x : Int32} {li mv sh wo le : Nat → Int32} {post : Int32 → (Nat → Int32) → (Nat → Int32) → (Nat → Int32) → (Nat → Int32) → (Nat → Int32) → Prop} (kb : ¬ vp_in x (hNl h) → post (-1) li mv sh wo le) (k : ∀ l, l < hNl h → x = nI l → ∀ a b c d e, post (nI (whoA h w l)) a b c d e) : wp_X5_who x t s li mv sh wo le post := by
  unfold wp_X5_who
  have hnp := o.2.2.2.2.2.2.1
  have hnl := o.2.2.2.2.2.1
  have h64 := two6 hnp
  have h64l := two6 hnl
  have hpp := p2pos (hNp h)
  have hpl := p2pos (hNl h)
  have hAP := allP_lt h
  have hAL := allL_lt h
  refine m_isLamp o T (fun hi => br_f (by decide) ?_) (fun hi => br_t rfl (kb hi))
  obtain ⟨l0, hl0, e⟩ := vp_ex hi (by omega)
  subst e
  refine m_hist o nn T R (fun li2 mv2 sh2 wo2 hLT hTB => ?_)
  have hT : ∀ g, g < 2 ^ hNp h → ∀ S, S < 2 ^ hNl h → wo2 (128 * g + S) = nI (NN h w g S) := fun g hg S hS => hTB g hg S hS
  unfold jn
  -- all marks are taken away
  have clear : ∀ K : (Nat → Int32) → Prop, (∀ le2 : Nat → Int32, (∀ g S, g < 2 ^ hNp h → S < 2 ^ hNl h → le2 (128 * g + S) = 0) → K le2) → ∃ n, wp_X5_who_L16 t K n 0 le := by
    intro K hK
    have key : ∀ m i, i + m = 2 ^ hNp h → ∀ le1 : Nat → Int32, (∀ g S, g < i → S < 2 ^ hNl h → le1 (128 * g + S) = 0) → wp_X5_who_L16 t K (m + 1) (nI i) le1 := by
      intro m
      induction m with
      | zero =>
        intro i hi le1 h1
        unfold wp_X5_who_L16
        have e : i = 2 ^ hNp h := by omega
        subst e
        exact m_allP o T (br_t (nI_lt hAP (by omega)) (hK le1 h1))
      | succ m ih =>
        intro i hi le1 h1
        unfold wp_X5_who_L16
        refine m_allP o T (br_f (nI_nlt (by unfold allP; omega) (by omega)) ?_)
        unfold jn
        have key2 : ∀ m2 S, S + m2 = 2 ^ hNl h → ∀ le2 : Nat → Int32, (∀ g S2, g < i → S2 < 2 ^ hNl h → le2 (128 * g + S2) = 0) → (∀ S2, S2 < S → le2 (128 * i + S2) = 0) → wp_X5_who_L26 (nI i) t (fun a => wp_X5_who_L16 t K (m + 1) (nI i + 1) a) (m2 + 1) (nI S) le2 := by
          intro m2
          induction m2 with
          | zero =>
            intro S hS le2 h2 h3
            unfold wp_X5_who_L26
            have e : S = 2 ^ hNl h := by omega
            subst e
            refine m_allL o T (br_t (nI_lt hAL (by omega)) ?_)
            rw [nI_1]
            refine ih (i + 1) (by omega) le2 ?_
            intro g S2 hg2 hS2
            rcases Nat.lt_or_ge g i with q | q
            · exact h2 g S2 q hS2
            · have : g = i := by omega
              rw [this]; exact h3 S2 hS2
          | succ m2 ih2 =>
            intro S hS le2 h2 h3
            unfold wp_X5_who_L26
            refine m_allL o T (br_f (nI_nlt (by unfold allL; omega) (by omega)) (m_state ⟨vp_in_nI (by omega) (by omega), ?_⟩))
            rw [nI_1 S, ix_nI (by omega)]
            refine ih2 (S + 1) (by omega) _ ?_ ?_
            · intro g S2 hg2 hS2
              rw [upd_n (by omega)]; exact h2 g S2 hg2 hS2
            · intro S2 hS2
              by_cases q : S2 = S
              · subst q; rw [upd_s]
              · rw [upd_n (by omega)]; exact h3 S2 (by omega)
        exact ⟨_, key2 (2 ^ hNl h) 0 (by omega) le1 h1 (fun S2 hS2 => by omega)⟩
    exact ⟨_, key (2 ^ hNp h) 0 (by omega) le (fun g S hg => by omega)⟩
  refine clear _ (fun le2 hz => ?_)
  refine m_allL o T (m_state (a := 0) (m_allL o T (m_state (a := 0) ⟨vp_in_nI (by omega) (by omega), ?_⟩)))
  rw [ix_nI (by omega), show wo2 (128 * 0 + allL h) = nI (NN h w 0 (allL h)) from hT 0 hpp (allL h) hAL]
  have hN0 := NN_lt (w := w) o 0 (allL h)
  -- the loops
  have loops : ∀ le1 : Nat → Int32, WI h w l0 (D95 0) 0 le1 → ∃ n, wp_X5_who_L95 (nI l0) t li2 mv2 sh2 wo2 post n 0 0 le1 := by
    intro le1 hI
    have key : ∀ m g, g + m = 2 ^ hNp h → ∀ f le3, WI h w l0 (D95 g) f le3 → wp_X5_who_L95 (nI l0) t li2 mv2 sh2 wo2 post (m + 1) (nI f) (nI g) le3 := by
      intro m
      induction m with
      | zero =>
        intro g hg f le3 hI3
        unfold wp_X5_who_L95
        have e : g = 2 ^ hNp h := by omega
        subst e
        refine m_allP o T (br_t (nI_lt hAP (by omega)) ?_)
        have ef : f = whoA h w l0 := by
          obtain ⟨i1, i2, i3, i4, i5⟩ := hI3
          have comp : ∀ k g S, RchK h w k g S → le3 (128 * g + S) = 1 := by
            intro k
            induction k with
            | zero =>
              rintro g S ⟨h1, h2, h3⟩
              subst h1
              subst h2
              have := i2 h3
              rw [Nat.mul_zero, Nat.zero_add]
              exact this
            | succ k ihk =>
              rintro g2 S2 ⟨g, S, p, l, h1, h2, h3, h4⟩
              obtain ⟨a, b, c⟩ := RchK_ok o k g S h1
              subst h3
              subst h4
              exact (i3 g S p l a a b (ihk g S h1) h2).1
          apply Nat.eq_of_testBit_eq
          intro p
          unfold whoA
          rw [mkM_bit, Bool.eq_iff_iff, Bool.and_eq_true, decide_eq_true_eq, decide_eq_true_eq]
          constructor
          · intro hb
            obtain ⟨g, S, r, q⟩ := i5 p hb
            refine ⟨?_, (who_iff o ⟨q.1, by omega⟩).mp ⟨g, S, r, q⟩⟩
            have := q.2.2.1
            rw [Nat.testBit_and, Bool.and_eq_true] at this
            exact bits_lt (mayN_lt _ _) this.1
          · rintro ⟨hp, hq⟩
            obtain ⟨g, S, ⟨k, r⟩, q⟩ := (who_iff o ⟨by omega, by omega⟩).mpr hq
            obtain ⟨a, b, c⟩ := RchK_ok o k g S r
            exact (i3 g S p l0 a a b (comp k g S r) q).2 rfl
        rw [ef]
        exact k l0 hl0 rfl _ _ _ _ _
      | succ m ih =>
        intro g hg f le3 hI3
        unfold wp_X5_who_L95
        refine m_allP o T (br_f (nI_nlt (by unfold allP; omega) (by omega)) (m_allL o T ?_))
        unfold jn
        have key2 : ∀ n, n ≤ 2 ^ hNl h → ∀ f le4, WI h w l0 (D109 g n) f le4 → wp_X5_who_L109 (nI l0) (nI g) t mv2 wo2 (fun a b => wp_X5_who_L95 (nI l0) t li2 mv2 sh2 wo2 post (m + 1) a (nI g + 1) b) (n + 1) (nI f) (nI n - 1) le4 := by
          intro n
          induction n with
          | zero =>
            intro hn f le4 hI4
            unfold wp_X5_who_L109
            refine br_t (by decide) ?_
            rw [nI_1]
            refine ih (g + 1) (by omega) f le4 (hI4.imp ?_)
            intro g1 S1 p1 l1 hD h1 hgd
            have hD1 : g1 < g + 1 := hD
            rcases Nat.lt_or_ge g1 g with q | q
            · exact Or.inl q
            · exact Or.inr ⟨by omega, Nat.zero_le _⟩
          | succ n ihn =>
            intro hn f le4 hI4
            unfold wp_X5_who_L109
            rw [nI_pred]
            refine br_f (nI_pos (by omega)) ?_
            unfold jn
            have em : nI n + (-1) = nI n - 1 := by rw [Int32.sub_eq_add_neg]
            rw [em]
            refine m_whoP o T (by omega) (by omega) (by omega) (hLT.at o (by omega)).2 hT (hI4.imp ?_) (fun f2 le5 hI5 => ihn (by omega) f2 le5 hI5)
            intro g1 S1 p1 l1 hD h1 hgd
            rcases hD with q | q | q
            · exact Or.inl q
            · exact Or.inr ⟨q.1, q.2⟩
            · exact absurd q.2.2 (Nat.not_lt_zero _)
        have h5 := key2 (2 ^ hNl h) (Nat.le_refl _) f le3 ⟨hI3.1, hI3.2.1, fun g1 S1 p1 l1 hD h1 h2 h3 h4 => by
          rcases hD with q | q
          · exact hI3.2.2.1 g1 S1 p1 l1 q h1 h2 h3 h4
          · omega, hI3.2.2.2⟩
        have e1 : nI (2 ^ hNl h) - 1 = nI (allL h) := pk_sub (b := 1) hpl
        rw [e1] at h5
        exact ⟨_, h5⟩
    exact ⟨_, key (2 ^ hNp h) 0 (by omega) 0 le1 hI⟩
  have start : ∀ y : Int32, (y = 0 ∧ ¬ 0 < NN h w 0 (allL h)) ∨ (y = 1 ∧ 0 < NN h w 0 (allL h)) → WI h w l0 (D95 0) 0 (upd le2 (128 * 0 + allL h) y) := by
    intro y hy
    refine ⟨?_, ?_, ?_, by omega, ?_⟩
    · intro g S hg hS
      by_cases e : 128 * g + S = 128 * 0 + allL h
      · rw [e, upd_s]
        rcases hy with q | q
        · exact Or.inl q.1
        · refine Or.inr ⟨q.1, ?_⟩
          have e1 : g = 0 := by omega
          have e2 : S = allL h := by omega
          exact ⟨0, e1, e2, q.2⟩
      · rw [upd_n e]; exact Or.inl (hz g S hg hS)
    · intro q
      rw [show 128 * 0 + allL h = allL h by omega, upd_s]
      rcases hy with r | r
      · exact absurd q r.2
      · exact r.1
    · intro g S p l hD
      exact absurd hD (Nat.not_lt_zero _)
    · intro p hp
      simp at hp
  refine pk_le _ 0 (fun q => ⟨vp_in_nI (by omega) (by omega), ?_⟩) (fun q => ⟨vp_in_nI (by omega) (by omega), ?_⟩)
  · exact loops _ (start 0 (Or.inl ⟨rfl, by omega⟩))
  · exact loops _ (start 1 (Or.inr ⟨rfl, q⟩))
