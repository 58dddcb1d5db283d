/-! The reference's steps over cells. -/
def rst (W s c m : Nat) : Nat := (((m ||| (if s.testBit c && decide (0 < c % W) then 2 ^ (c - 1) else 0)) ||| (if s.testBit c && decide (c % W < W - 1) then 2 ^ (c + 1) else 0)) ||| (if s.testBit c && decide (W ≤ c) then 2 ^ (c - W) else 0)) ||| (if s.testBit c then 2 ^ (c + W) else 0)
def rfo (W s : Nat) : Nat → Nat
  | 0 => s
  | c + 1 => rst W s c (rfo W s c)
def rfOk (W H s : Nat) : Bool := decide (2 ^ (W * H) ≤ s) || (rfo W s (W * H) &&& (2 ^ (W * H) - 1)) == ((s ||| besN W H s) &&& (2 ^ (W * H) - 1))
theorem rf_tab0 : ∀ W, W < 5 → 1 ≤ W → ∀ H, H < 4 → ∀ a, a < 64 → ∀ b, b < 64 → rfOk W H (64 * a + b) = true := by decide +kernel
theorem rf_tab : ∀ W, W < 5 → 1 ≤ W → ∀ H, H < 4 → ∀ s, s < 2 ^ (W * H) → rfo W s (W * H) &&& (2 ^ (W * H) - 1) = (s ||| besN W H s) &&& (2 ^ (W * H) - 1) := by
  intro W h1 h2 H h3 s hs
  have h4 : W * H ≤ 4 * 3 := Nat.mul_le_mul (by omega) (by omega)
  have h5 := two12 h4
  have h := rf_tab0 W h1 h2 H h3 (s / 64) (by omega) (s % 64) (by omega)
  rw [show 64 * (s / 64) + s % 64 = s by omega] at h
  unfold rfOk at h
  rw [Bool.or_eq_true] at h
  rcases h with h | h
  · have := of_decide_eq_true h; omega
  · exact eq_of_beq h
theorem and_low {a g n : Nat} (hg : g < 2 ^ n) : a &&& g = (a &&& (2 ^ n - 1)) &&& g := by
  apply Nat.eq_of_testBit_eq
  intro i
  rw [Nat.testBit_and, Nat.testBit_and, Nat.testBit_and, all_bit]
  by_cases h : i < n
  · simp [h]
  · have h2 : g.testBit i = false := Nat.testBit_lt_two_pow (Nat.lt_of_lt_of_le hg (p2lt (by omega)))
    simp [h2]
theorem rf_wid {W H s g : Nat} (hW : 1 ≤ W ∧ W ≤ 4) (hH : H ≤ 3) (hs : s < 2 ^ (W * H)) (hg : g < 2 ^ (W * H)) : s ||| (rfo W s (W * H) &&& g) = widN W H s g := by
  rw [and_low hg, rf_tab W (by omega) hW.1 H (by omega) s hs, ← and_low hg]
  unfold widN
  apply Nat.eq_of_testBit_eq
  intro i
  simp only [Nat.testBit_or, Nat.testBit_and]
  cases s.testBit i <;> cases (besN W H s).testBit i <;> cases g.testBit i <;> rfl
theorem jn_i {F : (Int32 → Prop) → Prop} {K : Int32 → Prop} (v : Int32) (hF : ∀ K : Int32 → Prop, K v → F K) (hK : K v) : jn F K := hF K hK
theorem rem_nI {a d : Nat} (ha : a < 2 ^ 31) (h0 : 0 < d) (hd : d < 2 ^ 31) : jrem (nI a) (nI d) = nI (a % d) := pk_rem ha h0 hd
theorem nz {d : Nat} (h0 : 0 < d) (hd : d < 2 ^ 31) : ¬ nI d = 0 := nI_ne0 h0 hd
theorem b01_z {b : Bool} {A B : Prop} (f : b = false → A) (t : b = true → B) : (b01 b = 0 → A) ∧ (¬ b01 b = 0 → B) := ⟨fun c => f (b01_0.mp c), fun c => t (by cases b; exact absurd rfl c; rfl)⟩
theorem b01_o {b : Bool} {A B : Prop} (t : b = true → A) (f : b = false → B) : (b01 b = 1 → A) ∧ (¬ b01 b = 1 → B) := ⟨fun c => t (b01_1.mp c), fun c => f (by cases b; rfl; exact absurd rfl c)⟩
theorem m_wider {h : Hal} {t : Nat → Int32} (o : OkH h) (R : RM h t) {s g : Nat} (hs : s < 2 ^ hC h) (hg : g < 2 ^ hC h) {post : Int32 → Prop} (k : post (nI (widN (hW h) (hH h) s g))) : wp_X5_wider (nI s) (nI g) t post := by
  unfold wp_X5_wider
  have h12 := o.c12
  have kW := o.1
  have e := rf_wid kW o.2.1.2 hs hg
  have h4 := two12 h12.2
  rw [R.1]
  unfold jn
  have key : ∀ m i, i + m = hC h → wp_X5_wider_L13 (nI s) (nI (hW h)) t (fun x4_148 => post (nI s ||| (x4_148 &&& nI g))) (m + 1) (nI (rfo (hW h) s i)) (nI i) := by
    intro m
    induction m with
    | zero =>
      intro i hi
      unfold wp_X5_wider_L13
      refine m_cells R (br_t (nI_le (by omega) (by omega)) ?_)
      have ei : i = hW h * hH h := by show i = hC h; omega
      rw [ei, fa_and, fa_or, e]; exact k
    | succ m ih =>
      intro i hi
      unfold wp_X5_wider_L13
      refine m_cells R (br_f (nI_ge (by omega) (by omega)) ?_)
      rw [b_bit (by omega) (by omega)]
      refine jn_i (b01 (s.testBit i)) (fun K hK => b01_o (fun c => by rw [c] at hK; exact hK) (fun c => by rw [c] at hK; exact hK)) ?_
      have hd := Nat.mod_lt i (show 0 < hW h by omega)
      have er : jrem (nI i) (nI (hW h)) = nI (i % hW h) := rem_nI (by omega) (by omega) (by omega)
      have e0 : (0 : Int32) = nI 0 := rfl
      rw [er]
      refine jn_i (nI (if s.testBit i && decide (0 < i % hW h) then 2 ^ (i - 1) else 0)) (fun K hK => ?_) ?_
      · unfold jn
        refine b01_z (fun c => by rw [c] at hK; exact hK) (fun c => ⟨nz (by omega) (by omega), ?_⟩)
        rw [c, Bool.true_and] at hK
        refine ⟨fun d => ?_, fun d => ?_⟩
        · have : ¬ 0 < i % hW h := fun q => nI_nle q (by omega) d
          simp only [this, decide_false] at hK; exact hK
        · have q : 0 < i % hW h := by
            rcases Nat.eq_zero_or_pos (i % hW h) with q | q
            · rw [q] at d; exact absurd (by decide) d
            · exact q
          have hi1 : 1 ≤ i := by
            rcases Nat.eq_zero_or_pos i with z | z
            · rw [z, Nat.zero_mod] at q; omega
            · exact z
          have e1 : nI i - 1 = nI (i - 1) := pk_sub (a := i) (b := 1) hi1
          rw [e1, b_one (by omega)]
          simp only [q, decide_true] at hK; exact hK
      rw [fa_or]
      refine nm_e ?_
      refine jn_i (nI (if s.testBit i && decide (i % hW h < hW h - 1) then 2 ^ (i + 1) else 0)) (fun K hK => ?_) ?_
      · unfold jn
        refine b01_z (fun c => by rw [c] at hK; exact hK) (fun c => ⟨nz (by omega) (by omega), ?_⟩)
        rw [c, Bool.true_and] at hK
        have e1 : nI (hW h) - 1 = nI (hW h - 1) := pk_sub (a := hW h) (b := 1) (by omega)
        rw [e1]
        refine ⟨fun d => ?_, fun d => ?_⟩
        · have d' := (nI_leI (by omega) (by omega)).mp d
          have : ¬ i % hW h < hW h - 1 := by omega
          simp only [this, decide_false] at hK; exact hK
        · have d' : ¬ hW h - 1 ≤ i % hW h := fun q => d ((nI_leI (by omega) (by omega)).mpr q)
          have q : i % hW h < hW h - 1 := by omega
          rw [nI_1, b_one (by omega)]
          simp only [q, decide_true] at hK; exact hK
      rw [fa_or]
      refine nm_e ?_
      refine jn_i (nI (if s.testBit i && decide (hW h ≤ i) then 2 ^ (i - hW h) else 0)) (fun K hK => ?_) ?_
      · unfold jn
        refine b01_z (fun c => by rw [c] at hK; exact hK) (fun c => ?_)
        rw [c, Bool.true_and] at hK
        refine ⟨fun d => ?_, fun d => ?_⟩
        · have d' := (nI_ltI (by omega) (by omega)).mp d
          have : ¬ hW h ≤ i := by omega
          simp only [this, decide_false] at hK; exact hK
        · have d' : ¬ i < hW h := fun q => d ((nI_ltI (by omega) (by omega)).mpr q)
          have q : hW h ≤ i := by omega
          rw [pk_sub q, b_one (by omega)]
          simp only [q, decide_true] at hK; exact hK
      rw [fa_or]
      refine nm_e ?_
      refine jn_i (nI (if s.testBit i then 2 ^ (i + hW h) else 0)) (fun K hK => ?_) ?_
      · refine b01_z (fun c => by rw [c] at hK; exact hK) (fun c => ?_)
        rw [nI_add, b_one (by omega)]
        rw [c] at hK; exact hK
      rw [fa_or]
      refine nm_e ?_
      rw [nI_1]
      exact ih (i + 1) (by omega)
  exact ⟨_, key (hC h) 0 (by omega)⟩
theorem m_shines {h : Hal} {t : Nat → Int32} (o : OkH h) (R : RM h t) {c r : Nat} (hc : c < hC h) (hr : r ≤ 9) {post : Int32 → Prop} (k : post (nI (shN h c r))) : wp_X5_shines (nI c) (nI r) t post := by
  unfold wp_X5_shines
  have h12 := o.c12
  have h4 := two12 h12.2
  have hw := o.2.2.1
  refine m_cells R ?_
  have e1 : jshl 1 (nI (hC h)) - 1 = nI (2 ^ hC h - 1) := all1 (by omega)
  rw [e1, R.2.2.2.2.2.1, b_andn (by omega), b_one (by omega)]
  refine nm_e ?_
  have key : ∀ m i, i + m = r → wp_X5_shines_L26 (nI r) (nI (dif (2 ^ hC h - 1) (hWal h))) t post (m + 1) (nI (itr (fun x => widN (hW h) (hH h) x (grd h)) i (2 ^ c))) (nI i) := by
    intro m
    induction m with
    | zero =>
      intro i hi
      unfold wp_X5_shines_L26
      have e : i = r := by omega
      subst e
      exact br_t (nI_le (by omega) (by omega)) k
    | succ m ih =>
      intro i hi
      have hx := itr_lt (W := hW h) (H := hH h) (grd_lt h) i (2 ^ c) (Nat.pow_lt_pow_right (by decide) hc)
      unfold wp_X5_shines_L26
      refine br_f (nI_ge (by omega) (by omega)) (m_wider o R hx (grd_lt h) ?_)
      rw [nI_1]
      have := ih (i + 1) (by omega)
      rw [itr_succ] at this
      exact this
  exact ⟨_, key r 0 (by omega)⟩
theorem pcn_sub {a b : Nat} (hab : ∀ i, a.testBit i = true → b.testBit i = true) : pcn a ≤ pcn b := fb_ct_sub (fun k _ h => hab k h)
theorem pcn_split {a b : Nat} (hab : ∀ i, a.testBit i = true → b.testBit i = true) : pcn b = pcn a + pcn (dif b a) := by
  unfold pcn
  rw [← fb_ct_or]
  · apply fb_ct_cong
    intro k _
    rw [dif_bit]
    cases ha : a.testBit k
    · simp
    · simp [hab k ha]
  · intro k _ hh
    rw [dif_bit, hh.1] at hh
    simp at hh
theorem pcn_strict {a b : Nat} (hab : ∀ i, a.testBit i = true → b.testBit i = true) (hb : b < 2 ^ 12) (hne : b ≠ a) : pcn a < pcn b := by
  rw [pcn_split hab]
  have : 0 < pcn (dif b a) := by
    unfold pcn
    rw [fb_ct_pos]
    apply Classical.byContradiction
    intro hno
    apply hne
    apply Nat.eq_of_testBit_eq
    intro i
    cases hbi : b.testBit i with
    | false =>
      cases hai : a.testBit i with
      | false => rfl
      | true => rw [hab i hai] at hbi; cases hbi
    | true =>
      cases hai : a.testBit i with
      | true => rfl
      | false => exact absurd ⟨i, bits_lt hb hbi, by rw [dif_bit, hbi, hai]; rfl⟩ hno
  omega
theorem widN_sub (W H s g : Nat) : ∀ i, s.testBit i = true → (widN W H s g).testBit i = true := by
  intro i h
  unfold widN
  rw [Nat.testBit_or, h]; rfl
theorem itr12 {W H x g : Nat} (hx : x < 2 ^ 12) (hg : g < 2 ^ 12) : widN W H (itr (fun y => widN W H y g) 12 x) g = itr (fun y => widN W H y g) 12 x := by
  apply Classical.byContradiction
  intro hne
  have step : ∀ i, i ≤ 12 → widN W H (itr (fun y => widN W H y g) i x) g ≠ itr (fun y => widN W H y g) i x := by
    intro i hi he
    apply hne
    have e2 : itr (fun y => widN W H y g) 12 x = itr (fun y => widN W H y g) i x := by
      rw [show 12 = i + (12 - i) by omega, itr_add, itr_fix he]
    rw [e2]; exact he
  have grow : ∀ i, i ≤ 13 → i ≤ pcn (itr (fun y => widN W H y g) i x) := by
    intro i
    induction i with
    | zero => intro _; omega
    | succ i ih =>
      intro hi
      have h1 := ih (by omega)
      have h2 := pcn_strict (widN_sub W H (itr (fun y => widN W H y g) i x) g) (widN_lt (itr_lt hg i x hx) hg) (step i (by omega))
      rw [itr_succ]; omega
  have := grow 13 (by omega)
  have := pcn_le (itr (fun y => widN W H y g) 13 x)
  omega
/-- by law 1: the light cells from which light leads to a door -/
def outN (h : Hal) (L : Nat) : Nat := if hLaw h = 1 then itr (fun x => widN (hW h) (hH h) x L) 12 (hDor h &&& L) else L
theorem m_toDoors {h : Hal} {t : Nat → Int32} (o : OkH h) (R : RM h t) {L : Nat} (hL : L < 2 ^ hC h) {post : Int32 → Prop} (k : post (nI (itr (fun x => widN (hW h) (hH h) x L) 12 (hDor h &&& L)))) : wp_X5_toDoors (nI L) t post := by
  unfold wp_X5_toDoors
  have h12 := o.c12
  have h4 := two12 h12.2
  rw [R.2.2.2.2.2.2.1, fa_and, Nat.and_comm]
  refine nm_e ?_
  have hx0 : hDor h &&& L < 2 ^ hC h := Nat.and_lt_two_pow _ hL
  have key : ∀ m i, i + m = 12 → ∃ n, wp_X5_toDoors_L12 (nI L) t post n (nI (itr (fun x => widN (hW h) (hH h) x L) i (hDor h &&& L))) 1 := by
    intro m
    induction m with
    | zero =>
      intro i hi
      have e : i = 12 := by omega
      subst e
      refine ⟨2, ?_⟩
      unfold wp_X5_toDoors_L12
      refine br_f (by decide) (m_wider o R (itr_lt hL 12 _ hx0) hL ?_)
      rw [itr12 (up12 hx0 h12.2) (up12 hL h12.2)]
      refine jn_i 0 (fun K hK => br_t rfl hK) ?_
      unfold wp_X5_toDoors_L12
      exact br_t rfl k
    | succ m ih =>
      intro i hi
      obtain ⟨n, hn⟩ := ih (i + 1) (by omega)
      have hx := itr_lt (W := hW h) (H := hH h) hL i _ hx0
      have hx1 := itr_lt (W := hW h) (H := hH h) hL (i + 1) _ hx0
      by_cases he : widN (hW h) (hH h) (itr (fun x => widN (hW h) (hH h) x L) i (hDor h &&& L)) L = itr (fun x => widN (hW h) (hH h) x L) i (hDor h &&& L)
      · refine ⟨2, ?_⟩
        unfold wp_X5_toDoors_L12
        refine br_f (by decide) (m_wider o R hx hL ?_)
        rw [he]
        refine jn_i 0 (fun K hK => br_t rfl hK) ?_
        unfold wp_X5_toDoors_L12
        refine br_t rfl ?_
        have e2 : itr (fun x => widN (hW h) (hH h) x L) 12 (hDor h &&& L) = itr (fun x => widN (hW h) (hH h) x L) i (hDor h &&& L) := by
          rw [show 12 = i + (m + 1) by omega, itr_add, itr_fix he]
        rw [← e2]; exact k
      · refine ⟨n + 1, ?_⟩
        unfold wp_X5_toDoors_L12
        refine br_f (by decide) (m_wider o R hx hL ?_)
        rw [← itr_succ (fun x => widN (hW h) (hH h) x L)]
        rw [← itr_succ (fun x => widN (hW h) (hH h) x L)] at he
        refine jn_i 1 (fun K hK => br_f (fun c => he (nI_small c (by omega) (by omega))) hK) ?_
        exact hn
  exact key 12 0 rfl
