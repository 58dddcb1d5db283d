/-! order: the reference's answer and the class's. -/
def upI (q : Nat → Bool) (m : Nat) : Int32 := if up q m = 36 then (-9) else nI (up q m)
theorem upI_s (q : Nat → Bool) (n : Nat) (hn : n < 36) : upI q (36 - n) = if q n then nI n else upI q (36 - (n + 1)) := by
  have e1 : 36 - n = (36 - (n + 1)) + 1 := by omega
  have e2 : 35 - (36 - (n + 1)) = n := by omega
  unfold upI
  rw [e1, up, e2]
  by_cases c : q n = true
  · rw [if_pos c, if_pos c, if_neg (by omega)]
  · rw [if_neg c, if_neg c]
theorem m_ordStep {h : Hal} (o : OkH h) {mv wo : Nat → Int32} {g S : Nat} (hg : g < 2 ^ hNp h) (hS : S < 2 ^ hNl h) (hmv : ∀ lit, lit < 2 ^ hNl h → mv lit = nI (lvN h lit)) (hwo : ∀ g lit, g < 2 ^ hNp h → lit < 2 ^ hNl h → wo (128 * g + lit) = nI (D (lvN h) (dif (allP h) g) lit)) (hD : 0 < D (lvN h) (dif (allP h) g) S) {K : Int32 → Prop} (k : K (nI (ordC (lvN h) (dif (allP h) g) S))) : ∃ n, wp_X5_order_L66 (nI g) (nI S) mv wo K n (-9) 35 := by
  have h64 := two6 o.2.2.2.2.2.2.1
  have h64l := two6 o.2.2.2.2.2.1
  have hv := fun a b (k : sbs a b) => lvN_mono (h := h) k
  have hPl : dif (allP h) g < 64 := by
    have := dif_le (allP h) g
    have := allP_lt h
    omega
  have hvl : lvN h S < 2 ^ hNp h := mayN_lt _ _
  have hsp := ordC_spec hv hPl (show S < 64 by omega) hD
  have hDs := D_16 (lvN h) (dif (allP h) g) S
  have key : ∀ n, n ≤ 36 → wp_X5_order_L66 (nI g) (nI S) mv wo K (n + 1) (upI (chk (lvN h) (dif (allP h) g) S) (36 - n)) (nI n - 1) := by
    intro n
    induction n with
    | zero =>
      intro hn
      unfold wp_X5_order_L66
      refine br_t (by decide) ?_
      have e : upI (chk (lvN h) (dif (allP h) g) S) (36 - 0) = nI (ordC (lvN h) (dif (allP h) g) S) := by
        unfold upI
        have h1 : up (chk (lvN h) (dif (allP h) g) S) (36 - 0) = ordC (lvN h) (dif (allP h) g) S := rfl
        rw [h1, if_neg (by omega)]
      rw [e]; exact k
    | succ n ih =>
      intro hn
      unfold wp_X5_order_L66
      rw [nI_pred]
      have ed : nI n / 6 = nI (n / 6) := pk_div (d := 6) (by omega) (by omega) (by omega)
      have er : jrem (nI n) 6 = nI (n % 6) := rem_nI (d := 6) (by omega) (by omega) (by omega)
      rw [ed, er, ix_nI (by omega), hmv S hS]
      refine br_f (nI_pos (by omega)) ⟨vp_in_nI (by omega) (by omega), ?_⟩
      have hda : (dif (lvN h S) g).testBit (n / 6) = (lvN h S &&& dif (allP h) g).testBit (n / 6) := dif_and hvl
      refine jn_i (b01 ((lvN h S &&& dif (allP h) g).testBit (n / 6) && S.testBit (n % 6))) (fun K hK => ?_) ?_
      · unfold jn
        refine ⟨fun c => ?_, fun c => ?_⟩
        · have c1 := (goesB (by omega) (by omega)).mp c
          rw [hda] at c1
          rw [c1] at hK; exact hK
        · have c1 : (lvN h S &&& dif (allP h) g).testBit (n / 6) = true := by
            cases hb : (lvN h S &&& dif (allP h) g).testBit (n / 6) with
            | true => rfl
            | false => rw [← hda] at hb; exact absurd ((goesB (by omega) (by omega)).mpr hb) c
          rw [b_bit (by omega) (by omega)]
          refine b01_o (fun d => ?_) (fun d => ?_)
          · rw [c1, d] at hK; exact hK
          · rw [c1, d] at hK; exact hK
      · refine jn_i (upI (chk (lvN h) (dif (allP h) g) S) (36 - n)) (fun K hK => ?_) ?_
        · unfold jn
          rw [upI_s _ n (by omega)] at hK
          refine b01_z (fun c => ?_) (fun c => ?_)
          · have : chk (lvN h) (dif (allP h) g) S n = false := by unfold chk; rw [c]; rfl
            rw [this] at hK; exact hK
          · have c2 := c
            rw [Bool.and_eq_true] at c2
            have hpb := c2.1
            rw [Nat.testBit_and, Bool.and_eq_true] at hpb
            have hpn := bits_lt hvl hpb.1
            have hg2 : g ||| 2 ^ (n / 6) < 2 ^ hNp h := Nat.or_lt_two_pow hg (Nat.pow_lt_pow_right (by decide) hpn)
            have hcl := clr_le S (n % 6)
            refine m_then (by omega) (by omega) (by omega) ⟨vp_in_nI (by omega) (by omega), m_state ⟨vp_in_nI (by omega) (by omega), ?_⟩⟩
            have es : nI (D (lvN h) (dif (allP h) g) S) - 1 = nI (D (lvN h) (dif (allP h) g) S - 1) := pk_sub (b := 1) hD
            rw [ix_nI (by omega), ix_nI (by omega), hwo _ _ hg2 (by omega), hwo g S hg hS, dif_set, es]
            have hDc := D_16 (lvN h) (clr (dif (allP h) g) (n / 6)) (clr S (n % 6))
            refine pk_eq _ _ (fun e => ?_) (fun e => ?_)
            · have : chk (lvN h) (dif (allP h) g) S n = true := by
                unfold chk
                rw [c]
                simp
                omega
              rw [this] at hK; exact hK
            · have : chk (lvN h) (dif (allP h) g) S n = false := by
                unfold chk
                rw [c]
                simp
                omega
              rw [this] at hK; exact hK
        · have e : nI n + (-1) = nI n - 1 := by
            rw [Int32.sub_eq_add_neg]
          rw [e]
          exact ih (by omega)
  exact ⟨_, key 36 (Nat.le_refl _)⟩
def ordA (v : Nat → Nat) (P S kk : Nat) (p1 : Int32) : Int32 := if p1 = 0 then nI (ordC v (sq v kk P S).1 (sq v kk P S).2 / 6) else nI (ordC v (sq v kk P S).1 (sq v kk P S).2 % 6)
def ordR (v : Nat → Nat) (P S kk : Nat) (p1 : Int32) : Int32 := if kk < D v P S then ordA v P S kk p1 else (-5)
theorem m_order {h : Hal} {w : Nw} {t s : Nat → Int32} (o : OkH h) (n : OkN h w) (T : RM h t) (S : RS w s) {p0 p1 : Int32} {li mv sh wo : Nat → Int32} {post : Int32 → (Nat → Int32) → (Nat → Int32) → (Nat → Int32) → (Nat → Int32) → Prop} (kb : (p0 < 0 ∨ ¬ vp_in p1 2) → post (-1) li mv sh wo) (k : ∀ kk, kk < 2 ^ 31 → p0 = nI kk → vp_in p1 2 → ∀ a b c d, post (ordR (lvN h) (thereN h w) (litN h w) kk p1) a b c d) : wp_X5_order p0 p1 t s li mv sh wo post := by
  unfold wp_X5_order
  have hl := n.left o
  have h64 := two6 o.2.2.2.2.2.2.1
  have h64l := two6 o.2.2.2.2.2.1
  have hv := fun a b (k : sbs a b) => lvN_mono (h := h) k
  refine ⟨fun c => kb (Or.inl c), fun c => ?_⟩
  obtain ⟨kk, hkk, e⟩ := nI_of c
  subst e
  refine in_rng (n := 2) (by omega) (by decide) (fun hi => br_f (by decide) ?_) (fun hi => br_t rfl (kb (Or.inr hi)))
  refine m_mosts (M := 0) o T (p2pos _) (fun li2 mv2 sh2 wo2 hLT hW => ?_)
  refine m_gone hl.2.2 (hwho o n) S (m_lit o n T S ?_)
  have hg := goneN_lt n
  have hlt := litN_lt h w
  have hwo : ∀ g lit, g < 2 ^ hNp h → lit < 2 ^ hNl h → wo2 (128 * g + lit) = nI (D (lvN h) (dif (allP h) g) lit) := fun g lit hg hlit => wt_at o hW hg hlit
  have hmv : ∀ lit, lit < 2 ^ hNl h → mv2 lit = nI (lvN h lit) := fun lit hlit => (hLT.at o hlit).2
  have kf := k kk hkk rfl hi
  have hth : thereN h w = dif (allP h) (goneN w) := rfl
  generalize hL : litN h w = lit at *
  generalize hG : goneN w = g0 at *
  generalize hP : thereN h w = P at *
  have hP64 : P < 64 := by
    have := dif_le (allP h) g0
    have := allP_lt h
    omega
  have hD12 := D_16 (lvN h) P lit
  have key : ∀ m i, i + m = D (lvN h) P lit → ∀ g, g < 2 ^ hNp h → dif (allP h) g = (sq (lvN h) i P lit).1 → wp_X5_order_L38 (nI kk) p1 li2 mv2 sh2 wo2 post (m + 1) (nI g) (nI (sq (lvN h) i P lit).2) (if kk < i then ordA (lvN h) P lit kk p1 else (-5)) (nI i) := by
    intro m
    induction m with
    | zero =>
      intro i hi g hg2 hgs
      have hs := sq_lt (lvN h) P lit i
      have hsD := sq_D hv (P := P) (S := lit) hP64 (by omega) i (by omega)
      unfold wp_X5_order_L38
      refine m_state ⟨vp_in_nI (by omega) (by omega), ?_⟩
      rw [ix_nI (by omega), hwo g _ hg2 (by omega), hgs]
      have e0 : D (lvN h) (sq (lvN h) i P lit).1 (sq (lvN h) i P lit).2 = 0 := by omega
      rw [e0]
      refine br_t (by decide) ?_
      have := kf li2 mv2 sh2 wo2
      unfold ordR at this
      rw [show i = D (lvN h) P lit by omega]
      exact this
    | succ m ih =>
      intro i hi g hg2 hgs
      have hs := sq_lt (lvN h) P lit i
      have hsD := sq_D hv (P := P) (S := lit) hP64 (by omega) i (by omega)
      have hDp : 0 < D (lvN h) (sq (lvN h) i P lit).1 (sq (lvN h) i P lit).2 := by omega
      have hsp := ordC_spec hv (P := (sq (lvN h) i P lit).1) (S := (sq (lvN h) i P lit).2) (by omega) (by omega) hDp
      have hD2 := D_16 (lvN h) (sq (lvN h) i P lit).1 (sq (lvN h) i P lit).2
      unfold wp_X5_order_L38
      refine m_state ⟨vp_in_nI (by omega) (by omega), ?_⟩
      rw [ix_nI (by omega), hwo g _ hg2 (by omega), hgs]
      refine br_f (nI_nle hDp (by omega)) ?_
      refine pk_lt kk i (fun hki => ?_) (fun hki => ?_)
      · have := kf li2 mv2 sh2 wo2
        unfold ordR at this
        rw [if_pos (by omega)] at this
        rw [if_pos hki]; exact this
      · rw [if_neg (by omega)]
        refine jn_i (nI (ordC (lvN h) (sq (lvN h) i P lit).1 (sq (lvN h) i P lit).2)) (fun K hK => m_ordStep o hg2 (by omega) hmv hwo (by rw [hgs]; exact hDp) (by rw [hgs]; exact hK)) ?_
        generalize hoc : ordC (lvN h) (sq (lvN h) i P lit).1 (sq (lvN h) i P lit).2 = oc at *
        have ed : nI oc / 6 = nI (oc / 6) := pk_div (d := 6) (by omega) (by omega) (by omega)
        have er : jrem (nI oc) 6 = nI (oc % 6) := rem_nI (d := 6) (by omega) (by omega) (by omega)
        rw [ed, er]
        refine jn_i (if kk < i + 1 then ordA (lvN h) P lit kk p1 else (-5)) (fun K hK => ?_) ?_
        · refine pk_eq i kk (fun e => ?_) (fun e => ?_)
          · rw [if_pos (by omega)] at hK
            unfold ordA at hK
            rw [← e, hoc] at hK
            refine ⟨fun z => ?_, fun z => ?_⟩
            · rw [if_pos z] at hK; exact hK
            · rw [if_neg z] at hK; exact hK
          · rw [if_neg (by omega)] at hK; exact hK
        · have hc := hsp.2.1
          unfold chk at hc
          rw [Bool.and_eq_true, Bool.and_eq_true, Nat.testBit_and, Bool.and_eq_true] at hc
          have hb := hc.1.1.2
          rw [← hgs, dif_bit, Bool.and_eq_true] at hb
          have hpn := bits_lt (allP_lt h) hb.1
          rw [b_set (by omega), b_clr (by omega) (by omega), nI_1]
          refine nm_e (nm_e ?_)
          have e2 : clr (sq (lvN h) i P lit).2 (oc % 6) = (sq (lvN h) (i + 1) P lit).2 := by
            show _ = clr _ _
            rw [hoc]
          rw [e2]
          refine ih (i + 1) (by omega) _ (Nat.or_lt_two_pow hg2 (Nat.pow_lt_pow_right (by decide) hpn)) ?_
          rw [dif_set, hgs]
          show _ = clr _ _
          rw [hoc]
  have h5 := key (D (lvN h) P lit) 0 (by omega) g0 hg (by rw [← hth]; rfl)
  exact ⟨_, h5⟩
theorem c_order {h : Hal} {w : Nw} (o : OkH h) {lv lg : Nat → Int32} (hlv : ∀ lit, lit < 2 ^ hNl h → lv lit = nI (lvN h lit)) {p0 p1 cp cl : Int32} {post : Int32 → (Nat → Int32) → Int32 → Int32 → Prop} (kb : (p0 < 0 ∨ ¬ vp_in p1 2) → post (-1) lg cp cl) (k : ∀ kk, kk < 2 ^ 31 → p0 = nI kk → vp_in p1 2 → ∀ a b c, post (ordR (lvN h) (thereN h w) (litN h w) kk p1) a b c) : wp_X4_order p0 p1 (nI (goneN w)) (nI (msk (nLmp w) (nLeft w))) lg cp cl (nI (hNl h)) (nI (hNp h)) lv post := by
  unfold wp_X4_order
  have h6 := o.2.2.2.2.2.1
  have h6p := o.2.2.2.2.2.2.1
  have hv := fun a b (k : sbs a b) => lvN_mono (h := h) k
  refine ⟨fun c => kb (Or.inl c), fun c => ?_⟩
  obtain ⟨kk, hkk, e⟩ := nI_of c
  subst e
  refine ⟨fun c => kb (Or.inr (vp_neg c)), fun c2 => ⟨fun d => ?_, fun d => kb (Or.inr (fun q => d ?_))⟩⟩
  · have hi : vp_in p1 2 := vp_of c2 (by
      have := (fa_le _ _).mp d
      have e1 : (1 : Int32).toInt = 1 := by decide
      omega)
    have hD := D_16 (lvN h) (thereN h w) (litN h w)
    refine c_thereNow o (c_litNow o (c_mostOf (v := lvN h) h6 (thereN_64 o w) (litN_lt h w) hlv (fun lg2 _ => ?_)))
    have kf := k kk hkk rfl hi
    unfold ordR at kf
    refine pk_lt kk (D (lvN h) (thereN h w) (litN h w)) (fun q => ?_) (fun q => ?_)
    · refine c_thereNow o (c_litNow o (c_follow hv h6 h6p (thereN_lt h w) (litN_lt h w) q hlv (fun lg3 => ?_)))
      rw [if_pos q] at kf
      unfold ordA at kf
      refine ⟨fun z => ?_, fun z => ?_⟩
      · rw [if_pos z] at kf; exact kf _ _ _
      · rw [if_neg z] at kf; exact kf _ _ _
    · rw [if_neg (by omega)] at kf; exact kf _ _ _
  · have := (vp_in_iff.mp q).2
    refine (fa_le _ _).mpr ?_
    have e1 : (1 : Int32).toInt = 1 := by decide
    omega
