/-! most and bar: the reference's answers. -/
theorem wt_at {h : Hal} (o : OkH h) {M : Nat} {wo : Nat → Int32} (H : ∀ g, g < 2 ^ hNp h → ∀ j, j < manyN h M → WT h M wo g j) {g lit : Nat} (hg : g < 2 ^ hNp h) (hl : lit < 2 ^ hNl h) : wo (128 * g + lit) = nI (D (lvN h) (dif (allP h) g) lit) := by
  have h64 := two6 o.2.2.2.2.2.2.1
  have e : litO h lit = lit := by unfold litO; rw [if_pos hl]
  have hm : lit < manyN h M := by
    unfold manyN
    by_cases c : M = 0
    · rw [if_pos c]; exact hl
    · rw [if_neg c]; omega
  have hw := H g hg lit hm
  unfold WT at hw
  have hP : dif (allP h) g < 2 ^ 6 := by
    have h1 := dif_le (allP h) g
    have h2 := allP_lt h
    show dif (allP h) g < 64
    omega
  rw [e, RD (vM_mono h M) lit _ hP] at hw
  rw [hw]
  congr 1
  exact D_cong lit hl (fun a ha => by unfold vM lvN; rw [lgt_0 o ha])
theorem hwho {h : Hal} {w : Nw} (o : OkH h) (n : OkN h w) : ∀ k, k < nLeft w → nWho w k < 6 := fun k hk => by
  have h1 := (n.1 k hk).1
  have h2 := o.2.2.2.2.2.2.1
  omega
theorem m_most {h : Hal} {w : Nw} {t s : Nat → Int32} (o : OkH h) (n : OkN h w) (T : RM h t) (S : RS w s) {li mv sh wo : Nat → Int32} {post : Int32 → (Nat → Int32) → (Nat → Int32) → (Nat → Int32) → (Nat → Int32) → Prop} (k : ∀ a b c d, post (nI (D (lvN h) (thereN h w) (litN h w))) a b c d) : wp_X5_most t s li mv sh wo post := by
  unfold wp_X5_most
  have hl := n.left o
  have h64 := two6 o.2.2.2.2.2.2.1
  have h64l := two6 o.2.2.2.2.2.1
  refine m_mosts (M := 0) o T (p2pos _) (fun li2 mv2 sh2 wo2 _ hW => ?_)
  refine m_gone hl.2.2 (hwho o n) S (m_lit o n T S (m_state ?_))
  have hg := goneN_lt n
  have hlt := litN_lt h w
  refine ⟨vp_in_nI (by omega) (by omega), ?_⟩
  rw [ix_nI (by omega), wt_at o hW hg hlt]
  exact k _ _ _ _
theorem m_bar {h : Hal} {w : Nw} {t s : Nat → Int32} (o : OkH h) (n : OkN h w) (T : RM h t) (S : RS w s) {li mv sh wo : Nat → Int32} {post : Int32 → (Nat → Int32) → (Nat → Int32) → (Nat → Int32) → (Nat → Int32) → Prop} (k : ∀ a b c d, post (if barN (lvN h) (thereN h w) (litN h w) = 0 then (-9) else nI (barN (lvN h) (thereN h w) (litN h w))) a b c d) : wp_X5_bar t s li mv sh wo post := by
  unfold wp_X5_bar
  have hl := n.left o
  have h64 := two6 o.2.2.2.2.2.2.1
  have h64l := two6 o.2.2.2.2.2.1
  refine m_mosts (M := 0) o T (p2pos _) (fun li2 mv2 sh2 wo2 _ hW => ?_)
  refine m_gone hl.2.2 (hwho o n) S (m_lit o n T S ?_)
  have hg := goneN_lt n
  have hlt := litN_lt h w
  have hWT : ∀ lit, lit < 2 ^ hNl h → wo2 (128 * goneN w + lit) = nI (D (lvN h) (thereN h w) lit) := fun lit hlit => wt_at o hW hg hlit
  generalize hL : litN h w = lit at *
  generalize hG : goneN w = g at *
  generalize hP : thereN h w = P at *
  have key : ∀ m i, i + m = lit + 1 → 1 ≤ i → wp_X5_bar_L21 (nI g) (nI lit) li2 mv2 sh2 wo2 post (m + 1) (if fB (brs (lvN h) P lit) i = 0 then (-9) else nI (fB (brs (lvN h) P lit) i)) (nI i) := by
    intro m
    induction m with
    | zero =>
      intro i hi h1
      unfold wp_X5_bar_L21
      have e : i = lit + 1 := by omega
      subst e
      exact br_t (nI_lt (by omega) (by omega)) (k _ _ _ _)
    | succ m ih =>
      intro i hi h1
      unfold wp_X5_bar_L21
      refine br_f (nI_nlt (by omega) (by omega)) ?_
      have hdl := dif_le lit i
      have hd2 := dif_le i lit
      have hD2 := D_16 (lvN h) P (dif lit i)
      have hD1 := D_16 (lvN h) P lit
      have hf := fB_lt (brs (lvN h) P lit) i
      rw [b_andn (by omega), b_andn (by omega)]
      refine jn_i (b01 (brs (lvN h) P lit i)) (fun K hK => ?_) ?_
      · unfold jn
        unfold brs at hK
        refine ⟨fun d => m_state ⟨vp_in_nI (by omega) (by omega), m_state ⟨vp_in_nI (by omega) (by omega), ?_⟩⟩, fun d => ?_⟩
        · have d1 : dif i lit = 0 := nI_small (b := 0) d (by omega) (by omega)
          rw [ix_nI (by omega), ix_nI (by omega), hWT lit (by omega), hWT _ (by omega)]
          refine ⟨fun q => ?_, fun q => ?_⟩
          · have q1 := (nI_leI (by omega) (by omega)).mp q
            have q2 : ¬ D (lvN h) P (dif lit i) < D (lvN h) P lit := by omega
            simp [d1, q2] at hK; exact hK
          · have q1 : ¬ D (lvN h) P lit ≤ D (lvN h) P (dif lit i) := fun z => q ((nI_leI (by omega) (by omega)).mpr z)
            have q2 : D (lvN h) P (dif lit i) < D (lvN h) P lit := by omega
            simp [d1, q2] at hK; exact hK
        · have d1 : ¬ dif i lit = 0 := fun z => d (by rw [z]; rfl)
          simp [d1] at hK; exact hK
      · refine jn_i (if fB (brs (lvN h) P lit) (i + 1) = 0 then (-9) else nI (fB (brs (lvN h) P lit) (i + 1))) (fun K hK => ?_) ?_
        · unfold jn
          rw [fB] at hK
          refine b01_z (fun d => ?_) (fun d => ?_)
          · rw [d] at hK
            simp at hK; exact hK
          · have hpi := pcn_le i
            have i0 : ¬ i = 0 := by omega
            by_cases z : fB (brs (lvN h) P lit) i = 0
            · rw [if_pos z]
              refine br_t rfl ?_
              simp [d, z, h1, i0] at hK
              exact hK
            · rw [if_neg z]
              have hpf := pcn_le (fB (brs (lvN h) P lit) i)
              have hne : ¬ nI (fB (brs (lvN h) P lit) i) = (-9) := by
                intro q
                have q1 := nI_toInt (n := fB (brs (lvN h) P lit) i) (by omega)
                rw [q] at q1
                have q2 : (-9 : Int32).toInt = -9 := by decide
                omega
              refine br_f hne (m_ones (by omega) (m_ones (by omega) ⟨fun q => ?_, fun q => ?_⟩))
              · have q1 := (nI_leI (by omega) (by omega)).mp q
                have q2 : ¬ pcn i < pcn (fB (brs (lvN h) P lit) i) := by omega
                simp [d, z, q2] at hK
                exact hK
              · have q1 : ¬ pcn (fB (brs (lvN h) P lit) i) ≤ pcn i := fun w => q ((nI_leI (by omega) (by omega)).mpr w)
                have q2 : pcn i < pcn (fB (brs (lvN h) P lit) i) := by omega
                simp [d, q2, h1, i0] at hK
                exact hK
        · rw [nI_1]; exact ih (i + 1) (by omega) (by omega)
  have h5 := key lit 1 (by omega) (by omega)
  have e5 : fB (brs (lvN h) P lit) 1 = 0 := by simp [fB]
  rw [e5, if_pos rfl] at h5
  exact ⟨_, h5⟩
theorem barN_0 {v : Nat → Nat} {P lit : Nat} (h : D v P lit = 0) : barN v P lit = 0 := by
  unfold barN
  apply Classical.byContradiction
  intro c
  have h1 := fB_bars _ _ c
  unfold brs at h1
  rw [h] at h1
  simp at h1
theorem barN_pos {v : Nat → Nat} {P lit : Nat} (hl : lit < 64) (h0 : v 0 = 0) (h : 0 < D v P lit) : barN v P lit ≠ 0 := by
  rw [barN_eq hl h0 h]
  by_cases c : fB (brs v P lit) lit = 0
  · rw [if_pos c]
    intro q
    subst q
    have := D_le (v := v) (P := P) (S := 0)
    rw [h0] at this
    simp at this
    have e : pcn 0 = 0 := by decide
    omega
  · rw [if_neg c]; exact c
theorem thereN_64 {h : Hal} (o : OkH h) (w : Nw) : thereN h w < 64 := by
  have h64 := two6 o.2.2.2.2.2.2.1
  have := thereN_lt h w
  omega
