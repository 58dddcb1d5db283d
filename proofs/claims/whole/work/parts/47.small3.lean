/-! leaves, undo, saw, forget. -/
def st1 (f : Nat → Nat) (k v : Nat) : Nat → Nat := fun j => if j = k then v else f j
theorem st1_s (f : Nat → Nat) (k v : Nat) : st1 f k v k = v := if_pos rfl
theorem st1_n {f : Nat → Nat} {k v j : Nat} (h : j ≠ k) : st1 f k v j = f j := if_neg h
theorem msk_cong {f g : Nat → Nat} : ∀ {k}, (∀ j, j < k → f j = g j) → msk f k = msk g k
  | 0, _ => rfl
  | k + 1, h => by rw [msk, msk, msk_cong (fun j hj => h j (by omega)), h k (by omega)]
def depW (w : Nw) (p l : Nat) : Nw := ((nLeft w + 1, nSeen w), st1 (nWho w) (nLeft w) p, st1 (nLmp w) (nLeft w) l, nAft w, nWhe w, nLig w)
theorem depW_gone (w : Nw) (p l : Nat) : goneN (depW w p l) = goneN w ||| 2 ^ p := by
  show msk (st1 (nWho w) (nLeft w) p) (nLeft w + 1) = _
  rw [msk, st1_s, msk_cong (g := nWho w) (fun j hj => st1_n (by omega))]
  rfl
theorem depW_dark (w : Nw) (p l : Nat) : msk (nLmp (depW w p l)) (nLeft (depW w p l)) = msk (nLmp w) (nLeft w) ||| 2 ^ l := by
  show msk (st1 (nLmp w) (nLeft w) l) (nLeft w + 1) = _
  rw [msk, st1_s, msk_cong (g := nLmp w) (fun j hj => st1_n (by omega))]
def levK (h : Hal) (w : Nw) (x y : Int32) : Bool := vpB x (hNp h) && vpB y (hNl h) && !(goneN w).testBit (ix x) && (lvN h (litN h w)).testBit (ix x) && (litN h w).testBit (ix y)
def levA (h : Hal) (w : Nw) (x y : Int32) : Int32 := if vpB x (hNp h) && vpB y (hNl h) then (if levK h w x y then nI (nLeft w + 1) else (-2)) else (-1)
def levW (h : Hal) (w : Nw) (x y : Int32) : Nw := if levK h w x y then depW w (ix x) (ix y) else w
theorem levW_ok {h : Hal} {w : Nw} (n : OkN h w) (x y : Int32) : OkN h (levW h w x y) := by
  unfold levW
  by_cases c : levK h w x y = true
  · rw [if_pos c]
    unfold levK at c
    rw [Bool.and_eq_true, Bool.and_eq_true, Bool.and_eq_true, Bool.and_eq_true] at c
    obtain ⟨⟨⟨⟨c1, c2⟩, c3⟩, c4⟩, c5⟩ := c
    have hv : lvN h (litN h w) < 2 ^ hNp h := mayN_lt _ _
    have hp := bits_lt hv c4
    have hl := bits_lt (litN_lt h w) c5
    have hg : ∀ k, k < nLeft w → nWho w k ≠ ix x := by
      intro k hk e
      have : (goneN w).testBit (ix x) = true := (msk_bit _ _ _).mpr ⟨k, hk, e⟩
      rw [this] at c3
      cases c3
    have hd : ∀ k, k < nLeft w → nLmp w k ≠ ix y := by
      intro k hk e
      have : (msk (nLmp w) (nLeft w)).testBit (ix y) = true := (msk_bit _ _ _).mpr ⟨k, hk, e⟩
      unfold litN at c5
      rw [dif_bit, this] at c5
      simp at c5
    refine ⟨?_, ?_, ?_, n.2.2.2⟩
    · intro k hk
      have hk2 : k < nLeft w + 1 := hk
      show st1 (nWho w) (nLeft w) (ix x) k < _ ∧ st1 (nLmp w) (nLeft w) (ix y) k < _
      by_cases e : k = nLeft w
      · rw [e, st1_s, st1_s]; exact ⟨hp, hl⟩
      · rw [st1_n e, st1_n e]; exact n.1 k (by omega)
    · intro i j hi hj
      have hi2 : i < nLeft w + 1 := hi
      have hj2 : j < nLeft w + 1 := hj
      show st1 (nWho w) (nLeft w) (ix x) i = st1 (nWho w) (nLeft w) (ix x) j → i = j
      by_cases e1 : i = nLeft w <;> by_cases e2 : j = nLeft w
      · intro _; omega
      · rw [e1, st1_s, st1_n e2]
        intro e; exact absurd e.symm (hg j (by omega))
      · rw [e2, st1_s, st1_n e1]
        intro e; exact absurd e (hg i (by omega))
      · rw [st1_n e1, st1_n e2]; exact n.2.1 i j (by omega) (by omega)
    · intro i j hi hj
      have hi2 : i < nLeft w + 1 := hi
      have hj2 : j < nLeft w + 1 := hj
      show st1 (nLmp w) (nLeft w) (ix y) i = st1 (nLmp w) (nLeft w) (ix y) j → i = j
      by_cases e1 : i = nLeft w <;> by_cases e2 : j = nLeft w
      · intro _; omega
      · rw [e1, st1_s, st1_n e2]
        intro e; exact absurd e.symm (hd j (by omega))
      · rw [e2, st1_s, st1_n e1]
        intro e; exact absurd e (hd i (by omega))
      · rw [st1_n e1, st1_n e2]; exact n.2.2.1 i j (by omega) (by omega)
  · rw [if_neg c]; exact n
theorem nWho_dep (w : Nw) (p l : Nat) : nWho (depW w p l) = st1 (nWho w) (nLeft w) p := rfl
theorem nLmp_dep (w : Nw) (p l : Nat) : nLmp (depW w p l) = st1 (nLmp w) (nLeft w) l := rfl
theorem c_leaves {h : Hal} {w : Nw} (o : OkH h) (n : OkN h w) {x y : Int32} {sh li lv lvr pto sa sc sl : Nat → Int32} (T : RT h sh li lv) (R : RC w (nI (nLeft w)) (nI (goneN w)) (nI (msk (nLmp w) (nLeft w))) (nI (nSeen w)) lvr pto sa sc sl) {post : Int32 → Int32 → Int32 → Int32 → (Nat → Int32) → (Nat → Int32) → Prop} (k : ∀ a b c d e, RC (levW h w x y) a b c (nI (nSeen w)) d e sa sc sl → post (levA h w x y) a b c d e) : wp_X4_leaves x y (nI (nLeft w)) (nI (goneN w)) (nI (msk (nLmp w) (nLeft w))) lvr pto (nI (hNl h)) (nI (hNp h)) lv post := by
  unfold wp_X4_leaves
  have h6 := o.2.2.2.2.2.2.1
  have h6l := o.2.2.2.2.2.1
  have h64 := two6 h6
  have h64l := two6 h6l
  have hlf := n.left o
  have same : levK h w x y = false → ∀ r, r = levA h w x y → post r (nI (nLeft w)) (nI (goneN w)) (nI (msk (nLmp w) (nLeft w))) lvr pto := by
    intro hk r hr
    rw [hr]
    refine k _ _ _ _ _ ?_
    unfold levW
    rw [hk]; exact R
  refine c_isPerson h6 (fun q => br_f (by decide) ?_) (fun q => br_t rfl (same (by unfold levK; rw [vpB_f.mpr q]; rfl) _ (by unfold levA; rw [vpB_f.mpr q]; rfl)))
  refine c_isLamp h6l (fun q2 => br_f (by decide) ?_) (fun q2 => br_t rfl (same (by unfold levK; rw [vpB_f.mpr q2, Bool.and_false]; rfl) _ (by unfold levA; rw [vpB_f.mpr q2, Bool.and_false]; rfl)))
  have v1 := vpB_t.mpr q
  have v2 := vpB_t.mpr q2
  obtain ⟨p, hp, e⟩ := vp_ex q (by omega)
  obtain ⟨l, hl, e2⟩ := vp_ex q2 (by omega)
  subst e e2
  have hg := goneN_lt n
  have hlt := litN_lt h w
  have hvl : lvN h (litN h w) < 2 ^ hNp h := mayN_lt _ _
  have eK : levK h w (nI p) (nI l) = (!(goneN w).testBit p && (lvN h (litN h w)).testBit p && (litN h w).testBit l) := by
    unfold levK
    rw [v1, v2, ix_nI (by omega), ix_nI (by omega)]; rfl
  have eA : levA h w (nI p) (nI l) = if levK h w (nI p) (nI l) then nI (nLeft w + 1) else (-2) := by
    unfold levA
    rw [v1, v2]; rfl
  unfold wp_X4_hasLeft
  refine c_bit (by omega) (by omega) ?_
  refine b01_o (fun d => ?_) (fun d => ?_)
  · unfold jn
    refine br_f (by decide) (br_t rfl (same (by rw [eK, d]; rfl) _ ?_))
    rw [eA, eK, d]; rfl
  · refine jn_i (b01 ((lvN h (litN h w)).testBit p)) (fun K hK => ?_) ?_
    · unfold jn
      refine br_t rfl (c_litNow o ⟨vp_in_nI (by omega) (by omega), ?_⟩)
      rw [ix_nI (by omega), (T.2 _ hlt).2]
      refine c_bit (by omega) (by omega) (b01_o (fun d2 => ?_) (fun d2 => ?_))
      · rw [d2] at hK; exact hK
      · rw [d2] at hK; exact hK
    · refine b01_z (fun d2 => same (by rw [eK, d2]; simp) _ (by rw [eA, eK, d2]; simp)) (fun d2 => c_litNow o (c_bit (by omega) (by omega) (b01_z (fun d3 => same (by rw [eK, d3]; simp) _ (by rw [eA, eK, d3]; simp)) (fun d3 => ?_))))
      have hK : levK h w (nI p) (nI l) = true := by rw [eK, d, d2, d3]; rfl
      have hok := levW_ok n (nI p) (nI l)
      have hl2 := hok.left o
      have eW : levW h w (nI p) (nI l) = depW w p l := by
        unfold levW
        rw [hK, ix_nI (by omega), ix_nI (by omega)]; rfl
      have hlen : nLeft w + 1 ≤ 6 := by
        rw [eW] at hl2
        exact hl2.2.2
      unfold wp_X1_depart
      refine br_t (nI_lt (b := 6) (by omega) (by omega)) ⟨vp_in_nI (by omega) (by omega), vp_in_nI (by omega) (by omega), ?_⟩
      rw [b_set (by omega), b_set (by omega), ix_nI (by omega), nI_1]
      have kk := k (nI (nLeft w + 1)) (nI (goneN w ||| 2 ^ p)) (nI (msk (nLmp w) (nLeft w) ||| 2 ^ l)) (upd lvr (nLeft w) (nI p)) (upd pto (nLeft w) (nI l))
      rw [eA, hK, eW] at kk
      refine kk ⟨rfl, by rw [depW_gone], by rw [depW_dark], rfl, ?_, R.2.2.2.2.2⟩
      intro i hi
      have hi2 : i < nLeft w + 1 := hi
      rw [nWho_dep, nLmp_dep]
      by_cases e : i = nLeft w
      · rw [e, upd_s, upd_s, st1_s, st1_s]; exact ⟨rfl, rfl⟩
      · rw [upd_n e, upd_n e, st1_n e, st1_n e]; exact R.2.2.2.2.1 i (by omega)
theorem m_leaves {h : Hal} {w : Nw} {t s : Nat → Int32} (o : OkH h) (n : OkN h w) (T : RM h t) (S : RS w s) {x y : Int32} {li mv sh : Nat → Int32} {post : Int32 → (Nat → Int32) → (Nat → Int32) → (Nat → Int32) → (Nat → Int32) → Prop} (k : ∀ s2 a b c, RS (levW h w x y) s2 → post (levA h w x y) s2 a b c) : wp_X5_leaves x y t s li mv sh post := by
  unfold wp_X5_leaves
  have h6 := o.2.2.2.2.2.2.1
  have h6l := o.2.2.2.2.2.1
  have h64 := two6 h6
  have h64l := two6 h6l
  have hlf := n.left o
  have same : levK h w x y = false → ∀ r a b c, r = levA h w x y → post r s a b c := by
    intro hk r a b c hr
    rw [hr]
    refine k _ _ _ _ ?_
    unfold levW
    rw [hk]; exact S
  refine m_isPerson o T (fun q => br_f (by decide) ?_) (fun q => br_t rfl (same (by unfold levK; rw [vpB_f.mpr q]; rfl) _ _ _ _ (by unfold levA; rw [vpB_f.mpr q]; rfl)))
  refine m_isLamp o T (fun q2 => br_f (by decide) ?_) (fun q2 => br_t rfl (same (by unfold levK; rw [vpB_f.mpr q2, Bool.and_false]; rfl) _ _ _ _ (by unfold levA; rw [vpB_f.mpr q2, Bool.and_false]; rfl)))
  have v1 := vpB_t.mpr q
  have v2 := vpB_t.mpr q2
  obtain ⟨p, hp, e⟩ := vp_ex q (by omega)
  obtain ⟨l, hl, e2⟩ := vp_ex q2 (by omega)
  subst e e2
  have hg := goneN_lt n
  have hlt := litN_lt h w
  have hvl : lvN h (litN h w) < 2 ^ hNp h := mayN_lt _ _
  have eK : levK h w (nI p) (nI l) = (!(goneN w).testBit p && (lvN h (litN h w)).testBit p && (litN h w).testBit l) := by
    unfold levK
    rw [v1, v2, ix_nI (by omega), ix_nI (by omega)]; rfl
  have eA : levA h w (nI p) (nI l) = if levK h w (nI p) (nI l) then nI (nLeft w + 1) else (-2) := by
    unfold levA
    rw [v1, v2]; rfl
  refine m_lights (M := 0) o T (p2pos _) (fun li2 mv2 sh2 hLT => m_gone hlf.2.2 (hwho o n) S ?_)
  rw [b_bit (by omega) (by omega)]
  refine b01_o (fun d => same (by rw [eK, d]; rfl) _ _ _ _ (by rw [eA, eK, d]; rfl)) (fun d => m_lit o n T S ⟨vp_in_nI (by omega) (by omega), ?_⟩)
  rw [ix_nI (by omega), (hLT.at o hlt).2, b_bit (by omega) (by omega)]
  refine b01_z (fun d2 => same (by rw [eK, d2]; simp) _ _ _ _ (by rw [eA, eK, d2]; simp)) (fun d2 => m_lit o n T S ?_)
  rw [b_bit (by omega) (by omega)]
  refine b01_z (fun d3 => same (by rw [eK, d3]; simp) _ _ _ _ (by rw [eA, eK, d3]; simp)) (fun d3 => ?_)
  have hK : levK h w (nI p) (nI l) = true := by rw [eK, d, d2, d3]; rfl
  have hok := levW_ok n (nI p) (nI l)
  have hl2 := hok.left o
  have eW : levW h w (nI p) (nI l) = depW w p l := by
    unfold levW
    rw [hK, ix_nI (by omega), ix_nI (by omega)]; rfl
  have hlen : nLeft w + 1 ≤ 6 := by
    rw [eW] at hl2
    exact hl2.2.2
  have i1 := ixa (a := 1) (i := nLeft w) (n := 38) (c := 1) rfl (by omega) (by omega)
  have i7 := ixa (a := 7) (i := nLeft w) (n := 38) (c := 7) rfl (by omega) (by omega)
  have u1 : upd s (1 + nLeft w) (nI p) 0 = nI (nLeft w) := by rw [upd_n (by omega)]; exact S.1
  have u2 : upd (upd s (1 + nLeft w) (nI p)) (7 + nLeft w) (nI l) 0 = nI (nLeft w) := by rw [upd_n (by omega)]; exact u1
  rw [S.1, i1.2, u1, i7.2, u2, upd_s, nI_1]
  refine ⟨i1.1, i7.1, ?_⟩
  have kk := k (upd (upd (upd s (1 + nLeft w) (nI p)) (7 + nLeft w) (nI l)) 0 (nI (nLeft w + 1))) li2 mv2 sh2
  rw [eA, hK, eW] at kk
  refine kk ⟨by rw [upd_s]; rfl, ?_, ?_, ?_⟩
  · rw [upd_n (by omega), upd_n (by omega), upd_n (by omega)]; exact S.2.1
  · intro i hi
    have hi2 : i < nLeft w + 1 := hi
    rw [nWho_dep, nLmp_dep]
    by_cases e : i = nLeft w
    · subst e
      rw [upd_n (show 1 + nLeft w ≠ 0 by omega), upd_n (show 1 + nLeft w ≠ 7 + nLeft w by omega), upd_s, upd_n (show 7 + nLeft w ≠ 0 by omega), upd_s, st1_s, st1_s]
      exact ⟨rfl, rfl⟩
    · rw [upd_n (show 1 + i ≠ 0 by omega), upd_n (show 1 + i ≠ 7 + nLeft w by omega), upd_n (show 1 + i ≠ 1 + nLeft w by omega), upd_n (show 7 + i ≠ 0 by omega), upd_n (show 7 + i ≠ 7 + nLeft w by omega), upd_n (show 7 + i ≠ 1 + nLeft w by omega), st1_n e, st1_n e]
      exact S.2.2.1 i (by omega)
  · intro i hi
    have hi8 := n.2.2.2.1
    have hi2 : i < nSeen w := hi
    have hz := S.2.2.2 i hi2
    refine ⟨?_, ?_, ?_⟩
    · rw [upd_n (by omega), upd_n (by omega), upd_n (by omega)]; exact hz.1
    · rw [upd_n (by omega), upd_n (by omega), upd_n (by omega)]; exact hz.2.1
    · rw [upd_n (by omega), upd_n (by omega), upd_n (by omega)]; exact hz.2.2
def undW (w : Nw) : Nw := if nLeft w = 0 then w else ((nLeft w - 1, nSeen w), nWho w, nLmp w, nAft w, nWhe w, nLig w)
def undA (w : Nw) : Int32 := if nLeft w = 0 then (-2) else nI (nLeft w - 1)
theorem undW_ok {h : Hal} {w : Nw} (n : OkN h w) : OkN h (undW w) := by
  unfold undW
  by_cases c : nLeft w = 0
  · rw [if_pos c]; exact n
  · rw [if_neg c]
    refine ⟨fun k hk => n.1 k ?_, fun i j hi hj => n.2.1 i j ?_ ?_, fun i j hi hj => n.2.2.1 i j ?_ ?_, n.2.2.2⟩
    · have : k < nLeft w - 1 := hk
      omega
    · have : i < nLeft w - 1 := hi
      omega
    · have : j < nLeft w - 1 := hj
      omega
    · have : i < nLeft w - 1 := hi
      omega
    · have : j < nLeft w - 1 := hj
      omega
theorem clr_set {a p : Nat} (h : a.testBit p = false) : clr (a ||| 2 ^ p) p = a := by
  apply Nat.eq_of_testBit_eq
  intro i
  rw [clr_bit, set_bit]
  by_cases q : i = p
  · subst q; rw [h]; simp
  · simp [q]
theorem msk_undo {f : Nat → Nat} {k : Nat} (hk : 0 < k) (inj : ∀ i j, i < k → j < k → f i = f j → i = j) : clr (msk f k) (f (k - 1)) = msk f (k - 1) := by
  obtain ⟨m, rfl⟩ : ∃ m, k = m + 1 := ⟨k - 1, by omega⟩
  rw [Nat.add_sub_cancel, msk]
  refine clr_set ?_
  cases hb : (msk f m).testBit (f m) with
  | false => rfl
  | true =>
    obtain ⟨j, h1, h2⟩ := (msk_bit _ _ _).mp hb
    have := inj j m (by omega) (by omega) h2
    omega
theorem c_undo {h : Hal} {w : Nw} (o : OkH h) (n : OkN h w) {lvr pto sa sc sl : Nat → Int32} (R : RC w (nI (nLeft w)) (nI (goneN w)) (nI (msk (nLmp w) (nLeft w))) (nI (nSeen w)) lvr pto sa sc sl) {post : Int32 → Int32 → Int32 → Int32 → Prop} (k : ∀ a b c, RC (undW w) a b c (nI (nSeen w)) lvr pto sa sc sl → post (undA w) a b c) : wp_X4_undo (nI (nLeft w)) (nI (goneN w)) (nI (msk (nLmp w) (nLeft w))) lvr pto post := by
  unfold wp_X4_undo
  have h6 := o.2.2.2.2.2.2.1
  have h6l := o.2.2.2.2.2.1
  have h64 := two6 h6
  have h64l := two6 h6l
  have hl := n.left o
  have hg := goneN_lt n
  have hd : msk (nLmp w) (nLeft w) < 2 ^ hNl h := msk_lt (fun j hj => (n.1 j hj).2)
  unfold undW undA at k
  refine ne0_nI (by omega) (fun e => ?_) (fun e => ?_)
  · rw [if_pos e, if_pos e] at k
    exact k _ _ _ R
  · rw [if_neg e, if_neg e] at k
    unfold wp_X1_takeBack
    have e1 : nI (nLeft w) - 1 = nI (nLeft w - 1) := pk_sub (b := 1) (by omega)
    have hk := n.1 (nLeft w - 1) (by omega)
    have hr := R.2.2.2.2.1 (nLeft w - 1) (by omega)
    rw [e1]
    refine br_t (nI_lt (a := 0) (by omega) (by omega)) ⟨vp_in_nI (by omega) (by omega), vp_in_nI (by omega) (by omega), ?_⟩
    rw [ix_nI (by omega), hr.1, hr.2, b_clr (by omega) (by omega), b_clr (by omega) (by omega)]
    have g1 : clr (goneN w) (nWho w (nLeft w - 1)) = msk (nWho w) (nLeft w - 1) := msk_undo (by omega) n.2.1
    have g2 : clr (msk (nLmp w) (nLeft w)) (nLmp w (nLeft w - 1)) = msk (nLmp w) (nLeft w - 1) := msk_undo (by omega) n.2.2.1
    rw [g1, g2]
    refine k _ _ _ ⟨rfl, rfl, rfl, rfl, fun i hi => R.2.2.2.2.1 i ?_, R.2.2.2.2.2⟩
    have : i < nLeft w - 1 := hi
    omega
theorem m_undo {h : Hal} {w : Nw} {s : Nat → Int32} (o : OkH h) (n : OkN h w) (S : RS w s) {post : Int32 → (Nat → Int32) → Prop} (k : ∀ s2, RS (undW w) s2 → post (undA w) s2) : wp_X5_undo s post := by
  unfold wp_X5_undo
  have hl := n.left o
  have h8 := n.2.2.2.1
  unfold undW undA at k
  rw [S.1]
  refine ne0_nI (by omega) (fun e => ?_) (fun e => ?_)
  · rw [if_pos e, if_pos e] at k
    exact k _ S
  · rw [if_neg e, if_neg e] at k
    have e1 : nI (nLeft w) - 1 = nI (nLeft w - 1) := pk_sub (b := 1) (by omega)
    rw [e1, upd_s]
    refine k _ ⟨by rw [upd_s]; rfl, by rw [upd_n (by omega)]; exact S.2.1, fun i hi => ?_, fun i hi => ?_⟩
    · have hi2 : i < nLeft w - 1 := hi
      rw [upd_n (by omega), upd_n (by omega)]
      exact S.2.2.1 i (by omega)
    · rw [upd_n (by omega), upd_n (by omega), upd_n (by omega)]
      exact S.2.2.2 i hi
/-! saw, forget -/
def opnB (h : Hal) (x : Int32) : Bool := vpB x (hC h) && !(hWal h).testBit (ix x)
theorem opnB_t {h : Hal} (o : OkH h) {x : Int32} : opnB h x = true ↔ opn h x := by
  have := o.c12
  unfold opnB opn
  rw [Bool.and_eq_true, vpB_t]
  constructor
  · rintro ⟨h1, h2⟩
    obtain ⟨c, hc, e⟩ := vp_ex h1 (by omega)
    subst e
    rw [ix_nI (by omega)] at h2
    exact ⟨c, hc, rfl, by simpa using h2⟩
  · rintro ⟨c, hc, e, h2⟩
    subst e
    rw [ix_nI (by omega), h2]
    exact ⟨vp_in_nI hc (by omega), rfl⟩
theorem opnB_f {h : Hal} (o : OkH h) {x : Int32} (q : ¬ opn h x) : opnB h x = false := by
  cases hb : opnB h x with
  | false => rfl
  | true => exact absurd ((opnB_t o).mp hb) q
def sawK (h : Hal) (x y z : Int32) : Bool := vpB x 7 && opnB h y && vpB z 2
def sawA (h : Hal) (w : Nw) (x y z : Int32) : Int32 := if sawK h x y z then (if nSeen w < 8 then nI (nSeen w + 1) else (-3)) else (-1)
def sawW (h : Hal) (w : Nw) (x y z : Int32) : Nw := if sawK h x y z && decide (nSeen w < 8) then ((nLeft w, nSeen w + 1), nWho w, nLmp w, st1 (nAft w) (nSeen w) (ix x), st1 (nWhe w) (nSeen w) (ix y), st1 (nLig w) (nSeen w) (ix z)) else w
theorem sawW_ok {h : Hal} {w : Nw} (o : OkH h) (n : OkN h w) (x y z : Int32) : OkN h (sawW h w x y z) := by
  have h12 := o.c12
  unfold sawW
  by_cases c : (sawK h x y z && decide (nSeen w < 8)) = true
  · rw [if_pos c]
    unfold sawK at c
    rw [Bool.and_eq_true, Bool.and_eq_true, Bool.and_eq_true, decide_eq_true_eq] at c
    obtain ⟨⟨⟨c1, c2⟩, c3⟩, c4⟩ := c
    obtain ⟨a, ha, ea⟩ := vp_ex (vpB_t.mp c1) (by omega)
    obtain ⟨b, hb, eb, hw⟩ := (opnB_t o).mp c2
    obtain ⟨d, hd, ed⟩ := vp_ex (vpB_t.mp c3) (by omega)
    subst ea eb ed
    refine ⟨n.1, n.2.1, n.2.2.1, by show nSeen w + 1 ≤ 8; omega, fun k hk => ?_⟩
    have hk2 : k < nSeen w + 1 := hk
    show st1 (nAft w) (nSeen w) (ix (nI a)) k ≤ 6 ∧ st1 (nWhe w) (nSeen w) (ix (nI b)) k < hC h ∧ st1 (nLig w) (nSeen w) (ix (nI d)) k ≤ 1
    rw [ix_nI (by omega), ix_nI (by omega), ix_nI (by omega)]
    by_cases e : k = nSeen w
    · rw [e, st1_s, st1_s, st1_s]; exact ⟨by omega, hb, by omega⟩
    · rw [st1_n e, st1_n e, st1_n e]; exact n.2.2.2.2 k (by omega)
  · rw [if_neg c]; exact n
theorem c_saw {h : Hal} {w : Nw} (o : OkH h) (n : OkN h w) {x y z lf gn dk : Int32} {lvr pto sa sc sl : Nat → Int32} (R : RC w lf gn dk (nI (nSeen w)) lvr pto sa sc sl) {post : Int32 → Int32 → (Nat → Int32) → (Nat → Int32) → (Nat → Int32) → Prop} (k : ∀ a b c d, RC (sawW h w x y z) lf gn dk a lvr pto b c d → post (sawA h w x y z) a b c d) : wp_X4_saw x y z (nI (nSeen w)) sa sc sl (nI (hW h)) (nI (hH h)) (nI (hWal h)) post := by
  unfold wp_X4_saw
  have h12 := o.c12
  have h8 := n.2.2.2.1
  have bad : sawK h x y z = false → post (-1) (nI (nSeen w)) sa sc sl := by
    intro hk
    have kk := k (nI (nSeen w)) sa sc sl
    unfold sawW sawA at kk
    rw [hk] at kk
    exact kk R
  have e6 : (6 : Int32).toInt = 6 := by decide
  have e1 : (1 : Int32).toInt = 1 := by decide
  refine ⟨fun c => bad (by unfold sawK; rw [vpB_f.mpr (vp_neg c)]; rfl), fun c => ⟨fun d => bad ?_, fun d => ?_⟩⟩
  · have : ¬ vp_in x 7 := fun q => by
      have h1 := (vp_in_iff.mp q).2
      have h2 := (fa_lt _ _).mp d
      omega
    unfold sawK; rw [vpB_f.mpr this]; rfl
  have v1 : vp_in x 7 := vp_of c (by
    have : ¬ (6 : Int32).toInt < x.toInt := fun q => d ((fa_lt _ _).mpr q)
    omega)
  refine c_isOpen o (fun q => br_f (by decide) ?_) (fun q => br_t rfl (bad (by unfold sawK; rw [opnB_f o q]; simp)))
  refine ⟨fun c => bad (by unfold sawK; rw [vpB_f.mpr (vp_neg c)]; simp), fun c => ⟨fun d => ?_, fun d => bad ?_⟩⟩
  · have v3 : vp_in z 2 := vp_of c (by
      have := (fa_le _ _).mp d
      omega)
    have hk : sawK h x y z = true := by unfold sawK; rw [vpB_t.mpr v1, vpB_t.mpr v3, (opnB_t o).mpr q]; rfl
    refine pk_lt (nSeen w) 8 (fun r => ?_) (fun r => ?_)
    · unfold wp_X1_noteSeen
      refine br_t (nI_lt (b := 8) r (by omega)) ⟨vp_in_nI (by omega) (by omega), vp_in_nI (by omega) (by omega), vp_in_nI (by omega) (by omega), ?_⟩
      rw [nI_1, ix_nI (by omega)]
      have kk := k (nI (nSeen w + 1)) (upd sa (nSeen w) x) (upd sc (nSeen w) y) (upd sl (nSeen w) z)
      unfold sawW sawA at kk
      rw [hk, if_pos r, decide_eq_true r] at kk
      refine kk ⟨R.1, R.2.1, R.2.2.1, rfl, R.2.2.2.2.1, fun i hi => ?_⟩
      have hi2 : i < nSeen w + 1 := hi
      show upd sa (nSeen w) x i = nI (st1 (nAft w) (nSeen w) (ix x) i) ∧ upd sc (nSeen w) y i = nI (st1 (nWhe w) (nSeen w) (ix y) i) ∧ upd sl (nSeen w) z i = nI (st1 (nLig w) (nSeen w) (ix z) i)
      by_cases e : i = nSeen w
      · obtain ⟨a, ha, ea⟩ := vp_ex v1 (by omega)
        obtain ⟨b, hb, eb, hw⟩ := id q
        obtain ⟨d, hd, ed⟩ := vp_ex v3 (by omega)
        subst ea eb ed
        rw [e, upd_s, upd_s, upd_s, st1_s, st1_s, st1_s, ix_nI (by omega), ix_nI (by omega), ix_nI (by omega)]
        exact ⟨rfl, rfl, rfl⟩
      · rw [upd_n e, upd_n e, upd_n e, st1_n e, st1_n e, st1_n e]; exact R.2.2.2.2.2 i (by omega)
    · have kk := k (nI (nSeen w)) sa sc sl
      unfold sawW sawA at kk
      have r2 : ¬ nSeen w < 8 := by omega
      rw [hk, if_neg r2, decide_eq_false r2] at kk
      exact kk R
  · have : ¬ vp_in z 2 := fun q => by
      have h1 := (vp_in_iff.mp q).2
      exact d ((fa_le _ _).mpr (by omega))
    unfold sawK; rw [vpB_f.mpr this]; simp
theorem m_saw {h : Hal} {w : Nw} {t s : Nat → Int32} (o : OkH h) (n : OkN h w) (T : RM h t) (S : RS w s) {x y z : Int32} {post : Int32 → (Nat → Int32) → Prop} (k : ∀ s2, RS (sawW h w x y z) s2 → post (sawA h w x y z) s2) : wp_X5_saw x y z t s post := by
  unfold wp_X5_saw
  have h12 := o.c12
  have h8 := n.2.2.2.1
  have hl := n.left o
  have bad : sawK h x y z = false → post (-1) s := by
    intro hk
    have kk := k s
    unfold sawW sawA at kk
    rw [hk] at kk
    exact kk S
  refine in_rng (n := 7) (by omega) (by decide) (fun v1 => br_f (by decide) ?_) (fun v1 => br_t rfl (bad (by unfold sawK; rw [vpB_f.mpr v1]; rfl)))
  refine m_open o T (fun q => ?_) (fun q => bad (by unfold sawK; rw [opnB_f o q]; simp))
  refine in_rng (n := 2) (by omega) (by decide) (fun v3 => br_f (by decide) ?_) (fun v3 => br_t rfl (bad (by unfold sawK; rw [vpB_f.mpr v3]; simp)))
  have hk : sawK h x y z = true := by unfold sawK; rw [vpB_t.mpr v1, vpB_t.mpr v3, (opnB_t o).mpr q]; rfl
  rw [S.2.1]
  refine pk_eq (nSeen w) 8 (fun r => ?_) (fun r => ?_)
  · have kk := k s
    unfold sawW sawA at kk
    have r2 : ¬ nSeen w < 8 := by omega
    rw [hk, if_neg r2, decide_eq_false r2] at kk
    exact kk S
  · have i14 := ixa (a := 14) (i := nSeen w) (n := 38) (c := 14) rfl (by omega) (by omega)
    have i22 := ixa (a := 22) (i := nSeen w) (n := 38) (c := 22) rfl (by omega) (by omega)
    have i30 := ixa (a := 30) (i := nSeen w) (n := 38) (c := 30) rfl (by omega) (by omega)
    have u : upd (upd (upd s (14 + nSeen w) x) (22 + nSeen w) y) (30 + nSeen w) z 13 = nI (nSeen w) := by
      rw [upd_n (by omega), upd_n (by omega), upd_n (by omega)]; exact S.2.1
    rw [i14.2, i22.2, i30.2, u, upd_s, nI_1]
    refine ⟨i14.1, i22.1, i30.1, ?_⟩
    have kk := k (upd (upd (upd (upd s (14 + nSeen w) x) (22 + nSeen w) y) (30 + nSeen w) z) 13 (nI (nSeen w + 1)))
    unfold sawW sawA at kk
    have r2 : nSeen w < 8 := by omega
    rw [hk, if_pos r2, decide_eq_true r2] at kk
    refine kk ⟨?_, by rw [upd_s]; rfl, fun i hi => ?_, fun i hi => ?_⟩
    · rw [upd_n (by omega), upd_n (by omega), upd_n (by omega), upd_n (by omega)]; exact S.1
    · have hi2 : i < nLeft w := hi
      rw [upd_n (by omega), upd_n (by omega), upd_n (by omega), upd_n (by omega), upd_n (by omega), upd_n (by omega), upd_n (by omega), upd_n (by omega)]
      exact S.2.2.1 i hi2
    · have hi2 : i < nSeen w + 1 := hi
      show _ = nI (st1 (nAft w) (nSeen w) (ix x) i) ∧ _ = nI (st1 (nWhe w) (nSeen w) (ix y) i) ∧ _ = nI (st1 (nLig w) (nSeen w) (ix z) i)
      by_cases e : i = nSeen w
      · obtain ⟨a, ha, ea⟩ := vp_ex v1 (by omega)
        obtain ⟨b, hb, eb, hw⟩ := id q
        obtain ⟨d, hd, ed⟩ := vp_ex v3 (by omega)
        subst ea eb ed e
        rw [st1_s, st1_s, st1_s, ix_nI (by omega), ix_nI (by omega), ix_nI (by omega)]
        refine ⟨?_, ?_, ?_⟩
        · rw [upd_n (by omega), upd_n (by omega), upd_n (by omega), upd_s]
        · rw [upd_n (by omega), upd_n (by omega), upd_s]
        · rw [upd_n (by omega), upd_s]
      · have hz := S.2.2.2 i (by omega)
        rw [st1_n e, st1_n e, st1_n e]
        refine ⟨?_, ?_, ?_⟩
        · rw [upd_n (by omega), upd_n (by omega), upd_n (by omega), upd_n (by omega)]; exact hz.1
        · rw [upd_n (by omega), upd_n (by omega), upd_n (by omega), upd_n (by omega)]; exact hz.2.1
        · rw [upd_n (by omega), upd_n (by omega), upd_n (by omega), upd_n (by omega)]; exact hz.2.2
def forW (w : Nw) : Nw := ((nLeft w, 0), nWho w, nLmp w, nAft w, nWhe w, nLig w)
theorem forW_ok {h : Hal} {w : Nw} (n : OkN h w) : OkN h (forW w) := ⟨n.1, n.2.1, n.2.2.1, Nat.zero_le _, fun k hk => absurd hk (Nat.not_lt_zero _)⟩
theorem forW_c {w : Nw} {lf gn dk sn : Int32} {lvr pto sa sc sl : Nat → Int32} (R : RC w lf gn dk sn lvr pto sa sc sl) : RC (forW w) lf gn dk 0 lvr pto sa sc sl := ⟨R.1, R.2.1, R.2.2.1, rfl, R.2.2.2.2.1, fun k hk => absurd hk (Nat.not_lt_zero _)⟩
theorem forW_m {h : Hal} {w : Nw} (o : OkH h) (n : OkN h w) {s : Nat → Int32} (S : RS w s) : RS (forW w) (upd s 13 0) := by
  have hl := n.left o
  refine ⟨by rw [upd_n (by omega)]; exact S.1, by rw [upd_s]; rfl, fun k hk => ?_, fun k hk => absurd hk (Nat.not_lt_zero _)⟩
  have hk2 : k < nLeft w := hk
  rw [upd_n (by omega), upd_n (by omega)]; exact S.2.2.1 k hk2
