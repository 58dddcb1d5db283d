/-! cell, lamp, person, can. -/
def sel3 (y : Int32) (a b c : Int32) : Int32 := if y = 0 then a else if y = 1 then b else if y = 2 then c else (-1)
def sel4 (y : Int32) (a b c d : Int32) : Int32 := if y = 0 then a else if y = 1 then b else if y = 2 then c else if y = 3 then d else (-1)
def celG (h : Hal) (w : Nw) (x y : Int32) : Int32 := if vpB x (hC h) then sel3 y (b01 ((hWal h).testBit (ix x))) (b01 ((hDor h).testBit (ix x))) (b01 ((liN h (litN h w)).testBit (ix x))) else (-1)
theorem sel3_b {y a b c : Int32} (h : ¬ vp_in y 3) : sel3 y a b c = (-1) := by
  unfold sel3
  rw [if_neg (fun e => h (by rw [e]; exact vpB_t.mp (by decide))), if_neg (fun e => h (by rw [e]; exact vpB_t.mp (by decide))), if_neg (fun e => h (by rw [e]; exact vpB_t.mp (by decide)))]
theorem sel4_b {y a b c d : Int32} (h : ¬ vp_in y 4) : sel4 y a b c d = (-1) := by
  unfold sel4
  rw [if_neg (fun e => h (by rw [e]; exact vpB_t.mp (by decide))), if_neg (fun e => h (by rw [e]; exact vpB_t.mp (by decide))), if_neg (fun e => h (by rw [e]; exact vpB_t.mp (by decide))), if_neg (fun e => h (by rw [e]; exact vpB_t.mp (by decide)))]
theorem c_cell {h : Hal} {w : Nw} (o : OkH h) {x y : Int32} {sh li lv : Nat → Int32} (T : RT h sh li lv) {post : Int32 → Prop} (k : post (celG h w x y)) : wp_X4_cell x y (nI (msk (nLmp w) (nLeft w))) (nI (hW h)) (nI (hH h)) (nI (hWal h)) (nI (hDor h)) (nI (hNl h)) li post := by
  unfold wp_X4_cell
  have h12 := o.c12
  have h64l := two6 o.2.2.2.2.2.1
  unfold celG at k
  refine c_isCell o (fun q => br_f (by decide) ?_) (fun q => br_t rfl (by rw [vpB_f.mpr q] at k; exact k))
  rw [vpB_t.mpr q] at k
  obtain ⟨c, hc, e⟩ := vp_ex q (by omega)
  subst e
  rw [ix_nI (by omega)] at k
  unfold sel3 at k
  have hlt := litN_lt h w
  have hL := lt32 (liN_lt o hlt) (by omega)
  refine ⟨fun e => c_bit (walls_lt o) (by omega) ?_, fun e => ⟨fun e2 => c_bit (doors_lt o) (by omega) ?_, fun e2 => ⟨fun e3 => c_litNow o ⟨vp_in_nI (by omega) (by omega), ?_⟩, fun e3 => ?_⟩⟩⟩
  · rw [if_pos e] at k; exact k
  · rw [if_neg e, if_pos e2] at k; exact k
  · rw [if_neg e, if_neg e2, if_pos e3] at k
    rw [ix_nI (by omega), (T.2 _ hlt).1]
    exact c_bit hL (by omega) k
  · rw [if_neg e, if_neg e2, if_neg e3] at k; exact k
theorem m_cell {h : Hal} {w : Nw} {t s : Nat → Int32} (o : OkH h) (n : OkN h w) (T : RM h t) (S : RS w s) {x y : Int32} {li mv sh : Nat → Int32} {post : Int32 → (Nat → Int32) → (Nat → Int32) → (Nat → Int32) → Prop} (k : ∀ a b c, post (celG h w x y) a b c) : wp_X5_cell x y t s li mv sh post := by
  unfold wp_X5_cell
  have h12 := o.c12
  have h64l := two6 o.2.2.2.2.2.1
  unfold celG at k
  refine m_isCell o T (fun q => br_f (by decide) ?_) (fun q => br_t rfl (by rw [vpB_f.mpr q] at k; exact k _ _ _))
  rw [vpB_t.mpr q] at k
  obtain ⟨c, hc, e⟩ := vp_ex q (by omega)
  subst e
  rw [ix_nI (by omega)] at k
  refine in_rng (n := 3) (by omega) (by decide) (fun hi => br_f (by decide) ?_) (fun hi => br_t rfl (by rw [sel3_b hi] at k; exact k _ _ _))
  have hlt := litN_lt h w
  have hL := lt32 (liN_lt o hlt) (by omega)
  unfold sel3 at k
  refine m_lights (M := 0) o T (p2pos _) (fun li2 mv2 sh2 hLT => ?_)
  rw [T.2.2.2.2.2.1, T.2.2.2.2.2.2.1, b_bit (walls_lt o) (by omega), b_bit (doors_lt o) (by omega)]
  refine ⟨fun e => ?_, fun e => ⟨fun e2 => ?_, fun e2 => m_lit o n T S ⟨vp_in_nI (by omega) (by omega), ?_⟩⟩⟩
  · rw [if_pos e] at k; exact k _ _ _
  · rw [if_neg e, if_pos e2] at k; exact k _ _ _
  · have e3 : y = 2 := by
      obtain ⟨j, hj, ej⟩ := vp_ex hi (by omega)
      subst ej
      have : j = 0 ∨ j = 1 ∨ j = 2 := by omega
      rcases this with q | q | q
      · subst q; exact absurd rfl e
      · subst q; exact absurd rfl e2
      · subst q; rfl
    rw [if_neg e, if_neg e2, if_pos e3] at k
    rw [ix_nI (by omega), (hLT.at o hlt).1, b_bit hL (by omega)]
    exact k _ _ _
def lamG (h : Hal) (w : Nw) (x y : Int32) : Int32 := if vpB x (hNl h) then sel4 y (nI (hLc h (ix x))) (nI (hLr h (ix x))) (b01 ((litN h w).testBit (ix x))) (nI (shL h (ix x))) else (-1)
theorem c_lamp {h : Hal} {w : Nw} (o : OkH h) {x y : Int32} {sh li lv lc lr : Nat → Int32} (T : RT h sh li lv) (hl : ∀ l, l < hNl h → lc l = nI (hLc h l) ∧ lr l = nI (hLr h l)) {post : Int32 → Prop} (k : post (lamG h w x y)) : wp_X4_lamp x y (nI (msk (nLmp w) (nLeft w))) (nI (hNl h)) lc lr sh post := by
  unfold wp_X4_lamp
  have h6 := o.2.2.2.2.2.1
  have h64l := two6 h6
  unfold lamG at k
  refine c_isLamp h6 (fun q => br_f (by decide) ?_) (fun q => br_t rfl (by rw [vpB_f.mpr q] at k; exact k))
  rw [vpB_t.mpr q] at k
  obtain ⟨c, hc, e⟩ := vp_ex q (by omega)
  subst e
  rw [ix_nI (by omega)] at k ⊢
  unfold sel4 at k
  have hlt := litN_lt h w
  rw [(hl c hc).1, (hl c hc).2, T.1 c hc]
  refine ⟨fun e => ⟨vp_in_nI (by omega) (by omega), ?_⟩, fun e => ⟨fun e2 => ⟨vp_in_nI (by omega) (by omega), ?_⟩, fun e2 => ⟨fun e3 => c_litNow o (c_bit (by omega) (by omega) ?_), fun e3 => ⟨fun e4 => ⟨vp_in_nI (by omega) (by omega), ?_⟩, fun e4 => ?_⟩⟩⟩⟩
  · rw [if_pos e] at k; exact k
  · rw [if_neg e, if_pos e2] at k; exact k
  · rw [if_neg e, if_neg e2, if_pos e3] at k; exact k
  · rw [if_neg e, if_neg e2, if_neg e3, if_pos e4] at k; exact k
  · rw [if_neg e, if_neg e2, if_neg e3, if_neg e4] at k; exact k
theorem ixa {a i n : Nat} {c : Int32} (hc : c = nI a) (h : a + i < n) (hn : n < 2 ^ 31) : vp_in (c + nI i) n ∧ ix (c + nI i) = a + i := by
  subst hc
  rw [nI_add]
  exact ⟨vp_in_nI h hn, ix_nI (by omega)⟩
theorem m_lamp {h : Hal} {w : Nw} {t s : Nat → Int32} (o : OkH h) (n : OkN h w) (T : RM h t) (S : RS w s) {x y : Int32} {post : Int32 → Prop} (k : post (lamG h w x y)) : wp_X5_lamp x y t s post := by
  unfold wp_X5_lamp
  have h6 := o.2.2.2.2.2.1
  have h64l := two6 h6
  unfold lamG at k
  refine m_isLamp o T (fun q => br_f (by decide) ?_) (fun q => br_t rfl (by rw [vpB_f.mpr q] at k; exact k))
  rw [vpB_t.mpr q] at k
  obtain ⟨c, hc, e⟩ := vp_ex q (by omega)
  subst e
  rw [ix_nI (by omega)] at k
  refine in_rng (n := 4) (by omega) (by decide) (fun hi => br_f (by decide) ?_) (fun hi => br_t rfl (by rw [sel4_b hi] at k; exact k))
  have hlt := litN_lt h w
  have i7 := ixa (a := 7) (i := c) (n := 43) (c := 7) rfl (by omega) (by omega)
  have i13 := ixa (a := 13) (i := c) (n := 43) (c := 13) rfl (by omega) (by omega)
  have hL := T.2.2.2.2.2.2.2.1 c hc
  have hok := o.2.2.2.2.2.2.2.1 c hc
  unfold sel4 at k
  rw [i7.2, i13.2, hL.1, hL.2]
  refine ⟨fun e => ⟨i7.1, ?_⟩, fun e => ⟨fun e2 => ⟨i13.1, ?_⟩, fun e2 => ⟨fun e3 => m_lit o n T S ?_, fun e3 => ⟨i7.1, i13.1, m_shines o T hok.1 hok.2 ?_⟩⟩⟩⟩
  · rw [if_pos e] at k; exact k
  · rw [if_neg e, if_pos e2] at k; exact k
  · rw [if_neg e, if_neg e2, if_pos e3] at k
    rw [b_bit (by omega) (by omega)]; exact k
  · have e4 : y = 3 := by
      obtain ⟨j, hj, ej⟩ := vp_ex hi (by omega)
      subst ej
      have : j = 0 ∨ j = 1 ∨ j = 2 ∨ j = 3 := by omega
      rcases this with q | q | q | q
      · subst q; exact absurd rfl e
      · subst q; exact absurd rfl e2
      · subst q; exact absurd rfl e3
      · subst q; rfl
    rw [if_neg e, if_neg e2, if_neg e3, if_pos e4] at k; exact k
def plF (f : Nat → Nat) (p : Nat) : Nat → Int32
  | 0 => (-9)
  | k + 1 => if f k = p then nI k else plF f p k
theorem plF_n {f : Nat → Nat} {p : Nat} : ∀ n, (∀ k, k < n → f k ≠ p) → plF f p n = (-9)
  | 0, _ => rfl
  | n + 1, h => by rw [plF, if_neg (h n (by omega)), plF_n n (fun k hk => h k (by omega))]
theorem plF_y {f : Nat → Nat} {p k : Nat} : ∀ n, k < n → f k = p → (∀ i j, i < n → j < n → f i = f j → i = j) → plF f p n = nI k
  | 0, h, _, _ => absurd h (Nat.not_lt_zero _)
  | n + 1, h, e, inj => by
    rw [plF]
    by_cases c : f n = p
    · rw [if_pos c, inj k n h (by omega) (by rw [e, c])]
    · rw [if_neg c]
      have : k ≠ n := fun q => c (by rw [← q]; exact e)
      exact plF_y n (by omega) e (fun i j hi hj => inj i j (by omega) (by omega))
def perG (h : Hal) (w : Nw) (x y : Int32) : Int32 := if vpB x (hNp h) then sel4 y (nI (hPc h (ix x))) (nI (hPw h (ix x))) (nI (hPs h (ix x))) (plF (nWho w) (ix x) (nLeft w)) else (-1)
theorem c_person {h : Hal} {w : Nw} (o : OkH h) (n : OkN h w) {x y : Int32} {lvr pcl wish side : Nat → Int32} (hp : ∀ p, p < hNp h → pcl p = nI (hPc h p) ∧ wish p = nI (hPw h p) ∧ side p = nI (hPs h p)) (hw : ∀ k, k < nLeft w → lvr k = nI (nWho w k)) {post : Int32 → Prop} (k : post (perG h w x y)) : wp_X4_person x y (nI (nLeft w)) lvr (nI (hNp h)) pcl wish side post := by
  unfold wp_X4_person
  have h6 := o.2.2.2.2.2.2.1
  unfold perG at k
  refine c_isPerson h6 (fun q => br_f (by decide) ?_) (fun q => br_t rfl (by rw [vpB_f.mpr q] at k; exact k))
  rw [vpB_t.mpr q] at k
  obtain ⟨c, hc, e⟩ := vp_ex q (by omega)
  subst e
  rw [ix_nI (by omega)] at k ⊢
  unfold sel4 at k
  have hl := n.left o
  rw [(hp c hc).1, (hp c hc).2.1, (hp c hc).2.2]
  refine ⟨fun e => ⟨vp_in_nI (by omega) (by omega), ?_⟩, fun e => ⟨fun e2 => ⟨vp_in_nI (by omega) (by omega), ?_⟩, fun e2 => ⟨fun e3 => ⟨vp_in_nI (by omega) (by omega), ?_⟩, fun e3 => ⟨fun e4 => ?_, fun e4 => ?_⟩⟩⟩⟩
  · rw [if_pos e] at k; exact k
  · rw [if_neg e, if_pos e2] at k; exact k
  · rw [if_neg e, if_neg e2, if_pos e3] at k; exact k
  · rw [if_neg e, if_neg e2, if_neg e3, if_pos e4] at k
    unfold wp_X1_placeOf
    have key : ∀ m i, i + m = nLeft w → (∀ j, j < i → nWho w j ≠ c) → wp_X1_placeOf_L2 (nI c) (nI (nLeft w)) lvr post (m + 1) (nI i) := by
      intro m
      induction m with
      | zero =>
        intro i hi hno
        unfold wp_X1_placeOf_L2
        have e : i = nLeft w := by omega
        subst e
        rw [plF_n _ hno] at k
        exact br_t (nI_le (by omega) (by omega)) k
      | succ m ih =>
        intro i hi hno
        unfold wp_X1_placeOf_L2
        have hwi := (n.1 i (by omega)).1
        refine br_f (nI_ge (by omega) (by omega)) ⟨vp_in_nI (by omega) (by omega), ?_⟩
        rw [ix_nI (by omega), hw i (by omega), nI_1]
        refine pk_eq _ _ (fun e => ?_) (fun e => ih (i + 1) (by omega) ?_)
        · rw [plF_y _ (show i < nLeft w by omega) e n.2.1] at k
          exact k
        · intro j hj
          by_cases q : j = i
          · rw [q]; exact e
          · exact hno j (by omega)
    exact ⟨_, key (nLeft w) 0 (by omega) (fun j hj => by omega)⟩
  · rw [if_neg e, if_neg e2, if_neg e3, if_neg e4] at k; exact k
theorem m_person {h : Hal} {w : Nw} {t s : Nat → Int32} (o : OkH h) (n : OkN h w) (T : RM h t) (S : RS w s) {x y : Int32} {post : Int32 → Prop} (k : post (perG h w x y)) : wp_X5_person x y t s post := by
  unfold wp_X5_person
  have h6 := o.2.2.2.2.2.2.1
  have hl := n.left o
  unfold perG at k
  refine m_isPerson o T (fun q => br_f (by decide) ?_) (fun q => br_t rfl (by rw [vpB_f.mpr q] at k; exact k))
  rw [vpB_t.mpr q] at k
  obtain ⟨c, hc, e⟩ := vp_ex q (by omega)
  subst e
  rw [ix_nI (by omega)] at k
  refine in_rng (n := 4) (by omega) (by decide) (fun hi => br_f (by decide) ?_) (fun hi => br_t rfl (by rw [sel4_b hi] at k; exact k))
  refine jn_i (plF (nWho w) c (nLeft w)) (fun K hK => ?_) ?_
  · have key : ∀ m i, i + m = nLeft w → wp_X5_person_L25 (nI c) s K (m + 1) (plF (nWho w) c i) (nI i) := by
      intro m
      induction m with
      | zero =>
        intro i hi
        unfold wp_X5_person_L25
        have e : i = nLeft w := by omega
        subst e
        rw [S.1]
        exact br_t (nI_le (by omega) (by omega)) hK
      | succ m ih =>
        intro i hi
        unfold wp_X5_person_L25
        have hwi := (n.1 i (by omega)).1
        have i1 := ixa (a := 1) (i := i) (n := 38) (c := 1) rfl (by omega) (by omega)
        rw [S.1]
        refine br_f (nI_ge (by omega) (by omega)) ⟨i1.1, ?_⟩
        rw [i1.2, (S.2.2.1 i (by omega)).1, nI_1]
        have h9 := ih (i + 1) (by omega)
        rw [plF] at h9
        refine jn_i _ (fun K hK => pk_eq _ _ (fun e => ?_) (fun e => ?_)) h9
        · rw [if_pos e] at hK; exact hK
        · rw [if_neg e] at hK; exact hK
    exact ⟨_, key (nLeft w) 0 (by omega)⟩
  · obtain ⟨j, hj, ej⟩ := vp_ex hi (by omega)
    subst ej
    have hP := T.2.2.2.2.2.2.2.2 c hc
    refine pk_le 3 j (fun q => ?_) (fun q => ?_)
    · have : j = 3 := by omega
      subst this
      exact k
    · have e1 : (19 : Int32) + 6 * nI j = nI (19 + 6 * j) := by
        show nI 19 + nI 6 * nI j = _
        rw [pk_mul, nI_add]
      have ia := ixa (a := 19 + 6 * j) (i := c) (n := 43) e1 (by omega) (by omega)
      refine ⟨ia.1, ?_⟩
      rw [ia.2]
      have : j = 0 ∨ j = 1 ∨ j = 2 := by omega
      rcases this with z | z | z
      · subst z
        rw [show 19 + 6 * 0 + c = 19 + c by omega, hP.1]; exact k
      · subst z
        rw [show 19 + 6 * 1 + c = 25 + c by omega, hP.2.1]; exact k
      · subst z
        rw [show 19 + 6 * 2 + c = 31 + c by omega, hP.2.2]; exact k
def canG (h : Hal) (w : Nw) (x : Int32) : Int32 := if vpB x (hNp h) then (if (goneN w).testBit (ix x) = true then (-2) else b01 ((lvN h (litN h w)).testBit (ix x))) else (-1)
theorem c_can {h : Hal} {w : Nw} (o : OkH h) (n : OkN h w) {x : Int32} {sh li lv : Nat → Int32} (T : RT h sh li lv) {post : Int32 → Prop} (k : post (canG h w x)) : wp_X4_can x (nI (goneN w)) (nI (msk (nLmp w) (nLeft w))) (nI (hNl h)) (nI (hNp h)) lv post := by
  unfold wp_X4_can
  have h6 := o.2.2.2.2.2.2.1
  have h64 := two6 h6
  have h64l := two6 o.2.2.2.2.2.1
  unfold canG at k
  refine c_isPerson h6 (fun q => br_f (by decide) ?_) (fun q => br_t rfl (by rw [vpB_f.mpr q] at k; exact k))
  rw [vpB_t.mpr q] at k
  obtain ⟨c, hc, e⟩ := vp_ex q (by omega)
  subst e
  rw [ix_nI (by omega)] at k
  have hg := goneN_lt n
  have hlt := litN_lt h w
  have hvl : lvN h (litN h w) < 2 ^ hNp h := mayN_lt _ _
  unfold wp_X4_hasLeft
  refine c_bit (by omega) (by omega) (b01_o (fun d => br_f (by decide) ?_) (fun d => br_t rfl (c_litNow o ⟨vp_in_nI (by omega) (by omega), ?_⟩)))
  · rw [if_pos d] at k; exact k
  · rw [ix_nI (by omega), (T.2 _ hlt).2]
    rw [d] at k
    exact c_bit (by omega) (by omega) k
theorem m_can {h : Hal} {w : Nw} {t s : Nat → Int32} (o : OkH h) (n : OkN h w) (T : RM h t) (S : RS w s) {x : Int32} {li mv sh : Nat → Int32} {post : Int32 → (Nat → Int32) → (Nat → Int32) → (Nat → Int32) → Prop} (k : ∀ a b c, post (canG h w x) a b c) : wp_X5_can x t s li mv sh post := by
  unfold wp_X5_can
  have h6 := o.2.2.2.2.2.2.1
  have h64 := two6 h6
  have h64l := two6 o.2.2.2.2.2.1
  have hl := n.left o
  unfold canG at k
  refine m_isPerson o T (fun q => br_f (by decide) ?_) (fun q => br_t rfl (by rw [vpB_f.mpr q] at k; exact k _ _ _))
  rw [vpB_t.mpr q] at k
  obtain ⟨c, hc, e⟩ := vp_ex q (by omega)
  subst e
  rw [ix_nI (by omega)] at k
  have hg := goneN_lt n
  have hlt := litN_lt h w
  have hvl : lvN h (litN h w) < 2 ^ hNp h := mayN_lt _ _
  refine m_gone hl.2.2 (hwho o n) S ?_
  rw [b_bit (by omega) (by omega)]
  refine b01_o (fun d => ?_) (fun d => m_lights (M := 0) o T (p2pos _) (fun li2 mv2 sh2 hLT => m_lit o n T S ⟨vp_in_nI (by omega) (by omega), ?_⟩))
  · rw [if_pos d] at k; exact k _ _ _
  · rw [ix_nI (by omega), (hLT.at o hlt).2, b_bit (by omega) (by omega)]
    rw [d] at k
    exact k _ _ _
