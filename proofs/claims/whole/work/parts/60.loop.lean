/-! The law's loop: what holds between the class and the reference at its head. -/
def IM (h : Hal) (kx km a b c d : Int32) (e f g i j : Nat → Int32) (im : Nat → Int32) : Prop := kx = km ∧ (¬ kx = 0 → ∃ w, OkN h w ∧ RC w a b c d e f g i j ∧ RS w im)
theorem IM_no {h : Hal} {kx km a b c d : Int32} {e f g i j im : Nat → Int32} (h1 : kx = 0) (h2 : km = 0) : IM h kx km a b c d e f g i j im := ⟨by rw [h1, h2], fun q => absurd h1 q⟩
theorem IM_cong {h : Hal} {kx km kx2 km2 a b c d : Int32} {e f g i j im im2 : Nat → Int32} (o : OkH h) (h1 : kx2 = kx) (h2 : km2 = km) (h3 : ∀ k, k < 38 → im2 k = im k) (I : IM h kx km a b c d e f g i j im) : IM h kx2 km2 a b c d e f g i j im2 := by
  subst h1 h2
  refine ⟨I.1, fun q => ?_⟩
  obtain ⟨w, n, R, S⟩ := I.2 q
  exact ⟨w, n, R, RS_cong (n.left o).2.2 n.2.2.2.1 h3 S⟩
theorem IM_set {h : Hal} {w : Nw} {kx km a b c d : Int32} {e f g i j e2 f2 g2 i2 j2 s im : Nat → Int32} (o : OkH h) (n : OkN h w) (h1 : kx = km) (R : RC w a b c d e f g i j) (S : RS w s) (h3 : ∀ k, k < 38 → im k = s k) : IM h kx km a b c d (va_cpy e e2 0 0 6) (va_cpy f f2 0 0 6) (va_cpy g g2 0 0 8) (va_cpy i i2 0 0 8) (va_cpy j j2 0 0 8) im :=
  ⟨h1, fun _ => ⟨w, n, RC_copy (n.left o).2.2 n.2.2.2.1 R, RS_cong (n.left o).2.2 n.2.2.2.1 h3 S⟩⟩
def KT (h : Hal) (gr wi : Nat → Int32) (kn : Int32) : Prop := isB kn ∧ (¬ kn = 0 → ∀ P, P < 2 ^ hNp h → ∀ S, S < 2 ^ hNl h → TBc h gr wi P S)
def INV (h : Hal) (w : Nw) (len : Nat) (x_kept : Nat → Int32) (x_traced : Int64) (t_bytes : Nat → Int32) (t_length : Int32) (n_left : Int32) (n_gone : Int32) (n_dark : Int32) (n_seen : Int32) (n_leaver : Nat → Int32) (n_putOut : Nat → Int32) (n_seenAfter : Nat → Int32) (n_seenCell : Nat → Int32) (n_seenLight : Nat → Int32) (i0_left : Int32) (i0_gone : Int32) (i0_dark : Int32) (i0_seen : Int32) (i0_leaver : Nat → Int32) (i0_putOut : Nat → Int32) (i0_seenAfter : Nat → Int32) (i0_seenCell : Nat → Int32) (i0_seenLight : Nat → Int32) (i1_left : Int32) (i1_gone : Int32) (i1_dark : Int32) (i1_seen : Int32) (i1_leaver : Nat → Int32) (i1_putOut : Nat → Int32) (i1_seenAfter : Nat → Int32) (i1_seenCell : Nat → Int32) (i1_seenLight : Nat → Int32) (k_griefs : Nat → Int32) (k_wins : Nat → Int32) (k_tablesKnown : Int32) (h_wide : Int32) (h_high : Int32) (h_walls : Int32) (h_doors : Int32) (h_law : Int32) (h_lamps : Int32) (h_people : Int32) (h_lampCell : Nat → Int32) (h_lampReach : Nat → Int32) (h_shine : Nat → Int32) (h_personCell : Nat → Int32) (h_wish : Nat → Int32) (h_side : Nat → Int32) (h_light : Nat → Int32) (h_leavers : Nat → Int32) (m_trace : Int64) (m_text : Nat → Int32) (m_typed : Int32) (m_told : Nat → Int32) (m_s : Nat → Int32) (m_images : Nat → Int32) (m_kept : Nat → Int32) : Prop := OkH h ∧ OkN h w ∧ TX len t_bytes t_length m_text m_typed ∧ RC w n_left n_gone n_dark n_seen n_leaver n_putOut n_seenAfter n_seenCell n_seenLight ∧ RS w m_s ∧ RH0 h h_wide h_high h_walls h_doors h_law h_lamps h_people h_lampCell h_lampReach h_personCell h_wish h_side ∧ RM h m_told ∧ RT h h_shine h_light h_leavers ∧ KT h k_griefs k_wins k_tablesKnown ∧ IM h (x_kept 0) (m_kept 0) i0_left i0_gone i0_dark i0_seen i0_leaver i0_putOut i0_seenAfter i0_seenCell i0_seenLight (fun k => m_images (38 * 0 + k)) ∧ IM h (x_kept 1) (m_kept 1) i1_left i1_gone i1_dark i1_seen i1_leaver i1_putOut i1_seenAfter i1_seenCell i1_seenLight (fun k => m_images (38 * 1 + k)) ∧ x_traced = m_trace
def w00 : Nw := ((0, 0), (fun _ => 0), (fun _ => 0), (fun _ => 0), (fun _ => 0), (fun _ => 0))
theorem w00_ok (h : Hal) : OkN h w00 := ⟨fun k hk => absurd hk (Nat.not_lt_zero _), fun i j hi => absurd hi (Nat.not_lt_zero _), fun i j hi => absurd hi (Nat.not_lt_zero _), Nat.zero_le _, fun k hk => absurd hk (Nat.not_lt_zero _)⟩
theorem w00_c {a b c d e : Nat → Int32} : RC w00 0 0 0 0 a b c d e := ⟨rfl, rfl, rfl, rfl, fun k hk => absurd hk (Nat.not_lt_zero _), fun k hk => absurd hk (Nat.not_lt_zero _)⟩
theorem w00_m {s : Nat → Int32} (h : ∀ k, k < 38 → s k = 0) : RS w00 s := ⟨by rw [h 0 (by omega)]; rfl, by rw [h 13 (by omega)]; rfl, fun k hk => absurd hk (Nat.not_lt_zero _), fun k hk => absurd hk (Nat.not_lt_zero _)⟩
theorem TX_b {len : Nat} {tb mt : Nat → Int32} {tl my : Int32} (X : TX len tb tl mt my) : BY (fun k => ix (tb k)) len tb ∧ BY (fun k => ix (tb k)) len mt := by
  refine ⟨fun k hk => ?_, fun k hk => ?_⟩
  · obtain ⟨b, h1, h2, h3⟩ := X.2.2.2 k hk
    show ix (tb k) < 256 ∧ tb k = nI (ix (tb k))
    rw [h2, ix_nI (by omega)]
    exact ⟨h1, rfl⟩
  · obtain ⟨b, h1, h2, h3⟩ := X.2.2.2 k hk
    show ix (tb k) < 256 ∧ mt k = nI (ix (tb k))
    rw [h2, h3, ix_nI (by omega)]
    exact ⟨h1, rfl⟩
theorem TX_0 {tb mt : Nat → Int32} : TX 0 tb 0 mt 0 := ⟨Nat.zero_le _, rfl, rfl, fun k hk => absurd hk (Nat.not_lt_zero _)⟩
theorem yes {a : Int32} {A : Prop} (h : A) : (a = a → A) ∧ (¬ a = a → False) := ⟨fun _ => h, fun q => q rfl⟩
theorem yesE {a b : Int32} {A : Prop} (e : a = b) (h : A) : (a = b → A) ∧ (¬ a = b → False) := ⟨fun _ => h, fun q => q e⟩
theorem head_in {L i : Nat} (hL : L ≤ 2048) (hi : i ≤ L / 4) (c : ¬ (nI L - 4) < nI (4 * i)) : 4 * i + 4 ≤ L := by
  have e4 : (4 : Int32).toInt = 4 := by decide
  have e1 : (nI L - 4).toInt = (L : Int) - 4 := by
    rw [fb_subI, nI_toInt (by omega), e4]
    · rw [nI_toInt (by omega), e4]; omega
    · rw [nI_toInt (by omega), e4]; omega
  rcases Nat.lt_or_ge L (4 * i + 4) with q | q
  · exfalso
    apply c
    rw [fa_lt, e1, nI_toInt (by omega)]
    omega
  · exact q
theorem lt2 {x : Int32} (c1 : ¬ x < 0) (c2 : x < 2) : vp_in x 2 := by
  have c3 := (fa_lt _ _).mp c2
  have e2 : (2 : Int32).toInt = 2 := by decide
  exact vp_of c1 (by omega)
set_option maxRecDepth 100000 in
set_option maxHeartbeats 40000000 in
theorem pure_loop {L : Nat} {xs : Nat → Int32} (hL : L ≤ 2048) : ∀ (n i : Nat), L / 4 < i + n → i ≤ L / 4 → ∀ {h : Hal} {w : Nw} {len : Nat} {x_kept : Nat → Int32} {x_traced : Int64} {t_bytes : Nat → Int32} {t_length : Int32} {t_next : Int32} {t_start : Int32} {t_kind : Int32} {t_value : Int32} {t_item : Int32} {t_numbersTold : Int32} {t_items : Int32} {t_numbers : Nat → Int32} {t_lawTold : Int32} {n_left : Int32} {n_gone : Int32} {n_dark : Int32} {n_seen : Int32} {n_leaver : Nat → Int32} {n_putOut : Nat → Int32} {n_seenAfter : Nat → Int32} {n_seenCell : Nat → Int32} {n_seenLight : Nat → Int32} {i0_left : Int32} {i0_gone : Int32} {i0_dark : Int32} {i0_seen : Int32} {i0_leaver : Nat → Int32} {i0_putOut : Nat → Int32} {i0_seenAfter : Nat → Int32} {i0_seenCell : Nat → Int32} {i0_seenLight : Nat → Int32} {i1_left : Int32} {i1_gone : Int32} {i1_dark : Int32} {i1_seen : Int32} {i1_leaver : Nat → Int32} {i1_putOut : Nat → Int32} {i1_seenAfter : Nat → Int32} {i1_seenCell : Nat → Int32} {i1_seenLight : Nat → Int32} {k_longest : Nat → Int32} {k_ways : Nat → Int32} {k_griefs : Nat → Int32} {k_wins : Nat → Int32} {k_tablesKnown : Int32} {k_chosenPerson : Int32} {k_chosenLamp : Int32} {h_wide : Int32} {h_high : Int32} {h_walls : Int32} {h_doors : Int32} {h_law : Int32} {h_lamps : Int32} {h_people : Int32} {h_lampCell : Nat → Int32} {h_lampReach : Nat → Int32} {h_shine : Nat → Int32} {h_personCell : Nat → Int32} {h_wish : Nat → Int32} {h_side : Nat → Int32} {h_light : Nat → Int32} {h_leavers : Nat → Int32} {d_wide : Int32} {d_high : Int32} {d_walls : Int32} {d_doors : Int32} {d_law : Int32} {d_lamps : Int32} {d_people : Int32} {d_lampCell : Nat → Int32} {d_lampReach : Nat → Int32} {d_shine : Nat → Int32} {d_personCell : Nat → Int32} {d_wish : Nat → Int32} {d_side : Nat → Int32} {d_light : Nat → Int32} {d_leavers : Nat → Int32} {m_trace : Int64} {m_text : Nat → Int32} {m_typed : Int32} {m_told : Nat → Int32} {m_draft : Nat → Int32} {m_s : Nat → Int32} {m_images : Nat → Int32} {m_kept : Nat → Int32} {m_at : Int32} {m_sort : Int32} {m_start : Int32} {m_size : Int32} {m_light : Nat → Int32} {m_may : Nat → Int32} {m_shine : Nat → Int32} {m_wo : Nat → Int32} {m_least : Nat → Int32}, INV h w len x_kept x_traced t_bytes t_length n_left n_gone n_dark n_seen n_leaver n_putOut n_seenAfter n_seenCell n_seenLight i0_left i0_gone i0_dark i0_seen i0_leaver i0_putOut i0_seenAfter i0_seenCell i0_seenLight i1_left i1_gone i1_dark i1_seen i1_leaver i1_putOut i1_seenAfter i1_seenCell i1_seenLight k_griefs k_wins k_tablesKnown h_wide h_high h_walls h_doors h_law h_lamps h_people h_lampCell h_lampReach h_shine h_personCell h_wish h_side h_light h_leavers m_trace m_text m_typed m_told m_s m_images m_kept → wp_L_law_L18 L xs n (nI (4 * i)) x_kept x_traced t_bytes t_length t_next t_start t_kind t_value t_item t_numbersTold t_items t_numbers t_lawTold n_left n_gone n_dark n_seen n_leaver n_putOut n_seenAfter n_seenCell n_seenLight i0_left i0_gone i0_dark i0_seen i0_leaver i0_putOut i0_seenAfter i0_seenCell i0_seenLight i1_left i1_gone i1_dark i1_seen i1_leaver i1_putOut i1_seenAfter i1_seenCell i1_seenLight k_longest k_ways k_griefs k_wins k_tablesKnown k_chosenPerson k_chosenLamp h_wide h_high h_walls h_doors h_law h_lamps h_people h_lampCell h_lampReach h_shine h_personCell h_wish h_side h_light h_leavers d_wide d_high d_walls d_doors d_law d_lamps d_people d_lampCell d_lampReach d_shine d_personCell d_wish d_side d_light d_leavers m_trace m_text m_typed m_told m_draft m_s m_images m_kept m_at m_sort m_start m_size m_light m_may m_shine m_wo m_least := by
  intro n
  induction n with
  | zero => intro i h1 h2; omega
  | succ n ih0 =>
    intro i hn hi h w len x_kept x_traced t_bytes t_length t_next t_start t_kind t_value t_item t_numbersTold t_items t_numbers t_lawTold n_left n_gone n_dark n_seen n_leaver n_putOut n_seenAfter n_seenCell n_seenLight i0_left i0_gone i0_dark i0_seen i0_leaver i0_putOut i0_seenAfter i0_seenCell i0_seenLight i1_left i1_gone i1_dark i1_seen i1_leaver i1_putOut i1_seenAfter i1_seenCell i1_seenLight k_longest k_ways k_griefs k_wins k_tablesKnown k_chosenPerson k_chosenLamp h_wide h_high h_walls h_doors h_law h_lamps h_people h_lampCell h_lampReach h_shine h_personCell h_wish h_side h_light h_leavers d_wide d_high d_walls d_doors d_law d_lamps d_people d_lampCell d_lampReach d_shine d_personCell d_wish d_side d_light d_leavers m_trace m_text m_typed m_told m_draft m_s m_images m_kept m_at m_sort m_start m_size m_light m_may m_shine m_wo m_least inv
    have e4 : nI (4 * i) + 4 = nI (4 * (i + 1)) := nI_add (4 * i) 4
    have ih1 : i + 1 ≤ L / 4 → ∀ {h : Hal} {w : Nw} {len : Nat} {x_kept : Nat → Int32} {x_traced : Int64} {t_bytes : Nat → Int32} {t_length : Int32} {t_next : Int32} {t_start : Int32} {t_kind : Int32} {t_value : Int32} {t_item : Int32} {t_numbersTold : Int32} {t_items : Int32} {t_numbers : Nat → Int32} {t_lawTold : Int32} {n_left : Int32} {n_gone : Int32} {n_dark : Int32} {n_seen : Int32} {n_leaver : Nat → Int32} {n_putOut : Nat → Int32} {n_seenAfter : Nat → Int32} {n_seenCell : Nat → Int32} {n_seenLight : Nat → Int32} {i0_left : Int32} {i0_gone : Int32} {i0_dark : Int32} {i0_seen : Int32} {i0_leaver : Nat → Int32} {i0_putOut : Nat → Int32} {i0_seenAfter : Nat → Int32} {i0_seenCell : Nat → Int32} {i0_seenLight : Nat → Int32} {i1_left : Int32} {i1_gone : Int32} {i1_dark : Int32} {i1_seen : Int32} {i1_leaver : Nat → Int32} {i1_putOut : Nat → Int32} {i1_seenAfter : Nat → Int32} {i1_seenCell : Nat → Int32} {i1_seenLight : Nat → Int32} {k_longest : Nat → Int32} {k_ways : Nat → Int32} {k_griefs : Nat → Int32} {k_wins : Nat → Int32} {k_tablesKnown : Int32} {k_chosenPerson : Int32} {k_chosenLamp : Int32} {h_wide : Int32} {h_high : Int32} {h_walls : Int32} {h_doors : Int32} {h_law : Int32} {h_lamps : Int32} {h_people : Int32} {h_lampCell : Nat → Int32} {h_lampReach : Nat → Int32} {h_shine : Nat → Int32} {h_personCell : Nat → Int32} {h_wish : Nat → Int32} {h_side : Nat → Int32} {h_light : Nat → Int32} {h_leavers : Nat → Int32} {d_wide : Int32} {d_high : Int32} {d_walls : Int32} {d_doors : Int32} {d_law : Int32} {d_lamps : Int32} {d_people : Int32} {d_lampCell : Nat → Int32} {d_lampReach : Nat → Int32} {d_shine : Nat → Int32} {d_personCell : Nat → Int32} {d_wish : Nat → Int32} {d_side : Nat → Int32} {d_light : Nat → Int32} {d_leavers : Nat → Int32} {m_trace : Int64} {m_text : Nat → Int32} {m_typed : Int32} {m_told : Nat → Int32} {m_draft : Nat → Int32} {m_s : Nat → Int32} {m_images : Nat → Int32} {m_kept : Nat → Int32} {m_at : Int32} {m_sort : Int32} {m_start : Int32} {m_size : Int32} {m_light : Nat → Int32} {m_may : Nat → Int32} {m_shine : Nat → Int32} {m_wo : Nat → Int32} {m_least : Nat → Int32}, INV h w len x_kept x_traced t_bytes t_length n_left n_gone n_dark n_seen n_leaver n_putOut n_seenAfter n_seenCell n_seenLight i0_left i0_gone i0_dark i0_seen i0_leaver i0_putOut i0_seenAfter i0_seenCell i0_seenLight i1_left i1_gone i1_dark i1_seen i1_leaver i1_putOut i1_seenAfter i1_seenCell i1_seenLight k_griefs k_wins k_tablesKnown h_wide h_high h_walls h_doors h_law h_lamps h_people h_lampCell h_lampReach h_shine h_personCell h_wish h_side h_light h_leavers m_trace m_text m_typed m_told m_s m_images m_kept → wp_L_law_L18 L xs n (nI (4 * i) + (4 : Int32)) x_kept x_traced t_bytes t_length t_next t_start t_kind t_value t_item t_numbersTold t_items t_numbers t_lawTold n_left n_gone n_dark n_seen n_leaver n_putOut n_seenAfter n_seenCell n_seenLight i0_left i0_gone i0_dark i0_seen i0_leaver i0_putOut i0_seenAfter i0_seenCell i0_seenLight i1_left i1_gone i1_dark i1_seen i1_leaver i1_putOut i1_seenAfter i1_seenCell i1_seenLight k_longest k_ways k_griefs k_wins k_tablesKnown k_chosenPerson k_chosenLamp h_wide h_high h_walls h_doors h_law h_lamps h_people h_lampCell h_lampReach h_shine h_personCell h_wish h_side h_light h_leavers d_wide d_high d_walls d_doors d_law d_lamps d_people d_lampCell d_lampReach d_shine d_personCell d_wish d_side d_light d_leavers m_trace m_text m_typed m_told m_draft m_s m_images m_kept m_at m_sort m_start m_size m_light m_may m_shine m_wo m_least := by
      intro hi2 h w len x_kept x_traced t_bytes t_length t_next t_start t_kind t_value t_item t_numbersTold t_items t_numbers t_lawTold n_left n_gone n_dark n_seen n_leaver n_putOut n_seenAfter n_seenCell n_seenLight i0_left i0_gone i0_dark i0_seen i0_leaver i0_putOut i0_seenAfter i0_seenCell i0_seenLight i1_left i1_gone i1_dark i1_seen i1_leaver i1_putOut i1_seenAfter i1_seenCell i1_seenLight k_longest k_ways k_griefs k_wins k_tablesKnown k_chosenPerson k_chosenLamp h_wide h_high h_walls h_doors h_law h_lamps h_people h_lampCell h_lampReach h_shine h_personCell h_wish h_side h_light h_leavers d_wide d_high d_walls d_doors d_law d_lamps d_people d_lampCell d_lampReach d_shine d_personCell d_wish d_side d_light d_leavers m_trace m_text m_typed m_told m_draft m_s m_images m_kept m_at m_sort m_start m_size m_light m_may m_shine m_wo m_least q
      rw [e4]
      exact ih0 (i + 1) (by omega) hi2 q
    clear ih0
    unfold wp_L_law_L18
    refine ⟨fun _ => trivial, fun c => ?_⟩
    have hin := head_in hL hi c
    have ih := fun {h w len} => @ih1 (by omega) h w len
    clear ih1 c
    obtain ⟨O, M, X, R, S, ⟨rfl, rfl, rfl, rfl, rfl, rfl, rfl, HL, HP⟩, T, Tt, K, I0, I1, rfl⟩ := inv
    have hlen : len ≤ 300 := X.1
    have Rr := R
    obtain ⟨rfl, rfl, rfl, rfl, R5, R6⟩ := Rr
    have Xx := X
    obtain ⟨-, rfl, rfl, -⟩ := Xx
    have HH : RH0 h (nI (hW h)) (nI (hH h)) (nI (hWal h)) (nI (hDor h)) (nI (hLaw h)) (nI (hNl h)) (nI (hNp h)) h_lampCell h_lampReach h_personCell h_wish h_side := ⟨rfl, rfl, rfl, rfl, rfl, rfl, rfl, HL, HP⟩
    have hlv : ∀ lit, lit < 2 ^ hNl h → h_leavers lit = nI (lvN h lit) := fun lit hq => (Tt.2 lit hq).2
    have hv0 : vp_in (nI (4 * i)) L := vp_in_nI (by omega) (by omega)
    have hv1 : vp_in (nI (4 * i) + (1 : Int32)) L := by rw [show nI (4 * i) + (1 : Int32) = nI (4 * i + 1) from nI_add (4 * i) 1]; exact vp_in_nI (by omega) (by omega)
    have hv2 : vp_in (nI (4 * i) + (2 : Int32)) L := by rw [show nI (4 * i) + (2 : Int32) = nI (4 * i + 2) from nI_add (4 * i) 2]; exact vp_in_nI (by omega) (by omega)
    have hv3 : vp_in (nI (4 * i) + (3 : Int32)) L := by rw [show nI (4 * i) + (3 : Int32) = nI (4 * i + 3) from nI_add (4 * i) 3]; exact vp_in_nI (by omega) (by omega)
    generalize xs (ix (nI (4 * i) + (1 : Int32))) = a1
    generalize xs (ix (nI (4 * i) + (2 : Int32))) = a2
    generalize xs (ix (nI (4 * i) + (3 : Int32))) = a3
    refine ⟨hv0, ⟨fun _ => ?_, fun _ => ⟨fun _ => ?_, fun _ => ⟨fun _ => ?_, fun _ => ⟨fun _ => ?_, fun _ => ⟨fun _ => ?_, fun _ => ⟨fun _ => ?_, fun _ => ⟨fun _ => ?_, fun _ => ⟨fun _ => ?_, fun _ => ⟨fun _ => ?_, fun _ => ⟨fun _ => ?_, fun _ => ⟨fun _ => ?_, fun _ => ⟨fun _ => ?_, fun _ => ⟨fun _ => ?_, fun _ => ⟨fun _ => ?_, fun _ => ⟨fun _ => ?_, fun _ => ⟨fun _ => ?_, fun _ => ⟨fun _ => ?_, fun _ => ⟨fun _ => ?_, fun _ => ⟨fun _ => ?_, fun _ => ⟨fun _ => ?_, fun _ => ⟨fun _ => ?_, fun _ => ⟨fun _ => ?_, fun _ => ⟨fun _ => ?_, fun _ => ⟨fun _ => ?_, fun _ => ⟨fun _ => ?_, fun _ => ?_⟩⟩⟩⟩⟩⟩⟩⟩⟩⟩⟩⟩⟩⟩⟩⟩⟩⟩⟩⟩⟩⟩⟩⟩⟩⟩
    · -- type
      exact ⟨hv1, hv2, hv3, c_type hlen (fun tb2 p1 p2 => ⟨hv1, hv2, hv3, m_type hlen (fun mt2 q1 q2 => yes (ih ⟨O, M, tx_type X p1 p2 q1 q2, R, S, HH, T, Tt, K, I0, I1, rfl⟩))⟩)⟩
    · -- clear
      unfold wp_X4_clear wp_X5_clear
      exact yes (ih ⟨O, M, TX_0, R, S, HH, T, Tt, K, I0, I1, rfl⟩)
    · -- hall
      obtain ⟨Y1, Y2⟩ := TX_b X
      refine c_hall hlen Y1 (fun q e x1 x2 x3 x4 x5 x6 x7 x8 x9 y1 y2 y3 y4 y5 y6 y7 z1 z2 z3 z4 z5 z6 z7 z8 => ?_) (fun h2 its2 e o2 kp2 e0 e1 x1 x2 x3 x4 x5 x6 x7 x8 x9 lc2 lr2 sh2 pc2 ws2 sd2 li2 lv2 A2 T2 => ?_)
      · refine ⟨fun z => Bool.noConfusion z, fun _ => ?_⟩
        refine m_hall hlen Y2 (fun q2 e2 d2 x y z w2 => ?_) (fun h3 its3 e2 => ?_)
        · have eq := Sum.inl.inj (e.symm.trans e2)
          subst eq
          exact yes (ih ⟨O, M, X, R, S, HH, T, Tt, K, I0, I1, rfl⟩)
        · exact absurd (e.symm.trans e2) (fun z => by cases z)
      · refine ⟨fun _ => ?_, fun z => absurd rfl z⟩
        refine m_hall hlen Y2 (fun q2 e2 => ?_) (fun h3 its3 e2 o3 told2 d2 s2 x y z w2 R3 g3 => ?_)
        · exact absurd (e.symm.trans e2) (fun z => by cases z)
        · have eq := Sum.inr.inj (e.symm.trans e2)
          have eq1 : h2 = h3 := congrArg Prod.fst eq
          have eq2 : its2 = its3 := congrArg Prod.snd eq
          subst eq1 eq2
          exact yes (ih ⟨o2, w00_ok h2, TX_0, w00_c, w00_m g3, ⟨rfl, rfl, rfl, rfl, rfl, rfl, rfl, A2.1, A2.2⟩, R3, T2, ⟨Or.inl rfl, fun z => absurd rfl z⟩, IM_no e0 (by rw [upd_n (by omega), upd_s]), IM_no e1 (by rw [upd_s]), rfl⟩)
    · -- cell
      exact ⟨hv1, hv2, c_cell O Tt ⟨hv1, hv2, m_cell O M T S (fun x y z => yes (ih ⟨O, M, X, R, S, HH, T, Tt, K, I0, I1, rfl⟩))⟩⟩
    · -- lamp
      exact ⟨hv1, hv2, c_lamp O Tt HL ⟨hv1, hv2, m_lamp O M T S (yes (ih ⟨O, M, X, R, S, HH, T, Tt, K, I0, I1, rfl⟩))⟩⟩
    · -- person
      exact ⟨hv1, hv2, c_person O M HP (fun k hk => (R5 k hk).1) ⟨hv1, hv2, m_person O M T S (yes (ih ⟨O, M, X, R, S, HH, T, Tt, K, I0, I1, rfl⟩))⟩⟩
    · -- can
      exact ⟨hv1, c_can O M Tt ⟨hv1, m_can O M T S (fun x y z => yes (ih ⟨O, M, X, R, S, HH, T, Tt, K, I0, I1, rfl⟩))⟩⟩
    · -- leaves
      exact ⟨hv1, hv2, c_leaves O M Tt R (fun x1 x2 x3 x4 x5 R2 => ⟨hv1, hv2, m_leaves O M T S (fun s2 y1 y2 y3 S2 => yes (ih ⟨O, levW_ok M _ _, X, R2, S2, HH, T, Tt, K, I0, I1, rfl⟩))⟩)⟩
    · -- undo
      exact c_undo O M R (fun x1 x2 x3 R2 => m_undo O M S (fun s2 S2 => yes (ih ⟨O, undW_ok M, X, R2, S2, HH, T, Tt, K, I0, I1, rfl⟩)))
    · -- most
      unfold wp_X4_most
      exact c_thereNow O (c_litNow O (c_mostOf (v := lvN h) O.2.2.2.2.2.1 (thereN_64 O w) (litN_lt h w) hlv (fun lg2 _ => m_most O M T S (fun x1 x2 x3 x4 => yes (ih ⟨O, M, X, R, S, HH, T, Tt, K, I0, I1, rfl⟩)))))
    · -- order
      refine ⟨hv1, hv2, c_order O hlv (fun q => ⟨hv1, hv2, ?_⟩) (fun kk hk e v x1 x2 x3 => ⟨hv1, hv2, ?_⟩)⟩
      · refine m_order O M T S (fun _ => yes (ih ⟨O, M, X, R, S, HH, T, Tt, K, I0, I1, rfl⟩)) (fun kk hk e v => ?_)
        rcases q with q | q
        · rw [e] at q; exact absurd q (nI_pos hk)
        · exact absurd v q
      · refine m_order O M T S (fun q => ?_) (fun kk2 hk2 e2 v2 y1 y2 y3 y4 => ?_)
        · rcases q with q | q
          · rw [e] at q; exact absurd q (nI_pos hk)
          · exact absurd v q
        · have eq : kk = kk2 := nI_small (e.symm.trans e2) hk hk2
          subst eq
          exact yes (ih ⟨O, M, X, R, S, HH, T, Tt, K, I0, I1, rfl⟩)
    · -- rows
      exact c_rows O hlv (fun x => m_rows O M T S (fun x1 x2 x3 x4 x5 => yes (ih ⟨O, M, X, R, S, HH, T, Tt, K, I0, I1, rfl⟩)))
    · -- bar
      unfold wp_X4_bar
      have h64l := two6 O.2.2.2.2.2.1
      have hlt := litN_lt h w
      refine c_thereNow O (c_litNow O (c_barOf (v := lvN h) O.2.2.2.2.2.1 (thereN_64 O w) hlt (lvN_0 h) hlv (fun d0 lg2 => m_bar O M T S (fun x1 x2 x3 x4 => ?_)) (fun d0 lg2 => m_bar O M T S (fun x1 x2 x3 x4 => ?_))))
      · exact yesE (by rw [if_pos (barN_0 d0)]) (ih ⟨O, M, X, R, S, HH, T, Tt, K, I0, I1, rfl⟩)
      · exact yesE (by rw [if_neg (barN_pos (by omega) (lvN_0 h) d0)]) (ih ⟨O, M, X, R, S, HH, T, Tt, K, I0, I1, rfl⟩)
    · -- grief
      exact c_grief O M hlv (fun p hp => ⟨(HP p hp).2.1, (HP p hp).2.2⟩) K.2 K.1 (fun gr2 wi2 kn2 tb kB => m_grief O M T S (fun x1 x2 x3 x4 x5 => yes (ih ⟨O, M, X, R, S, HH, T, Tt, ⟨kB, fun _ => tb⟩, I0, I1, rfl⟩)))
    · -- game
      exact c_game O M hlv (fun p hp => ⟨(HP p hp).2.1, (HP p hp).2.2⟩) K.2 K.1 (fun gr2 wi2 kn2 tb kB => m_game O M T S (fun x1 x2 x3 x4 x5 => yes (ih ⟨O, M, X, R, S, HH, T, Tt, ⟨kB, fun _ => tb⟩, I0, I1, rfl⟩)))
    · -- worth
      have h12 := O.c12
      refine ⟨hv1, hv2, c_worth O (fun p hp => (HP p hp).1) Tt (fun q => ⟨hv1, hv2, ?_⟩) (fun c r hc hr ho e1 e2 x1 x2 x3 x4 T2 => ⟨hv1, hv2, ?_⟩)⟩
      · refine m_worth O M T S (fun _ => yes (ih ⟨O, M, X, R, S, HH, T, Tt, K, I0, I1, rfl⟩)) (fun c r hc hr ho e1 e2 => ?_)
        rcases q with q | q
        · exact absurd ho q
        · exact absurd (by rw [e2]; exact vp_in_nI hr (by omega)) q
      · refine m_worth O M T S (fun q => ?_) (fun c2 r2 hc2 hr2 ho2 e3 e4 y1 y2 y3 y4 => ?_)
        · rcases q with q | q
          · exact absurd ho q
          · exact absurd (by rw [e2]; exact vp_in_nI hr (by omega)) q
        · have eq1 : c = c2 := nI_small (e1.symm.trans e3) (by omega) (by omega)
          have eq2 : r = r2 := nI_small (e2.symm.trans e4) (by omega) (by omega)
          subst eq1 eq2
          exact yes (ih ⟨O, M, X, R, S, HH, T, T2, K, I0, I1, rfl⟩)
    · -- saw
      exact ⟨hv1, hv2, hv3, c_saw O M R (fun x1 x2 x3 x4 R2 => ⟨hv1, hv2, hv3, m_saw O M T S (fun s2 S2 => yes (ih ⟨O, sawW_ok O M _ _ _, X, R2, S2, HH, T, Tt, K, I0, I1, rfl⟩))⟩)⟩
    · -- forget
      unfold wp_X4_forget wp_X5_forget
      exact yesE S.2.1.symm (ih ⟨O, forW_ok M, X, forW_c R, forW_m O M S, HH, T, Tt, K, I0, I1, rfl⟩)
    · -- fits
      exact c_fits O M R6 Tt (fun x => m_fits O M T S (fun x1 x2 x3 x4 => yes (ih ⟨O, M, X, R, S, HH, T, Tt, K, I0, I1, rfl⟩)))
    · -- who
      have h6 := O.2.2.2.2.2.1
      refine ⟨hv1, c_who O M R6 Tt (fun q => ⟨hv1, ?_⟩) (fun l hl e x => ⟨hv1, ?_⟩)⟩
      · exact m_who O M T S (fun _ => yes (ih ⟨O, M, X, R, S, HH, T, Tt, K, I0, I1, rfl⟩)) (fun l hl e => absurd (by rw [e]; exact vp_in_nI hl (by omega)) q)
      · refine m_who O M T S (fun q => absurd (by rw [e]; exact vp_in_nI hl (by omega)) q) (fun l2 hl2 e2 y1 y2 y3 y4 y5 => ?_)
        have eq : l = l2 := nI_small (e.symm.trans e2) (by omega) (by omega)
        subst eq
        exact yes (ih ⟨O, M, X, R, S, HH, T, Tt, K, I0, I1, rfl⟩)
    · -- mark
      exact ⟨hv1, hv2, c_mark O HP ⟨hv1, hv2, m_mark O M T S (yes (ih ⟨O, M, X, R, S, HH, T, Tt, K, I0, I1, rfl⟩))⟩⟩
    · -- keep
      refine ⟨hv1, ?_⟩
      rcases Classical.em (vp_in a1 2) with v | v
      · obtain ⟨j, hj, e⟩ := vp_ex v (by omega)
        have hj2 : j = 0 ∨ j = 1 := by omega
        unfold wp_X4_keep wp_X4_imageOf_a wp_X4_imageOf_b wp_X1_copyFrom
        rcases hj2 with z | z
        · subst z e
          refine br_f (by decide) (br_t (by decide) (br_t rfl (br_t rfl ⟨v, hv1, m_keep hj S (fun im2 g1 g2 => ?_)⟩)))
          rw [ix_nI (n := 0) (by omega)]
          exact yes (ih ⟨O, M, X, R, S, HH, T, Tt, K, IM_set O M (by rw [upd_s, upd_s]) R S g1, IM_cong O (by rw [upd_n (by omega)]) (by rw [upd_n (by omega)]) (fun k hk => g2 (38 * 1 + k) (by omega)) I1, rfl⟩)
        · subst z e
          refine br_f (by decide) (br_t (by decide) (br_f (by decide) (br_f (by decide) ⟨v, hv1, m_keep hj S (fun im2 g1 g2 => ?_)⟩)))
          rw [ix_nI (n := 1) (by omega)]
          exact yes (ih ⟨O, M, X, R, S, HH, T, Tt, K, IM_cong O (by rw [upd_n (by omega)]) (by rw [upd_n (by omega)]) (fun k hk => g2 (38 * 0 + k) (by omega)) I0, IM_set O M (by rw [upd_s, upd_s]) R S g1, rfl⟩)
      · unfold wp_X4_keep
        have bad : ∀ post : Int32 → (Nat → Int32) → (Nat → Int32) → Prop, post (-1) m_images m_kept → wp_X5_keep a1 m_s m_images m_kept post := fun post hp => by
          unfold wp_X5_keep
          exact in_rng (n := 2) (by omega) (by decide) (fun q => absurd q v) (fun _ => br_t rfl hp)
        refine ⟨fun _ => ⟨hv1, bad _ (yes (ih ⟨O, M, X, R, S, HH, T, Tt, K, I0, I1, rfl⟩))⟩, fun c1 => ⟨fun c2 => absurd (lt2 c1 c2) v, fun _ => ⟨hv1, bad _ (yes (ih ⟨O, M, X, R, S, HH, T, Tt, K, I0, I1, rfl⟩))⟩⟩⟩
    · -- back
      refine ⟨hv1, ?_⟩
      rcases Classical.em (vp_in a1 2) with v | v
      · obtain ⟨j, hj, e⟩ := vp_ex v (by omega)
        have hj2 : j = 0 ∨ j = 1 := by omega
        unfold wp_X4_back wp_X4_imageOf_a wp_X4_imageOf_b wp_X1_copyFrom
        rcases hj2 with z | z
        · subst z e
          rcases Classical.em (x_kept 0 = 0) with zk | zk
          · refine br_f (by decide) (br_t (by decide) ⟨v, ?_⟩)
            rw [ix_nI (n := 0) (by omega)]
            refine br_t zk ⟨hv1, m_back (w0 := w) hj (fun _ => ?_) (M.left O).2.2 M.2.2.2.1 (fun q => absurd (I0.1 ▸ zk) q) (fun q => absurd (I0.1 ▸ zk) q)⟩
            exact yes (ih ⟨O, M, X, R, S, HH, T, Tt, K, I0, I1, rfl⟩)
          · obtain ⟨w2, M2, R2, S2⟩ := I0.2 zk
            have R2l := R2.1
            refine br_f (by decide) (br_t (by decide) ⟨v, ?_⟩)
            rw [ix_nI (n := 0) (by omega)]
            refine br_f zk (br_t rfl (br_t rfl ⟨hv1, m_back (w0 := w2) hj (fun q => absurd (I0.1.trans q) zk) (M2.left O).2.2 M2.2.2.2.1 (fun _ => S2) (fun _ s2 S3 => ?_)⟩))
            exact yesE R2l (ih ⟨O, M2, X, RC_copy (M2.left O).2.2 M2.2.2.2.1 R2, S3, HH, T, Tt, K, I0, I1, rfl⟩)
        · subst z e
          rcases Classical.em (x_kept 1 = 0) with zk | zk
          · refine br_f (by decide) (br_t (by decide) ⟨v, ?_⟩)
            rw [ix_nI (n := 1) (by omega)]
            refine br_t zk ⟨hv1, m_back (w0 := w) hj (fun _ => ?_) (M.left O).2.2 M.2.2.2.1 (fun q => absurd (I1.1 ▸ zk) q) (fun q => absurd (I1.1 ▸ zk) q)⟩
            exact yes (ih ⟨O, M, X, R, S, HH, T, Tt, K, I0, I1, rfl⟩)
          · obtain ⟨w2, M2, R2, S2⟩ := I1.2 zk
            have R2l := R2.1
            refine br_f (by decide) (br_t (by decide) ⟨v, ?_⟩)
            rw [ix_nI (n := 1) (by omega)]
            refine br_f zk (br_f (by decide) (br_f (by decide) ⟨hv1, m_back (w0 := w2) hj (fun q => absurd (I1.1.trans q) zk) (M2.left O).2.2 M2.2.2.2.1 (fun _ => S2) (fun _ s2 S3 => ?_)⟩))
            exact yesE R2l (ih ⟨O, M2, X, RC_copy (M2.left O).2.2 M2.2.2.2.1 R2, S3, HH, T, Tt, K, I0, I1, rfl⟩)
      · unfold wp_X4_back
        have bad : ∀ post : Int32 → (Nat → Int32) → Prop, post (-1) m_s → wp_X5_back a1 m_s m_images m_kept post := fun post hp => by
          unfold wp_X5_back
          exact in_rng (n := 2) (by omega) (by decide) (fun q => absurd q v) (fun _ => br_t rfl hp)
        refine ⟨fun _ => ⟨hv1, bad _ (yes (ih ⟨O, M, X, R, S, HH, T, Tt, K, I0, I1, rfl⟩))⟩, fun c1 => ⟨fun c2 => absurd (lt2 c1 c2) v, fun _ => ⟨hv1, bad _ (yes (ih ⟨O, M, X, R, S, HH, T, Tt, K, I0, I1, rfl⟩))⟩⟩⟩
    · -- count
      exact ⟨hv1, c_count O ⟨hv1, m_count O M T S (yes (ih ⟨O, M, X, R, S, HH, T, Tt, K, I0, I1, rfl⟩))⟩⟩
    · -- trace
      unfold wp_X4_trace wp_X5_trace
      exact ⟨fun _ => ih ⟨O, M, X, R, S, HH, T, Tt, K, I0, I1, rfl⟩, fun q => q ((lg_cmp_eq _ _).mpr rfl)⟩
    · -- default
      exact ih ⟨O, M, X, R, S, HH, T, Tt, K, I0, I1, rfl⟩
set_option maxRecDepth 100000 in
theorem pure_law (L : Nat) (xs : Nat → Int32) (hL : L ≤ 2048) : wp_law L xs := by
  refine ⟨L / 4 + 1, ?_⟩
  refine pure_loop (h := h00) (w := w00) (len := 0) hL (L / 4 + 1) 0 (by omega) (Nat.zero_le _) ?_
  refine ⟨h00_ok, w00_ok h00, TX_0, w00_c, w00_m (fun _ _ => rfl), ⟨rfl, rfl, rfl, rfl, rfl, rfl, rfl, fun l hl => absurd hl (Nat.not_lt_zero _), fun p hp => absurd hp (Nat.not_lt_zero _)⟩, ?_, ?_, ⟨Or.inl rfl, fun z => absurd rfl z⟩, IM_no rfl rfl, IM_no rfl rfl, rfl⟩
  · refine ⟨?_, ?_, ?_, ?_, ?_, ?_, ?_, fun l hl => absurd hl (Nat.not_lt_zero _), fun p hp => absurd hp (Nat.not_lt_zero _)⟩
    · rw [upd_n (by omega), upd_s]; rfl
    · rw [upd_s]; rfl
    · rw [upd_n (by omega), upd_n (by omega)]; rfl
    · rw [upd_n (by omega), upd_n (by omega)]; rfl
    · rw [upd_n (by omega), upd_n (by omega)]; rfl
    · rw [upd_n (by omega), upd_n (by omega)]; rfl
    · rw [upd_n (by omega), upd_n (by omega)]; rfl
  · refine ⟨fun l hl => absurd hl (Nat.not_lt_zero _), fun lit hl => ?_⟩
    have e : lit = 0 := by
      have : (2 : Nat) ^ hNl h00 = 1 := rfl
      omega
    subst e
    rw [lvN_0]
    refine ⟨?_, rfl⟩
    show (0 : Int32) = nI (oN (shL h00) 0 7)
    rw [oN_0]; rfl
