-- ===== the reference's public methods =====
section MU
variable {w : Wd}
theorem RepM.tn {s : Sg} (h : RepM w s) (hc : gC s = none) : wI w 22 0 = 0 := by
  have h5 := h.2.2.2.2.1
  rw [hc] at h5
  rw [h.1, h5.1]; rfl
theorem RepM.ts {s : Sg} {u : CU} (h : RepM w s) (hb : gT s < 1000000) (hc : gC s = some u) : ¬ wI w 22 0 = 0 ∧ ¬ wI w 22 0 ≤ 0 ∧ gT s ≠ 0 ∧ CuOK u ∧ MoR w u := by
  have h5 := h.2.2.2.2.1
  rw [hc] at h5
  obtain ⟨a, b, c⟩ := h5
  rw [h.1]
  exact ⟨nI_ne0 (by omega) (by omega), nI_nle (by omega) (by omega), a, b, c⟩
theorem am_misTile {s : Sg} (h : RepM w s) (hb : gT s < 1000000) (x : Int32) : A_X6_isTile 35 [.ref 22, .int x] w (some (.int (bz (isS (gC s) && isS (ix 5 x)))), w) := by
  cases hc : gC s with
  | none => exact ai_X6_isTile (b_X6_isTile_0 (fun _ => b_X6_isTile_20 (b_X6_isTile_21 (Or.inl rfl))) (fun q => absurd (by rw [h.tn hc]; decide) q))
  | some u =>
    obtain ⟨t1, t2, -⟩ := h.ts hb hc
    refine ai_X6_isTile (b_X6_isTile_0 (fun q => absurd q t2) (fun _ => b_X6_isTile_7 (am_within _ _ _) (fun q => ?_) (fun q => ?_)))
    · rcases ix_cases x (n := 5) (by decide) with ⟨e, h1⟩ | ⟨j, h1, rfl, e⟩
      · rw [e]; exact b_X6_isTile_20 (b_X6_isTile_21 (Or.inl rfl))
      · exact absurd ((wi1 (n := 4) h1 (by decide)).symm.trans q) (by decide)
    · rcases ix_cases x (n := 5) (by decide) with ⟨e, h1⟩ | ⟨j, h1, rfl, e⟩
      · exact absurd (wi0 (n := 4) h1 (by decide)) q
      · rw [e]; exact b_X6_isTile_16 (b_X6_isTile_21 (Or.inr rfl))
theorem am_misCell {s : Sg} (h : RepM w s) (hb : gT s < 1000000) (x : Int32) : A_X6_isCell 35 [.ref 22, .int x] w (some (.int (bz (isS (gC s) && isS (ix 6 x)))), w) := by
  cases hc : gC s with
  | none => exact ai_X6_isCell (b_X6_isCell_0 (fun _ => b_X6_isCell_20 (b_X6_isCell_21 (Or.inl rfl))) (fun q => absurd (by rw [h.tn hc]; decide) q))
  | some u =>
    obtain ⟨t1, t2, -⟩ := h.ts hb hc
    refine ai_X6_isCell (b_X6_isCell_0 (fun q => absurd q t2) (fun _ => b_X6_isCell_7 (am_within _ _ _) (fun q => ?_) (fun q => ?_)))
    · rcases ix_cases x (n := 6) (by decide) with ⟨e, h1⟩ | ⟨j, h1, rfl, e⟩
      · rw [e]; exact b_X6_isCell_20 (b_X6_isCell_21 (Or.inl rfl))
      · exact absurd ((wi1 (n := 5) h1 (by decide)).symm.trans q) (by decide)
    · rcases ix_cases x (n := 6) (by decide) with ⟨e, h1⟩ | ⟨j, h1, rfl, e⟩
      · exact absurd (wi0 (n := 5) h1 (by decide)) q
      · rw [e]; exact b_X6_isCell_16 (b_X6_isCell_21 (Or.inr rfl))
theorem am_tileNow {u : CU} (hu : CuOK u) (hm : MoR w u) {t q : Nat} (ht : t < 5) (hq : q < 7) : ∃ w', A_X6_tileNow 35 [.ref 22, .int (nI t), .int (nI q)] w (some (.int (tN u t q)), w') ∧ Fr [28] w w' := by
  obtain ⟨u1, u2, u3, u4, u5⟩ := id hu
  obtain ⟨m1, m2, m3, m4, m5, m6, m7⟩ := hm
  rcases (show q = 0 ∨ q = 1 ∨ q = 2 ∨ q = 3 ∨ q = 4 ∨ q = 5 ∨ q = 6 by omega) with rfl | rfl | rfl | rfl | rfl | rfl | rfl
  · refine ⟨w, ?_, Fr.refl _ _⟩
    have := ai_X6_tileNow (b_X6_tileNow_0_c0 (x1 := nI t) (x2 := nI 0) (w := w) rfl (b_X6_tileNow_40 (vp_in_nI ht (by omega))))
    rw [nI_clamp (by omega), m3 t ht] at this
    exact this
  · exact ⟨w, ai_X6_tileNow (b_X6_tileNow_0_c1 rfl (b_X6_tileNow_47 (by rw [m1]; exact am_whereIs u1 (by omega)))), Fr.refl _ _⟩
  · exact ⟨w, ai_X6_tileNow (b_X6_tileNow_0_c2 rfl (b_X6_tileNow_56 (by rw [m2]; exact am_whereIs u2 (by omega)))), Fr.refl _ _⟩
  · refine ⟨w, ?_, Fr.refl _ _⟩
    have hco := am_costIn (w := w) m3 u1 ht
    rw [← m1] at hco
    have hle := prc_le (cN u) (cK u) t
    refine ai_X6_tileNow (b_X6_tileNow_0_c3 rfl (b_X6_tileNow_65 hco (fun h => ?_) (fun h => ?_)))
    · have h0 : prc (cN u) (cK u) t = 0 := by have := nle (b := 0) h (by omega) (by omega); omega
      have e : tN u t 3 = -1 := (np_m1 hle).mpr h0
      rw [e]
      exact b_X6_tileNow_89 b_X6_tileNow_90
    · have h0 : prc (cN u) (cK u) t ≠ 0 := fun e => h (by rw [e]; decide)
      have e : tN u t 3 = nI (prc (cN u) (cK u) t) := by show np _ = _; unfold np; rw [if_neg h0]
      rw [e]
      exact b_X6_tileNow_77 hco b_X6_tileNow_90
  · exact ⟨w, ai_X6_tileNow (b_X6_tileNow_0_c4 rfl (b_X6_tileNow_91 (am_msortsOf u5 m7 m6 ht))), Fr.refl _ _⟩
  · exact ⟨w, ai_X6_tileNow (b_X6_tileNow_0_c5 rfl (b_X6_tileNow_97 (am_wayFor u5 m7 m6 ht))), Fr.refl _ _⟩
  · obtain ⟨w1, ha, hF⟩ := am_homeNow (w := w) (t := t) (x := pl (cG u) t) hu m3 m1 ht (pl_lt u2 (by omega))
    exact ⟨w1, ai_X6_tileNow (b_X6_tileNow_0_d (Or.inr (by decide)) (b_X6_tileNow_103 (by rw [m2]; exact am_whereIs u2 (by omega)) ha)), hF⟩
theorem am_m_tile {s : Sg} (h : RepM w s) (hb : gT s < 1000000) (x y : Int32) : ∃ w', A_X6_tile 35 [.ref 22, .int x, .int y] w (some (.int (rTile s x y)), w') ∧ Fr ML w w' ∧ RepM w' s := by
  have hT := am_misTile h hb x
  unfold rTile
  cases hc : gC s with
  | none =>
    rw [hc] at hT
    exact ⟨w, ai_X6_tile (b_X6_tile_0 hT (fun q => absurd rfl q) (fun _ => b_X6_tile_8 b_X6_tile_34)), Fr.refl _ _, h⟩
  | some u =>
    rw [hc] at hT
    obtain ⟨t1, t2, t3, hu, hm⟩ := h.ts hb hc
    rcases ix_cases x (n := 5) (by decide) with ⟨e, -⟩ | ⟨t, ht, rfl, e⟩
    · rw [e] at hT ⊢
      exact ⟨w, ai_X6_tile (b_X6_tile_0 hT (fun q => absurd rfl q) (fun _ => b_X6_tile_8 b_X6_tile_34)), Fr.refl _ _, h⟩
    · rw [e] at hT ⊢
      rcases ix_cases y (n := 7) (by decide) with ⟨e2, h2⟩ | ⟨q, hq, rfl, e2⟩
      · rw [e2]
        exact ⟨w, ai_X6_tile (b_X6_tile_0 hT (fun _ => b_X6_tile_13 (am_within _ _ _) (fun _ => b_X6_tile_32 b_X6_tile_34) (fun q => absurd (wi0 (n := 6) h2 (by decide)) q)) (fun q => absurd q b1)), Fr.refl _ _, h⟩
      · rw [e2]
        obtain ⟨w1, ha, hF⟩ := am_tileNow (w := w) hu hm ht hq
        exact ⟨w1, ai_X6_tile (b_X6_tile_0 hT (fun _ => b_X6_tile_13 (am_within _ _ _) (fun q => absurd ((wi1 (n := 6) hq (by decide)).symm.trans q) (by decide)) (fun _ => b_X6_tile_23 ha b_X6_tile_34)) (fun q => absurd q b1)), hF.mono (by decide), h.fr hF (by decide)⟩
theorem am_m_as {s : Sg} (h : RepM w s) (hb : gT s < 1000000) (x y : Int32) : A_X6_as 35 [.ref 22, .int x, .int y] w (some (.int (rAs s x y)), w) := by
  have hT := am_misTile h hb x
  unfold rAs
  cases hc : gC s with
  | none =>
    rw [hc] at hT
    exact ai_X6_as (b_X6_as_0 hT (fun q => absurd rfl q) (fun _ => b_X6_as_8))
  | some u =>
    rw [hc] at hT
    obtain ⟨t1, t2, t3, hu, hm⟩ := h.ts hb hc
    rcases ix_cases x (n := 5) (by decide) with ⟨e, -⟩ | ⟨t, ht, rfl, e⟩
    · rw [e] at hT ⊢
      exact ai_X6_as (b_X6_as_0 hT (fun q => absurd rfl q) (fun _ => b_X6_as_8))
    · rw [e] at hT ⊢
      rcases ix_cases y (n := 5) (by decide) with ⟨e2, h2⟩ | ⟨i, hi, rfl, e2⟩
      · rw [e2]
        exact ai_X6_as (b_X6_as_0 hT (fun _ => b_X6_as_11 (am_within _ _ _) (fun q => absurd (wi0 (n := 4) h2 (by decide)) q) (fun _ => b_X6_as_20)) (fun q => absurd q b1))
      · rw [e2]
        dsimp only
        have hkd := kd_lt (cN u) t
        have hval : wA w 23 (nI t).toNatClampNeg = nI (kd (cN u) t) := by rw [nI_clamp (by omega)]; exact hm.2.2.1 t ht
        have ent : ∀ {r}, (nI i = 0 → Z_X6_as 35 49 [some (.ref 22), some (.int (nI t)), some (.int (nI i)), some (.int (nI (kd (cN u) t)))] [] w r) → (¬ nI i = 0 → Z_X6_as 35 34 [some (.ref 22), some (.int (nI t)), some (.int (nI i)), some (.int (nI (kd (cN u) t)))] [] w r) → A_X6_as 35 [.ref 22, .int (nI t), .int (nI i)] w r := fun z1 z2 => ai_X6_as (b_X6_as_0 hT (fun _ => b_X6_as_11 (am_within _ _ _) (fun _ => b_X6_as_23 (vp_in_nI ht (by omega)) (by rw [hval]; exact z1) (by rw [hval]; exact z2)) (fun q => absurd ((wi1 (n := 4) hi (by decide)).symm.trans q) (by decide))) (fun q => absurd q b1))
        by_cases g : isaN (kd (cN u) t) i = true
        · rw [if_pos g]
          have yes : Z_X6_as 35 49 [some (.ref 22), some (.int (nI t)), some (.int (nI i)), some (.int (nI (kd (cN u) t)))] [] w (some (.int (nI t)), w) := b_X6_as_49 b_X6_as_54
          refine ent (fun _ => yes) (fun n0 => b_X6_as_34 (fun _ => yes) (fun n1 => b_X6_as_39 (fun n2 => ?_) (fun e3 => b_X6_as_44 (fun n4 => ?_) (fun _ => yes))))
          · exfalso
            have a0 : ¬ i = 0 := fun e => n0 (by rw [e]; rfl)
            have a1 : ¬ i = kd (cN u) t := fun e => n1 (by rw [e])
            have a2 : ¬ i = 1 := fun e => n2 (by rw [e]; rfl)
            unfold isaN at g
            simp [a0, a1, a2] at g
          · exfalso
            have a0 : ¬ i = 0 := fun e => n0 (by rw [e]; rfl)
            have a1 : ¬ i = kd (cN u) t := fun e => n1 (by rw [e])
            have a2 : ¬ kd (cN u) t = 4 := fun e => n4 (by rw [e]; rfl)
            unfold isaN at g
            simp [a0, a1, a2] at g
        · rw [if_neg g]
          have no : Z_X6_as 35 53 [some (.ref 22), some (.int (nI t)), some (.int (nI i)), some (.int (nI (kd (cN u) t)))] [] w (some (.int (-1)), w) := b_X6_as_53 b_X6_as_54
          refine ent (fun e0 => ?_) (fun _ => b_X6_as_34 (fun e1 => ?_) (fun _ => b_X6_as_39 (fun _ => no) (fun e3 => b_X6_as_44 (fun _ => no) (fun e4 => ?_))))
          · exfalso
            apply g
            have : i = 0 := neq (b := 0) e0 (by omega) (by omega)
            subst this
            rfl
          · exfalso
            apply g
            have : kd (cN u) t = i := neq e1 (by omega) (by omega)
            unfold isaN
            simp [this]
          · exfalso
            apply g
            have a1 : i = 1 := neq (b := 1) e3 (by omega) (by omega)
            have a2 : kd (cN u) t = 4 := neq (b := 4) e4 (by omega) (by omega)
            unfold isaN
            simp [a1, a2]
theorem am_cellNow {u : CU} (hu : CuOK u) (hm : MoR w u) {c q : Nat} (hc : c < 6) (hq : q < 3) : A_X6_cellNow 35 [.ref 22, .int (nI c), .int (nI q)] w (some (.int (cNow u c q)), w) := by
  obtain ⟨u1, u2, u3, u4, u5⟩ := hu
  obtain ⟨m1, m2, m3, -⟩ := hm
  have fin : ∀ k, k < 720 → ∀ x2, Z_X6_cellNow 35 41 [some (.ref 22), some (.int (nI c)), some (.int x2), none] [.int (nI (tr k))] w (some (.int (sgnN (sg k c))), w) := by
    intro k hk x2
    have hsg := sg_lt hk hc
    refine b_X6_cellNow_41 (am_isAt hk hc) (fun e => ?_) (fun e => ?_)
    · have : sgnN (sg k c) = nI (sg k c) := by unfold sgnN; rw [if_neg (fun q => e (by rw [q]; rfl))]
      rw [this]
      exact b_X6_cellNow_55 b_X6_cellNow_56
    · have : sgnN (sg k c) = -1 := by unfold sgnN; rw [if_pos (neq (b := 5) e (by omega) (by omega))]
      rw [this]
      exact b_X6_cellNow_51 b_X6_cellNow_56
  rcases (show q = 0 ∨ q = 1 ∨ q = 2 by omega) with rfl | rfl | rfl
  · exact ai_X6_cellNow (b_X6_cellNow_0 (fun _ => b_X6_cellNow_26 (fun e => absurd rfl e) (fun _ => b_X6_cellNow_30 (by rw [m1]; exact fin _ u1 _))) (fun e => absurd e (by decide)))
  · exact ai_X6_cellNow (b_X6_cellNow_0 (fun _ => b_X6_cellNow_26 (fun _ => b_X6_cellNow_37 (by rw [m2]; exact fin _ u2 _)) (fun e => absurd e (by decide))) (fun e => absurd e (by decide)))
  · refine ai_X6_cellNow (b_X6_cellNow_0 (fun e => absurd rfl e) (fun _ => b_X6_cellNow_5 (by rw [m1]; exact am_whereIs (s := 5) u1 (by omega)) (am_mareNext hc (pl_lt u1 (by omega))) (fun e => ?_) (fun e => ?_)))
    · show Z_X6_cellNow _ _ _ _ _ (some (.int (bz (nx c (pl (cK u) 5)))), w)
      rw [bz_0.mp e]
      exact b_X6_cellNow_24 b_X6_cellNow_25
    · have g : nx c (pl (cK u) 5) = true := by
        cases g : nx c (pl (cK u) 5) with
        | true => rfl
        | false => exact absurd (bz_0.mpr g) e
      show Z_X6_cellNow _ _ _ _ _ (some (.int (bz (nx c (pl (cK u) 5)))), w)
      rw [g]
      exact b_X6_cellNow_20 b_X6_cellNow_25
theorem am_m_cell {s : Sg} (h : RepM w s) (hb : gT s < 1000000) (x y : Int32) : A_X6_cell 35 [.ref 22, .int x, .int y] w (some (.int (rCell s x y)), w) := by
  have hT := am_misCell h hb x
  unfold rCell
  cases hc : gC s with
  | none =>
    rw [hc] at hT
    exact ai_X6_cell (b_X6_cell_0 hT (fun q => absurd rfl q) (fun _ => b_X6_cell_8 b_X6_cell_33))
  | some u =>
    rw [hc] at hT
    obtain ⟨t1, t2, t3, hu, hm⟩ := h.ts hb hc
    rcases ix_cases x (n := 6) (by decide) with ⟨e, -⟩ | ⟨c, ht, rfl, e⟩
    · rw [e] at hT ⊢
      exact ai_X6_cell (b_X6_cell_0 hT (fun q => absurd rfl q) (fun _ => b_X6_cell_8 b_X6_cell_33))
    · rw [e] at hT ⊢
      rcases ix_cases y (n := 3) (by decide) with ⟨e2, h2⟩ | ⟨q, hq, rfl, e2⟩
      · rw [e2]
        exact ai_X6_cell (b_X6_cell_0 hT (fun _ => b_X6_cell_13 (am_within _ _ _) (fun _ => b_X6_cell_31 b_X6_cell_33) (fun q => absurd (wi0 (n := 2) h2 (by decide)) q)) (fun q => absurd q b1))
      · rw [e2]
        exact ai_X6_cell (b_X6_cell_0 hT (fun _ => b_X6_cell_13 (am_within _ _ _) (fun q => absurd ((wi1 (n := 2) hq (by decide)).symm.trans q) (by decide)) (fun _ => b_X6_cell_22 (am_cellNow hu hm ht hq) b_X6_cell_33)) (fun q => absurd q b1))
theorem RepM.put {w' : Wd} {s : Sg} {u : CU} (h : RepM w s) (hf : ∀ f, f ∈ [0, 6, 11, 18, 19, 20, 21, 22, 23, 24] → wI w' 22 f = wI w 22 f) (ha : ∀ a, a ∈ [27, 31, 32, 33, 34] → wA w' a = wA w a) (hn : gT s ≠ 0) (hu : CuOK u) (hm : MoR w' u) : RepM w' (toC s u) := by
  obtain ⟨a1, a2, a3, a4, a5, a6⟩ := h
  exact ⟨(hf 0 (by decide)).trans a1, (hf 6 (by decide)).trans a2, a3, a4.eq (hf 11 (by decide)) (ha 27 (by decide)), ⟨hn, hu, hm⟩, a6.eq (fun f h => hf f (by revert f; decide)) (fun a h => ha a (by revert a; decide))⟩
theorem am_m_push {s : Sg} (h : RepM w s) (hb : gT s < 1000000) (x : Int32) : ∃ w', A_X6_push 35 [.ref 22, .int x] w (some (.int (rPush s x).1), w') ∧ Fr ML w w' ∧ RepM w' (rPush s x).2 := by
  have hT := am_misTile h hb x
  unfold rPush
  cases hc : gC s with
  | none =>
    rw [hc] at hT
    exact ⟨w, ai_X6_push (b_X6_push_0 hT (fun q => absurd rfl q) (fun _ => b_X6_push_8)), Fr.refl _ _, h⟩
  | some u =>
    rw [hc] at hT
    obtain ⟨t1, t2, t3, ⟨u1, u2, u3, u4, u5⟩, m1, m2, m3, m4, m5, m6, m7⟩ := h.ts hb hc
    rcases ix_cases x (n := 5) (by decide) with ⟨e, -⟩ | ⟨t, ht, rfl, e⟩
    · rw [e] at hT ⊢
      exact ⟨w, ai_X6_push (b_X6_push_0 hT (fun q => absurd rfl q) (fun _ => b_X6_push_8)), Fr.refl _ _, h⟩
    · rw [e] at hT ⊢
      have hle := prc_le (cN u) (cK u) t
      have hco := am_costIn (w := w) m3 u1 ht
      rw [← m1] at hco
      dsimp only
      by_cases h0 : prc (cN u) (cK u) t = 0
      · rw [if_pos h0]
        exact ⟨w, ai_X6_push (b_X6_push_0 hT (fun _ => b_X6_push_11 hco (fun q => absurd (by rw [h0]; rfl) q) (fun _ => b_X6_push_25)) (fun q => absurd q b1)), Fr.refl _ _, h⟩
      · rw [if_neg h0]
        have hn0 : ¬ nI (prc (cN u) (cK u) t) = 0 := nI_ne0 (by omega) (by omega)
        by_cases h9 : 999 ≤ cP u
        · rw [if_pos h9]
          exact ⟨w, ai_X6_push (b_X6_push_0 hT (fun _ => b_X6_push_11 hco (fun _ => b_X6_push_28 (fun q => absurd (by rw [m4, show cP u = 999 by omega]; rfl) q) (fun _ => b_X6_push_38)) (fun q => absurd q hn0)) (fun q => absurd q b1)), Fr.refl _ _, h⟩
        · rw [if_neg h9]
          refine ⟨sI (sI (sI w 22 1 (nI (tr (mv (cK u) t)))) 22 4 (wI w 22 4 + 1)) 22 5 (wI w 22 5 + nI (prc (cN u) (cK u) t)), ai_X6_push (b_X6_push_0 hT (fun _ => b_X6_push_11 hco (fun _ => b_X6_push_28 (fun _ => b_X6_push_41 (by rw [m1]; exact am_mpushed u1 ht)) (fun q => False.elim (by rw [m4] at q; have := neq (a := cP u) (b := 999) q (by omega) (by omega); omega))) (fun q => absurd q hn0)) (fun q => absurd q b1)), ((Fr.sI (T := ML) (by decide)).trans (Fr.sI (by decide))).trans (Fr.sI (by decide)), ?_⟩
          refine h.put (fun f hf => ?_) (fun a _ => rfl) t3 (u := (mv (cK u) t, cG u, cN u, cP u + 1, cC u + prc (cN u) (cK u) t, cS u)) ⟨mv_lt u1 ht, u2, u3, (show cP u + 1 ≤ 999 by omega), u5⟩ ⟨rfl, m2, m3, (show wI w 22 4 + 1 = nI (cP u + 1) by rw [m4, nI_1]), (show wI w 22 5 + nI (prc (cN u) (cK u) t) = nI (cC u + prc (cN u) (cK u) t) by rw [m5, nI_add]), m6, m7⟩
          rw [wI_sI_o (by rintro ⟨-, rfl⟩; revert hf; decide), wI_sI_o (by rintro ⟨-, rfl⟩; revert hf; decide), wI_sI_o (by rintro ⟨-, rfl⟩; revert hf; decide)]
theorem am_m_exchange {s : Sg} (h : RepM w s) (hb : gT s < 1000000) (x y : Int32) : ∃ w', A_X6_exchange 35 [.ref 22, .int x, .int y] w (some (.int (rEx s x y).1), w') ∧ Fr ML w w' ∧ RepM w' (rEx s x y).2 := by
  have hT := am_misCell h hb x
  have hT2 := am_misCell h hb y
  unfold rEx
  cases hc : gC s with
  | none =>
    rw [hc] at hT
    exact ⟨w, ai_X6_exchange (b_X6_exchange_0 hT (fun _ => b_X6_exchange_21) (fun q => absurd rfl q)), Fr.refl _ _, h⟩
  | some u =>
    rw [hc] at hT hT2
    obtain ⟨t1, t2, t3, ⟨u1, u2, u3, u4, u5⟩, m1, m2, m3, m4, m5, m6, m7⟩ := h.ts hb hc
    rcases ix_cases x (n := 6) (by decide) with ⟨e, -⟩ | ⟨a, ha, rfl, e⟩
    · rw [e] at hT ⊢
      exact ⟨w, ai_X6_exchange (b_X6_exchange_0 hT (fun _ => b_X6_exchange_21) (fun q => absurd rfl q)), Fr.refl _ _, h⟩
    · rw [e] at hT ⊢
      rcases ix_cases y (n := 6) (by decide) with ⟨e2, -⟩ | ⟨b, hb6, rfl, e2⟩
      · rw [e2] at hT2 ⊢
        exact ⟨w, ai_X6_exchange (b_X6_exchange_0 hT (fun q => absurd q b1) (fun _ => b_X6_exchange_8 hT2 (fun _ => b_X6_exchange_21) (fun q => absurd rfl q))), Fr.refl _ _, h⟩
      · rw [e2] at hT2 ⊢
        dsimp only
        by_cases hab : a = b
        · rw [if_pos hab]
          exact ⟨w, ai_X6_exchange (b_X6_exchange_0 hT (fun q => absurd q b1) (fun _ => b_X6_exchange_8 hT2 (fun q => absurd q b1) (fun _ => b_X6_exchange_16 (fun q => absurd (by rw [hab]) q) (fun _ => b_X6_exchange_21)))), Fr.refl _ _, h⟩
        · rw [if_neg hab]
          have hk := ex_lt u1 ha hb6 hab
          refine ⟨sI w 22 1 (nI (tr (ex (cK u) a b))), ai_X6_exchange (b_X6_exchange_0 hT (fun q => absurd q b1) (fun _ => b_X6_exchange_8 hT2 (fun q => absurd q b1) (fun _ => b_X6_exchange_16 (fun _ => b_X6_exchange_24 (by rw [m1]; exact am_mexchanged u1 ha hb6 hab) (am_whereIs (s := 5) hk (by omega))) (fun q => absurd (neq q (by omega) (by omega)) hab)))), Fr.sI (by decide), ?_⟩
          refine h.put (fun f hf => ?_) (fun a _ => rfl) t3 (u := (ex (cK u) a b, cG u, cN u, cP u, cC u, cS u)) ⟨hk, u2, u3, u4, u5⟩ ⟨rfl, m2, m3, m4, m5, m6, m7⟩
          rw [wI_sI_o (by rintro ⟨-, rfl⟩; revert hf; decide)]
theorem am_m_aim {s : Sg} (h : RepM w s) (hb : gT s < 1000000) (x y : Int32) : ∃ w', A_X6_aim 35 [.ref 22, .int x, .int y] w (some (.int (rAim s x y).1), w') ∧ Fr ML w w' ∧ RepM w' (rAim s x y).2 := by
  have hT := am_misCell h hb x
  have hT2 := am_misCell h hb y
  unfold rAim
  cases hc : gC s with
  | none =>
    rw [hc] at hT
    exact ⟨w, ai_X6_aim (b_X6_aim_0 hT (fun _ => b_X6_aim_21) (fun q => absurd rfl q)), Fr.refl _ _, h⟩
  | some u =>
    rw [hc] at hT hT2
    obtain ⟨t1, t2, t3, ⟨u1, u2, u3, u4, u5⟩, m1, m2, m3, m4, m5, m6, m7⟩ := h.ts hb hc
    rcases ix_cases x (n := 6) (by decide) with ⟨e, -⟩ | ⟨a, ha, rfl, e⟩
    · rw [e] at hT ⊢
      exact ⟨w, ai_X6_aim (b_X6_aim_0 hT (fun _ => b_X6_aim_21) (fun q => absurd rfl q)), Fr.refl _ _, h⟩
    · rw [e] at hT ⊢
      rcases ix_cases y (n := 6) (by decide) with ⟨e2, -⟩ | ⟨b, hb6, rfl, e2⟩
      · rw [e2] at hT2 ⊢
        exact ⟨w, ai_X6_aim (b_X6_aim_0 hT (fun q => absurd q b1) (fun _ => b_X6_aim_8 hT2 (fun _ => b_X6_aim_21) (fun q => absurd rfl q))), Fr.refl _ _, h⟩
      · rw [e2] at hT2 ⊢
        dsimp only
        by_cases hab : a = b
        · rw [if_pos hab]
          exact ⟨w, ai_X6_aim (b_X6_aim_0 hT (fun q => absurd q b1) (fun _ => b_X6_aim_8 hT2 (fun q => absurd q b1) (fun _ => b_X6_aim_16 (fun q => absurd (by rw [hab]) q) (fun _ => b_X6_aim_21)))), Fr.refl _ _, h⟩
        · rw [if_neg hab]
          have hk := ex_lt u2 ha hb6 hab
          refine ⟨sI w 22 2 (nI (tr (ex (cG u) a b))), ai_X6_aim (b_X6_aim_0 hT (fun q => absurd q b1) (fun _ => b_X6_aim_8 hT2 (fun q => absurd q b1) (fun _ => b_X6_aim_16 (fun _ => b_X6_aim_24 (by rw [m2]; exact am_mexchanged u2 ha hb6 hab) (am_whereIs (s := 5) hk (by omega))) (fun q => absurd (neq q (by omega) (by omega)) hab)))), Fr.sI (by decide), ?_⟩
          refine h.put (fun f hf => ?_) (fun a _ => rfl) t3 (u := (cK u, ex (cG u) a b, cN u, cP u, cC u, cS u)) ⟨u1, hk, u3, u4, u5⟩ ⟨m1, rfl, m3, m4, m5, m6, m7⟩
          rw [wI_sI_o (by rintro ⟨-, rfl⟩; revert hf; decide)]
theorem am_m_recast {s : Sg} (h : RepM w s) (hb : gT s < 1000000) (x y : Int32) : ∃ w', A_X6_recast 35 [.ref 22, .int x, .int y] w (some (.int (rRec s x y).1), w') ∧ Fr ML w w' ∧ RepM w' (rRec s x y).2 := by
  have hT := am_misTile h hb x
  unfold rRec
  cases hc : gC s with
  | none =>
    rw [hc] at hT
    exact ⟨w, ai_X6_recast (b_X6_recast_0 hT (fun q => absurd rfl q) (fun _ => b_X6_recast_8)), Fr.refl _ _, h⟩
  | some u =>
    rw [hc] at hT
    obtain ⟨t1, t2, t3, ⟨u1, u2, u3, u4, u5⟩, m1, m2, m3, m4, m5, m6, m7⟩ := h.ts hb hc
    rcases ix_cases x (n := 5) (by decide) with ⟨e, -⟩ | ⟨t, ht, rfl, e⟩
    · rw [e] at hT ⊢
      exact ⟨w, ai_X6_recast (b_X6_recast_0 hT (fun q => absurd rfl q) (fun _ => b_X6_recast_8)), Fr.refl _ _, h⟩
    · rw [e] at hT ⊢
      rcases ix_cases y (n := 5) (by decide) with ⟨e2, h2⟩ | ⟨j, hj, rfl, e2⟩
      · rw [e2]
        exact ⟨w, ai_X6_recast (b_X6_recast_0 hT (fun _ => b_X6_recast_11 (am_within _ _ _) (fun q => absurd (wi0 (n := 4) h2 (by decide)) q) (fun _ => b_X6_recast_20)) (fun q => absurd q b1)), Fr.refl _ _, h⟩
      · rw [e2]
        have hcl : (nI t).toNatClampNeg = t := nI_clamp (by omega)
        refine ⟨sA w 23 (upd (wA w 23) (nI t).toNatClampNeg (nI j)), ?_, Fr.sA (by decide), ?_⟩
        · have := ai_X6_recast (b_X6_recast_0 hT (fun _ => b_X6_recast_11 (am_within _ _ _) (fun _ => b_X6_recast_23 (x2 := nI j) (vp_in_nI ht (by omega)) (vp_in_nI ht (by omega))) (fun q => absurd ((wi1 (n := 4) hj (by decide)).symm.trans q) (by decide))) (fun q => absurd q b1))
          rw [hcl, m3 t ht] at this
          rw [hcl]
          exact this
        · refine h.put (fun f _ => rfl) (fun a ha => wA_sA_n (by rintro rfl; revert ha; decide)) t3 (u := (cK u, cG u, stK (cN u) t j, cP u, cC u, cS u)) ⟨u1, u2, KV.st hj, u4, u5⟩ ⟨m1, m2, fun i hi => ?_, m4, m5, m6, m7.eq (wA_sA_n (by decide)) (wA_sA_n (by decide)) (wA_sA_n (by decide))⟩
          rw [wA_sA_s, hcl]
          show _ = nI (kd (stK (cN u) t j) i)
          rw [kd_st hj hi]
          by_cases e : i = t
          · subst e; rw [pk_us, if_pos rfl]
          · rw [pk_un e, if_neg e]; exact m3 i hi
theorem am_m_least {s : Sg} (h : RepM w s) (hb : gT s < 1000000) (x : Int32) : ∃ w', A_X6_least 35 [.ref 22, .int x] w (some (.int (rLeast s x)), w') ∧ Fr ML w w' ∧ RepM w' s := by
  unfold rLeast
  rcases ix_cases x (n := 3) (by decide) with ⟨e, h1⟩ | ⟨q, hq, rfl, e⟩
  · rw [e]
    exact ⟨w, ai_X6_least (b_X6_least_0 (am_within _ _ _) (fun e => absurd (wi0 (n := 2) h1 (by decide)) e) (fun _ => b_X6_least_9)), Fr.refl _ _, h⟩
  · rw [e]
    have w1r := wi1 (n := 2) hq (by decide)
    cases hc : gC s with
    | none => exact ⟨w, ai_X6_least (b_X6_least_0 (am_within _ _ _) (fun _ => b_X6_least_12 (fun e => absurd (h.tn hc) e) (fun _ => b_X6_least_19 b_X6_least_29)) (fun e => absurd (w1r.symm.trans e) (by decide))), Fr.refl _ _, h⟩
    | some u =>
      obtain ⟨t1, t2, t3, hu, hm⟩ := h.ts hb hc
      obtain ⟨w', ha, hF⟩ := am_leastNow (w := w) hu hm.2.2.1 hm.1 hm.2.1 hq
      exact ⟨w', ai_X6_least (b_X6_least_0 (am_within _ _ _) (fun _ => b_X6_least_12 (fun _ => b_X6_least_24 ha b_X6_least_29) (fun e => absurd e t1)) (fun e => absurd (w1r.symm.trans e) (by decide))), hF.mono (by decide), h.fr hF (by decide)⟩
theorem am_m_reach {s : Sg} (h : RepM w s) (hb : gT s < 1000000) (x : Int32) : ∃ w', A_X6_reach 35 [.ref 22, .int x] w (some (.int (rReach s x)), w') ∧ Fr ML w w' ∧ RepM w' s := by
  unfold rReach
  rcases ix_cases x (n := 2) (by decide) with ⟨e, h1⟩ | ⟨q, hq, rfl, e⟩
  · rw [e]
    exact ⟨w, ai_X6_reach (b_X6_reach_0 (am_within _ _ _) (fun e => absurd (wi0 (n := 1) h1 (by decide)) e) (fun _ => b_X6_reach_9)), Fr.refl _ _, h⟩
  · rw [e]
    have w1r := wi1 (n := 1) hq (by decide)
    cases hc : gC s with
    | none => exact ⟨w, ai_X6_reach (b_X6_reach_0 (am_within _ _ _) (fun _ => b_X6_reach_12 (fun e => absurd (h.tn hc) e) (fun _ => b_X6_reach_19 b_X6_reach_29)) (fun e => absurd (w1r.symm.trans e) (by decide))), Fr.refl _ _, h⟩
    | some u =>
      obtain ⟨t1, t2, t3, hu, hm⟩ := h.ts hb hc
      obtain ⟨w', ha, hF⟩ := am_reachNow (w := w) hu hm.2.2.1 hm.1 hq
      exact ⟨w', ai_X6_reach (b_X6_reach_0 (am_within _ _ _) (fun _ => b_X6_reach_12 (fun _ => b_X6_reach_24 ha b_X6_reach_29) (fun e => absurd e t1)) (fun e => absurd (w1r.symm.trans e) (by decide))), hF.mono (by decide), h.fr hF (by decide)⟩
theorem am_m_home {s : Sg} (h : RepM w s) (hb : gT s < 1000000) (x y : Int32) : ∃ w', A_X6_home 35 [.ref 22, .int x, .int y] w (some (.int (rHome s x y)), w') ∧ Fr ML w w' ∧ RepM w' s := by
  have hT := am_misTile h hb x
  have hT2 := am_misCell h hb y
  unfold rHome
  cases hc : gC s with
  | none =>
    rw [hc] at hT
    exact ⟨w, ai_X6_home (b_X6_home_0 hT (fun _ => b_X6_home_25 b_X6_home_27) (fun q => absurd rfl q)), Fr.refl _ _, h⟩
  | some u =>
    rw [hc] at hT hT2
    obtain ⟨t1, t2, t3, hu, hm⟩ := h.ts hb hc
    rcases ix_cases x (n := 5) (by decide) with ⟨e, -⟩ | ⟨t, ht, rfl, e⟩
    · rw [e] at hT ⊢
      exact ⟨w, ai_X6_home (b_X6_home_0 hT (fun _ => b_X6_home_25 b_X6_home_27) (fun q => absurd rfl q)), Fr.refl _ _, h⟩
    · rw [e] at hT ⊢
      rcases ix_cases y (n := 6) (by decide) with ⟨e2, -⟩ | ⟨c, hq, rfl, e2⟩
      · rw [e2] at hT2 ⊢
        exact ⟨w, ai_X6_home (b_X6_home_0 hT (fun q => absurd q b1) (fun _ => b_X6_home_8 hT2 (fun _ => b_X6_home_25 b_X6_home_27) (fun q => absurd rfl q))), Fr.refl _ _, h⟩
      · rw [e2] at hT2 ⊢
        obtain ⟨w', ha, hF⟩ := am_homeNow (w := w) (t := t) (x := c) hu hm.2.2.1 hm.1 ht hq
        exact ⟨w', ai_X6_home (b_X6_home_0 hT (fun q => absurd q b1) (fun _ => b_X6_home_8 hT2 (fun q => absurd q b1) (fun _ => b_X6_home_16 ha b_X6_home_27))), hF.mono (by decide), h.fr hF (by decide)⟩
theorem am_m_swaps {s : Sg} (h : RepM w s) (hb : gT s < 1000000) : A_X6_swaps 35 [.ref 22] w (some (.int (rSwaps s)), w) := by
  unfold rSwaps
  cases hc : gC s with
  | none => exact ai_X6_swaps (b_X6_swaps_0 (fun e => absurd (h.tn hc) e) (fun _ => b_X6_swaps_7 b_X6_swaps_16))
  | some u =>
    obtain ⟨t1, t2, t3, hu, hm⟩ := h.ts hb hc
    exact ai_X6_swaps (b_X6_swaps_0 (fun _ => b_X6_swaps_12 (am_swapsNow hu hm.1 hm.2.1) b_X6_swaps_16) (fun e => absurd e t1))
theorem am_m_cheap {s : Sg} (h : RepM w s) (hb : gT s < 1000000) (x : Int32) : ∃ w', A_X6_cheap 35 [.ref 22, .int x] w (some (.int (rCheap s x).1), w') ∧ Fr ML w w' ∧ RepM w' (rCheap s x).2 := by
  unfold rCheap
  rcases ix_cases x (n := 2) (by decide) with ⟨e, h1⟩ | ⟨q, hq, rfl, e⟩
  · rw [e]
    exact ⟨w, ai_X6_cheap (b_X6_cheap_0 (am_within _ _ _) (fun e => absurd (wi0 (n := 1) h1 (by decide)) e) (fun _ => b_X6_cheap_9)), Fr.refl _ _, h⟩
  · rw [e]
    have w1r := wi1 (n := 1) hq (by decide)
    cases hc : gC s with
    | none => exact ⟨w, ai_X6_cheap (b_X6_cheap_0 (am_within _ _ _) (fun _ => b_X6_cheap_12 (fun _ => b_X6_cheap_28) (fun e => absurd (h.tn hc) e)) (fun e => absurd (w1r.symm.trans e) (by decide))), Fr.refl _ _, h⟩
    | some u =>
      obtain ⟨t1, t2, t3, hu, hm⟩ := h.ts hb hc
      dsimp only
      have h6 : wI w 22 6 = nI (gH s) := h.2.1
      have h20b := h.2.2.1
      by_cases h20 : 20 ≤ gH s
      · rw [if_pos h20]
        exact ⟨w, ai_X6_cheap (b_X6_cheap_0 (am_within _ _ _) (fun _ => b_X6_cheap_12 (fun e => absurd e t1) (fun _ => b_X6_cheap_19 (fun e => absurd (by rw [h6, show gH s = 20 by omega]; rfl) e) (fun _ => b_X6_cheap_28))) (fun e => absurd (w1r.symm.trans e) (by decide))), Fr.refl _ _, h⟩
      · rw [if_neg h20]
        obtain ⟨a1, a2, a3, a4, a5, a6⟩ := h
        have hm' : MoR (sI w 22 6 (wI w 22 6 + 1)) u := hm
        obtain ⟨w', ha, hF⟩ := am_cheapNow (w := sI w 22 6 (wI w 22 6 + 1)) hu hm'.2.2.1 hm'.1 hm'.2.1 hq
        have hK : KepM (sI w 22 6 (wI w 22 6 + 1)) (gT s) (gI s) := a6.eq (fun f hf => wI_sI_o (by rintro ⟨-, rfl⟩; revert hf; decide)) (fun _ _ => rfl)
        have hR : RepM (sI w 22 6 (wI w 22 6 + 1)) (gP s, gT s, gH s + 1, some u, gI s) := ⟨a1, (show wI w 22 6 + 1 = nI (gH s + 1) by rw [h6, nI_1]), (show gH s + 1 ≤ 20 by omega), a4, ⟨t3, hu, hm'⟩, hK⟩
        exact ⟨w', ai_X6_cheap (b_X6_cheap_0 (am_within _ _ _) (fun _ => b_X6_cheap_12 (fun e => absurd e t1) (fun _ => b_X6_cheap_19 (fun _ => b_X6_cheap_31 ha) (fun e => False.elim (by rw [h6] at e; have := neq (a := gH s) (b := 20) e (by omega) (by omega); omega)))) (fun e => absurd (w1r.symm.trans e) (by decide))), (Fr.sI (T := ML) (by decide)).trans (hF.mono (by decide)), hR.fr hF (by decide)⟩
theorem am_m_odds {s : Sg} (h : RepM w s) (hb : gT s < 1000000) (x y z v : Int32) : ∃ w', A_X6_odds 35 [.ref 22, .int x, .int y, .int z, .int v] w (some (.int (rOdds s x y z v)), w') ∧ Fr ML w w' ∧ RepM w' s := by
  have hT := am_misTile h hb x
  have hT2 := am_misCell h hb y
  unfold rOdds
  cases hc : gC s with
  | none =>
    rw [hc] at hT
    exact ⟨w, ai_X6_odds (b_X6_odds_0 hT (fun _ => b_X6_odds_16) (fun q => absurd rfl q)), Fr.refl _ _, h⟩
  | some u =>
    rw [hc] at hT hT2
    obtain ⟨t1, t2, t3, hu, hm⟩ := h.ts hb hc
    rcases ix_cases x (n := 5) (by decide) with ⟨e, -⟩ | ⟨t, ht, rfl, e⟩
    · rw [e] at hT ⊢
      exact ⟨w, ai_X6_odds (b_X6_odds_0 hT (fun _ => b_X6_odds_16) (fun q => absurd rfl q)), Fr.refl _ _, h⟩
    · rw [e] at hT ⊢
      rcases ix_cases y (n := 6) (by decide) with ⟨e2, -⟩ | ⟨c, hq, rfl, e2⟩
      · rw [e2] at hT2 ⊢
        exact ⟨w, ai_X6_odds (b_X6_odds_0 hT (fun q => absurd q b1) (fun _ => b_X6_odds_8 hT2 (fun q => absurd rfl q) (fun _ => b_X6_odds_16))), Fr.refl _ _, h⟩
      · rw [e2] at hT2 ⊢
        have ent : ∀ {r}, Z_X6_odds 35 19 [some (.ref 22), some (.int (nI t)), some (.int (nI c)), some (.int z), some (.int v)] [] w r → A_X6_odds 35 [.ref 22, .int (nI t), .int (nI c), .int z, .int v] w r := fun z1 => ai_X6_odds (b_X6_odds_0 hT (fun q => absurd q b1) (fun _ => b_X6_odds_8 hT2 (fun _ => z1) (fun q => absurd q b1)))
        rcases ix_cases z (n := 7) (by decide) with ⟨e3, h3⟩ | ⟨m, hm7, rfl, e3⟩
        · rw [e3]
          exact ⟨w, ent (b_X6_odds_19 (am_within _ _ _) (fun _ => b_X6_odds_51 b_X6_odds_53) (fun e => absurd (wl0 (n := 6) h3 (by decide)) e)), Fr.refl _ _, h⟩
        · rw [e3]
          have m0 : m = 0 → ∀ {r}, Z_X6_odds 35 51 [some (.ref 22), some (.int (nI t)), some (.int (nI c)), some (.int (nI m)), some (.int v)] [] w r → A_X6_odds 35 [.ref 22, .int (nI t), .int (nI c), .int (nI m), .int v] w r := fun hm0 {r} z1 => by
            subst hm0
            exact ent (b_X6_odds_19 (am_within _ _ _) (fun _ => z1) (fun e => absurd (wl2 6) e))
          rcases ix_cases v (n := 2) (by decide) with ⟨e4, h4⟩ | ⟨q, hq2, rfl, e4⟩
          · rw [e4]
            by_cases hm0 : m = 0
            · exact ⟨w, m0 hm0 (b_X6_odds_51 b_X6_odds_53), Fr.refl _ _, h⟩
            · exact ⟨w, ent (b_X6_odds_19 (am_within _ _ _) (fun _ => b_X6_odds_51 b_X6_odds_53) (fun _ => b_X6_odds_29 (am_within _ _ _) (fun _ => b_X6_odds_51 b_X6_odds_53) (fun e => absurd (wi0 (n := 1) h4 (by decide)) e))), Fr.refl _ _, h⟩
          · rw [e4]
            dsimp only
            by_cases hm0 : m = 0
            · rw [if_pos hm0]
              exact ⟨w, m0 hm0 (b_X6_odds_51 b_X6_odds_53), Fr.refl _ _, h⟩
            · rw [if_neg hm0]
              obtain ⟨w', ha, hF⟩ := am_oddsNow (w := w) (t := t) (x := c) (m := m) (q := q) hu hm.2.2.1 hm.1 ht hq hm7 hq2
              exact ⟨w', ent (b_X6_odds_19 (am_within _ _ _) (fun e => absurd ((wl1 (n := 6) hm7 hm0 (by decide)).symm.trans e) (by decide)) (fun _ => b_X6_odds_29 (am_within _ _ _) (fun e => absurd ((wi1 (n := 1) hq2 (by decide)).symm.trans e) (by decide)) (fun _ => b_X6_odds_39 ha b_X6_odds_53))), hF.mono (by decide), h.fr hF (by decide)⟩
theorem am_m_runs {s : Sg} (h : RepM w s) (hb : gT s < 1000000) (x y v : Int32) : ∃ w', A_X6_runs 35 [.ref 22, .int x, .int y, .int v] w (some (.int (rRuns s x y v)), w') ∧ Fr ML w w' ∧ RepM w' s := by
  unfold rRuns
  rcases ix_cases x (n := 61) (by decide) with ⟨e, h1⟩ | ⟨n, hn, rfl, e⟩
  · rw [e]
    exact ⟨w, ai_X6_runs (b_X6_runs_0 (am_within _ _ _) (fun _ => b_X6_runs_23) (fun e => absurd (wl0 (n := 60) h1 (by decide)) e)), Fr.refl _ _, h⟩
  · rw [e]
    dsimp only
    by_cases hn0 : n = 0
    · rw [if_pos hn0]
      subst hn0
      exact ⟨w, ai_X6_runs (b_X6_runs_0 (am_within _ _ _) (fun _ => b_X6_runs_23) (fun e => absurd (wl2 60) e)), Fr.refl _ _, h⟩
    · rw [if_neg hn0]
      have w1 := wl1 (n := 60) hn hn0 (by decide)
      by_cases hy : y < 0
      · rw [if_pos hy]
        exact ⟨w, ai_X6_runs (b_X6_runs_0 (am_within _ _ _) (fun e => absurd (w1.symm.trans e) (by decide)) (fun _ => b_X6_runs_10 (fun _ => b_X6_runs_23) (fun e => absurd hy e))), Fr.refl _ _, h⟩
      · rw [if_neg hy]
        have ent : ∀ {r}, Z_X6_runs 35 14 [some (.ref 22), some (.int (nI n)), some (.int y), some (.int v)] [] w r → A_X6_runs 35 [.ref 22, .int (nI n), .int y, .int v] w r := fun z => ai_X6_runs (b_X6_runs_0 (am_within _ _ _) (fun e => absurd (w1.symm.trans e) (by decide)) (fun _ => b_X6_runs_10 (fun e => absurd e hy) (fun _ => z)))
        rcases ix_cases v (n := 3) (by decide) with ⟨e2, h2⟩ | ⟨q, hq, rfl, e2⟩
        · rw [e2]
          exact ⟨w, ent (b_X6_runs_14 (am_within _ _ _) (fun e => absurd (wi0 (n := 2) h2 (by decide)) e) (fun _ => b_X6_runs_23)), Fr.refl _ _, h⟩
        · rw [e2]
          have w2 := wi1 (n := 2) hq (by decide)
          cases hc : gC s with
          | none => exact ⟨w, ent (b_X6_runs_14 (am_within _ _ _) (fun _ => b_X6_runs_26 (fun e => absurd (h.tn hc) e) (fun _ => b_X6_runs_33 b_X6_runs_45)) (fun e => absurd (w2.symm.trans e) (by decide))), Fr.refl _ _, h⟩
          | some u =>
            obtain ⟨t1, t2, t3, hu, hm⟩ := h.ts hb hc
            obtain ⟨sd, hsd, rfl⟩ := nI_of hy
            rw [nI_clamp hsd]
            obtain ⟨lv, ha⟩ := am_runsNow (w := w) hu hm.2.2.1 hm.1 hm.2.1 hn (by omega : sd < 2147483648) hq
            exact ⟨_, ent (b_X6_runs_14 (am_within _ _ _) (fun _ => b_X6_runs_26 (fun _ => b_X6_runs_38 ha b_X6_runs_45) (fun e => absurd e t1)) (fun e => absurd (w2.symm.trans e) (by decide))), Fr.sJ (by decide), h.J⟩
end MU
