-- ===== the class's public methods =====
theorem b1 : ¬ bz true = 0 := by decide
theorem sw_d {x : Int32} {n : Nat} (h : x < 0 ∨ nI (n + 1) ≤ x) (hn : n + 1 < 2 ^ 31) : x.toInt < 0 ∨ (n : Int) < x.toInt := by
  rcases h with h | h
  · have := Int32.lt_iff_toInt_lt.mp h
    exact Or.inl this
  · have h1 := Int32.le_iff_toInt_le.mp h
    rw [nI_toInt hn] at h1
    exact Or.inr (by omega)
theorem in719' {q : Nat} (h : q < 720) : ¬ nI q = -1 := nI_m1 (by omega)
noncomputable def tN (u : CU) (t : Nat) (q : Nat) : Int32 := match q with
  | 0 => nI (kd (cN u) t)
  | 1 => nI (pl (cK u) t)
  | 2 => nI (pl (cG u) t)
  | 3 => np (prc (cN u) (cK u) t)
  | 4 => nI (srt (cS u) t)
  | 5 => bwN (srt (cS u) t)
  | _ => ec (lsW (cN u) (cK u) t (pl (cG u) t))
noncomputable def rTile (s : Sg) (x y : Int32) : Int32 := match gC s with
  | none => -101
  | some u => match ix 5 x with
    | none => -101
    | some t => match ix 7 y with
      | none => -102
      | some q => tN u t q
def rAs (s : Sg) (x y : Int32) : Int32 := match gC s with
  | none => -101
  | some u => match ix 5 x with
    | none => -101
    | some t => match ix 5 y with
      | none => -102
      | some j => if isaN (kd (cN u) t) j = true then nI t else -1
def cNow (u : CU) (c : Nat) (q : Nat) : Int32 := match q with
  | 0 => sgnN (sg (cK u) c)
  | 1 => sgnN (sg (cG u) c)
  | _ => bz (nx c (pl (cK u) 5))
def rCell (s : Sg) (x y : Int32) : Int32 := match gC s with
  | none => -101
  | some u => match ix 6 x with
    | none => -101
    | some c => match ix 3 y with
      | none => -102
      | some q => cNow u c q
def toC (s : Sg) (u : CU) : Sg := (gP s, gT s, gH s, some u, gI s)
def rPush (s : Sg) (x : Int32) : Int32 × Sg := match gC s with
  | none => (-101, s)
  | some u => match ix 5 x with
    | none => (-101, s)
    | some t => if prc (cN u) (cK u) t = 0 then (-103, s) else if 999 ≤ cP u then (-104, s) else (nI (prc (cN u) (cK u) t), toC s (mv (cK u) t, cG u, cN u, cP u + 1, cC u + prc (cN u) (cK u) t, cS u))
def rEx (s : Sg) (x y : Int32) : Int32 × Sg := match gC s with
  | none => (-101, s)
  | some u => match ix 6 x with
    | none => (-101, s)
    | some a => match ix 6 y with
      | none => (-101, s)
      | some b => if a = b then (-101, s) else (nI (pl (ex (cK u) a b) 5), toC s (ex (cK u) a b, cG u, cN u, cP u, cC u, cS u))
def rAim (s : Sg) (x y : Int32) : Int32 × Sg := match gC s with
  | none => (-101, s)
  | some u => match ix 6 x with
    | none => (-101, s)
    | some a => match ix 6 y with
      | none => (-101, s)
      | some b => if a = b then (-101, s) else (nI (pl (ex (cG u) a b) 5), toC s (cK u, ex (cG u) a b, cN u, cP u, cC u, cS u))
def rRec (s : Sg) (x y : Int32) : Int32 × Sg := match gC s with
  | none => (-101, s)
  | some u => match ix 5 x with
    | none => (-101, s)
    | some t => match ix 5 y with
      | none => (-102, s)
      | some j => (nI (kd (cN u) t), toC s (cK u, cG u, stK (cN u) t j, cP u, cC u, cS u))
noncomputable def lNow (u : CU) (q : Nat) : Int32 := match q with
  | 0 => ec (dsN (cN u) (cG u) (cK u))
  | 1 => if dsN (cN u) (cG u) (cK u) = FARN then -1 else sgnN (ctN (dsN (cN u) (cG u)) (cN u) (cK u))
  | _ => if dsN (cN u) (cG u) (cK u) = FARN then -1 else nI (stpF (dsN (cN u) (cG u)) (cN u) (cG u) (dsN (cN u) (cG u) (cK u)) (cK u))
noncomputable def rLeast (s : Sg) (x : Int32) : Int32 := match ix 3 x with
  | none => -102
  | some q => match gC s with
    | none => -103
    | some u => lNow u q
noncomputable def reN (u : CU) (q : Nat) : Int32 := match q with
  | 0 => nI (cnt (fin (dsN (cN u) (cK u))) 720)
  | _ => nI (mxW (cN u) (cK u))
noncomputable def rReach (s : Sg) (x : Int32) : Int32 := match ix 2 x with
  | none => -102
  | some q => match gC s with
    | none => -103
    | some u => reN u q
noncomputable def hoN (u : CU) (t c : Nat) : Int32 := ec (lsW (cN u) (cK u) t c)
noncomputable def rHome (s : Sg) (x y : Int32) : Int32 := match gC s with
  | none => -101
  | some u => match ix 5 x with
    | none => -101
    | some t => match ix 6 y with
      | none => -101
      | some c => hoN u t c
def swN (u : CU) : Int32 := nI (6 - (cirO (fun c => pl (cG u) (sg (cK u) c)) 6).1)
def rSwaps (s : Sg) : Int32 := match gC s with
  | none => -103
  | some u => swN u
section PU
variable {w : Wd}
theorem RepC.now {s : Sg} (h : RepC w s) : NowR w (gC s) := h.2.2.2.2.1
theorem RepC.kep {s : Sg} (h : RepC w s) : KepR w (gI s) := h.2.2.2.2.2
theorem am_tile_in {s : Sg} {u : CU} (h : RepC w s) (hu : CuOK u) (hs : StR 15 w u) {t q : Nat} (ht : t < 5) (hq : q < 7) (he : A_X5_isTile 35 [.ref 19, .int (nI t)] w (some (.int (bz true)), w)) : ∃ w', A_X5_tile 35 [.ref 19, .int (nI t), .int (nI q)] w (some (.int (tN u t q)), w') ∧ Fr CL w w' ∧ RepC w' s := by
  obtain ⟨u1, u2, u3, u4, u5⟩ := hu
  have hkl := u3.lt
  obtain ⟨s0, s1, s2, s3, s4, s5, s6⟩ := hs
  have hT := h.1.1
  have ent : ∀ {r}, Z_X5_tile 35 11 [some (.ref 19), some (.int (nI t)), some (.int (nI q))] [] w r → A_X5_tile 35 [.ref 19, .int (nI t), .int (nI q)] w r := fun z => ai_X5_tile (b_X5_tile_0 he (fun _ => z) (fun e => absurd e b1))
  rcases (show q = 0 ∨ q = 1 ∨ q = 2 ∨ q = 3 ∨ q = 4 ∨ q = 5 ∨ q = 6 by omega) with rfl | rfl | rfl | rfl | rfl | rfl | rfl
  · exact ⟨w, ent (b_X5_tile_11_c0 rfl (b_X5_tile_56 (by rw [s2]; exact am_kindOf (by omega) ht))), Fr.refl _ _, h⟩
  · exact ⟨w, ent (b_X5_tile_11_c1 rfl (b_X5_tile_68 (by rw [s0]; exact am_place hT.2.1 (by omega) u1 (by omega)))), Fr.refl _ _, h⟩
  · exact ⟨w, ent (b_X5_tile_11_c2 rfl (b_X5_tile_84 (by rw [s1]; exact am_place hT.2.1 (by omega) u2 (by omega)))), Fr.refl _ _, h⟩
  · exact ⟨w, ent (b_X5_tile_11_c3 rfl (b_X5_tile_100 (by rw [s0, s2]; exact am_price hT.2.2.2 u1 ht (by omega)))), Fr.refl _ _, h⟩
  · exact ⟨w, ent (b_X5_tile_11_c4 rfl (b_X5_tile_123 (am_sortsOf ⟨s0, s1, s2, s3, s4, s5, s6⟩ ht))), Fr.refl _ _, h⟩
  · exact ⟨w, ent (b_X5_tile_11_c5 rfl (b_X5_tile_132 (am_sortsOf ⟨s0, s1, s2, s3, s4, s5, s6⟩ ht) (am_bestWay (srt_lt _ _)))), Fr.refl _ _, h⟩
  · obtain ⟨w1, fd, n, mo, ha, hF, hR, hfull⟩ := am_srchh h u1 u3
    obtain ⟨v, hv, hl⟩ := am_leastWithh (w := w1) (t := t) (x := pl (cG u) t) hR.1.1.2.1 ht (pl_lt u2 (by omega)) hfull
    have e := lsW_eq hfull.2.1 hl
    subst e
    have t1 : wI w1 15 1 = nI (cG u) := (hF.1 15 1 (by decide)).trans s1
    refine ⟨w1, ent (b_X5_tile_11_c6 rfl (b_X5_tile_144 (by rw [s0, s2]; exact ha) (by rw [t1]; exact am_place hR.1.1.2.1 (by omega) u2 (by omega)) hv)), hF.mono (by decide), hR⟩
theorem am_tile {s : Sg} (h : RepC w s) (x y : Int32) : ∃ w', A_X5_tile 35 [.ref 19, .int x, .int y] w (some (.int (rTile s x y)), w') ∧ Fr CL w w' ∧ RepC w' s := by
  have hN := h.now
  have hT := am_isTile hN x
  unfold rTile
  cases hc : gC s with
  | none =>
    rw [hc] at hT
    exact ⟨w, ai_X5_tile (b_X5_tile_0 hT (fun q => absurd rfl q) (fun _ => b_X5_tile_8)), Fr.refl _ _, h⟩
  | some u =>
    rw [hc] at hT hN
    rcases ix_cases x (n := 5) (by decide) with ⟨e, -⟩ | ⟨t, ht, rfl, e⟩
    · rw [e] at hT ⊢
      exact ⟨w, ai_X5_tile (b_X5_tile_0 hT (fun q => absurd rfl q) (fun _ => b_X5_tile_8)), Fr.refl _ _, h⟩
    · rw [e] at hT ⊢
      rcases ix_cases y (n := 7) (by decide) with ⟨e2, h2⟩ | ⟨q, hq, rfl, e2⟩
      · rw [e2]
        exact ⟨w, ai_X5_tile (b_X5_tile_0 hT (fun _ => b_X5_tile_11_d (sw_d (n := 6) h2 (by decide)) b_X5_tile_189) (fun q => absurd q b1)), Fr.refl _ _, h⟩
      · rw [e2]
        exact am_tile_in h hN.1 hN.2 ht hq hT
theorem am_as {s : Sg} (h : RepC w s) (x y : Int32) : A_X5_as 35 [.ref 19, .int x, .int y] w (some (.int (rAs s x y)), w) := by
  have hN := h.now
  have hT := am_isTile hN x
  have hK := am_isKind (w := w) y
  unfold rAs
  cases hc : gC s with
  | none =>
    rw [hc] at hT
    exact ai_X5_as (b_X5_as_0 hT (fun q => absurd rfl q) (fun _ => b_X5_as_8))
  | some u =>
    rw [hc] at hT hN
    obtain ⟨⟨u1, u2, u3, u4, u5⟩, s0, s1, s2, -⟩ := hN
    have hkl := u3.lt
    rcases ix_cases x (n := 5) (by decide) with ⟨e, -⟩ | ⟨t, ht, rfl, e⟩
    · rw [e] at hT ⊢
      exact ai_X5_as (b_X5_as_0 hT (fun q => absurd rfl q) (fun _ => b_X5_as_8))
    · rw [e] at hT ⊢
      rcases ix_cases y (n := 5) (by decide) with ⟨e2, h2⟩ | ⟨i, hi, rfl, e2⟩
      · rw [e2] at hK ⊢
        exact ai_X5_as (b_X5_as_0 hT (fun _ => b_X5_as_11 hK (fun q => absurd rfl q) (fun _ => b_X5_as_18)) (fun q => absurd q b1))
      · rw [e2] at hK ⊢
        refine ai_X5_as (b_X5_as_0 hT (fun _ => b_X5_as_11 hK (fun _ => b_X5_as_21 (by rw [s2]; exact am_kindOf (by omega) ht) rfl (kd_lt _ _) (am_isA (kd_lt _ _) hi) (fun q => ?_) (fun q => ?_)) (fun q => absurd q b1)) (fun q => absurd q b1))
        · have := bz_0.mp q
          show Z_X5_as _ _ _ _ _ (some (.int (if isaN (kd (cN u) t) i = true then nI t else -1)), w)
          rw [this]
          exact b_X5_as_47 b_X5_as_48
        · have : isaN (kd (cN u) t) i = true := by
            cases e : isaN (kd (cN u) t) i with
            | true => rfl
            | false => rw [e] at q; exact absurd rfl q
          show Z_X5_as _ _ _ _ _ (some (.int (if isaN (kd (cN u) t) i = true then nI t else -1)), w)
          rw [if_pos this]
          exact b_X5_as_43 b_X5_as_48
theorem am_cell_in {s : Sg} {u : CU} (h : RepC w s) (hu : CuOK u) (hs : StR 15 w u) {c q : Nat} (ht : c < 6) (hq : q < 3) (he : A_X5_isCell 35 [.ref 19, .int (nI c)] w (some (.int (bz true)), w)) : A_X5_cell 35 [.ref 19, .int (nI c), .int (nI q)] w (some (.int (cNow u c q)), w) := by
  obtain ⟨u1, u2, u3, u4, u5⟩ := hu
  obtain ⟨s0, s1, s2, -⟩ := hs
  have hT := h.1.1
  have ent : ∀ {r}, Z_X5_cell 35 11 [some (.ref 19), some (.int (nI c)), some (.int (nI q))] [] w r → A_X5_cell 35 [.ref 19, .int (nI c), .int (nI q)] w r := fun z => ai_X5_cell (b_X5_cell_0 he (fun _ => z) (fun e => absurd e b1))
  rcases (show q = 0 ∨ q = 1 ∨ q = 2 by omega) with rfl | rfl | rfl
  · exact ent (b_X5_cell_11_c0 rfl (b_X5_cell_40 (by rw [s0]; exact am_sign hT.1 (by omega) u1 ht) (am_tileOrNone (sg_lt u1 ht))))
  · exact ent (b_X5_cell_11_c1 rfl (b_X5_cell_59 (by rw [s1]; exact am_sign hT.1 (by omega) u2 ht) (am_tileOrNone (sg_lt u2 ht))))
  · refine ent (b_X5_cell_11_c2 rfl (b_X5_cell_78 (by rw [s0]; exact am_place (s := 5) hT.2.1 (by omega) u1 (by omega)) (am_areNext ht (pl_lt u1 (by omega))) (fun q => ?_) (fun q => ?_)))
    · have := bz_0.mp q
      show Z_X5_cell _ _ _ _ _ (some (.int (bz (nx c (pl (cK u) 5)))), w)
      rw [this]
      exact b_X5_cell_104 b_X5_cell_105
    · have : nx c (pl (cK u) 5) = true := by
        cases e : nx c (pl (cK u) 5) with
        | true => rfl
        | false => rw [e] at q; exact absurd rfl q
      show Z_X5_cell _ _ _ _ _ (some (.int (bz (nx c (pl (cK u) 5)))), w)
      rw [this]
      exact b_X5_cell_100 b_X5_cell_105
theorem am_cell {s : Sg} (h : RepC w s) (x y : Int32) : A_X5_cell 35 [.ref 19, .int x, .int y] w (some (.int (rCell s x y)), w) := by
  have hN := h.now
  have hT := am_isCell hN x
  unfold rCell
  cases hc : gC s with
  | none =>
    rw [hc] at hT
    exact ai_X5_cell (b_X5_cell_0 hT (fun q => absurd rfl q) (fun _ => b_X5_cell_8))
  | some u =>
    rw [hc] at hT hN
    rcases ix_cases x (n := 6) (by decide) with ⟨e, -⟩ | ⟨c, ht, rfl, e⟩
    · rw [e] at hT ⊢
      exact ai_X5_cell (b_X5_cell_0 hT (fun q => absurd rfl q) (fun _ => b_X5_cell_8))
    · rw [e] at hT ⊢
      rcases ix_cases y (n := 3) (by decide) with ⟨e2, h2⟩ | ⟨q, hq, rfl, e2⟩
      · rw [e2]
        exact ai_X5_cell (b_X5_cell_0 hT (fun _ => b_X5_cell_11_d (sw_d (n := 2) h2 (by decide)) b_X5_cell_106) (fun q => absurd q b1))
      · rw [e2]
        exact am_cell_in h hN.1 hN.2 ht hq hT
theorem wI_sI_o {i f j g : Nat} {v : Int32} (h : ¬ (j = i ∧ g = f)) : wI (sI w i f v) j g = wI w j g := by
  show (if j = i ∧ g = f then v else w.1 j g) = _
  rw [if_neg h]
/-- a new standing -/
theorem RepC.put {T : List Nat} {w' : Wd} {s : Sg} (h : RepC w s) (f : Fr T w w') (hn : ∀ i, i ∈ T → i ∈ [5, 15, 16, 21]) {u : CU} (hu : CuOK u) (hs : StR 15 w' u) : RepC w' (toC s u) := by
  obtain ⟨⟨h1, h2, h3, h4⟩, h5, h6, h7, h8, h9⟩ := h
  have q : ∀ i, i ∉ [5, 15, 16, 21] → i ∉ T := fun i hi ht => hi (hn i ht)
  exact ⟨⟨h1.fr f (q 1 (by decide)) (q 2 (by decide)) (q 3 (by decide)) (q 4 (by decide)), h2.fr f (q 6 (by decide)) (q 7 (by decide)) (q 8 (by decide)), h3.fr f (q 9 (by decide)) (q 10 (by decide)) (q 11 (by decide)), h4.fr f (q 12 (by decide)) (q 13 (by decide)) (q 14 (by decide))⟩, h5.fr f (q 19 (by decide)) (q 20 (by decide)), (f.1 19 9 (q 19 (by decide))).trans h6, (f.1 19 10 (q 19 (by decide))).trans h7, ⟨hu, hs⟩, h9.fr f (q 19 (by decide)) (q 17 (by decide)) (q 18 (by decide))⟩
theorem am_push {s : Sg} (h : RepC w s) (x : Int32) : ∃ w', A_X5_push 35 [.ref 19, .int x] w (some (.int (rPush s x).1), w') ∧ Fr CL w w' ∧ RepC w' (rPush s x).2 := by
  have hN := h.now
  have hT := am_isTile hN x
  unfold rPush
  cases hc : gC s with
  | none =>
    rw [hc] at hT
    exact ⟨w, ai_X5_push (b_X5_push_0 hT (fun q => absurd rfl q) (fun _ => b_X5_push_8)), Fr.refl _ _, h⟩
  | some u =>
    rw [hc] at hT hN
    obtain ⟨⟨u1, u2, u3, u4, u5⟩, s0, s1, s2, s3, s4, s5, s6⟩ := hN
    have hkl := u3.lt
    rcases ix_cases x (n := 5) (by decide) with ⟨e, -⟩ | ⟨t, ht, rfl, e⟩
    · rw [e] at hT ⊢
      exact ⟨w, ai_X5_push (b_X5_push_0 hT (fun q => absurd rfl q) (fun _ => b_X5_push_8)), Fr.refl _ _, h⟩
    · rw [e] at hT ⊢
      have hpr := am_price (k := cK u) (t := t) (kn := cN u) h.1.1.2.2.2 u1 ht (by omega)
      rw [← s0, ← s2] at hpr
      have hle := prc_le (cN u) (cK u) t
      by_cases h0 : prc (cN u) (cK u) t = 0
      · have e3 : (np (prc (cN u) (cK u) t)) = -1 := (np_m1 hle).mpr h0
        dsimp only
        rw [if_pos h0]
        exact ⟨w, ai_X5_push (b_X5_push_0 hT (fun _ => b_X5_push_11 hpr (fun q => absurd e3 q) (fun _ => b_X5_push_39)) (fun q => absurd q b1)), Fr.refl _ _, h⟩
      · have e3 : ¬ (np (prc (cN u) (cK u) t)) = -1 := fun q => h0 ((np_m1 hle).mp q)
        have e4 : np (prc (cN u) (cK u) t) = nI (prc (cN u) (cK u) t) := by unfold np; rw [if_neg h0]
        dsimp only
        rw [if_neg h0]
        by_cases h9 : 999 ≤ cP u
        · rw [if_pos h9]
          exact ⟨w, ai_X5_push (b_X5_push_0 hT (fun _ => b_X5_push_11 hpr (fun _ => b_X5_push_42 (fun q => absurd (nlt (b := 999) (by rw [s3] at q; exact q) (by omega) (by omega)) (by omega)) (fun _ => b_X5_push_55)) (fun q => absurd q e3)) (fun q => absurd q b1)), Fr.refl _ _, h⟩
        · rw [if_neg h9]
          have hgo : go (cK u) t = true := by
            cases hg : go (cK u) t with
            | true => rfl
            | false => exact absurd (by unfold prc; simp [hg]) h0
          have hF : Fr [15] w (sI (sI (sI w 15 0 (nI (mv (cK u) t))) 15 3 (wI w 15 3 + 1)) 15 4 (wI w 15 4 + np (prc (cN u) (cK u) t))) := ((Fr.sI (by simp)).trans (Fr.sI (by simp))).trans (Fr.sI (by simp))
          refine ⟨_, ?_, hF.mono (by decide), ?_⟩
          · show A_X5_push 35 _ w (some (.int (nI (prc (cN u) (cK u) t))), _)
            rw [← e4]
            exact ai_X5_push (b_X5_push_0 hT (fun _ => b_X5_push_11 hpr (fun _ => b_X5_push_42 (fun _ => b_X5_push_58 (by rw [s0]; exact am_pushed h.1.1.2.2.1 u1 (by omega) hgo)) (fun q => absurd (by rw [s3]; exact nI_lt (b := 999) (by omega) (by omega)) q)) (fun q => absurd q e3)) (fun q => absurd q b1))
          · refine h.put hF (by decide) (u := (mv (cK u) t, cG u, cN u, cP u + 1, cC u + prc (cN u) (cK u) t, cS u)) ⟨mv_lt u1 ht, u2, u3, (show cP u + 1 ≤ 999 by omega), u5⟩ ⟨rfl, s1, s2, ?_, ?_, s5, s6⟩
            · show wI w 15 3 + 1 = nI (cP u + 1)
              rw [s3, nI_1]
            · show wI w 15 4 + np (prc (cN u) (cK u) t) = nI (cC u + prc (cN u) (cK u) t)
              rw [s4, e4, nI_add]
theorem am_exchange {s : Sg} (h : RepC w s) (x y : Int32) : ∃ w', A_X5_exchange 35 [.ref 19, .int x, .int y] w (some (.int (rEx s x y).1), w') ∧ Fr CL w w' ∧ RepC w' (rEx s x y).2 := by
  have hN := h.now
  have hT := am_isCell hN x
  have hT2 := am_isCell hN y
  unfold rEx
  cases hc : gC s with
  | none =>
    rw [hc] at hT
    exact ⟨w, ai_X5_exchange (b_X5_exchange_0 hT (fun _ => b_X5_exchange_21) (fun q => absurd rfl q)), Fr.refl _ _, h⟩
  | some u =>
    rw [hc] at hT hT2 hN
    obtain ⟨⟨u1, u2, u3, u4, u5⟩, s0, s1, s2, s3, s4, s5, s6⟩ := hN
    rcases ix_cases x (n := 6) (by decide) with ⟨e, -⟩ | ⟨a, ha, rfl, e⟩
    · rw [e] at hT ⊢
      exact ⟨w, ai_X5_exchange (b_X5_exchange_0 hT (fun _ => b_X5_exchange_21) (fun q => absurd rfl q)), Fr.refl _ _, h⟩
    · rw [e] at hT ⊢
      rcases ix_cases y (n := 6) (by decide) with ⟨e2, -⟩ | ⟨b, hb, rfl, e2⟩
      · rw [e2] at hT2 ⊢
        exact ⟨w, ai_X5_exchange (b_X5_exchange_0 hT (fun q => absurd q b1) (fun _ => b_X5_exchange_8 hT2 (fun _ => b_X5_exchange_21) (fun q => absurd rfl q))), Fr.refl _ _, h⟩
      · rw [e2] at hT2 ⊢
        dsimp only
        by_cases hab : a = b
        · rw [if_pos hab]
          exact ⟨w, ai_X5_exchange (b_X5_exchange_0 hT (fun q => absurd q b1) (fun _ => b_X5_exchange_8 hT2 (fun q => absurd q b1) (fun _ => b_X5_exchange_16 (fun q => absurd (by rw [hab]) q) (fun _ => b_X5_exchange_21)))), Fr.refl _ _, h⟩
        · rw [if_neg hab]
          obtain ⟨w1, hx, hF1⟩ := am_exchanged (mm := 35) h.1.1.1 (by omega) u1 ha hb hab
          have hF : Fr [5, 15] w (sI w1 15 0 (nI (ex (cK u) a b))) := (hF1.mono (by decide)).trans (Fr.sI (by simp))
          have hk := ex_lt u1 ha hb hab
          have hR := h.put hF (by decide) (u := (ex (cK u) a b, cG u, cN u, cP u, cC u, cS u)) ⟨hk, u2, u3, u4, u5⟩ ⟨rfl, (hF1.1 15 1 (by decide)).trans s1, (hF1.1 15 2 (by decide)).trans s2, (hF1.1 15 3 (by decide)).trans s3, (hF1.1 15 4 (by decide)).trans s4, (hF1.1 15 5 (by decide)).trans s5, fun t ht => (congrFun (hF1.2.2.2 16 (by decide)) t).trans (s6 t ht)⟩
          exact ⟨_, ai_X5_exchange (b_X5_exchange_0 hT (fun q => absurd q b1) (fun _ => b_X5_exchange_8 hT2 (fun q => absurd q b1) (fun _ => b_X5_exchange_16 (fun _ => b_X5_exchange_24 (by rw [s0]; exact hx) (am_place (s := 5) hR.1.1.2.1 (by omega) hk (by omega))) (fun q => absurd (neq q (by omega) (by omega)) hab)))), hF.mono (by decide), hR⟩
theorem am_aim {s : Sg} (h : RepC w s) (x y : Int32) : ∃ w', A_X5_aim 35 [.ref 19, .int x, .int y] w (some (.int (rAim s x y).1), w') ∧ Fr CL w w' ∧ RepC w' (rAim s x y).2 := by
  have hN := h.now
  have hT := am_isCell hN x
  have hT2 := am_isCell hN y
  unfold rAim
  cases hc : gC s with
  | none =>
    rw [hc] at hT
    exact ⟨w, ai_X5_aim (b_X5_aim_0 hT (fun _ => b_X5_aim_21) (fun q => absurd rfl q)), Fr.refl _ _, h⟩
  | some u =>
    rw [hc] at hT hT2 hN
    obtain ⟨⟨u1, u2, u3, u4, u5⟩, s0, s1, s2, s3, s4, s5, s6⟩ := hN
    rcases ix_cases x (n := 6) (by decide) with ⟨e, -⟩ | ⟨a, ha, rfl, e⟩
    · rw [e] at hT ⊢
      exact ⟨w, ai_X5_aim (b_X5_aim_0 hT (fun _ => b_X5_aim_21) (fun q => absurd rfl q)), Fr.refl _ _, h⟩
    · rw [e] at hT ⊢
      rcases ix_cases y (n := 6) (by decide) with ⟨e2, -⟩ | ⟨b, hb, rfl, e2⟩
      · rw [e2] at hT2 ⊢
        exact ⟨w, ai_X5_aim (b_X5_aim_0 hT (fun q => absurd q b1) (fun _ => b_X5_aim_8 hT2 (fun _ => b_X5_aim_21) (fun q => absurd rfl q))), Fr.refl _ _, h⟩
      · rw [e2] at hT2 ⊢
        dsimp only
        by_cases hab : a = b
        · rw [if_pos hab]
          exact ⟨w, ai_X5_aim (b_X5_aim_0 hT (fun q => absurd q b1) (fun _ => b_X5_aim_8 hT2 (fun q => absurd q b1) (fun _ => b_X5_aim_16 (fun q => absurd (by rw [hab]) q) (fun _ => b_X5_aim_21)))), Fr.refl _ _, h⟩
        · rw [if_neg hab]
          obtain ⟨w1, hx, hF1⟩ := am_exchanged (mm := 35) h.1.1.1 (by omega) u2 ha hb hab
          have hF : Fr [5, 15] w (sI w1 15 1 (nI (ex (cG u) a b))) := (hF1.mono (by decide)).trans (Fr.sI (by simp))
          have hk := ex_lt u2 ha hb hab
          have hR := h.put hF (by decide) (u := (cK u, ex (cG u) a b, cN u, cP u, cC u, cS u)) ⟨u1, hk, u3, u4, u5⟩ ⟨(hF1.1 15 0 (by decide)).trans s0, rfl, (hF1.1 15 2 (by decide)).trans s2, (hF1.1 15 3 (by decide)).trans s3, (hF1.1 15 4 (by decide)).trans s4, (hF1.1 15 5 (by decide)).trans s5, fun t ht => (congrFun (hF1.2.2.2 16 (by decide)) t).trans (s6 t ht)⟩
          exact ⟨_, ai_X5_aim (b_X5_aim_0 hT (fun q => absurd q b1) (fun _ => b_X5_aim_8 hT2 (fun q => absurd q b1) (fun _ => b_X5_aim_16 (fun _ => b_X5_aim_24 (by rw [s1]; exact hx) (am_place (s := 5) hR.1.1.2.1 (by omega) hk (by omega))) (fun q => absurd (neq q (by omega) (by omega)) hab)))), hF.mono (by decide), hR⟩
theorem am_recast {s : Sg} (h : RepC w s) (x y : Int32) : ∃ w', A_X5_recast 35 [.ref 19, .int x, .int y] w (some (.int (rRec s x y).1), w') ∧ Fr CL w w' ∧ RepC w' (rRec s x y).2 := by
  have hN := h.now
  have hT := am_isTile hN x
  have hK := am_isKind (w := w) y
  unfold rRec
  cases hc : gC s with
  | none =>
    rw [hc] at hT
    exact ⟨w, ai_X5_recast (b_X5_recast_0 hT (fun q => absurd rfl q) (fun _ => b_X5_recast_8)), Fr.refl _ _, h⟩
  | some u =>
    rw [hc] at hT hN
    obtain ⟨⟨u1, u2, u3, u4, u5⟩, s0, s1, s2, s3, s4, s5, s6⟩ := hN
    have hkl := u3.lt
    rcases ix_cases x (n := 5) (by decide) with ⟨e, -⟩ | ⟨t, ht, rfl, e⟩
    · rw [e] at hT ⊢
      exact ⟨w, ai_X5_recast (b_X5_recast_0 hT (fun q => absurd rfl q) (fun _ => b_X5_recast_8)), Fr.refl _ _, h⟩
    · rw [e] at hT ⊢
      rcases ix_cases y (n := 5) (by decide) with ⟨e2, h2⟩ | ⟨j, hj, rfl, e2⟩
      · rw [e2] at hK ⊢
        exact ⟨w, ai_X5_recast (b_X5_recast_0 hT (fun _ => b_X5_recast_11 hK (fun q => absurd rfl q) (fun _ => b_X5_recast_18)) (fun q => absurd q b1)), Fr.refl _ _, h⟩
      · rw [e2] at hK ⊢
        have hF : Fr [15] w (sI w 15 2 (nI (stK (cN u) t j))) := Fr.sI (by simp)
        exact ⟨_, ai_X5_recast (b_X5_recast_0 hT (fun _ => b_X5_recast_11 hK (fun _ => b_X5_recast_21 (by rw [s2]; exact am_kindOf (by omega) ht) (by rw [s2]; exact am_withKind u3 ht hj)) (fun q => absurd q b1)) (fun q => absurd q b1)), hF.mono (by decide), h.put hF (by decide) (u := (cK u, cG u, stK (cN u) t j, cP u, cC u, cS u)) ⟨u1, u2, KV.st hj, u4, u5⟩ ⟨s0, s1, rfl, s3, s4, s5, s6⟩⟩
theorem am_least_in {s : Sg} {u : CU} (h : RepC w s) (hu : CuOK u) (hs : StR 15 w u) {q : Nat} (hq : q < 3) (he : A_X5_hasTray 35 [.ref 19] w (some (.int (bz true)), w)) : ∃ w', A_X5_least 35 [.ref 19, .int (nI q)] w (some (.int (lNow u q)), w') ∧ Fr CL w w' ∧ RepC w' s := by
  obtain ⟨u1, u2, u3, u4, u5⟩ := hu
  have hkl := u3.lt
  obtain ⟨s0, s1, s2, s3, s4, s5, s6⟩ := hs
  obtain ⟨w1, fd, n, mo, ha, hF, hR, hfull⟩ := am_srchg h u2 u3
  have t0 : wI w1 15 0 = nI (cK u) := (hF.1 15 0 (by decide)).trans s0
  have t1 : wI w1 15 1 = nI (cG u) := (hF.1 15 1 (by decide)).trans s1
  have t2 : wI w1 15 2 = nI (cN u) := (hF.1 15 2 (by decide)).trans s2
  rw [← s1, ← s2] at ha
  have ent : ∀ {r}, (¬ nI q = 0 → Z_X5_least 35 62 [some (.ref 19), some (.int (nI q))] [] w1 r) → (nI q = 0 → Z_X5_least 35 47 [some (.ref 19), some (.int (nI q))] [] w1 r) → A_X5_least 35 [.ref 19, .int (nI q)] w r := fun z1 z2 => ai_X5_least (b_X5_least_0 (am_isWithin _ _ _) (fun _ => b_X5_least_12 he (fun _ => b_X5_least_22 ha z1 z2) (fun e => absurd e b1)) (fun e => absurd ((wi1 (n := 2) hq (by decide)).symm.trans e) (by decide)))
  refine ⟨w1, ?_, hF.mono (by decide), hR⟩
  have hmx : ∀ {k}, Z_X5_least 35 67 [some (.ref 19), some (.int (nI k))] [] w1 (some (.int (lNow u 1)), w1) := by
    intro k
    have hct : A_X5_cheapestTile 35 [.ref 19, .int (wI w1 15 0)] w1 (some (.int (lNow u 1)), w1) := by
      rw [t0]
      show A_X5_cheapestTile 35 _ w1 (some (.int (if _ then _ else _)), w1)
      by_cases hf : dsN (cN u) (cG u) (cK u) = FARN
      · rw [if_pos hf]
        exact ai_X5_cheapestTile (b_X5_cheapestTile_0 (am_costOfg hfull u1) (fun e => absurd (ec_f hf) e) (fun _ => b_X5_cheapestTile_14))
      · rw [if_neg hf]
        exact am_cheapestTile hR.1.1 (by omega) t2 hfull u1 hf
    exact b_X5_least_67 hct b_X5_least_85
  rcases (show q = 0 ∨ q = 1 ∨ q = 2 by omega) with rfl | rfl | rfl
  · exact ent (fun e => absurd rfl e) (fun _ => b_X5_least_47 (by rw [t0]; exact am_costOfg hfull u1))
  · exact ent (fun _ => b_X5_least_62 (fun e => absurd rfl e) (fun _ => hmx)) (fun e => absurd e (by decide))
  · exact ent (fun _ => b_X5_least_62 (fun _ => b_X5_least_81 (am_pushesToGoal hR.1.1 (by omega) t2 t0 t1 u2 hfull u1) b_X5_least_85) (fun e => absurd e (by decide))) (fun e => absurd e (by decide))
theorem am_least {s : Sg} (h : RepC w s) (x : Int32) : ∃ w', A_X5_least 35 [.ref 19, .int x] w (some (.int (rLeast s x)), w') ∧ Fr CL w w' ∧ RepC w' s := by
  have hN := h.now
  have hT := am_hasTray hN
  unfold rLeast
  rcases ix_cases x (n := 3) (by decide) with ⟨e, h1⟩ | ⟨q, hq, rfl, e⟩
  · rw [e]
    exact ⟨w, ai_X5_least (b_X5_least_0 (am_isWithin _ _ _) (fun e => absurd (wi0 (n := 2) h1 (by decide)) e) (fun _ => b_X5_least_9)), Fr.refl _ _, h⟩
  · rw [e]
    cases hc : gC s with
    | none =>
      rw [hc] at hT
      exact ⟨w, ai_X5_least (b_X5_least_0 (am_isWithin _ _ _) (fun _ => b_X5_least_12 hT (fun e => absurd rfl e) (fun _ => b_X5_least_19)) (fun e => absurd ((wi1 (n := 2) hq (by decide)).symm.trans e) (by decide))), Fr.refl _ _, h⟩
    | some u =>
      rw [hc] at hT hN
      exact am_least_in h hN.1 hN.2 hq hT
theorem am_reach_in {s : Sg} {u : CU} (h : RepC w s) (hu : CuOK u) (hs : StR 15 w u) {q : Nat} (hq : q < 2) (he : A_X5_hasTray 35 [.ref 19] w (some (.int (bz true)), w)) : ∃ w', A_X5_reach 35 [.ref 19, .int (nI q)] w (some (.int (reN u q)), w') ∧ Fr CL w w' ∧ RepC w' s := by
  obtain ⟨u1, u2, u3, u4, u5⟩ := hu
  obtain ⟨s0, s1, s2, s3, s4, s5, s6⟩ := hs
  obtain ⟨w1, fd, n, mo, ha, hF, hR, hfull⟩ := am_srchh h u1 u3
  rw [← s0, ← s2] at ha
  have ent : ∀ {r}, (¬ nI q = 0 → Z_X5_reach 35 57 [some (.ref 19), some (.int (nI q))] [] w1 r) → (nI q = 0 → Z_X5_reach 35 47 [some (.ref 19), some (.int (nI q))] [] w1 r) → A_X5_reach 35 [.ref 19, .int (nI q)] w r := fun z1 z2 => ai_X5_reach (b_X5_reach_0 (am_isWithin _ _ _) (fun _ => b_X5_reach_12 he (fun _ => b_X5_reach_22 ha z1 z2) (fun e => absurd e b1)) (fun e => absurd ((wi1 (n := 1) hq (by decide)).symm.trans e) (by decide)))
  refine ⟨w1, ?_, hF.mono (by decide), hR⟩
  rcases (show q = 0 ∨ q = 1 by omega) with rfl | rfl
  · exact ent (fun e => absurd rfl e) (fun _ => b_X5_reach_47 (am_sizeh hfull) b_X5_reach_64)
  · obtain ⟨M, hM, hI⟩ := am_farthesth u1 hfull
    have := mxW_eq hI
    subst this
    exact ent (fun _ => b_X5_reach_57 hM b_X5_reach_64) (fun e => absurd e (by decide))
theorem am_reach {s : Sg} (h : RepC w s) (x : Int32) : ∃ w', A_X5_reach 35 [.ref 19, .int x] w (some (.int (rReach s x)), w') ∧ Fr CL w w' ∧ RepC w' s := by
  have hN := h.now
  have hT := am_hasTray hN
  unfold rReach
  rcases ix_cases x (n := 2) (by decide) with ⟨e, h1⟩ | ⟨q, hq, rfl, e⟩
  · rw [e]
    exact ⟨w, ai_X5_reach (b_X5_reach_0 (am_isWithin _ _ _) (fun e => absurd (wi0 (n := 1) h1 (by decide)) e) (fun _ => b_X5_reach_9)), Fr.refl _ _, h⟩
  · rw [e]
    cases hc : gC s with
    | none =>
      rw [hc] at hT
      exact ⟨w, ai_X5_reach (b_X5_reach_0 (am_isWithin _ _ _) (fun _ => b_X5_reach_12 hT (fun e => absurd rfl e) (fun _ => b_X5_reach_19)) (fun e => absurd ((wi1 (n := 1) hq (by decide)).symm.trans e) (by decide))), Fr.refl _ _, h⟩
    | some u =>
      rw [hc] at hT hN
      exact am_reach_in h hN.1 hN.2 hq hT
theorem am_home_in {s : Sg} {u : CU} (h : RepC w s) (hu : CuOK u) (hs : StR 15 w u) {t c : Nat} (ht : t < 5) (hc : c < 6) (he : A_X5_isTile 35 [.ref 19, .int (nI t)] w (some (.int (bz true)), w)) (hf : A_X5_isCell 35 [.ref 19, .int (nI c)] w (some (.int (bz true)), w)) : ∃ w', A_X5_home 35 [.ref 19, .int (nI t), .int (nI c)] w (some (.int (hoN u t c)), w') ∧ Fr CL w w' ∧ RepC w' s := by
  obtain ⟨u1, u2, u3, u4, u5⟩ := hu
  obtain ⟨s0, s1, s2, s3, s4, s5, s6⟩ := hs
  obtain ⟨w1, fd, n, mo, ha, hF, hR, hfull⟩ := am_srchh h u1 u3
  rw [← s0, ← s2] at ha
  obtain ⟨v, hv, hl⟩ := am_leastWithh (w := w1) (t := t) (x := c) hR.1.1.2.1 ht hc hfull
  have e := lsW_eq hfull.2.1 hl
  subst e
  exact ⟨w1, ai_X5_home (b_X5_home_0 he (fun e => absurd e b1) (fun _ => b_X5_home_8 hf (fun _ => b_X5_home_19 ha hv) (fun e => absurd e b1))), hF.mono (by decide), hR⟩
theorem am_home {s : Sg} (h : RepC w s) (x y : Int32) : ∃ w', A_X5_home 35 [.ref 19, .int x, .int y] w (some (.int (rHome s x y)), w') ∧ Fr CL w w' ∧ RepC w' s := by
  have hN := h.now
  have hT := am_isTile hN x
  have hT2 := am_isCell hN y
  unfold rHome
  cases hc : gC s with
  | none =>
    rw [hc] at hT
    exact ⟨w, ai_X5_home (b_X5_home_0 hT (fun _ => b_X5_home_16) (fun q => absurd rfl q)), Fr.refl _ _, h⟩
  | some u =>
    rw [hc] at hT hT2 hN
    rcases ix_cases x (n := 5) (by decide) with ⟨e, -⟩ | ⟨t, ht, rfl, e⟩
    · rw [e] at hT ⊢
      exact ⟨w, ai_X5_home (b_X5_home_0 hT (fun _ => b_X5_home_16) (fun q => absurd rfl q)), Fr.refl _ _, h⟩
    · rw [e] at hT ⊢
      rcases ix_cases y (n := 6) (by decide) with ⟨e2, -⟩ | ⟨c, hq, rfl, e2⟩
      · rw [e2] at hT2 ⊢
        exact ⟨w, ai_X5_home (b_X5_home_0 hT (fun q => absurd q b1) (fun _ => b_X5_home_8 hT2 (fun q => absurd rfl q) (fun _ => b_X5_home_16))), Fr.refl _ _, h⟩
      · rw [e2] at hT2 ⊢
        exact am_home_in h hN.1 hN.2 ht hq hT hT2
theorem am_swaps {s : Sg} (h : RepC w s) : A_X5_swaps 35 [.ref 19] w (some (.int (rSwaps s)), w) := by
  have hN := h.now
  have hT := am_hasTray hN
  unfold rSwaps
  cases hc : gC s with
  | none =>
    rw [hc] at hT
    exact ai_X5_swaps (b_X5_swaps_0 hT (fun e => absurd rfl e) (fun _ => b_X5_swaps_7))
  | some u =>
    rw [hc] at hT hN
    obtain ⟨⟨u1, u2, u3, u4, u5⟩, s0, s1, s2, -⟩ := hN
    have hp : ∀ c, c < 6 → pl (cG u) (sg (cK u) c) < 6 := fun c hc => pl_lt u2 (sg_lt u1 hc)
    have h6 := (cirO_lt hp 6 (Nat.le_refl _)).2
    show A_X5_swaps 35 _ w (some (.int (nI (6 - (cirO (fun c => pl (cG u) (sg (cK u) c)) 6).1))), w)
    rw [← pk_sub h6]
    exact ai_X5_swaps (b_X5_swaps_0 hT (fun _ => b_X5_swaps_10 (am_circles h.1.1 s0 s1 u1 u2)) (fun e => absurd e b1))
end PU
