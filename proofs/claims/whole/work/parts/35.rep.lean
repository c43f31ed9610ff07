-- ===== what the object holds =====
abbrev CU : Type := Nat × Nat × Nat × Nat × Nat × List (Nat × Nat × Nat)
abbrev Sg : Type := List Nat × Nat × Nat × Option CU × Option CU
abbrev cK (u : CU) : Nat := u.1
abbrev cG (u : CU) : Nat := u.2.1
abbrev cN (u : CU) : Nat := u.2.2.1
abbrev cP (u : CU) : Nat := u.2.2.2.1
abbrev cC (u : CU) : Nat := u.2.2.2.2.1
abbrev cS (u : CU) : List (Nat × Nat × Nat) := u.2.2.2.2.2
abbrev gP (s : Sg) : List Nat := s.1
abbrev gT (s : Sg) : Nat := s.2.1
abbrev gH (s : Sg) : Nat := s.2.2.1
abbrev gC (s : Sg) : Option CU := s.2.2.2.1
abbrev gI (s : Sg) : Option CU := s.2.2.2.2
def srt (sn : List (Nat × Nat × Nat)) (t : Nat) : Nat := sn.foldl (fun a e => if e.1 = t then a &&& mkN e.2.1 e.2.2 else a) 31
theorem srt_snoc (sn : List (Nat × Nat × Nat)) (e : Nat × Nat × Nat) (t : Nat) : srt (sn ++ [e]) t = if e.1 = t then srt sn t &&& mkN e.2.1 e.2.2 else srt sn t := by
  unfold srt
  rw [List.foldl_append]
  rfl
theorem srt_lt (sn : List (Nat × Nat × Nat)) (t : Nat) : srt sn t < 32 := by
  have : ∀ (l : List (Nat × Nat × Nat)) (a : Nat), a < 32 → l.foldl (fun a e => if e.1 = t then a &&& mkN e.2.1 e.2.2 else a) a < 32 := by
    intro l
    induction l with
    | nil => intro a h; exact h
    | cons e l ih =>
      intro a h
      refine ih _ ?_
      show (if _ then _ else _) < 32
      split
      · exact Nat.lt_of_le_of_lt Nat.and_le_left h
      · exact h
  exact this sn 31 (by decide)
def SnOK (sn : List (Nat × Nat × Nat)) : Prop := sn.length ≤ 6 ∧ ∀ e ∈ sn, e.1 < 5 ∧ e.2.1 < 2 ∧ e.2.2 < 4
def CuOK (u : CU) : Prop := cK u < 720 ∧ cG u < 720 ∧ KV (cN u) ∧ cP u ≤ 999 ∧ SnOK (cS u)
def StR (b : Nat) (w : Wd) (u : CU) : Prop := wI w b 0 = nI (cK u) ∧ wI w b 1 = nI (cG u) ∧ wI w b 2 = nI (cN u) ∧ wI w b 3 = nI (cP u) ∧ wI w b 4 = nI (cC u) ∧ wI w b 5 = nI (cS u).length ∧ ∀ t, t < 5 → wA w (b + 1) t = nI (srt (cS u) t)
def NowR (w : Wd) (o : Option CU) : Prop := match o with
  | none => wI w 15 0 = -1 ∧ wI w 15 1 = -1 ∧ wI w 15 3 = 0 ∧ wI w 15 4 = 0 ∧ wI w 15 5 = 0
  | some u => CuOK u ∧ StR 15 w u
def KepR (w : Wd) (o : Option CU) : Prop := match o with
  | none => wI w 19 11 = 0
  | some u => wI w 19 11 = 1 ∧ CuOK u ∧ StR 17 w u
def RepC (w : Wd) (s : Sg) : Prop := (Tab w ∧ SpOKh w ∧ SpOKg w ∧ ChOK w) ∧ PgR w (gP s) ∧ wI w 19 9 = nI (gT s) ∧ wI w 19 10 = nI (gH s) ∧ NowR w (gC s) ∧ KepR w (gI s)
theorem StR.fr {b : Nat} {T : List Nat} {w w' : Wd} {u : CU} (h : StR b w u) (f : Fr T w w') (n1 : b ∉ T) (n2 : b + 1 ∉ T) : StR b w' u := by
  obtain ⟨a0, a1, a2, a3, a4, a5, a6⟩ := h
  exact ⟨(f.1 b 0 n1).trans a0, (f.1 b 1 n1).trans a1, (f.1 b 2 n1).trans a2, (f.1 b 3 n1).trans a3, (f.1 b 4 n1).trans a4, (f.1 b 5 n1).trans a5, fun t ht => (congrFun (f.2.2.2 (b + 1) n2) t).trans (a6 t ht)⟩
theorem NowR.fr {T : List Nat} {w w' : Wd} {o : Option CU} (h : NowR w o) (f : Fr T w w') (n1 : 15 ∉ T) (n2 : 16 ∉ T) : NowR w' o := by
  cases o with
  | none =>
    obtain ⟨a0, a1, a3, a4, a5⟩ := h
    exact ⟨(f.1 15 0 n1).trans a0, (f.1 15 1 n1).trans a1, (f.1 15 3 n1).trans a3, (f.1 15 4 n1).trans a4, (f.1 15 5 n1).trans a5⟩
  | some u => exact ⟨h.1, h.2.fr f n1 n2⟩
theorem KepR.fr {T : List Nat} {w w' : Wd} {o : Option CU} (h : KepR w o) (f : Fr T w w') (n0 : 19 ∉ T) (n1 : 17 ∉ T) (n2 : 18 ∉ T) : KepR w' o := by
  cases o with
  | none => exact (f.1 19 11 n0).trans h
  | some u => exact ⟨(f.1 19 11 n0).trans h.1, h.2.1, h.2.2.fr f n1 n2⟩
abbrev CL : List Nat := [0, 1, 2, 3, 4, 5, 6, 7, 8, 9, 10, 11, 12, 13, 14, 15, 16, 17, 18, 19, 20, 21]
abbrev ML : List Nat := [22, 23, 24, 25, 26, 27, 28, 29, 30, 31, 32, 33, 34]
theorem RepC.keep {T : List Nat} {w w' : Wd} {s : Sg} (h : RepC w s) (f : Fr T w w') (hn : ∀ i, i ∈ T → i ∉ [1, 2, 3, 4, 15, 16, 17, 18, 19, 20]) (hs : SpOKh w') (hg : SpOKg w') (hc : ChOK w') : RepC w' s := by
  obtain ⟨⟨h1, -, -, -⟩, h2, h3, h4, h5, h6⟩ := h
  have q : ∀ i, i ∈ [1, 2, 3, 4, 15, 16, 17, 18, 19, 20] → i ∉ T := fun i hi ht => hn i ht hi
  exact ⟨⟨h1.fr f (q 1 (by decide)) (q 2 (by decide)) (q 3 (by decide)) (q 4 (by decide)), hs, hg, hc⟩, h2.fr f (q 19 (by decide)) (q 20 (by decide)), (f.1 19 9 (q 19 (by decide))).trans h3, (f.1 19 10 (q 19 (by decide))).trans h4, h5.fr f (q 15 (by decide)) (q 16 (by decide)), h6.fr f (q 19 (by decide)) (q 17 (by decide)) (q 18 (by decide))⟩
theorem RepC.frM {T : List Nat} {w w' : Wd} {s : Sg} (h : RepC w s) (f : Fr T w w') (hn : ∀ i, i ∈ T → i ∉ CL) : RepC w' s := by
  have q : ∀ i, i ∈ CL → i ∉ T := fun i hi ht => hn i ht hi
  refine h.keep f (fun i hi => ?_) (h.1.2.1.fr f (q 6 (by decide)) (q 7 (by decide)) (q 8 (by decide))) (h.1.2.2.1.fr f (q 9 (by decide)) (q 10 (by decide)) (q 11 (by decide))) (h.1.2.2.2.fr f (q 12 (by decide)) (q 13 (by decide)) (q 14 (by decide)))
  intro hm
  have h2 : ∀ i, i ∈ [1, 2, 3, 4, 15, 16, 17, 18, 19, 20] → i ∈ CL := by decide
  exact hn i hi (h2 i hm)
/-- cells that hold no more than passing things -/
theorem RepC.row {w w' : Wd} {s : Sg} (h : RepC w s) (f : Fr [5, 21] w w') : RepC w' s :=
  h.keep f (by decide) (h.1.2.1.fr f (by decide) (by decide) (by decide)) (h.1.2.2.1.fr f (by decide) (by decide) (by decide)) (h.1.2.2.2.fr f (by decide) (by decide) (by decide))
theorem RepC.sph {w w' : Wd} {s : Sg} {kn k : Nat} {c fd : Nat → Nat} {n mo : Nat} (h : RepC w s) (f : Fr [6, 7, 8] w w') (hk : k < 720) (hkn : kn < 2 ^ 31) (h5 : wI w' 6 5 = nI k) (h6 : wI w' 6 6 = nI kn) (hF : Fullh w' kn k c fd n mo) : RepC w' s :=
  h.keep f (by decide) (Or.inr ⟨k, kn, c, fd, n, mo, hk, hkn, h5, h6, hF⟩) (h.1.2.2.1.fr f (by decide) (by decide) (by decide)) (h.1.2.2.2.fr f (by decide) (by decide) (by decide))
theorem RepC.spg {w w' : Wd} {s : Sg} {kn k : Nat} {c fd : Nat → Nat} {n mo : Nat} (h : RepC w s) (f : Fr [9, 10, 11] w w') (hk : k < 720) (hkn : kn < 2 ^ 31) (h5 : wI w' 9 5 = nI k) (h6 : wI w' 9 6 = nI kn) (hF : Fullg w' kn k c fd n mo) : RepC w' s :=
  h.keep f (by decide) (h.1.2.1.fr f (by decide) (by decide) (by decide)) (Or.inr ⟨k, kn, c, fd, n, mo, hk, hkn, h5, h6, hF⟩) (h.1.2.2.2.fr f (by decide) (by decide) (by decide))
theorem Full_fr1 {w w' : Wd} {T : List Nat} {kn k : Nat} {c fd : Nat → Nat} {n mo : Nat} (h : Fullg w kn k c fd n mo) (f : Fr T w w') (n6 : 9 ∉ T) (n7 : 10 ∉ T) (n8 : 11 ∉ T) : Fullg w' kn k c fd n mo := by
  obtain ⟨⟨b1, b2, b3, b4, b5⟩, a6⟩ := h
  exact ⟨⟨(f.1 9 3 n6).trans b1, (f.1 9 4 n6).trans b2, fun q hq => (congrFun (f.2.2.2 10 n7) q).trans (b3 q hq), fun i hi => (congrFun (f.2.2.2 11 n8) i).trans (b4 i hi), b5⟩, a6⟩
-- ===== a number in range =====
def ix (n : Nat) (x : Int32) : Option Nat := if x < 0 ∨ nI n ≤ x then none else some x.toNatClampNeg
theorem ix_n {n j : Nat} (h : j < n) (hn : n < 2 ^ 31) : ix n (nI j) = some j := by
  unfold ix
  rw [if_neg (fun q => q.elim (nI_pos (by omega)) (nI_ge h hn)), nI_clamp (by omega)]
theorem ix_cases (x : Int32) {n : Nat} (hn : n < 2 ^ 31) : (ix n x = none ∧ (x < 0 ∨ nI n ≤ x)) ∨ ∃ j, j < n ∧ x = nI j ∧ ix n x = some j := by
  rcases pk_ix x hn with h | h | ⟨j, h1, rfl⟩
  · exact Or.inl ⟨by unfold ix; rw [if_pos (Or.inl h)], Or.inl h⟩
  · exact Or.inl ⟨by unfold ix; rw [if_pos (Or.inr h)], Or.inr h⟩
  · exact Or.inr ⟨j, h1, rfl, ix_n h1 hn⟩
theorem nI_leOf {x : Int32} {n : Nat} (h : nI (n + 1) ≤ x) (hn : n + 1 < 2 ^ 31) : ¬ x ≤ nI n := fun q => nI_ge (Nat.lt_succ_self n) hn (Int32.le_trans h q)
theorem wi0 {x : Int32} {n : Nat} (h : x < 0 ∨ nI (n + 1) ≤ x) (hn : n + 1 < 2 ^ 31) : bz (decide (0 ≤ x ∧ x ≤ nI n)) = 0 := by
  have : ¬ (0 ≤ x ∧ x ≤ nI n) := fun q => h.elim (fun h1 => Int32.not_lt.mpr q.1 h1) (fun h1 => nI_leOf h1 hn q.2)
  simp [bz, this]
theorem wi1 {j n : Nat} (h : j < n + 1) (hn : n + 1 < 2 ^ 31) : bz (decide ((0 : Int32) ≤ nI j ∧ nI j ≤ nI n)) = 1 := by
  have h1 : (0 : Int32) ≤ nI j := nI_pos' (by omega)
  have h2 : nI j ≤ nI n := nI_le (by omega) (by omega)
  simp [bz, h1, h2]
def isS {α : Type} (o : Option α) : Bool := match o with
  | none => false
  | some _ => true
section RE
variable {w : Wd}
theorem am_hasTray {o : Option CU} (h : NowR w o) : A_X5_hasTray 35 [.ref 19] w (some (.int (bz (isS o))), w) := by
  cases o with
  | none =>
    refine ai_X5_hasTray (b_X5_hasTray_0 (fun _ => b_X5_hasTray_15 (b_X5_hasTray_16 (Or.inl rfl))) (fun q => absurd h.1 q))
  | some u =>
    refine ai_X5_hasTray (b_X5_hasTray_0 (fun q => absurd (h.2.1.symm.trans q) (nI_m1 (by have := h.1.1; omega))) (fun _ => b_X5_hasTray_11 (b_X5_hasTray_16 (Or.inr rfl))))
theorem am_isTile {o : Option CU} (h : NowR w o) (x : Int32) : A_X5_isTile 35 [.ref 19, .int x] w (some (.int (bz (isS o && isS (ix 5 x)))), w) := by
  cases o with
  | none => exact ai_X5_isTile (b_X5_isTile_0 (am_hasTray h) (fun _ => b_X5_isTile_20 (b_X5_isTile_21 (Or.inl rfl))) (fun q => absurd rfl q))
  | some u =>
    refine ai_X5_isTile (b_X5_isTile_0 (am_hasTray h) (fun q => absurd q (by decide : ¬ bz true = 0)) (fun _ => b_X5_isTile_7 (am_isWithin _ _ _) (fun q => ?_) (fun q => ?_)))
    · rcases ix_cases x (n := 5) (by decide) with ⟨e, h1⟩ | ⟨j, h1, rfl, e⟩
      · rw [e]; exact b_X5_isTile_20 (b_X5_isTile_21 (Or.inl rfl))
      · exact absurd ((wi1 (n := 4) h1 (by decide)).symm.trans q) (by decide)
    · rcases ix_cases x (n := 5) (by decide) with ⟨e, h1⟩ | ⟨j, h1, rfl, e⟩
      · exact absurd (wi0 (n := 4) h1 (by decide)) q
      · rw [e]; exact b_X5_isTile_16 (b_X5_isTile_21 (Or.inr rfl))
theorem am_isCell {o : Option CU} (h : NowR w o) (x : Int32) : A_X5_isCell 35 [.ref 19, .int x] w (some (.int (bz (isS o && isS (ix 6 x)))), w) := by
  cases o with
  | none => exact ai_X5_isCell (b_X5_isCell_0 (am_hasTray h) (fun _ => b_X5_isCell_20 (b_X5_isCell_21 (Or.inl rfl))) (fun q => absurd rfl q))
  | some u =>
    refine ai_X5_isCell (b_X5_isCell_0 (am_hasTray h) (fun q => absurd q (by decide : ¬ bz true = 0)) (fun _ => b_X5_isCell_7 (am_isWithin _ _ _) (fun q => ?_) (fun q => ?_)))
    · rcases ix_cases x (n := 6) (by decide) with ⟨e, h1⟩ | ⟨j, h1, rfl, e⟩
      · rw [e]; exact b_X5_isCell_20 (b_X5_isCell_21 (Or.inl rfl))
      · exact absurd ((wi1 (n := 5) h1 (by decide)).symm.trans q) (by decide)
    · rcases ix_cases x (n := 6) (by decide) with ⟨e, h1⟩ | ⟨j, h1, rfl, e⟩
      · exact absurd (wi0 (n := 5) h1 (by decide)) q
      · rw [e]; exact b_X5_isCell_16 (b_X5_isCell_21 (Or.inr rfl))
theorem am_isKind (x : Int32) : A_X5_isKind 35 [.int x] w (some (.int (bz (isS (ix 5 x)))), w) := by
  have e : bz (isS (ix 5 x)) = bz (decide ((0 : Int32) ≤ x ∧ x ≤ 5 - 1)) := by
    rcases ix_cases x (n := 5) (by decide) with ⟨e, h1⟩ | ⟨j, h1, rfl, e⟩
    · rw [e]; exact (wi0 (n := 4) h1 (by decide)).symm
    · rw [e]; exact (wi1 (n := 4) h1 (by decide)).symm
  rw [e]
  exact ai_X5_isKind (b_X5_isKind_0 (am_isWithin _ _ _) (bz_or _))
def isaN (j i : Nat) : Bool := i == 0 || i == j || (i == 1 && j == 4)
theorem isa_bits : ∀ j, j < 5 → ∀ i, i < 5 → ((kBits j) >>> ((nI i) &&& 31)) &&& 1 = bz (isaN j i) := by decide +kernel
theorem am_isA {j i : Nat} (hj : j < 5) (hi : i < 5) : A_X1_isA 35 [.ref (2000 + j), .int (nI i)] w (some (.int (bz (isaN j i))), w) := by
  refine ai_X1_isA (b_X1_isA_0 hj (fun h => ?_) (fun h => ?_))
  · rw [isa_bits j hj i hi] at h
    have : isaN j i = false := by
      cases e : isaN j i with
      | false => rfl
      | true => rw [e] at h; exact absurd rfl h
    rw [this]
    exact b_X1_isA_16 hj (b_X1_isA_17 hj (Or.inl rfl))
  · rw [isa_bits j hj i hi] at h
    have : isaN j i = true := by
      cases e : isaN j i with
      | false => rw [e] at h; exact absurd h (by decide)
      | true => rfl
    rw [this]
    exact b_X1_isA_12 hj (b_X1_isA_17 hj (Or.inr rfl))
def nxS (s : Nat) : Nat := (1103515245 * s + 12345) % 2147483648
theorem nxS_lt (s : Nat) : nxS s < 2147483648 := Nat.mod_lt _ (by decide)
theorem am_nextSeed {s : Nat} (h : s < 2147483648) : A_X5_nextSeed 35 [.int (nI s)] w (some (.int (nI (nxS s))), w) := by
  have e : (((1103515245 * (nI s).toInt64) + 12345) - ((1103515245 * (nI s).toInt64) + 12345) / 2147483648 * 2147483648).toInt32 = nI (nxS s) := by
    have h1 : (1103515245 : Int64) * (nI s).toInt64 + 12345 = lN (1103515245 * s + 12345) := by
      rw [nI_l (by omega), show (1103515245 : Int64) = lN 1103515245 from rfl, lN_mul, show (12345 : Int64) = lN 12345 from rfl, lN_add]
    rw [h1, show (2147483648 : Int64) = lN 2147483648 from rfl, pk_lRem (by omega) (by omega) (by omega), lN_i]
    rfl
  have := ai_X5_nextSeed (w := w) (b_X5_nextSeed_0 (x0 := nI s))
  rw [e] at this
  exact this
theorem am_sortsOf {u : CU} (h : StR 15 w u) {t : Nat} (ht : t < 5) : A_X4n_sortsOf 35 [.ref 15, .int (nI t)] w (some (.int (nI (srt (cS u) t))), w) := by
  refine ai_X4n_sortsOf (b_X4n_sortsOf_0 (am_isWithin _ _ _) (fun q => absurd ((wi1 (n := 4) ht (by decide)).symm.trans q) (by decide)) (fun _ => b_X4n_sortsOf_9 (vp_in_nI ht (by omega)) ?_))
  rw [nI_clamp (by omega), h.2.2.2.2.2.2 t ht]
  exact b_X4n_sortsOf_19
theorem am_narrow {t m : Nat} (ht : t < 5) : A_X4n_narrow 35 [.ref 15, .int (nI t), .int (nI m)] w (none, sI (sA w 16 (upd (wA w 16) t (wA w 16 t &&& nI m))) 15 5 (wI w 15 5 + 1)) := by
  refine ai_X4n_narrow (b_X4n_narrow_0 (am_isWithin _ _ _) (fun q => absurd ((wi1 (n := 4) ht (by decide)).symm.trans q) (by decide)) (fun _ => b_X4n_narrow_9 (vp_in_nI ht (by omega)) (vp_in_nI ht (by omega)) ?_))
  rw [nI_clamp (by omega)]
  exact b_X4n_narrow_29
end RE
