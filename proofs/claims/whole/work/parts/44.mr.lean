-- ===== what the reference holds =====
def MoR (w : Wd) (u : CU) : Prop := wI w 22 1 = nI (tr (cK u)) ∧ wI w 22 2 = nI (tr (cG u)) ∧ KM w (cN u) ∧ wI w 22 4 = nI (cP u) ∧ wI w 22 5 = nI (cC u) ∧ wI w 22 7 = nI (cS u).length ∧ SnR 24 25 26 w (cS u)
def NowM (w : Wd) (n : Nat) (o : Option CU) : Prop := match o with
  | none => n = 0 ∧ wI w 22 4 = 0 ∧ wI w 22 5 = 0 ∧ wI w 22 7 = 0
  | some u => n ≠ 0 ∧ CuOK u ∧ MoR w u
def KepM (w : Wd) (n : Nat) (o : Option CU) : Prop := match o with
  | none => wI w 22 18 = 0 ∨ ∃ j, j < n ∧ wI w 22 19 = nI j
  | some u => wI w 22 18 = 1 ∧ wI w 22 19 = nI n ∧ CuOK u ∧ wI w 22 20 = nI (tr (cK u)) ∧ wI w 22 21 = nI (tr (cG u)) ∧ (∀ t, t < 5 → wA w 31 t = nI (kd (cN u) t)) ∧ wI w 22 22 = nI (cP u) ∧ wI w 22 23 = nI (cC u) ∧ wI w 22 24 = nI (cS u).length ∧ SnR 32 33 34 w (cS u)
def PgM (w : Wd) (pg : List Nat) : Prop := pg.length ≤ 22 ∧ wI w 22 11 = nI pg.length ∧ (∀ i, i < pg.length → wA w 27 i = nI (atC pg i)) ∧ ∀ i, i < pg.length → 32 ≤ atC pg i ∧ atC pg i ≤ 126
def RepM (w : Wd) (s : Sg) : Prop := wI w 22 0 = nI (gT s) ∧ wI w 22 6 = nI (gH s) ∧ gH s ≤ 20 ∧ PgM w (gP s) ∧ NowM w (gT s) (gC s) ∧ KepM w (gT s) (gI s)
abbrev SL : List Nat := [23, 24, 25, 26, 27, 31, 32, 33, 34]
theorem SnR.eq {a b c : Nat} {w w' : Wd} {sn : List (Nat × Nat × Nat)} (h : SnR a b c w sn) (ea : wA w' a = wA w a) (eb : wA w' b = wA w b) (ec : wA w' c = wA w c) : SnR a b c w' sn := fun i e he => ⟨(congrFun ea i).trans (h i e he).1, (congrFun eb i).trans (h i e he).2.1, (congrFun ec i).trans (h i e he).2.2⟩
theorem MoR.eq {w w' : Wd} {u : CU} (h : MoR w u) (hi : ∀ f, wI w' 22 f = wI w 22 f) (ha : ∀ a, a ∈ [23, 24, 25, 26] → wA w' a = wA w a) : MoR w' u := by
  obtain ⟨a1, a2, a3, a4, a5, a6, a7⟩ := h
  exact ⟨(hi 1).trans a1, (hi 2).trans a2, fun t ht => (congrFun (ha 23 (by decide)) t).trans (a3 t ht), (hi 4).trans a4, (hi 5).trans a5, (hi 7).trans a6, a7.eq (ha 24 (by decide)) (ha 25 (by decide)) (ha 26 (by decide))⟩
theorem NowM.eq {w w' : Wd} {n : Nat} {o : Option CU} (h : NowM w n o) (hi : ∀ f, wI w' 22 f = wI w 22 f) (ha : ∀ a, a ∈ [23, 24, 25, 26] → wA w' a = wA w a) : NowM w' n o := by
  cases o with
  | none => exact ⟨h.1, (hi 4).trans h.2.1, (hi 5).trans h.2.2.1, (hi 7).trans h.2.2.2⟩
  | some u => exact ⟨h.1, h.2.1, h.2.2.eq hi ha⟩
theorem KepM.eq {w w' : Wd} {n : Nat} {o : Option CU} (h : KepM w n o) (hi : ∀ f, f ∈ [18, 19, 20, 21, 22, 23, 24] → wI w' 22 f = wI w 22 f) (ha : ∀ a, a ∈ [31, 32, 33, 34] → wA w' a = wA w a) : KepM w' n o := by
  cases o with
  | none =>
    rcases h with h | ⟨j, h1, h2⟩
    · exact Or.inl ((hi 18 (by decide)).trans h)
    · exact Or.inr ⟨j, h1, (hi 19 (by decide)).trans h2⟩
  | some u =>
    obtain ⟨a1, a2, a3, a4, a5, a6, a7, a8, a9, a10⟩ := h
    exact ⟨(hi 18 (by decide)).trans a1, (hi 19 (by decide)).trans a2, a3, (hi 20 (by decide)).trans a4, (hi 21 (by decide)).trans a5, fun t ht => (congrFun (ha 31 (by decide)) t).trans (a6 t ht), (hi 22 (by decide)).trans a7, (hi 23 (by decide)).trans a8, (hi 24 (by decide)).trans a9, a10.eq (ha 32 (by decide)) (ha 33 (by decide)) (ha 34 (by decide))⟩
theorem PgM.eq {w w' : Wd} {pg : List Nat} (h : PgM w pg) (hi : wI w' 22 11 = wI w 22 11) (ha : wA w' 27 = wA w 27) : PgM w' pg := ⟨h.1, hi.trans h.2.1, fun i hl => (congrFun ha i).trans (h.2.2.1 i hl), h.2.2.2⟩
theorem RepM.eq {w w' : Wd} {s : Sg} (h : RepM w s) (hi : ∀ f, wI w' 22 f = wI w 22 f) (ha : ∀ a, a ∈ SL → wA w' a = wA w a) : RepM w' s := by
  obtain ⟨a1, a2, a3, a4, a5, a6⟩ := h
  exact ⟨(hi 0).trans a1, (hi 6).trans a2, a3, a4.eq (hi 11) (ha 27 (by decide)), a5.eq hi (fun a h => ha a (by revert a; decide)), a6.eq (fun f _ => hi f) (fun a h => ha a (by revert a; decide))⟩
theorem RepM.fr {T : List Nat} {w w' : Wd} {s : Sg} (h : RepM w s) (f : Fr T w w') (hn : ∀ i, i ∈ T → i ∉ 22 :: SL) : RepM w' s := by
  have q : ∀ i, i ∈ 22 :: SL → i ∉ T := fun i hi ht => hn i ht hi
  exact h.eq (fun g => f.1 22 g (q 22 (by decide))) (fun a ha => f.2.2.2 a (q a (List.mem_cons_of_mem _ ha)))
theorem RepM.J {w : Wd} {s : Sg} (h : RepM w s) {f : Nat} {v : Int64} : RepM (sJ w 22 f v) s := h.eq (fun _ => rfl) (fun _ _ => rfl)
-- ===== its page =====
def sgF (P : Nat → Bool) : Nat → Nat → Nat
  | 0, i => i
  | f + 1, i => if P i = true then sgF P f (i + 1) else i
theorem fwF_sg (pg : List Nat) : ∀ f i, fwF pg f i = sgF (fitA pg) f i
  | 0, _ => rfl
  | f + 1, i => by unfold fwF sgF; rw [fwF_sg pg f]
theorem sgF_congr {P Q : Nat → Bool} : ∀ {f i : Nat}, (∀ p, i ≤ p → p < i + f → P p = Q p) → sgF P f i = sgF Q f i
  | 0, _, _ => rfl
  | f + 1, i, h => by unfold sgF; rw [h i (Nat.le_refl _) (by omega), sgF_congr (f := f) (i := i + 1) (fun p h1 h2 => h p (by omega) (by omega))]
theorem sgF_le (P : Nat → Bool) : ∀ f i, i ≤ sgF P f i ∧ sgF P f i ≤ i + f
  | 0, i => ⟨Nat.le_refl _, Nat.le_refl _⟩
  | f + 1, i => by
    have := sgF_le P f (i + 1)
    unfold sgF
    split <;> omega
theorem sgF_cut (P : Nat → Bool) (r : Nat) : ∀ f i, sgF P (f + r) i = if sgF P f i = i + f then sgF P r (i + f) else sgF P f i
  | 0, i => by rw [Nat.zero_add]; simp [sgF]
  | f + 1, i => by
    rw [show f + 1 + r = (f + r) + 1 by omega]
    have hl := sgF_le P f (i + 1)
    show (if P i = true then sgF P (f + r) (i + 1) else i) = if (if P i = true then sgF P f (i + 1) else i) = i + (f + 1) then _ else (if P i = true then sgF P f (i + 1) else i)
    by_cases h : P i = true
    · rw [if_pos h, if_pos h, sgF_cut P r f (i + 1), show i + 1 + f = i + (f + 1) by omega]
    · rw [if_neg h, if_neg h, if_neg (by omega)]
def usN (pg : List Nat) (a : Nat) : Nat → Nat
  | 0 => 0
  | d + 1 => usN pg a d ||| 2 ^ sLn (atC pg (a + d))
theorem usN_bit (pg : List Nat) {a c : Nat} (h6 : sLn c ≠ 6) : ∀ d, (usN pg a d).testBit (sLn c) = oldG pg c a d
  | 0 => by simp [usN, oldG]
  | d + 1 => by
    unfold usN oldG
    rw [Nat.testBit_or, usN_bit pg h6 d, Nat.testBit_two_pow]
    congr 1
    by_cases e : sLn (atC pg (a + d)) = sLn c
    · have := sLn_inj e.symm h6
      simp [← this]
    · have : ¬ atC pg (a + d) = c := fun q => e (by rw [q])
      simp [e, this]
theorem usN_lt (pg : List Nat) (a : Nat) : ∀ d, usN pg a d < 2 ^ 7
  | 0 => by simp [usN]
  | d + 1 => Nat.or_lt_two_pow (usN_lt pg a d) (Nat.pow_lt_pow_right (by omega) (by have := sLn_le (atC pg (a + d)); omega))
def caL (l : List Nat) : Nat → Nat
  | 0 => 0
  | n + 1 => caL l n ||| (l.getD n 5 * 8 ^ n)
set_option maxRecDepth 100000 in
theorem ck9_p0 : allN (fun i => (fun k => Nat.beq (caL (sgl k) 6) (trl (sgl k)) && Nat.blt (caL (sgl k) 0) 1) (i + 0)) 90 = true := by decide +kernel
set_option maxRecDepth 100000 in
theorem ck9_p1 : allN (fun i => (fun k => Nat.beq (caL (sgl k) 6) (trl (sgl k)) && Nat.blt (caL (sgl k) 0) 1) (i + 90)) 90 = true := by decide +kernel
set_option maxRecDepth 100000 in
theorem ck9_p2 : allN (fun i => (fun k => Nat.beq (caL (sgl k) 6) (trl (sgl k)) && Nat.blt (caL (sgl k) 0) 1) (i + 180)) 90 = true := by decide +kernel
set_option maxRecDepth 100000 in
theorem ck9_p3 : allN (fun i => (fun k => Nat.beq (caL (sgl k) 6) (trl (sgl k)) && Nat.blt (caL (sgl k) 0) 1) (i + 270)) 90 = true := by decide +kernel
set_option maxRecDepth 100000 in
theorem ck9_p4 : allN (fun i => (fun k => Nat.beq (caL (sgl k) 6) (trl (sgl k)) && Nat.blt (caL (sgl k) 0) 1) (i + 360)) 90 = true := by decide +kernel
set_option maxRecDepth 100000 in
theorem ck9_p5 : allN (fun i => (fun k => Nat.beq (caL (sgl k) 6) (trl (sgl k)) && Nat.blt (caL (sgl k) 0) 1) (i + 450)) 90 = true := by decide +kernel
set_option maxRecDepth 100000 in
theorem ck9_p6 : allN (fun i => (fun k => Nat.beq (caL (sgl k) 6) (trl (sgl k)) && Nat.blt (caL (sgl k) 0) 1) (i + 540)) 90 = true := by decide +kernel
set_option maxRecDepth 100000 in
theorem ck9_p7 : allN (fun i => (fun k => Nat.beq (caL (sgl k) 6) (trl (sgl k)) && Nat.blt (caL (sgl k) 0) 1) (i + 630)) 90 = true := by decide +kernel
theorem ck9_all : allN (fun k => Nat.beq (caL (sgl k) 6) (trl (sgl k)) && Nat.blt (caL (sgl k) 0) 1) 720 = true := (allN_add (p := (fun k => Nat.beq (caL (sgl k) 6) (trl (sgl k)) && Nat.blt (caL (sgl k) 0) 1)) (a := 630) (allN_add (p := (fun k => Nat.beq (caL (sgl k) 6) (trl (sgl k)) && Nat.blt (caL (sgl k) 0) 1)) (a := 540) (allN_add (p := (fun k => Nat.beq (caL (sgl k) 6) (trl (sgl k)) && Nat.blt (caL (sgl k) 0) 1)) (a := 450) (allN_add (p := (fun k => Nat.beq (caL (sgl k) 6) (trl (sgl k)) && Nat.blt (caL (sgl k) 0) 1)) (a := 360) (allN_add (p := (fun k => Nat.beq (caL (sgl k) 6) (trl (sgl k)) && Nat.blt (caL (sgl k) 0) 1)) (a := 270) (allN_add (p := (fun k => Nat.beq (caL (sgl k) 6) (trl (sgl k)) && Nat.blt (caL (sgl k) 0) 1)) (a := 180) (allN_add (p := (fun k => Nat.beq (caL (sgl k) 6) (trl (sgl k)) && Nat.blt (caL (sgl k) 0) 1)) (a := 90) ck9_p0 90 ck9_p1) 90 ck9_p2) 90 ck9_p3) 90 ck9_p4) 90 ck9_p5) 90 ck9_p6) 90 ck9_p7)
section MG
variable {w : Wd}
theorem am_kindBy {c : Nat} (hc : c < 1000) : A_X6_kindBy 35 [.int (nI c)] w (some (.int (sgnN (kLn c))), w) := by
  by_cases hr : 104 ≤ c ∧ c ≤ 116
  · rcases (show c = 104 ∨ c = 105 ∨ c = 106 ∨ c = 107 ∨ c = 108 ∨ c = 109 ∨ c = 110 ∨ c = 111 ∨ c = 112 ∨ c = 113 ∨ c = 114 ∨ c = 115 ∨ c = 116 by omega) with rfl | rfl | rfl | rfl | rfl | rfl | rfl | rfl | rfl | rfl | rfl | rfl | rfl
    · exact ai_X6_kindBy (b_X6_kindBy_0_c104 rfl b_X6_kindBy_70)
    · exact ai_X6_kindBy (b_X6_kindBy_0_c105 rfl b_X6_kindBy_78)
    · exact ai_X6_kindBy (b_X6_kindBy_0_c106 rfl b_X6_kindBy_78)
    · exact ai_X6_kindBy (b_X6_kindBy_0_c107 rfl b_X6_kindBy_78)
    · exact ai_X6_kindBy (b_X6_kindBy_0_c108 rfl b_X6_kindBy_78)
    · exact ai_X6_kindBy (b_X6_kindBy_0_c109 rfl b_X6_kindBy_78)
    · exact ai_X6_kindBy (b_X6_kindBy_0_c110 rfl b_X6_kindBy_72)
    · exact ai_X6_kindBy (b_X6_kindBy_0_c111 rfl b_X6_kindBy_76)
    · exact ai_X6_kindBy (b_X6_kindBy_0_c112 rfl b_X6_kindBy_78)
    · exact ai_X6_kindBy (b_X6_kindBy_0_c113 rfl b_X6_kindBy_78)
    · exact ai_X6_kindBy (b_X6_kindBy_0_c114 rfl b_X6_kindBy_78)
    · exact ai_X6_kindBy (b_X6_kindBy_0_c115 rfl b_X6_kindBy_74)
    · exact ai_X6_kindBy (b_X6_kindBy_0_c116 rfl b_X6_kindBy_68)
  · have hk : kLn c = 5 := by
      unfold kLn
      rw [if_neg (by omega), if_neg (by omega), if_neg (by omega), if_neg (by omega), if_neg (by omega)]
    rw [hk]
    refine ai_X6_kindBy (b_X6_kindBy_0_d ?_ b_X6_kindBy_78)
    rw [nI_toInt (show c < 2 ^ 31 by omega)]
    omega
theorem atC_lt {pg : List Nat} (h : PgM w pg) (i : Nat) : atC pg i ≤ 126 := by
  by_cases hi : i < pg.length
  · exact (h.2.2.2 i hi).2
  · rw [atC_end (by omega)]; omega
theorem am_at {pg : List Nat} {i : Nat} (h : PgM w pg) (hi : i < 1000) : A_X6_at 35 [.ref 22, .int (nI i)] w (some (.int (nI (atC pg i))), w) := by
  have hl := h.1
  by_cases hlt : i < pg.length
  · refine ai_X6_at (b_X6_at_0 (fun e => absurd (nle (by rw [h.2.1] at e; exact e) (by omega) (by omega)) (by omega)) (fun _ => b_X6_at_8 (vp_in_nI (by omega) (by omega)) ?_))
    rw [nI_clamp (by omega), h.2.2.1 i hlt]
    exact b_X6_at_18
  · rw [atC_end (by omega)]
    exact ai_X6_at (b_X6_at_0 (fun _ => b_X6_at_17 b_X6_at_18) (fun e => absurd (by rw [h.2.1]; exact nI_le (by omega) (by omega)) e))
theorem am_signAt {pg : List Nat} {i : Nat} (h : PgM w pg) (hi : i < 1000) : A_X6_signAt 35 [.ref 22, .int (nI i)] w (some (.int (s6 (sLn (atC pg i)))), w) := by
  have hc := atC_lt h i
  refine ai_X6_signAt (b_X6_signAt_0 (am_at h hi) (fun e => ?_) (fun e => ?_))
  · have h46 : ¬ atC pg i = 46 := fun q => e (by rw [q]; rfl)
    by_cases hr : 48 ≤ atC pg i ∧ atC pg i ≤ 52
    · have e1 : sLn (atC pg i) = atC pg i - 48 := by unfold sLn; rw [if_neg h46, if_pos hr]
      have e2 : nI (atC pg i) - 48 = nI (atC pg i - 48) := pk_sub (b := 48) hr.1
      have e3 : s6 (sLn (atC pg i)) = nI (atC pg i - 48) := by
        rw [e1]; unfold s6; rw [if_neg (by omega)]
      rw [e3]
      refine b_X6_signAt_16 (am_within _ _ _) (fun q => ?_) (fun _ => b_X6_signAt_28 ?_)
      · rw [e2] at q
        exact absurd ((wi1 (n := 4) (by omega) (by decide)).symm.trans q) (by decide)
      · rw [e2]
        exact b_X6_signAt_36
    · have e1 : sLn (atC pg i) = 6 := by unfold sLn; rw [if_neg h46, if_neg hr]
      rw [e1]
      refine b_X6_signAt_16 (am_within _ _ _) (fun _ => b_X6_signAt_35 b_X6_signAt_36) (fun q => absurd ?_ q)
      by_cases hlo : 48 ≤ atC pg i
      · have e2 : nI (atC pg i) - 48 = nI (atC pg i - 48) := pk_sub (b := 48) hlo
        rw [e2]
        exact wi0 (n := 4) (Or.inr (nI_le (by omega) (by omega))) (by decide)
      · exact wi0 (n := 4) (Or.inl (pk_sneg (b := 48) (by omega) (by omega))) (by decide)
  · have h46 : atC pg i = 46 := neq (b := 46) e (by omega) (by omega)
    have e1 : sLn (atC pg i) = 5 := by rw [h46]; rfl
    rw [e1]
    exact b_X6_signAt_12 b_X6_signAt_36
theorem am_readCells {pg : List Nat} {a : Nat} (h : PgM w pg) (ha : a < 100) : A_X6_readCells 35 [.ref 22, .int (nI a)] w (some (.int (nI (sgF (newA pg a) 6 a))), w) := by
  have e6 : nI a + 6 = nI (a + 6) := nI_add a 6
  have loop : ∀ f d, d + f = 6 → ∀ (l4 : Option Value), Z_X6_readCells 35 4 [some (.ref 22), some (.int (nI a)), some (.int (nI (usN pg a d))), some (.int (nI (a + d))), l4] [] w (some (.int (nI (sgF (newA pg a) f (a + d)))), w) := by
    intro f
    induction f with
    | zero =>
      intro d hd l4
      have hd : d = 6 := by omega
      subst hd
      exact b_X6_readCells_4 (fun _ => b_X6_readCells_49) (fun e => absurd (by rw [e6]; exact nI_le (Nat.le_refl _) (by omega)) e)
    | succ f ih =>
      intro d hd l4
      have hus := usN_lt pg a d
      have hsl := sLn_le (atC pg (a + d))
      have e : sgF (newA pg a) (f + 1) (a + d) = if newA pg a (a + d) = true then sgF (newA pg a) f (a + d + 1) else a + d := rfl
      have hnw : newA pg a (a + d) = (sLn (atC pg (a + d)) != 6 && !oldG pg (atC pg (a + d)) a d) := by
        unfold newA
        rw [show a + d - a = d by omega]
      refine b_X6_readCells_4 (fun q => absurd (nle (by rw [e6] at q; exact q) (by omega) (by omega)) (by omega)) (fun _ => b_X6_readCells_12 (am_signAt h (by omega)) (fun q => ?_) (fun q => ?_))
      · have hs := (s6_m1 hsl).mp q
        have : newA pg a (a + d) = false := by rw [hnw, hs]; rfl
        rw [e, this]
        exact b_X6_readCells_34
      · have hs : sLn (atC pg (a + d)) ≠ 6 := fun z => q ((s6_m1 hsl).mpr z)
        have es : s6 (sLn (atC pg (a + d))) = nI (sLn (atC pg (a + d))) := by unfold s6; rw [if_neg hs]
        have hi := am_isIn (w := w) (b := usN pg a d) (i := sLn (atC pg (a + d))) (by omega) (by omega)
        rw [usN_bit pg hs d] at hi
        have hne : (sLn (atC pg (a + d)) != 6) = true := by simpa using hs
        rw [es]
        refine b_X6_readCells_25 hi (fun z => b_X6_readCells_36 ?_) (fun z => ?_)
        · have : newA pg a (a + d) = true := by rw [hnw, hne, bz_0.mp z]; rfl
          rw [e, if_pos this, one_shl (by omega), n_or, nI_1]
          exact ih (d + 1) (by omega) _
        · have ho : oldG pg (atC pg (a + d)) a d = true := by
            cases g : oldG pg (atC pg (a + d)) a d with
            | true => rfl
            | false => exact absurd (bz_0.mpr g) z
          have : newA pg a (a + d) = false := by rw [hnw, hne, ho]; rfl
          rw [e, this]
          exact b_X6_readCells_34
  exact ai_X6_readCells (b_X6_readCells_0 (loop 6 0 rfl none))
theorem fit_lo {pg : List Nat} {p : Nat} (h : p < 6) : fitA pg p = newA pg 0 p := by unfold fitA; rw [if_neg (by omega), if_neg (by omega), if_pos h]
theorem fit_hi {pg : List Nat} {p : Nat} (h : 13 ≤ p) (h2 : p < 19) : fitA pg p = newA pg 13 p := by unfold fitA; rw [if_neg (by omega), if_pos h]
theorem fit_k {pg : List Nat} {p : Nat} (h : 7 ≤ p) (h2 : p < 12) : fitA pg p = (kLn (atC pg p) != 5) := by unfold fitA; rw [if_neg (by omega), if_neg (by omega), if_neg (by omega), if_neg (by omega)]
theorem fit_s {pg : List Nat} {p : Nat} (h : p = 6 ∨ p = 12) : fitA pg p = (atC pg p == 59) := by unfold fitA; rw [if_neg (by omega), if_neg (by omega), if_neg (by omega), if_pos h]
/-- what read leaves: whether all is a tray -/
def whB (pg : List Nat) : Bool := fwN pg == 19 && pg.length == 19
theorem am_mread {pg : List Nat} (h : PgM w pg) : ∃ v, A_X6_read 35 [.ref 22] w (some (.int (nI (fwN pg))), sI w 22 13 v) ∧ v = bz (whB pg) := by
  have hl := h.1
  have h0 : PgM (sI w 22 13 0) pg := h
  have hfw : fwN pg = sgF (fitA pg) 19 0 := fwF_sg pg 19 0
  have s1 : sgF (fitA pg) 6 0 = sgF (newA pg 0) 6 0 := sgF_congr (fun p _ h2 => fit_lo (by omega))
  have s3 : sgF (fitA pg) 6 13 = sgF (newA pg 13) 6 13 := sgF_congr (fun p h1 h2 => fit_hi h1 (by omega))
  have hcut := sgF_cut (fitA pg) 13 6 0
  rw [s1] at hcut
  have hle1 := sgF_le (newA pg 0) 6 0
  have hle3 := sgF_le (newA pg 13) 6 13
  have rc0 := am_readCells (w := sI w 22 13 0) (a := 0) h0 (by omega)
  have early : fwN pg ≠ 19 → (0 : Int32) = bz (whB pg) := fun hne => by
    have : (fwN pg == 19) = false := by simpa using hne
    unfold whB
    rw [this]; rfl
  by_cases hk : sgF (newA pg 0) 6 0 = 6
  · rw [if_pos (by omega)] at hcut
    have f6 : sgF (fitA pg) 13 6 = if fitA pg 6 = true then sgF (fitA pg) 12 7 else 6 := rfl
    have at6 := am_at (w := sI w 22 13 0) (i := 6) h0 (by omega)
    have c6 := atC_lt h 6
    have ent : ∀ {r}, (nI (atC pg 6) = 59 → Z_X6_read 35 30 [some (.ref 22), some (.int (nI 6))] [] (sI w 22 13 0) r) → (¬ nI (atC pg 6) = 59 → Z_X6_read 35 28 [some (.ref 22), some (.int (nI 6))] [] (sI w 22 13 0) r) → A_X6_read 35 [.ref 22] w r := fun z1 z2 => by
      rw [hk] at rc0
      exact ai_X6_read (b_X6_read_0 rc0 (fun e => absurd (nlt (b := 6) e (by omega) (by omega)) (by omega)) (fun _ => b_X6_read_17 at6 z1 z2))
    by_cases h59 : atC pg 6 = 59
    · have hf6 : fitA pg 6 = true := by rw [fit_s (Or.inl rfl), h59]; rfl
      rw [hf6, if_pos rfl] at f6
      have hfw2 : fwN pg = sgF (fitA pg) 12 7 := by rw [hfw]; exact hcut.trans f6
      -- the kinds
      have kinds : ∀ f p, p + f = 12 → 7 ≤ p → fwN pg = sgF (fitA pg) (f + 7) p → ∃ v, Z_X6_read 35 33 [some (.ref 22), some (.int (nI p))] [] (sI w 22 13 0) (some (.int (nI (fwN pg))), sI w 22 13 v) ∧ v = bz (whB pg) := by
        intro f
        induction f with
        | zero =>
          intro p hp h7 hfe
          have hp : p = 12 := by omega
          subst hp
          have at12 := am_at (w := sI w 22 13 0) (i := 12) h0 (by omega)
          have c12 := atC_lt h 12
          have f12 : sgF (fitA pg) 7 12 = if fitA pg 12 = true then sgF (fitA pg) 6 13 else 12 := rfl
          have hfe : fwN pg = sgF (fitA pg) 7 12 := hfe
          rw [f12] at hfe
          have en12 : ∀ {r}, Z_X6_read 35 59 [some (.ref 22), some (.int (nI 12))] [] (sI w 22 13 0) r → Z_X6_read 35 33 [some (.ref 22), some (.int (nI 12))] [] (sI w 22 13 0) r := fun z => b_X6_read_33 (fun _ => z) (fun e => absurd (show (12 : Int32) ≤ nI 12 from nI_le (a := 12) (by omega) (by omega)) e)
          by_cases h2 : atC pg 12 = 59
          · have hf12 : fitA pg 12 = true := by rw [fit_s (Or.inr rfl), h2]; rfl
            rw [hf12, if_pos rfl, s3] at hfe
            have rc13 := am_readCells (w := sI w 22 13 0) (a := 13) h0 (by omega)
            rw [← hfe] at rc13 hle3
            have fin : ∀ v, (v = 0 ∨ v = 1) → v = bz (whB pg) → Z_X6_read 35 101 [some (.ref 22), some (.int (nI (fwN pg)))] [.int v, .ref 22] (sI w 22 13 0) (some (.int (nI (fwN pg))), sI w 22 13 (bz (whB pg))) := by
              intro v hv he
              have hz := b_X6_read_101 (w := sI w 22 13 0) (x1 := nI (fwN pg)) hv
              have ew : sI (sI w 22 13 0) 22 13 v = sI w 22 13 (bz (whB pg)) := by
                rw [he]
                show (_, w.2) = (_, w.2)
                congr 1
                funext a b
                by_cases g : a = 22 ∧ b = 13 <;> simp [sI, g]
              rw [ew] at hz
              exact hz
            refine ⟨_, en12 (b_X6_read_59 at12 (fun _ => b_X6_read_73 rc13 (fun e => b_X6_read_100 (fin 0 (Or.inl rfl) ?_)) (fun e => b_X6_read_87 (fun e2 => b_X6_read_100 (fin 0 (Or.inl rfl) ?_)) (fun e2 => b_X6_read_96 (fin 1 (Or.inr rfl) ?_)))) (fun e => absurd (by rw [h2]; rfl) e)), rfl⟩
            · exact early (fun q => e (by rw [q]; rfl))
            · have : (pg.length == 19) = false := by
                simpa using fun q : pg.length = 19 => e2 ((show wI (sI w 22 13 0) 22 11 = nI pg.length from h.2.1).trans (by rw [q]; rfl))
              unfold whB
              rw [this, Bool.and_false]; rfl
            · have q1 : fwN pg = 19 := neq (b := 19) e (by omega) (by omega)
              have q2 : pg.length = 19 := neq (b := 19) ((show wI (sI w 22 13 0) 22 11 = nI pg.length from h.2.1).symm.trans e2) (by omega) (by omega)
              unfold whB
              rw [q1, q2]; rfl
          · have hf12 : fitA pg 12 = false := by rw [fit_s (Or.inr rfl)]; simpa using h2
            rw [hf12] at hfe
            have hfe : fwN pg = 12 := hfe
            rw [hfe]
            exact ⟨0, en12 (b_X6_read_59 at12 (fun e => absurd (neq (b := 59) e (by omega) (by omega)) h2) (fun _ => b_X6_read_70)), early (by omega)⟩
        | succ f ih =>
          intro p hp h7 hfe
          have atp := am_at (w := sI w 22 13 0) (i := p) h0 (by omega)
          have cp := atC_lt h p
          have hkl := kLn_le (atC pg p)
          have fp : sgF (fitA pg) (f + 1 + 7) p = if fitA pg p = true then sgF (fitA pg) (f + 7) (p + 1) else p := by rw [show f + 1 + 7 = (f + 7) + 1 by omega]; rfl
          rw [fp, fit_k h7 (by omega)] at hfe
          have en : ∀ {r}, (¬ sgnN (kLn (atC pg p)) = -1 → Z_X6_read 35 53 [some (.ref 22), some (.int (nI p))] [] (sI w 22 13 0) r) → (sgnN (kLn (atC pg p)) = -1 → Z_X6_read 35 51 [some (.ref 22), some (.int (nI p))] [] (sI w 22 13 0) r) → Z_X6_read 35 33 [some (.ref 22), some (.int (nI p))] [] (sI w 22 13 0) r := fun z1 z2 => b_X6_read_33 (fun e => absurd (nle (a := 12) e (by omega) (by omega)) (by omega)) (fun _ => b_X6_read_39 atp (am_kindBy (by omega)) z1 z2)
          by_cases h5 : kLn (atC pg p) = 5
          · have hfe : fwN pg = p := by
              rw [hfe, h5]; rfl
            rw [hfe]
            exact ⟨0, en (fun e => absurd (by rw [h5]; rfl) e) (fun _ => b_X6_read_51), early (by omega)⟩
          · have h5b : (kLn (atC pg p) != 5) = true := by simpa using h5
            rw [if_pos h5b] at hfe
            obtain ⟨v, hz, hv⟩ := ih (p + 1) (by omega) (by omega) hfe
            have es : sgnN (kLn (atC pg p)) = nI (kLn (atC pg p)) := by unfold sgnN; rw [if_neg h5]
            refine ⟨v, en (fun _ => b_X6_read_53 ?_) (fun e => absurd (by rw [es] at e; exact e) (nI_m1 (by omega))), hv⟩
            rw [nI_1]; exact hz
      obtain ⟨v, hz, hv⟩ := kinds 5 7 rfl (Nat.le_refl _) hfw2
      exact ⟨v, ent (fun _ => b_X6_read_30 hz) (fun e => absurd (by rw [h59]; rfl) e), hv⟩
    · have hf6 : fitA pg 6 = false := by rw [fit_s (Or.inl rfl)]; simpa using h59
      rw [hf6] at f6
      have hfe : fwN pg = 6 := by rw [hfw]; exact hcut.trans f6
      rw [hfe]
      exact ⟨0, ent (fun e => absurd (neq (b := 59) e (by omega) (by omega)) h59) (fun _ => b_X6_read_28), early (by omega)⟩
  · rw [if_neg (by omega)] at hcut
    have hfe : fwN pg = sgF (newA pg 0) 6 0 := by rw [hfw]; exact hcut
    rw [← hfe] at rc0 hle1 hk
    exact ⟨0, ai_X6_read (b_X6_read_0 rc0 (fun _ => b_X6_read_28) (fun e => absurd (nI_lt (b := 6) (by omega) (by omega)) e)), early (by omega)⟩
theorem am_cellsAt {pg : List Nat} {a j : Nat} (h : PgM w pg) (ha : a < 100) (hj : j < 720) (hs : ∀ c, c < 6 → sg j c = sLn (atC pg (a + c))) : A_X6_cellsAt 35 [.ref 22, .int (nI a)] w (some (.int (nI (tr j))), w) := by
  have hck := allN_spec ck9_all j hj
  rw [Bool.and_eq_true] at hck
  have hend : caL (sgl j) 6 = tr j := Nat.eq_of_beq_eq_true hck.1
  have loop : ∀ d c, c + d = 6 → Z_X6_cellsAt 35 4 [some (.ref 22), some (.int (nI a)), some (.int (nI (caL (sgl j) c))), some (.int (nI c))] [] w (some (.int (nI (tr j))), w) := by
    intro d
    induction d with
    | zero =>
      intro c hc
      have hc : c = 6 := by omega
      subst hc
      rw [hend]
      exact b_X6_cellsAt_4 (fun _ => b_X6_cellsAt_30) (fun e => absurd (show (6 : Int32) ≤ nI 6 from nI_le (a := 6) (by omega) (by omega)) e)
    | succ d ih =>
      intro c hc
      have hsg := sg_lt hj (show c < 6 by omega)
      have hsa := am_signAt (w := w) (i := a + c) h (by omega)
      have es : s6 (sLn (atC pg (a + c))) = nI (sg j c) := by rw [← hs c (by omega)]; unfold s6; rw [if_neg (by omega)]
      rw [es, ← nI_add] at hsa
      have hp8 : sg j c * 2 ^ (3 * c) ≤ 5 * 2 ^ 15 := Nat.mul_le_mul (by omega) (Nat.pow_le_pow_right (by omega) (by omega))
      refine b_X6_cellsAt_4 (fun e => absurd (nle (a := 6) e (by omega) (by omega)) (by omega)) (fun _ => b_X6_cellsAt_10 hsa ?_)
      rw [show (3 : Int32) = nI 3 from rfl, pk_mul, n_shl (by omega) (by omega), n_or, nI_1, Nat.pow_mul]
      exact ih (c + 1) (by omega)
  exact ai_X6_cellsAt (b_X6_cellsAt_0 (loop 6 0 rfl))
end MG
