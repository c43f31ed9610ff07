-- ===== numbers =====
theorem s_l : ∀ n, n < 32 → ((nI n &&& 31).toBitVec.smod 32).toNat = n := by decide +kernel
theorem n_shr {n c : Nat} (hn : n < 2 ^ 31) (hc : c < 32) : nI n >>> (nI c &&& 31) = nI (n / 2 ^ c) := pk_shrN hn _ c (s_l c hc)
theorem n_shl {n c : Nat} (hc : c < 32) (h : n * 2 ^ c < 2 ^ 32) : nI n <<< (nI c &&& 31) = nI (n * 2 ^ c) := pk_shlN _ c (s_l c hc) h
theorem n_xor (a b : Nat) : nI a ^^^ nI b = nI (a ^^^ b) := by
  apply Int32.toBitVec_inj.1
  show BitVec.ofNat 32 a ^^^ BitVec.ofNat 32 b = BitVec.ofNat 32 (a ^^^ b)
  apply BitVec.eq_of_getLsbD_eq
  intro i hi
  simp [hi]
theorem n_or (a b : Nat) : nI a ||| nI b = nI (a ||| b) := by
  apply Int32.toBitVec_inj.1
  show BitVec.ofNat 32 a ||| BitVec.ofNat 32 b = BitVec.ofNat 32 (a ||| b)
  apply BitVec.eq_of_getLsbD_eq
  intro i hi
  simp [hi]
theorem n_and (a b : Nat) : nI a &&& nI b = nI (a &&& b) := by
  apply Int32.toBitVec_inj.1
  show BitVec.ofNat 32 a &&& BitVec.ofNat 32 b = BitVec.ofNat 32 (a &&& b)
  apply BitVec.eq_of_getLsbD_eq
  intro i hi
  simp [hi]
theorem n_and7 {n : Nat} (h : n < 2 ^ 32) : nI n &&& 7 = nI (n % 8) := pk_andN h 3 rfl
theorem n_and1 {n : Nat} (h : n < 2 ^ 32) : nI n &&& 1 = nI (n % 2) := pk_andN h 1 rfl
theorem nlt {a b : Nat} (h : nI a < nI b) (ha : a < 2 ^ 31) (hb : b < 2 ^ 31) : a < b := (nI_ltI ha hb).mp h
theorem nle {a b : Nat} (h : nI a ≤ nI b) (ha : a < 2 ^ 31) (hb : b < 2 ^ 31) : a ≤ b := (nI_leI ha hb).mp h
theorem neq {a b : Nat} (h : nI a = nI b) (ha : a < 2 ^ 31) (hb : b < 2 ^ 31) : a = b := (nI_eq ha hb).mp h
theorem nI_m1 {a : Nat} (h : a < 2 ^ 31) : ¬ nI a = -1 := by
  intro e
  have h1 := congrArg Int32.toInt e
  rw [nI_toInt h] at h1
  have h2 : (-1 : Int32).toInt = -1 := by decide
  omega
theorem m1_ne : ¬ (-1 : Int32) = 0 := by decide
theorem m1_lt : (-1 : Int32) < 0 := by decide
def bz (b : Bool) : Int32 := bif b then 1 else 0
theorem bz_or (b : Bool) : bz b = 0 ∨ bz b = 1 := by cases b <;> simp [bz]
/-- a number, with none for 0 -/
def np (n : Nat) : Int32 := if n = 0 then -1 else nI n
theorem wI_sI {w : Wd} {i f : Nat} {v : Int32} {a b : Nat} : (sI w i f v).1 a b = if a = i ∧ b = f then v else w.1 a b := rfl
theorem wA_sA {w : Wd} {i : Nat} {g : Nat → Int32} {a : Nat} : (sA w i g).2.2.2 a = if a = i then g else w.2.2.2 a := rfl
-- ===== leaves of the class =====
section CL
variable {w : Wd} {mm : Nat}
theorem am_isWithin (x lo hi : Int32) : A_X5_isWithin 35 [.int x, .int lo, .int hi] w (some (.int (bz (decide (lo ≤ x ∧ x ≤ hi)))), w) := by
  refine ai_X5_isWithin (b_X5_isWithin_0 (fun h => ?_) (fun h => b_X5_isWithin_5 (fun h2 => ?_) (fun h2 => ?_)))
  · have : bz (decide (lo ≤ x ∧ x ≤ hi)) = 0 := by
      have h9 : ¬ lo ≤ x := Int32.not_le.mpr h
      simp [bz, h9]
    rw [this]; exact b_X5_isWithin_14 (b_X5_isWithin_15 (Or.inl rfl))
  · have : bz (decide (lo ≤ x ∧ x ≤ hi)) = 0 := by
      have h9 : ¬ x ≤ hi := Int32.not_le.mpr h2
      simp [bz, h9]
    rw [this]; exact b_X5_isWithin_14 (b_X5_isWithin_15 (Or.inl rfl))
  · have : bz (decide (lo ≤ x ∧ x ≤ hi)) = 1 := by
      have h9 : x ≤ hi := Int32.not_lt.mp h2
      have h8 : lo ≤ x := Int32.not_lt.mp h
      simp [bz, h9, h8]
    rw [this]; exact b_X5_isWithin_10 (b_X5_isWithin_15 (Or.inr rfl))
/-- read at a number out of range: none -/
theorem am_read_m1 {a : Nat} (c : Int32) : A_X2_read mm [.ref a, .int (-1), .int c] w (some (.int (-1)), w) :=
  ai_X2_read (b_X2_read_0 (fun _ => b_X2_read_25 (b_X2_read_26 (fun _ => b_X2_read_42 b_X2_read_43) (fun h => absurd rfl h))) (fun h => absurd m1_lt h))
theorem am_read {a k c : Nat} (ha : SH[a]? = some (.inr (0, 4320))) (hm : a < mm) (hk : k < 720) (hc : c < 6) : A_X2_read mm [.ref a, .int (nI k), .int (nI c)] w (some (.int (wA w a (k * 6 + c))), w) := by
  refine ai_X2_read (b_X2_read_0 (fun h => absurd h (nI_pos (by omega))) (fun _ => b_X2_read_4 (fun h => absurd (nle (a := 720) h (by omega) (by omega)) (by omega)) (fun _ => b_X2_read_11 (fun h => absurd h (nI_pos (by omega))) (fun _ => b_X2_read_15 (fun h => absurd (nle (a := 6) h (by omega) (by omega)) (by omega)) (fun _ => b_X2_read_21 (b_X2_read_26 (fun h => absurd h (by decide)) (fun _ => ?_)))))))
  have e : nI k * 6 + nI c = nI (k * 6 + c) := by rw [show (6 : Int32) = nI 6 from rfl, pk_mul, nI_add]
  refine b_X2_read_31 hm ha (by rw [e]; exact vp_in_nI (by omega) (by omega)) ?_
  rw [e, nI_clamp (by omega)]
  exact b_X2_read_43
def TabS (w : Wd) : Prop := ∀ k, k < 720 → ∀ c, c < 6 → wA w 1 (k * 6 + c) = nI (sg k c)
def TabP (w : Wd) : Prop := ∀ k, k < 720 → ∀ c, c < 6 → wA w 2 (k * 6 + c) = nI (pl k c)
def TabM (w : Wd) : Prop := ∀ k, k < 720 → ∀ c, c < 6 → wA w 3 (k * 6 + c) = if go k c then nI (mv k c) else -1
def TabW (w : Wd) : Prop := ∀ k, k < 720 → ∀ c, c < 6 → wA w 4 (k * 6 + c) = if go k c then nI (wy k c) else -1
def Tab (w : Wd) : Prop := TabS w ∧ TabP w ∧ TabM w ∧ TabW w
theorem am_place {k s : Nat} (hT : TabP w) (h5 : 5 < mm) (hk : k < 720) (hs : s < 6) : A_X2_place mm [.ref 0, .int (nI k), .int (nI s)] w (some (.int (nI (pl k s))), w) := by
  refine ai_X2_place (b_X2_place_0 h5 ?_)
  rw [← hT k hk s hs]
  exact am_read rfl (by omega) hk hs
theorem am_place_m1 {x : Int32} (h5 : 5 < mm) : A_X2_place mm [.ref 0, .int (-1), .int x] w (some (.int (-1)), w) := ai_X2_place (b_X2_place_0 h5 (am_read_m1 x))
theorem am_sign {k s : Nat} (hT : TabS w) (h5 : 5 < mm) (hk : k < 720) (hs : s < 6) : A_X2_sign mm [.ref 0, .int (nI k), .int (nI s)] w (some (.int (nI (sg k s))), w) := by
  refine ai_X2_sign (b_X2_sign_0 h5 ?_)
  rw [← hT k hk s hs]
  exact am_read rfl (by omega) hk hs
theorem am_pushed {k s : Nat} (hT : TabM w) (hk : k < 720) (hs : s < 6) (hg : go k s = true) : A_X2_pushed 35 [.ref 0, .int (nI k), .int (nI s)] w (some (.int (nI (mv k s))), w) := by
  refine ai_X2_pushed (b_X2_pushed_0 ?_)
  have h := hT k hk s hs
  rw [if_pos hg] at h
  rw [← h]
  exact am_read rfl (by omega) hk hs
def kd (kn t : Nat) : Nat := if kn / 8 ^ t % 8 < 5 then kn / 8 ^ t % 8 else 0
theorem kd_lt (kn t : Nat) : kd kn t < 5 := by unfold kd; split <;> omega
theorem am_kindOf {kn t : Nat} (hk : kn < 2 ^ 31) (ht : t < 5) : A_X5_kindOf 35 [.int (nI kn), .int (nI t)] w (some (.int (nI (kd kn t))), w) := by
  have e : (nI kn >>> ((3 * nI t) &&& 31)) &&& 7 = nI (kn / 8 ^ t % 8) := by
    rw [show (3 : Int32) = nI 3 from rfl, pk_mul, n_shr hk (by omega), n_and7 (Nat.lt_of_le_of_lt (Nat.div_le_self _ _) (by omega)), Nat.pow_mul]
  refine ai_X5_kindOf (b_X5_kindOf_0 (fun h => ?_) (fun h => ?_))
  · rw [e] at h ⊢
    have h2 := nle (a := 5) h (by omega) (by omega)
    have : kd kn t = 0 := by unfold kd; rw [if_neg (by omega)]
    rw [this]
    exact b_X5_kindOf_21 b_X5_kindOf_22
  · rw [e] at h ⊢
    have h2 : kn / 8 ^ t % 8 < 5 := Nat.lt_of_not_le (fun q => h (nI_le (a := 5) q (by omega)))
    have : kd kn t = kn / 8 ^ t % 8 := by unfold kd; rw [if_pos h2]
    rw [this]
    exact b_X5_kindOf_17 b_X5_kindOf_22
def prcK (j way : Nat) : Nat := if way = 0 then [1, 2, 0, 1, 3].getD j 0 else [1, 2, 0, 0, 3].getD j 0
theorem kIn_eq : ∀ j, j < 5 → kIn j = nI (prcK j 0) := by decide
theorem kBet_eq : ∀ j, j < 5 → kBet j = nI (prcK j 1) := by decide
theorem prcK_le : ∀ j, j < 5 → ∀ y, y < 2 → prcK j y ≤ 3 := by decide
theorem am_kprice {j y : Nat} (hj : j < 5) (hy : y < 2) : A_X1_price 35 [.ref (2000 + j), .int (nI y)] w (some (.int (nI (prcK j y))), w) := by
  refine ai_X1_price (b_X1_price_0 hj (fun h => ?_) (fun h => ?_))
  · have : y = 1 := by
      rcases Nat.lt_or_ge y 1 with h1 | h1
      · exact absurd (show nI y = 0 by rw [show y = 0 by omega]; rfl) h
      · omega
    subst this
    rw [← kBet_eq j hj]
    exact b_X1_price_11 hj (b_X1_price_15 hj)
  · have : y = 0 := neq (b := 0) h (by omega) (by omega)
    subst this
    rw [← kIn_eq j hj]
    exact b_X1_price_4 hj (b_X1_price_15 hj)
def prc (kn k t : Nat) : Nat := if go k t then prcK (kd kn t) (wy k t) else 0
theorem wy_lt (k t : Nat) : wy k t < 2 := by unfold wy; split <;> omega
theorem prc_le (kn k t : Nat) : prc kn k t ≤ 3 := by
  unfold prc
  split
  · exact prcK_le _ (kd_lt kn t) _ (wy_lt k t)
  · omega
theorem am_price {k t kn : Nat} (hT : TabW w) (hk : k < 720) (ht : t < 5) (hn : kn < 2 ^ 31) : A_X2_price 35 [.ref 0, .int (nI k), .int (nI t), .int (nI kn)] w (some (.int (np (prc kn k t))), w) := by
  have hW := hT k hk t (by omega)
  refine ai_X2_price (b_X2_price_0 (am_read rfl (by omega) hk (by omega)) (fun h => ?_) (fun h => ?_))
  · by_cases hg : go k t = true
    · rw [if_pos hg] at hW
      rw [hW] at h ⊢
      have hp : prc kn k t = prcK (kd kn t) (wy k t) := by unfold prc; rw [if_pos hg]
      refine b_X2_price_19 (am_kindOf hn ht) rfl (kd_lt kn t) (am_kprice (kd_lt kn t) (wy_lt k t)) (fun h2 => ?_) (fun h2 => ?_)
      · have h3 : ¬ prcK (kd kn t) (wy k t) = 0 := fun e => h2 (by rw [e]; rfl)
        rw [hp, np, if_neg h3]
        exact b_X2_price_44 b_X2_price_46
      · have h3 : prcK (kd kn t) (wy k t) = 0 := neq (b := 0) h2 (by have := prcK_le _ (kd_lt kn t) _ (wy_lt k t); omega) (by omega)
        rw [hp, h3]
        exact b_X2_price_40 b_X2_price_46
    · rw [if_neg hg] at hW
      exact absurd hW h
  · by_cases hg : go k t = true
    · rw [if_pos hg] at hW
      rw [hW] at h
      exact absurd h (nI_m1 (by have := wy_lt k t; omega))
    · have hp : prc kn k t = 0 := by unfold prc; rw [if_neg hg]
      rw [hp, h]
      exact b_X2_price_17
theorem am_price_m1 (t x : Int32) : A_X2_price 35 [.ref 0, .int (-1), .int t, .int x] w (some (.int (-1)), w) :=
  ai_X2_price (b_X2_price_0 (am_read_m1 t) (fun h => absurd rfl h) (fun _ => b_X2_price_17))
end CL
