-- ===== lists of six signs are lays =====
def ckP : Bool := allN (fun a => allN (fun b => Nat.beq b a || allN (fun c => Nat.beq c a || Nat.beq c b || allN (fun d => Nat.beq d a || Nat.beq d b || Nat.beq d c || allN (fun e => Nat.beq e a || Nat.beq e b || Nat.beq e c || Nat.beq e d || allN (fun f => Nat.beq f a || Nat.beq f b || Nat.beq f c || Nat.beq f d || Nat.beq f e || (let l := [a, b, c, d, e, f]; let j := rkl l; Nat.blt j 720 && beqL (sgl j) l)) 6) 6) 6) 6) 6) 6
set_option maxRecDepth 100000 in
theorem ckP_all : ckP = true := by decide +kernel
theorem bor_f {x y : Bool} (h : (x || y) = true) (hx : x = false) : y = true := by rw [hx] at h; simpa using h
theorem nbf {a b : Nat} (h : a ≠ b) : Nat.beq a b = false := by
  cases e : Nat.beq a b with
  | false => rfl
  | true => exact absurd (Nat.eq_of_beq_eq_true e) h
/-- a function of six cells with values apart is a lay's signs -/
theorem perm_lay {p : Nat → Nat} (h1 : ∀ c, c < 6 → p c < 6) (h2 : ∀ c d, c < 6 → d < 6 → p c = p d → c = d) : ∃ j, j < 720 ∧ sgl j = [p 0, p 1, p 2, p 3, p 4, p 5] ∧ ∀ c, c < 6 → sg j c = p c := by
  have ne : ∀ c d, c < 6 → d < 6 → c ≠ d → Nat.beq (p c) (p d) = false := fun c d hc hd hn => nbf (fun e => hn (h2 c d hc hd e))
  have a0 := allN_spec ckP_all (p 0) (h1 0 (by omega))
  have a1 := allN_spec a0 (p 1) (h1 1 (by omega))
  have a1 := bor_f a1 (ne 1 0 (by omega) (by omega) (by omega))
  have a2 := allN_spec a1 (p 2) (h1 2 (by omega))
  have a2 := bor_f a2 (by simp [ne 2 0, ne 2 1])
  have a3 := allN_spec a2 (p 3) (h1 3 (by omega))
  have a3 := bor_f a3 (by simp [ne 3 0, ne 3 1, ne 3 2])
  have a4 := allN_spec a3 (p 4) (h1 4 (by omega))
  have a4 := bor_f a4 (by simp [ne 4 0, ne 4 1, ne 4 2, ne 4 3])
  have a5 := allN_spec a4 (p 5) (h1 5 (by omega))
  have a5 := bor_f a5 (by simp [ne 5 0, ne 5 1, ne 5 2, ne 5 3, ne 5 4])
  simp only [Bool.and_eq_true] at a5
  have e := beqL_eq a5.2
  refine ⟨_, Nat.le_of_ble_eq_true a5.1, e, fun c hc => ?_⟩
  unfold sg
  rw [e]
  rcases (show c = 0 ∨ c = 1 ∨ c = 2 ∨ c = 3 ∨ c = 4 ∨ c = 5 by omega) with rfl | rfl | rfl | rfl | rfl | rfl <;> rfl
theorem sg_inj {k c d : Nat} (hk : k < 720) (hc : c < 6) (hd : d < 6) (h : sg k c = sg k d) : c = d := by
  rw [← pl_sg hk hc, ← pl_sg hk hd, h]
theorem pl_inj {k c d : Nat} (hk : k < 720) (hc : c < 6) (hd : d < 6) (h : pl k c = pl k d) : c = d := by
  rw [← sg_pl hk hc, ← sg_pl hk hd, h]
-- ===== small helpers of the class =====
def absd (c d : Nat) : Nat := if c ≤ d then d - c else c - d
theorem absd_i : ∀ c, c < 6 → ∀ d, d < 6 → (if 0 ≤ (nI c - nI d) then (nI c - nI d) else 0 - (nI c - nI d)) = nI (absd c d) := by decide +kernel
theorem nx_absd : ∀ c, c < 6 → ∀ d, d < 6 → nx c d = (absd c d == 3 || (absd c d == 1 && c / 3 == d / 3)) := by decide +kernel
theorem absd_lt : ∀ c, c < 6 → ∀ d, d < 6 → absd c d < 6 := by decide +kernel
section HE
variable {w : Wd} {mm : Nat}
theorem am_isOneRow {c d : Nat} (hc : c < 6) (hd : d < 6) : A_X5_isOneRow mm [.int (nI c), .int (nI d)] w (some (.int (bz (c / 3 == d / 3))), w) := by
  have e1 : nI c / 3 = nI (c / 3) := pk_div (d := 3) (by omega) (by omega) (by omega)
  have e2 : nI d / 3 = nI (d / 3) := pk_div (d := 3) (by omega) (by omega) (by omega)
  refine ai_X5_isOneRow (b_X5_isOneRow_0 (fun h => ?_) (fun h => ?_))
  · rw [e1, e2] at h
    have : (c / 3 == d / 3) = false := by simpa using fun e : c / 3 = d / 3 => h (by rw [e])
    rw [this]
    exact b_X5_isOneRow_13 (b_X5_isOneRow_14 (Or.inl rfl))
  · rw [e1, e2] at h
    have : (c / 3 == d / 3) = true := by simpa using neq h (by omega) (by omega)
    rw [this]
    exact b_X5_isOneRow_9 (b_X5_isOneRow_14 (Or.inr rfl))
theorem bz_0 {b : Bool} : bz b = 0 ↔ b = false := by cases b <;> simp [bz]
theorem am_areNext {c d : Nat} (hc : c < 6) (hd : d < 6) : A_X5_areNext mm [.int (nI c), .int (nI d)] w (some (.int (bz (nx c d))), w) := by
  have hl := absd_lt c hc d hd
  rw [nx_absd c hc d hd]
  refine ai_X5_areNext (b_X5_areNext_0 (fun h => ?_) (fun h => ?_))
  · rw [absd_i c hc d hd] at h ⊢
    have h3 : absd c d = 3 := neq (b := 3) h (by omega) (by omega)
    rw [h3]
    exact b_X5_areNext_25 (b_X5_areNext_30 (Or.inr rfl))
  · rw [absd_i c hc d hd] at h ⊢
    have h3 : ¬ absd c d = 3 := fun e => h (by rw [e]; rfl)
    refine b_X5_areNext_12 (fun h1 => ?_) (fun h1 => ?_)
    · have h4 : ¬ absd c d = 1 := fun e => h1 (by rw [e]; rfl)
      have : (absd c d == 3 || (absd c d == 1 && c / 3 == d / 3)) = false := by simp [h3, h4]
      rw [this]
      exact b_X5_areNext_29 (b_X5_areNext_30 (Or.inl rfl))
    · have h4 : absd c d = 1 := neq (b := 1) h1 (by omega) (by omega)
      have : (absd c d == 3 || (absd c d == 1 && c / 3 == d / 3)) = (c / 3 == d / 3) := by simp [h4]
      rw [this]
      refine b_X5_areNext_17 (am_isOneRow hc hd) (fun h5 => ?_) (fun h5 => ?_)
      · rw [bz_0.mp h5]
        exact b_X5_areNext_29 (b_X5_areNext_30 (Or.inl rfl))
      · have h6 : (c / 3 == d / 3) = true := by
          cases e : (c / 3 == d / 3) with
          | true => rfl
          | false => exact absurd (bz_0.mpr e) h5
        rw [h6]
        exact b_X5_areNext_25 (b_X5_areNext_30 (Or.inr rfl))
def sgnN (s : Nat) : Int32 := if s = 5 then -1 else nI s
theorem am_tileOrNone {s : Nat} (hs : s < 6) : A_X5_tileOrNone 35 [.int (nI s)] w (some (.int (sgnN s)), w) := by
  unfold sgnN
  refine ai_X5_tileOrNone (b_X5_tileOrNone_0 (fun h => ?_) (fun h => ?_))
  · rw [if_neg (fun e => h (by rw [e]; rfl))]
    exact b_X5_tileOrNone_9 b_X5_tileOrNone_10
  · rw [if_pos (neq (b := 5) h (by omega) (by omega))]
    exact b_X5_tileOrNone_5 b_X5_tileOrNone_10
/-- how many cells below n hold the same in both -/
def alk (k g : Nat) : Nat → Nat
  | 0 => 0
  | n + 1 => alk k g n + if sg k n = sg g n then 1 else 0
theorem am_cellsAlike {k g : Nat} (hT : TabS w) (hk : k < 720) (hg : g < 720) : A_X5_cellsAlike 35 [.ref 19, .int (nI k), .int (nI g)] w (some (.int (nI (alk k g 6))), w) := by
  have loop : ∀ d c, c + d = 6 → Z_X5_cellsAlike 35 5 [some (.ref 19), some (.int (nI k)), some (.int (nI g)), some (.int (nI (alk k g c))), some (.int (nI c))] [] w (some (.int (nI (alk k g 6))), w) := by
    intro d
    induction d with
    | zero =>
      intro c hc
      have hc : c = 6 := by omega
      subst hc
      exact b_X5_cellsAlike_5 (fun _ => b_X5_cellsAlike_44) (fun h => absurd (show (6 : Int32) ≤ nI 6 from nI_le (a := 6) (by omega) (by omega)) h)
    | succ d ih =>
      intro c hc
      have s1 := sg_lt hk (show c < 6 by omega)
      have s2 := sg_lt hg (show c < 6 by omega)
      have go : ∀ s, s = alk k g (c + 1) → Z_X5_cellsAlike 35 38 [some (.ref 19), some (.int (nI k)), some (.int (nI g)), some (.int (nI s)), some (.int (nI c))] [] w (some (.int (nI (alk k g 6))), w) := by
        intro s hs
        subst hs
        refine b_X5_cellsAlike_38 ?_
        rw [nI_1]; exact ih (c + 1) (by omega)
      refine b_X5_cellsAlike_5 (fun h => absurd (nle (a := 6) h (by omega) (by omega)) (by omega)) (fun _ => b_X5_cellsAlike_12 (am_sign hT (by omega) hk (by omega)) (am_sign hT (by omega) hg (by omega)) (fun h => go _ ?_) (fun h => b_X5_cellsAlike_35 ?_))
      · have : ¬ sg k c = sg g c := fun e => h (by rw [e])
        show _ = alk k g c + if sg k c = sg g c then 1 else 0
        rw [if_neg this]; rfl
      · rw [nI_1]
        refine go _ ?_
        show _ = alk k g c + if sg k c = sg g c then 1 else 0
        rw [if_pos (neq h (by omega) (by omega))]
  exact ai_X5_cellsAlike (b_X5_cellsAlike_0 (loop 6 0 rfl))
-- ===== sorts and ways =====
def mkG (y v : Nat) : Nat → Nat
  | 0 => 0
  | n + 1 => mkG y v n ||| if prcK n y = v then 2 ^ n else 0
def mkN (y v : Nat) : Nat := mkG y v 5
theorem mkG_lt : ∀ y, y < 2 → ∀ v, v < 4 → ∀ n, n < 6 → mkG y v n < 32 := by decide +kernel
theorem am_sortsThatCost {y v : Nat} (hy : y < 2) (hv : v < 4) : A_X5_sortsThatCost 35 [.int (nI y), .int (nI v)] w (some (.int (nI (mkN y v))), w) := by
  have loop : ∀ d n, n + d = 5 → Z_X5_sortsThatCost 35 4 [some (.int (nI y)), some (.int (nI v)), some (.int (nI (mkG y v n))), some (.int (nI n))] [] w (some (.int (nI (mkN y v))), w) := by
    intro d
    induction d with
    | zero =>
      intro n hn
      have hn : n = 5 := by omega
      subst hn
      exact b_X5_sortsThatCost_4 (fun _ => b_X5_sortsThatCost_37) (fun h => absurd (show (5 : Int32) ≤ nI 5 from nI_le (a := 5) (by omega) (by omega)) h)
    | succ d ih =>
      intro n hn
      have hp := prcK_le n (by omega) y hy
      have go : ∀ s, s = mkG y v (n + 1) → Z_X5_sortsThatCost 35 31 [some (.int (nI y)), some (.int (nI v)), some (.int (nI s)), some (.int (nI n))] [] w (some (.int (nI (mkN y v))), w) := by
        intro s hs
        subst hs
        refine b_X5_sortsThatCost_31 ?_
        rw [nI_1]; exact ih (n + 1) (by omega)
      refine b_X5_sortsThatCost_4 (fun h => absurd (nle (a := 5) h (by omega) (by omega)) (by omega)) (fun _ => b_X5_sortsThatCost_12 rfl (by omega) (am_kprice (by omega) hy) (fun h => go _ ?_) (fun h => b_X5_sortsThatCost_25 ?_))
      · have : ¬ prcK n y = v := fun e => h (by rw [e])
        show _ = mkG y v n ||| if prcK n y = v then 2 ^ n else 0
        rw [if_neg this]; simp
      · have e : (1 : Int32) <<< (nI n &&& 31) = nI (2 ^ n) := by
          have := n_shl (n := 1) (c := n) (by omega) (by
            have : 2 ^ n ≤ 2 ^ 5 := Nat.pow_le_pow_right (by omega) (by omega)
            omega)
          rw [Nat.one_mul] at this
          exact this
        rw [e, n_or]
        refine go _ ?_
        show _ = mkG y v n ||| if prcK n y = v then 2 ^ n else 0
        rw [if_pos (neq h (by omega) (by omega))]
  exact ai_X5_sortsThatCost (b_X5_sortsThatCost_0 (loop 5 0 rfl))
/-- the most sorts of one cost, below a cost -/
def mlG (b y : Nat) : Nat → Nat
  | 0 => 0
  | v + 1 => if mlG b y v < popN (b &&& mkN y v) then popN (b &&& mkN y v) else mlG b y v
def ml (b y : Nat) : Nat := mlG b y 4
theorem popN_le (n : Nat) : popN n ≤ 6 := by unfold popN; omega
theorem mlG_le (b y : Nat) : ∀ v, mlG b y v ≤ 6
  | 0 => by simp [mlG]
  | v + 1 => by
    have := mlG_le b y v
    have := popN_le (b &&& mkN y v)
    unfold mlG
    split <;> omega
theorem am_mostLeft {b y : Nat} (hb : b < 32) (hy : y < 2) : A_X5_mostLeft 35 [.int (nI b), .int (nI y)] w (some (.int (nI (ml b y))), w) := by
  have loop : ∀ d v, v + d = 4 → Z_X5_mostLeft 35 4 [some (.int (nI b)), some (.int (nI y)), some (.int (nI (mlG b y v))), some (.int (nI v))] [] w (some (.int (nI (ml b y))), w) := by
    intro d
    induction d with
    | zero =>
      intro v hv
      have hv : v = 4 := by omega
      subst hv
      exact b_X5_mostLeft_4 (fun _ => b_X5_mostLeft_30) (fun h => absurd (show (3 : Int32) < nI 4 from nI_lt (a := 3) (by omega) (by omega)) h)
    | succ d ih =>
      intro v hv
      have h1 := mlG_le b y v
      have h2 := popN_le (b &&& mkN y v)
      refine b_X5_mostLeft_4 (fun h => absurd (nlt (a := 3) h (by omega) (by omega)) (by omega)) (fun _ => b_X5_mostLeft_9 (am_sortsThatCost hy (by omega)) (by rw [n_and]; exact am_bitCount (Nat.lt_of_le_of_lt Nat.and_le_left (by omega))) ?_)
      rw [nI_1]
      have e : (if nI (mlG b y v) < nI (popN (b &&& mkN y v)) then nI (popN (b &&& mkN y v)) else nI (mlG b y v)) = nI (mlG b y (v + 1)) := by
        show _ = nI (if mlG b y v < popN (b &&& mkN y v) then popN (b &&& mkN y v) else mlG b y v)
        by_cases g : mlG b y v < popN (b &&& mkN y v)
        · rw [if_pos (nI_lt g (by omega)), if_pos g]
        · rw [if_neg (nI_nlt (by omega) (by omega)), if_neg g]
      rw [e]
      exact ih (v + 1) (by omega)
  exact ai_X5_mostLeft (b_X5_mostLeft_0 (loop 4 0 rfl))
def bwN (b : Nat) : Int32 := if b = 0 then -1 else if ml b 1 < ml b 0 then 1 else 0
theorem am_bestWay {b : Nat} (hb : b < 32) : A_X5_bestWay 35 [.int (nI b)] w (some (.int (bwN b)), w) := by
  unfold bwN
  have h1 := mlG_le b 1 4
  have h0 := mlG_le b 0 4
  refine ai_X5_bestWay (b_X5_bestWay_0 (fun h => ?_) (fun h => ?_))
  · rw [if_neg (fun e => h (by rw [e]; rfl))]
    refine b_X5_bestWay_6 (am_mostLeft (y := 1) hb (by omega)) (am_mostLeft (y := 0) hb (by omega)) (fun h2 => ?_) (fun h2 => ?_)
    · have : ¬ ml b 1 < ml b 0 := by have := nle h2 (show ml b 0 < 2 ^ 31 by unfold ml; omega) (show ml b 1 < 2 ^ 31 by unfold ml; omega); omega
      rw [if_neg this]
      exact b_X5_bestWay_23 b_X5_bestWay_24
    · have : ml b 1 < ml b 0 := Nat.lt_of_not_le (fun q => h2 (nI_le q (show ml b 1 < 2 ^ 31 by unfold ml; omega)))
      rw [if_pos this]
      exact b_X5_bestWay_19 b_X5_bestWay_24
  · rw [if_pos (neq (b := 0) h (by omega) (by omega))]
    exact b_X5_bestWay_4
end HE
