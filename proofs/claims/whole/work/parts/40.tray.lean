-- ===== the reference: a tray as six figures in one number =====
def trl (l : List Nat) : Nat := l.getD 0 5 + 8 * l.getD 1 5 + 64 * l.getD 2 5 + 512 * l.getD 3 5 + 4096 * l.getD 4 5 + 32768 * l.getD 5 5
def tr (k : Nat) : Nat := trl (sgl k)
theorem tr_sg (k : Nat) : tr k = sg k 0 + 8 * sg k 1 + 64 * sg k 2 + 512 * sg k 3 + 4096 * sg k 4 + 32768 * sg k 5 := rfl
theorem tr_lt {k : Nat} (hk : k < 720) : tr k < 262144 := by
  have h0 := sg_lt hk (show 0 < 6 by omega)
  have h1 := sg_lt hk (show 1 < 6 by omega)
  have h2 := sg_lt hk (show 2 < 6 by omega)
  have h3 := sg_lt hk (show 3 < 6 by omega)
  have h4 := sg_lt hk (show 4 < 6 by omega)
  have h5 := sg_lt hk (show 5 < 6 by omega)
  rw [tr_sg]; omega
theorem tr_at {k c : Nat} (hk : k < 720) (hc : c < 6) : tr k / 2 ^ (3 * c) % 8 = sg k c := by
  have h0 := sg_lt hk (show 0 < 6 by omega)
  have h1 := sg_lt hk (show 1 < 6 by omega)
  have h2 := sg_lt hk (show 2 < 6 by omega)
  have h3 := sg_lt hk (show 3 < 6 by omega)
  have h4 := sg_lt hk (show 4 < 6 by omega)
  have h5 := sg_lt hk (show 5 < 6 by omega)
  rw [tr_sg]
  rcases (show c = 0 ∨ c = 1 ∨ c = 2 ∨ c = 3 ∨ c = 4 ∨ c = 5 by omega) with rfl | rfl | rfl | rfl | rfl | rfl <;> simp only [Nat.mul_zero, Nat.reduceMul, Nat.reducePow] <;> omega
def ck6 (k : Nat) : Bool := let l := sgl k; let t := trl l; allN (fun a => allN (fun b => Nat.beq a b || (let x := l.getD a 5 ^^^ l.getD b 5; Nat.beq ((t ^^^ (x * 8 ^ a)) ^^^ (x * 8 ^ b)) (trl (swp l a b)))) 6) 6
set_option maxRecDepth 100000 in
theorem ck6_p0 : allN (fun i => ck6 (i + 0)) 90 = true := by decide +kernel
set_option maxRecDepth 100000 in
theorem ck6_p1 : allN (fun i => ck6 (i + 90)) 90 = true := by decide +kernel
set_option maxRecDepth 100000 in
theorem ck6_p2 : allN (fun i => ck6 (i + 180)) 90 = true := by decide +kernel
set_option maxRecDepth 100000 in
theorem ck6_p3 : allN (fun i => ck6 (i + 270)) 90 = true := by decide +kernel
set_option maxRecDepth 100000 in
theorem ck6_p4 : allN (fun i => ck6 (i + 360)) 90 = true := by decide +kernel
set_option maxRecDepth 100000 in
theorem ck6_p5 : allN (fun i => ck6 (i + 450)) 90 = true := by decide +kernel
set_option maxRecDepth 100000 in
theorem ck6_p6 : allN (fun i => ck6 (i + 540)) 90 = true := by decide +kernel
set_option maxRecDepth 100000 in
theorem ck6_p7 : allN (fun i => ck6 (i + 630)) 90 = true := by decide +kernel
theorem ck6_all : allN ck6 720 = true := (allN_add (p := ck6) (a := 630) (allN_add (p := ck6) (a := 540) (allN_add (p := ck6) (a := 450) (allN_add (p := ck6) (a := 360) (allN_add (p := ck6) (a := 270) (allN_add (p := ck6) (a := 180) (allN_add (p := ck6) (a := 90) ck6_p0 90 ck6_p1) 90 ck6_p2) 90 ck6_p3) 90 ck6_p4) 90 ck6_p5) 90 ck6_p6) 90 ck6_p7)
theorem tr_ex {k a b : Nat} (hk : k < 720) (ha : a < 6) (hb : b < 6) (hab : a ≠ b) : (tr k ^^^ ((sg k a ^^^ sg k b) * 8 ^ a)) ^^^ ((sg k a ^^^ sg k b) * 8 ^ b) = tr (ex k a b) := by
  have h := allN_spec (allN_spec (allN_spec ck6_all k hk) a ha) b hb
  have h := Nat.eq_of_beq_eq_true (bor_f h (nbf hab))
  have e : tr (ex k a b) = trl (swp (sgl k) a b) := by unfold tr; rw [(ex_ok hk ha hb hab).2]
  rw [e]
  exact h
def lsL (l : List Nat) (c : Nat) : Nat → Nat
  | 0 => 0
  | d + 1 => lsL l c d + bif Nat.blt (l.getD (c + 1 + d) 5) (l.getD c 5) then 1 else 0
def rkH (l : List Nat) : Nat → Nat
  | 0 => 0
  | c + 1 => rkH l c * (6 - c) + lsL l c (5 - c)
set_option maxRecDepth 100000 in
theorem ck7_p0 : allN (fun i => (fun k => Nat.beq (rkH (sgl k) 6) k) (i + 0)) 90 = true := by decide +kernel
set_option maxRecDepth 100000 in
theorem ck7_p1 : allN (fun i => (fun k => Nat.beq (rkH (sgl k) 6) k) (i + 90)) 90 = true := by decide +kernel
set_option maxRecDepth 100000 in
theorem ck7_p2 : allN (fun i => (fun k => Nat.beq (rkH (sgl k) 6) k) (i + 180)) 90 = true := by decide +kernel
set_option maxRecDepth 100000 in
theorem ck7_p3 : allN (fun i => (fun k => Nat.beq (rkH (sgl k) 6) k) (i + 270)) 90 = true := by decide +kernel
set_option maxRecDepth 100000 in
theorem ck7_p4 : allN (fun i => (fun k => Nat.beq (rkH (sgl k) 6) k) (i + 360)) 90 = true := by decide +kernel
set_option maxRecDepth 100000 in
theorem ck7_p5 : allN (fun i => (fun k => Nat.beq (rkH (sgl k) 6) k) (i + 450)) 90 = true := by decide +kernel
set_option maxRecDepth 100000 in
theorem ck7_p6 : allN (fun i => (fun k => Nat.beq (rkH (sgl k) 6) k) (i + 540)) 90 = true := by decide +kernel
set_option maxRecDepth 100000 in
theorem ck7_p7 : allN (fun i => (fun k => Nat.beq (rkH (sgl k) 6) k) (i + 630)) 90 = true := by decide +kernel
theorem ck7_all : allN (fun k => Nat.beq (rkH (sgl k) 6) k) 720 = true := (allN_add (p := (fun k => Nat.beq (rkH (sgl k) 6) k)) (a := 630) (allN_add (p := (fun k => Nat.beq (rkH (sgl k) 6) k)) (a := 540) (allN_add (p := (fun k => Nat.beq (rkH (sgl k) 6) k)) (a := 450) (allN_add (p := (fun k => Nat.beq (rkH (sgl k) 6) k)) (a := 360) (allN_add (p := (fun k => Nat.beq (rkH (sgl k) 6) k)) (a := 270) (allN_add (p := (fun k => Nat.beq (rkH (sgl k) 6) k)) (a := 180) (allN_add (p := (fun k => Nat.beq (rkH (sgl k) 6) k)) (a := 90) ck7_p0 90 ck7_p1) 90 ck7_p2) 90 ck7_p3) 90 ck7_p4) 90 ck7_p5) 90 ck7_p6) 90 ck7_p7)
theorem rkH_eq {k : Nat} (hk : k < 720) : rkH (sgl k) 6 = k := Nat.eq_of_beq_eq_true (allN_spec ck7_all k hk)
theorem lsL_le (l : List Nat) (c : Nat) : ∀ d, lsL l c d ≤ d
  | 0 => Nat.le_refl _
  | d + 1 => by
    have := lsL_le l c d
    unfold lsL
    cases Nat.blt (l.getD (c + 1 + d) 5) (l.getD c 5) <;> simp <;> omega
def fnd (used : Nat) : Nat → Nat → Nat → Nat
  | 0, _, s => s
  | f + 1, which, s => bif Nat.beq (used / 2 ^ s % 2) 1 then fnd used f which (s + 1) else bif Nat.beq which 0 then s else fnd used f (which - 1) (s + 1)
def ts (k : Nat) : Nat → Nat × Nat × Nat × Nat
  | 0 => (720, k, 0, 0)
  | c + 1 => let q := ts k c; let p := q.1 / (6 - c); let s := fnd q.2.2.1 6 (q.2.1 / p) 0; (p, q.2.1 % p, q.2.2.1 ||| 2 ^ s, q.2.2.2 ||| (s * 8 ^ c))
def ck8 (k : Nat) : Bool := allN (fun c => let q := ts k c; let p := q.1 / (6 - c); let s := fnd q.2.2.1 6 (q.2.1 / p) 0; Nat.blt 0 p && Nat.blt q.1 1000 && Nat.blt q.2.1 1000 && Nat.blt q.2.2.1 64 && Nat.blt q.2.2.2 262144 && Nat.blt s 6) 6 && Nat.beq (ts k 6).2.2.2 (trl (sgl k))
set_option maxRecDepth 100000 in
theorem ck8_p0 : allN (fun i => ck8 (i + 0)) 90 = true := by decide +kernel
set_option maxRecDepth 100000 in
theorem ck8_p1 : allN (fun i => ck8 (i + 90)) 90 = true := by decide +kernel
set_option maxRecDepth 100000 in
theorem ck8_p2 : allN (fun i => ck8 (i + 180)) 90 = true := by decide +kernel
set_option maxRecDepth 100000 in
theorem ck8_p3 : allN (fun i => ck8 (i + 270)) 90 = true := by decide +kernel
set_option maxRecDepth 100000 in
theorem ck8_p4 : allN (fun i => ck8 (i + 360)) 90 = true := by decide +kernel
set_option maxRecDepth 100000 in
theorem ck8_p5 : allN (fun i => ck8 (i + 450)) 90 = true := by decide +kernel
set_option maxRecDepth 100000 in
theorem ck8_p6 : allN (fun i => ck8 (i + 540)) 90 = true := by decide +kernel
set_option maxRecDepth 100000 in
theorem ck8_p7 : allN (fun i => ck8 (i + 630)) 90 = true := by decide +kernel
theorem ck8_all : allN ck8 720 = true := (allN_add (p := ck8) (a := 630) (allN_add (p := ck8) (a := 540) (allN_add (p := ck8) (a := 450) (allN_add (p := ck8) (a := 360) (allN_add (p := ck8) (a := 270) (allN_add (p := ck8) (a := 180) (allN_add (p := ck8) (a := 90) ck8_p0 90 ck8_p1) 90 ck8_p2) 90 ck8_p3) 90 ck8_p4) 90 ck8_p5) 90 ck8_p6) 90 ck8_p7)
section MT
variable {w : Wd}
theorem am_isAt {k c : Nat} (hk : k < 720) (hc : c < 6) : A_X6_isAt 35 [.int (nI (tr k)), .int (nI c)] w (some (.int (nI (sg k c))), w) := by
  have e : (nI (tr k) >>> ((3 * nI c) &&& 31)) &&& 7 = nI (sg k c) := by
    have hl := tr_lt hk
    rw [show (3 : Int32) = nI 3 from rfl, pk_mul, n_shr (by omega) (by omega), n_and7 (Nat.lt_of_le_of_lt (Nat.div_le_self _ _) (by omega)), tr_at hk hc]
  rw [← e]
  exact ai_X6_isAt b_X6_isAt_0
theorem am_whereIs {k s : Nat} (hk : k < 720) (hs : s < 6) : A_X6_whereIs 35 [.int (nI (tr k)), .int (nI s)] w (some (.int (nI (pl k s))), w) := by
  have hp := pl_lt hk hs
  have loop : ∀ d c, c + d = pl k s → Z_X6_whereIs 35 2 [some (.int (nI (tr k))), some (.int (nI s)), some (.int (nI c))] [] w (some (.int (nI (pl k s))), w) := by
    intro d
    induction d with
    | zero =>
      intro c hc
      have hc : c = pl k s := by omega
      subst hc
      exact b_X6_whereIs_2 (am_isAt hk hp) (fun _ => b_X6_whereIs_17) (fun e => absurd (by rw [sg_pl hk hs]) e)
    | succ d ih =>
      intro c hc
      have hsg := sg_lt hk (show c < 6 by omega)
      refine b_X6_whereIs_2 (am_isAt hk (by omega)) (fun e => ?_) (fun _ => b_X6_whereIs_11 (by rw [nI_1]; exact ih (c + 1) (by omega)))
      have e2 : sg k c = s := neq e (by omega) (by omega)
      have := pl_sg hk (show c < 6 by omega)
      rw [e2] at this
      omega
  exact ai_X6_whereIs (b_X6_whereIs_0 (loop (pl k s) 0 (by omega)))
theorem xor_lt8 {a b : Nat} (ha : a < 6) (hb : b < 6) : a ^^^ b < 8 := Nat.xor_lt_two_pow (n := 3) (by omega) (by omega)
theorem am_mexchanged {k a b : Nat} (hk : k < 720) (ha : a < 6) (hb : b < 6) (hab : a ≠ b) : A_X6_exchanged 35 [.int (nI (tr k)), .int (nI a), .int (nI b)] w (some (.int (nI (tr (ex k a b)))), w) := by
  have hx := xor_lt8 (sg_lt hk ha) (sg_lt hk hb)
  have e : ∀ c, c < 6 → nI (sg k a ^^^ sg k b) <<< ((3 * nI c) &&& 31) = nI ((sg k a ^^^ sg k b) * 8 ^ c) := by
    intro c hc
    have hp : (2 : Nat) ^ (3 * c) ≤ 2 ^ 15 := Nat.pow_le_pow_right (by omega) (by omega)
    have hm : (sg k a ^^^ sg k b) * 2 ^ (3 * c) ≤ 8 * 2 ^ 15 := Nat.mul_le_mul (by omega) hp
    rw [show (3 : Int32) = nI 3 from rfl, pk_mul, n_shl (by omega) (by omega), Nat.pow_mul]
  have h := ai_X6_exchanged (b_X6_exchanged_0 (w := w) (am_isAt hk ha) (am_isAt hk hb))
  rw [n_xor, e a ha, e b hb, n_xor, n_xor, tr_ex hk ha hb hab] at h
  exact h
theorem am_sameRow {c d : Nat} (hc : c < 6) (hd : d < 6) : A_X6_sameRow 35 [.int (nI c), .int (nI d)] w (some (.int (bz (c / 3 == d / 3))), w) := by
  have e1 : nI c / 3 = nI (c / 3) := pk_div (d := 3) (by omega) (by omega) (by omega)
  have e2 : nI d / 3 = nI (d / 3) := pk_div (d := 3) (by omega) (by omega) (by omega)
  refine ai_X6_sameRow (b_X6_sameRow_0 (fun h => ?_) (fun h => ?_))
  · rw [e1, e2] at h
    have : (c / 3 == d / 3) = false := by simpa using fun e : c / 3 = d / 3 => h (by rw [e])
    rw [this]
    exact b_X6_sameRow_13 (b_X6_sameRow_14 (Or.inl rfl))
  · rw [e1, e2] at h
    have : (c / 3 == d / 3) = true := by simpa using neq h (by omega) (by omega)
    rw [this]
    exact b_X6_sameRow_9 (b_X6_sameRow_14 (Or.inr rfl))
theorem am_mareNext {c d : Nat} (hc : c < 6) (hd : d < 6) : A_X6_areNext 35 [.int (nI c), .int (nI d)] w (some (.int (bz (nx c d))), w) := by
  have hl := absd_lt c hc d hd
  rw [nx_absd c hc d hd]
  have go : Z_X6_areNext 35 14 [some (.int (nI c)), some (.int (nI d)), none] [.int (nI (absd c d))] w (some (.int (bz (absd c d == 3 || (absd c d == 1 && c / 3 == d / 3)))), w) := by
    refine b_X6_areNext_14 (fun h => ?_) (fun h => b_X6_areNext_20 (fun h1 => ?_) (fun h1 => b_X6_areNext_25 (am_sameRow hc hd) (fun h2 => ?_) (fun h2 => ?_)))
    · have h3 : absd c d = 3 := neq (b := 3) h (by omega) (by omega)
      rw [h3]
      exact b_X6_areNext_33 (b_X6_areNext_38 (Or.inr rfl))
    · have h3 : ¬ absd c d = 3 := fun e => h (by rw [e]; rfl)
      have h4 : ¬ absd c d = 1 := fun e => h1 (by rw [e]; rfl)
      have : (absd c d == 3 || (absd c d == 1 && c / 3 == d / 3)) = false := by simp [h3, h4]
      rw [this]
      exact b_X6_areNext_37 (b_X6_areNext_38 (Or.inl rfl))
    · have h4 : absd c d = 1 := neq (b := 1) h1 (by omega) (by omega)
      have : (absd c d == 3 || (absd c d == 1 && c / 3 == d / 3)) = false := by
        rw [bz_0.mp h2, h4]; rfl
      rw [this]
      exact b_X6_areNext_37 (b_X6_areNext_38 (Or.inl rfl))
    · have h4 : absd c d = 1 := neq (b := 1) h1 (by omega) (by omega)
      have h6 : (c / 3 == d / 3) = true := by
        cases e : (c / 3 == d / 3) with
        | true => rfl
        | false => exact absurd (bz_0.mpr e) h2
      have : (absd c d == 3 || (absd c d == 1 && c / 3 == d / 3)) = true := by rw [h6, h4]; rfl
      rw [this]
      exact b_X6_areNext_33 (b_X6_areNext_38 (Or.inr rfl))
  by_cases hcd : c ≤ d
  · have e : absd c d = d - c := by unfold absd; rw [if_pos hcd]
    rw [e, ← pk_sub hcd] at go
    rw [e]
    exact ai_X6_areNext (b_X6_areNext_0 (fun _ => b_X6_areNext_11 go) (fun h => absurd (nI_le hcd (by omega)) h))
  · have e : absd c d = c - d := by unfold absd; rw [if_neg hcd]
    rw [e, ← pk_sub (show d ≤ c by omega)] at go
    rw [e]
    exact ai_X6_areNext (b_X6_areNext_0 (fun h => absurd (nle h (by omega) (by omega)) hcd) (fun _ => b_X6_areNext_5 go))
theorem am_costBy {j y : Nat} (hj : j < 5) (hy : y < 2) : A_X6_costBy 35 [.int (nI j), .int (nI y)] w (some (.int (nI (prcK j y))), w) := by
  rcases (show j = 0 ∨ j = 1 ∨ j = 2 ∨ j = 3 ∨ j = 4 by omega) with rfl | rfl | rfl | rfl | rfl
  · rcases (show y = 0 ∨ y = 1 by omega) with rfl | rfl <;> exact ai_X6_costBy (b_X6_costBy_0_d (Or.inl (by decide)) b_X6_costBy_48)
  · rcases (show y = 0 ∨ y = 1 by omega) with rfl | rfl <;> exact ai_X6_costBy (b_X6_costBy_0_c1 rfl b_X6_costBy_32)
  · rcases (show y = 0 ∨ y = 1 by omega) with rfl | rfl <;> exact ai_X6_costBy (b_X6_costBy_0_c2 rfl b_X6_costBy_34)
  · rcases (show y = 0 ∨ y = 1 by omega) with rfl | rfl
    · exact ai_X6_costBy (b_X6_costBy_0_c3 rfl (b_X6_costBy_36 (fun e => absurd rfl e) (fun _ => b_X6_costBy_40 b_X6_costBy_45)))
    · exact ai_X6_costBy (b_X6_costBy_0_c3 rfl (b_X6_costBy_36 (fun _ => b_X6_costBy_44 b_X6_costBy_45) (fun e => absurd e (by decide))))
  · rcases (show y = 0 ∨ y = 1 by omega) with rfl | rfl <;> exact ai_X6_costBy (b_X6_costBy_0_c4 rfl b_X6_costBy_46)
def KM (w : Wd) (kn : Nat) : Prop := ∀ t, t < 5 → wA w 23 t = nI (kd kn t)
theorem KM.fr {T : List Nat} {w w' : Wd} {kn : Nat} (h : KM w kn) (f : Fr T w w') (n : 23 ∉ T) : KM w' kn := fun t ht => (congrFun (f.2.2.2 23 n) t).trans (h t ht)
theorem am_costIn {k t kn : Nat} (hK : KM w kn) (hk : k < 720) (ht : t < 5) : A_X6_costIn 35 [.ref 22, .int (nI (tr k)), .int (nI t)] w (some (.int (nI (prc kn k t))), w) := by
  have h5 := pl_lt hk (show 5 < 6 by omega)
  have h1 := pl_lt hk (show t < 6 by omega)
  have hgo : nx (pl k 5) (pl k t) = go k t := by unfold go; exact nx_comm _ h5 _ h1
  have hn := am_mareNext (w := w) h5 h1
  rw [hgo] at hn
  refine ai_X6_costIn (b_X6_costIn_0 (am_whereIs (s := 5) hk (by omega)) (am_whereIs hk (by omega)) hn (fun e => ?_) (fun e => ?_))
  · have hg := bz_0.mp e
    have : prc kn k t = 0 := by unfold prc; rw [hg]; rfl
    rw [this]
    exact b_X6_costIn_48 b_X6_costIn_49
  · have hg : go k t = true := by
      cases g : go k t with
      | true => rfl
      | false => exact absurd (bz_0.mpr g) e
    have hp : prc kn k t = prcK (kd kn t) (wy k t) := by unfold prc; rw [if_pos hg]
    rw [hp]
    refine b_X6_costIn_22 (vp_in_nI ht (by omega)) (am_sameRow h5 h1) (fun e2 => ?_) (fun e2 => ?_)
    · have h3 := bz_0.mp e2
      have hw : wy k t = 1 := by
        unfold wy
        rw [if_neg (fun q => by rw [q] at h3; simp at h3)]
      rw [nI_clamp (by omega), hK t ht, hw]
      exact b_X6_costIn_41 (b_X6_costIn_42 (am_costBy (y := 1) (kd_lt _ _) (by omega)) b_X6_costIn_49)
    · have h3 : pl k t / 3 = pl k 5 / 3 := by
        cases g : (pl k 5 / 3 == pl k t / 3) with
        | true => exact (by simpa using g : pl k 5 / 3 = pl k t / 3).symm
        | false => exact absurd (bz_0.mpr g) e2
      have hw : wy k t = 0 := by unfold wy; rw [if_pos h3]
      rw [nI_clamp (by omega), hK t ht, hw]
      exact b_X6_costIn_37 (b_X6_costIn_42 (am_costBy (y := 0) (kd_lt _ _) (by omega)) b_X6_costIn_49)
theorem am_mpushed {k t : Nat} (hk : k < 720) (ht : t < 5) : A_X6_pushed 35 [.int (nI (tr k)), .int (nI t)] w (some (.int (nI (tr (mv k t)))), w) := by
  have hne := pl_ne hk ht
  have e : mv k t = ex k (pl k 5) (pl k t) := by unfold mv; exact ex_comm hne
  rw [e]
  exact ai_X6_pushed (b_X6_pushed_0 (am_whereIs (s := 5) hk (by omega)) (am_whereIs hk (by omega)) (am_mexchanged hk (pl_lt hk (by omega)) (pl_lt hk (by omega)) (fun q => hne q.symm)))
-- sets as bits
def bb (p : Nat → Bool) : Nat → Nat
  | 0 => 0
  | n + 1 => bb p n ||| if p n = true then 2 ^ n else 0
theorem bb_lt (p : Nat → Bool) : ∀ n, bb p n < 2 ^ n
  | 0 => by simp [bb]
  | n + 1 => by
    have h1 := bb_lt p n
    have h2 : 2 ^ n < 2 ^ (n + 1) := Nat.pow_lt_pow_right (by omega) (by omega)
    unfold bb
    refine Nat.or_lt_two_pow (by omega) ?_
    split
    · exact h2
    · exact Nat.pow_pos (by omega)
theorem bb_bit (p : Nat → Bool) (i : Nat) : ∀ n, (bb p n).testBit i = (decide (i < n) && p i)
  | 0 => by simp [bb]
  | n + 1 => by
    unfold bb
    rw [Nat.testBit_or, bb_bit p i n]
    by_cases h : p n = true
    · rw [if_pos h, Nat.testBit_two_pow]
      by_cases e : i = n
      · subst e; simp [h]
      · have : (decide (n = i)) = false := by simp; omega
        rw [this]
        have : (decide (i < n + 1)) = decide (i < n) := by simp; omega
        rw [this]; simp
    · rw [if_neg h]
      by_cases e : i = n
      · subst e; simp [h]
      · have : (decide (i < n + 1)) = decide (i < n) := by simp; omega
        rw [this]; simp
theorem am_isIn {b i : Nat} (hb : b < 2 ^ 31) (hi : i < 32) : A_X6_isIn 35 [.int (nI b), .int (nI i)] w (some (.int (bz (b.testBit i))), w) := by
  have e : (nI b >>> (nI i &&& 31)) &&& 1 = nI (b / 2 ^ i % 2) := by rw [n_shr hb hi, n_and1 (Nat.lt_of_le_of_lt (Nat.div_le_self _ _) (by omega))]
  have ht : b.testBit i = decide (b / 2 ^ i % 2 = 1) := Nat.testBit_eq_decide_div_mod_eq
  have hm := Nat.mod_lt (b / 2 ^ i) (show 0 < 2 by omega)
  refine ai_X6_isIn (b_X6_isIn_0 (fun h => ?_) (fun h => ?_))
  · rw [e] at h
    have : b.testBit i = false := by
      rw [ht]; simp
      by_cases g : b / 2 ^ i % 2 = 1
      · exact absurd (by rw [g]; rfl) h
      · omega
    rw [this]
    exact b_X6_isIn_13 (b_X6_isIn_14 (Or.inl rfl))
  · rw [e] at h
    have : b.testBit i = true := by
      rw [ht]
      have := neq (b := 1) h (by omega) (by omega)
      simp [this]
    rw [this]
    exact b_X6_isIn_9 (b_X6_isIn_14 (Or.inr rfl))
def szN (b : Nat) : Nat → Nat
  | 0 => 0
  | n + 1 => szN b n + b / 2 ^ n % 2
theorem am_msize {b : Nat} (hb : b < 2 ^ 31) : A_X6_size 35 [.int (nI b)] w (some (.int (nI (szN b 6))), w) := by
  have loop : ∀ d n, n + d = 6 → Z_X6_size 35 4 [some (.int (nI b)), some (.int (nI (szN b n))), some (.int (nI n))] [] w (some (.int (nI (szN b 6))), w) := by
    intro d
    induction d with
    | zero =>
      intro n hn
      have hn : n = 6 := by omega
      subst hn
      exact b_X6_size_4 (fun _ => b_X6_size_24) (fun h => absurd (show (6 : Int32) ≤ nI 6 from nI_le (a := 6) (by omega) (by omega)) h)
    | succ d ih =>
      intro n hn
      refine b_X6_size_4 (fun h => absurd (nle (a := 6) h (by omega) (by omega)) (by omega)) (fun _ => b_X6_size_10 ?_)
      rw [n_shr hb (by omega), n_and1 (Nat.lt_of_le_of_lt (Nat.div_le_self _ _) (by omega)), nI_add, nI_1]
      exact ih (n + 1) (by omega)
  exact ai_X6_size (b_X6_size_0 (loop 6 0 rfl))
def mbp (kn k : Nat) : Nat → Bool := fun t => prc kn k t != 0
def mbN (kn k : Nat) : Nat := bb (mbp kn k) 5
theorem mbN_lt (kn k : Nat) : mbN kn k < 32 := bb_lt _ 5
theorem mbN_bit (kn k t : Nat) : (mbN kn k).testBit t = (decide (t < 5) && mbp kn k t) := bb_bit _ _ _
theorem szN_mb (kn k : Nat) : szN (mbN kn k) 6 = chc kn k 5 := by
  have hb : ∀ t, mbN kn k / 2 ^ t % 2 = if t < 5 ∧ prc kn k t ≠ 0 then 1 else 0 := by
    intro t
    have h1 := mbN_bit kn k t
    rw [Nat.testBit_eq_decide_div_mod_eq] at h1
    have hm := Nat.mod_lt (mbN kn k / 2 ^ t) (show 0 < 2 by omega)
    by_cases g : t < 5 ∧ prc kn k t ≠ 0
    · rw [if_pos g]
      have : (decide (t < 5) && mbp kn k t) = true := by simp [mbp, g.1, g.2]
      rw [this] at h1
      simpa using h1
    · rw [if_neg g]
      have : (decide (t < 5) && mbp kn k t) = false := by
        simp [mbp]
        intro h5
        by_cases e : prc kn k t = 0
        · exact e
        · exact absurd ⟨h5, e⟩ g
      rw [this] at h1
      have : ¬ mbN kn k / 2 ^ t % 2 = 1 := by simpa using h1
      omega
  simp only [szN, chc, hb]
  have key : ∀ t, t < 5 → (if t < 5 ∧ prc kn k t ≠ 0 then 1 else 0) = if prc kn k t = 0 then 0 else 1 := by
    intro t ht
    by_cases e : prc kn k t = 0
    · rw [if_neg (fun q => q.2 e), if_pos e]
    · rw [if_pos ⟨ht, e⟩, if_neg e]
  rw [key 0 (by omega), key 1 (by omega), key 2 (by omega), key 3 (by omega), key 4 (by omega)]
  simp
theorem am_mayBe {k kn : Nat} (hK : KM w kn) (hk : k < 720) : A_X6_mayBePushed 35 [.ref 22, .int (nI (tr k))] w (some (.int (nI (mbN kn k))), w) := by
  have loop : ∀ d n, n + d = 5 → Z_X6_mayBePushed 35 4 [some (.ref 22), some (.int (nI (tr k))), some (.int (nI (bb (mbp kn k) n))), some (.int (nI n))] [] w (some (.int (nI (mbN kn k))), w) := by
    intro d
    induction d with
    | zero =>
      intro n hn
      have hn : n = 5 := by omega
      subst hn
      exact b_X6_mayBePushed_4 (fun _ => b_X6_mayBePushed_34) (fun h => absurd (show (5 : Int32) ≤ nI 5 from nI_le (a := 5) (by omega) (by omega)) h)
    | succ d ih =>
      intro n hn
      have hle := prc_le kn k n
      refine b_X6_mayBePushed_4 (fun h => absurd (nle (a := 5) h (by omega) (by omega)) (by omega)) (fun _ => b_X6_mayBePushed_9 (am_costIn hK hk (by omega)) (fun h => ?_) (fun h => ?_))
      · have h0 : prc kn k n = 0 := by have := nle (b := 0) h (by omega) (by omega); omega
        have e : bb (mbp kn k) (n + 1) = bb (mbp kn k) n := by
          show bb (mbp kn k) n ||| (if mbp kn k n = true then 2 ^ n else 0) = _
          have : mbp kn k n = false := by simp [mbp, h0]
          rw [this]; simp
        refine b_X6_mayBePushed_25 (b_X6_mayBePushed_26 ?_)
        rw [show (0 : Int32) = nI 0 from rfl, n_or, nI_1, Nat.or_zero, ← e]
        exact ih (n + 1) (by omega)
      · have h0 : prc kn k n ≠ 0 := fun e => h (by rw [e]; decide)
        have e : bb (mbp kn k) (n + 1) = bb (mbp kn k) n ||| 2 ^ n := by
          show bb (mbp kn k) n ||| (if mbp kn k n = true then 2 ^ n else 0) = _
          have : mbp kn k n = true := by simp [mbp, h0]
          rw [this]; rfl
        refine b_X6_mayBePushed_19 (b_X6_mayBePushed_26 ?_)
        rw [one_shl (by omega), n_or, nI_1, ← e]
        exact ih (n + 1) (by omega)
  exact ai_X6_mayBePushed (b_X6_mayBePushed_0 (loop 5 0 rfl))
-- rankOf, trayOf
theorem rkH_lt (l : List Nat) : ∀ c, c ≤ 6 → rkH l c < 1000000
  | 0, _ => by simp [rkH]
  | 1, _ => by have := lsL_le l 0 5; simp [rkH]; omega
  | 2, _ => by have := lsL_le l 0 5; have := lsL_le l 1 4; simp [rkH]; omega
  | 3, _ => by have := lsL_le l 0 5; have := lsL_le l 1 4; have := lsL_le l 2 3; simp [rkH]; omega
  | 4, _ => by have := lsL_le l 0 5; have := lsL_le l 1 4; have := lsL_le l 2 3; have := lsL_le l 3 2; simp [rkH]; omega
  | 5, _ => by have := lsL_le l 0 5; have := lsL_le l 1 4; have := lsL_le l 2 3; have := lsL_le l 3 2; have := lsL_le l 4 1; simp [rkH]; omega
  | 6, _ => by have := lsL_le l 0 5; have := lsL_le l 1 4; have := lsL_le l 2 3; have := lsL_le l 3 2; have := lsL_le l 4 1; have := lsL_le l 5 0; simp [rkH]; omega
  | n + 7, h => by omega
theorem am_rankOf {k : Nat} (hk : k < 720) : A_X6_rankOf 35 [.int (nI (tr k))] w (some (.int (nI k)), w) := by
  have loop : ∀ d c, c + d = 6 → ∀ (l3 l4 : Option Value), Z_X6_rankOf 35 4 [some (.int (nI (tr k))), some (.int (nI (rkH (sgl k) c))), some (.int (nI c)), l3, l4] [] w (some (.int (nI k)), w) := by
    intro d
    induction d with
    | zero =>
      intro c hc l3 l4
      have hc : c = 6 := by omega
      subst hc
      rw [rkH_eq hk]
      exact b_X6_rankOf_4 (fun _ => b_X6_rankOf_67) (fun h => absurd (show (6 : Int32) ≤ nI 6 from nI_le (a := 6) (by omega) (by omega)) h)
    | succ d ih =>
      intro c hc l3 l4
      have inner : ∀ e j, j + e = 5 - c → Z_X6_rankOf 35 17 [some (.int (nI (tr k))), some (.int (nI (rkH (sgl k) c))), some (.int (nI c)), some (.int (nI (lsL (sgl k) c j))), some (.int (nI (c + 1 + j)))] [] w (some (.int (nI k)), w) := by
        intro e
        induction e with
        | zero =>
          intro j hj
          have e6 : c + 1 + j = 6 := by omega
          rw [e6]
          refine b_X6_rankOf_17 (fun _ => b_X6_rankOf_52 ?_) (fun h => absurd (show (6 : Int32) ≤ nI 6 from nI_le (a := 6) (by omega) (by omega)) h)
          have ej : j = 5 - c := by omega
          rw [show (6 : Int32) = nI 6 from rfl, pk_sub (show c ≤ 6 by omega), pk_mul, nI_add, nI_1, ej]
          exact ih (c + 1) (by omega) _ _
        | succ e ih2 =>
          intro j hj
          have s1 := sg_lt hk (show c + 1 + j < 6 by omega)
          have s2 := sg_lt hk (show c < 6 by omega)
          refine b_X6_rankOf_17 (fun h => absurd (nle (a := 6) h (by omega) (by omega)) (by omega)) (fun _ => b_X6_rankOf_24 (am_isAt hk (by omega)) (am_isAt hk (by omega)) (fun h => ?_) (fun h => ?_))
          · have h2 := nle h (by omega) (by omega)
            have e1 : lsL (sgl k) c (j + 1) = lsL (sgl k) c j := by
              show lsL (sgl k) c j + (bif Nat.blt (sg k (c + 1 + j)) (sg k c) then 1 else 0) = _
              have : Nat.blt (sg k (c + 1 + j)) (sg k c) = false := by
                cases g : Nat.blt (sg k (c + 1 + j)) (sg k c) with
                | false => rfl
                | true => have := Nat.le_of_ble_eq_true g; omega
              rw [this]; rfl
            refine b_X6_rankOf_43 (b_X6_rankOf_44 ?_)
            rw [show (0 : Int32) = nI 0 from rfl, nI_add, Nat.add_zero, nI_1, ← e1]
            exact ih2 (j + 1) (by omega)
          · have h2 : sg k (c + 1 + j) < sg k c := Nat.lt_of_not_le (fun q => h (nI_le q (by omega)))
            have e1 : lsL (sgl k) c (j + 1) = lsL (sgl k) c j + 1 := by
              show lsL (sgl k) c j + (bif Nat.blt (sg k (c + 1 + j)) (sg k c) then 1 else 0) = _
              have : Nat.blt (sg k (c + 1 + j)) (sg k c) = true := Nat.ble_eq_true_of_le h2
              rw [this]; rfl
            refine b_X6_rankOf_39 (b_X6_rankOf_44 ?_)
            rw [nI_1, nI_1, ← e1]
            exact ih2 (j + 1) (by omega)
      refine b_X6_rankOf_4 (fun h => absurd (nle (a := 6) h (by omega) (by omega)) (by omega)) (fun _ => b_X6_rankOf_10 ?_)
      rw [nI_1]
      exact inner (5 - c) 0 (by omega)
  exact ai_X6_rankOf (b_X6_rankOf_0 (loop 6 0 rfl none none))
theorem fnd_run {x0 x1 x2 x4 : Int32} {c used : Nat} (hu : used < 64) {res : Option Value × Wd} : ∀ f which s, s + f = 6 → which < 1000 → fnd used f which s < 6 →
    (∀ v, Z_X6_trayOf 35 80 [some (.int x0), some (.int x1), some (.int x2), some (.int (nI used)), some (.int x4), some (.int (nI c)), some (.int v), some (.int (nI (fnd used f which s)))] [] w res) →
    Z_X6_trayOf 35 41 [some (.int x0), some (.int x1), some (.int x2), some (.int (nI used)), some (.int x4), some (.int (nI c)), some (.int (nI which)), some (.int (nI s))] [] w res := by
  intro f
  induction f with
  | zero =>
    intro which s hs hw hlt k
    have : fnd used 0 which s = s := rfl
    omega
  | succ f ih =>
    intro which s hs hw hlt k
    have ht : used.testBit s = decide (used / 2 ^ s % 2 = 1) := Nat.testBit_eq_decide_div_mod_eq
    have hi := am_isIn (w := w) (b := used) (i := s) (by omega) (by omega)
    by_cases hb : used / 2 ^ s % 2 = 1
    · have hb2 : used.testBit s = true := by rw [ht]; simp [hb]
      rw [hb2] at hi
      have e : fnd used (f + 1) which s = fnd used f which (s + 1) := by
        show (bif Nat.beq (used / 2 ^ s % 2) 1 then fnd used f which (s + 1) else _) = _
        rw [hb]; rfl
      rw [e] at hlt k
      refine b_X6_trayOf_41 hi (fun _ => b_X6_trayOf_55 hi (fun e => absurd e b1) (fun _ => b_X6_trayOf_66 (b_X6_trayOf_71 ?_))) (fun e => absurd e b1)
      rw [show (0 : Int32) = nI 0 from rfl, pk_sub (Nat.zero_le _), Nat.sub_zero, nI_1]
      exact ih which (s + 1) (by omega) hw hlt k
    · have hb2 : used.testBit s = false := by rw [ht]; simp [hb]
      rw [hb2] at hi
      by_cases h0 : which = 0
      · have e : fnd used (f + 1) which s = s := by
          show (bif Nat.beq (used / 2 ^ s % 2) 1 then fnd used f which (s + 1) else bif Nat.beq which 0 then s else _) = _
          rw [nbf hb, h0]; rfl
        rw [e] at k
        subst h0
        exact b_X6_trayOf_41 hi (fun e => absurd rfl e) (fun _ => b_X6_trayOf_50 (fun _ => k _) (fun e => absurd (by decide) e))
      · have e : fnd used (f + 1) which s = fnd used f (which - 1) (s + 1) := by
          show (bif Nat.beq (used / 2 ^ s % 2) 1 then fnd used f which (s + 1) else bif Nat.beq which 0 then s else fnd used f (which - 1) (s + 1)) = _
          rw [nbf hb, nbf h0]; rfl
        rw [e] at hlt k
        refine b_X6_trayOf_41 hi (fun e => absurd rfl e) (fun _ => b_X6_trayOf_50 (fun e => absurd e (nI_nle (by omega) (by omega))) (fun _ => b_X6_trayOf_55 hi (fun _ => b_X6_trayOf_70 (b_X6_trayOf_71 ?_)) (fun e => absurd rfl e)))
        rw [show (1 : Int32) = nI 1 from rfl, pk_sub (show 1 ≤ which by omega), nI_add]
        exact ih (which - 1) (s + 1) (by omega) (by omega) hlt k
theorem am_trayOf {k : Nat} (hk : k < 720) : A_X6_trayOf 35 [.int (nI k)] w (some (.int (nI (tr k))), w) := by
  have hck := allN_spec ck8_all k hk
  unfold ck8 at hck
  rw [Bool.and_eq_true] at hck
  have hend : (ts k 6).2.2.2 = tr k := Nat.eq_of_beq_eq_true hck.2
  have loop : ∀ d c, c + d = 6 → ∀ (l6 l7 : Option Value), Z_X6_trayOf 35 14 [some (.int (nI k)), some (.int (nI (ts k c).1)), some (.int (nI (ts k c).2.1)), some (.int (nI (ts k c).2.2.1)), some (.int (nI (ts k c).2.2.2)), some (.int (nI c)), l6, l7] [] w (some (.int (nI (tr k))), w) := by
    intro d
    induction d with
    | zero =>
      intro c hc l6 l7
      have hc : c = 6 := by omega
      subst hc
      rw [hend]
      exact b_X6_trayOf_14 (fun _ => b_X6_trayOf_105) (fun h => absurd (show (6 : Int32) ≤ nI 6 from nI_le (a := 6) (by omega) (by omega)) h)
    | succ d ih =>
      intro c hc l6 l7
      have h := allN_spec hck.1 c (by omega)
      simp only [Bool.and_eq_true] at h
      obtain ⟨⟨⟨⟨⟨h1, h2⟩, h3⟩, h4⟩, h5⟩, h6⟩ := h
      have h1 := Nat.le_of_ble_eq_true h1
      have h2 := Nat.le_of_ble_eq_true h2
      have h3 := Nat.le_of_ble_eq_true h3
      have h4 := Nat.le_of_ble_eq_true h4
      have h5 := Nat.le_of_ble_eq_true h5
      have h6 := Nat.le_of_ble_eq_true h6
      have hn := ih (c + 1) (by omega)
      have e : ts k (c + 1) = ((ts k c).1 / (6 - c), (ts k c).2.1 % ((ts k c).1 / (6 - c)), (ts k c).2.2.1 ||| 2 ^ fnd (ts k c).2.2.1 6 ((ts k c).2.1 / ((ts k c).1 / (6 - c))) 0, (ts k c).2.2.2 ||| (fnd (ts k c).2.2.1 6 ((ts k c).2.1 / ((ts k c).1 / (6 - c))) 0 * 8 ^ c)) := rfl
      rw [e] at hn
      generalize ts k c = q at h1 h2 h3 h4 h5 h6 hn
      obtain ⟨pa, le, us, ty⟩ := q
      dsimp only at h1 h2 h3 h4 h5 h6 hn
      have e1 : (6 : Int32) - nI c = nI (6 - c) := by rw [show (6 : Int32) = nI 6 from rfl, pk_sub (by omega)]
      have hpl : pa / (6 - c) ≤ pa := Nat.div_le_self _ _
      have e2 : nI pa / nI (6 - c) = nI (pa / (6 - c)) := pk_div (by omega) (by omega) (by omega)
      generalize pa / (6 - c) = p at h1 h6 hn hpl e2
      have e3 : nI le / nI p = nI (le / p) := pk_div (by omega) h1 (by omega)
      have e4 : nI le - nI le / nI p * nI p = nI (le % p) := pk_rem (by omega) h1 (by omega)
      have hdl : le / p ≤ le := Nat.div_le_self _ _
      refine b_X6_trayOf_14 (fun h => absurd (nle (a := 6) h (by omega) (by omega)) (by omega)) (fun _ => b_X6_trayOf_21 (by rw [e1]; exact nI_ne0 (by omega) (by omega)) (by rw [e1, e2]; exact nI_ne0 h1 (by omega)) (by rw [e1, e2]; exact nI_ne0 h1 (by omega)) ?_)
      rw [e1, e2, e4, e3]
      refine fnd_run (w := w) (used := us) (by omega) 6 (le / p) 0 rfl (by omega) h6 (fun v => b_X6_trayOf_80 ?_)
      generalize fnd us 6 (le / p) 0 = s at h6 hn
      have hp8 : s * 2 ^ (3 * c) ≤ 5 * 2 ^ 15 := Nat.mul_le_mul (by omega) (Nat.pow_le_pow_right (by omega) (by omega))
      rw [one_shl h6, show (3 : Int32) = nI 3 from rfl, pk_mul, n_shl (by omega) (by omega), n_or, n_or, nI_1, Nat.pow_mul]
      exact hn _ _
  exact ai_X6_trayOf (b_X6_trayOf_0 (loop 6 0 rfl none none))
end MT
