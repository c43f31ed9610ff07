-- ===== the lays, by number =====
def sgGo : List Nat → Nat → List Nat → List Nat
  | _, _, [] => []
  | l, r, f :: fs => l.getD (r / f) 5 :: sgGo (l.eraseIdx (r / f)) (r % f) fs
def sgl (k : Nat) : List Nat := sgGo [0, 1, 2, 3, 4, 5] k [120, 24, 6, 2, 1, 1]
def sg (k c : Nat) : Nat := (sgl k).getD c 5
def ixOf (s : Nat) : List Nat → Nat
  | [] => 0
  | x :: xs => bif Nat.beq x s then 0 else ixOf s xs + 1
def pl (k s : Nat) : Nat := ixOf s (sgl k)
def lessIn (x : Nat) : List Nat → Nat
  | [] => 0
  | z :: zs => bif Nat.blt z x then lessIn x zs + 1 else lessIn x zs
def rkGo : List Nat → List Nat → Nat
  | x :: xs, f :: fs => lessIn x xs * f + rkGo xs fs
  | _, _ => 0
def rkl (l : List Nat) : Nat := rkGo l [120, 24, 6, 2, 1, 1]
def swp (l : List Nat) (a b : Nat) : List Nat := (l.set a (l.getD b 5)).set b (l.getD a 5)
def ex (k a b : Nat) : Nat := rkl (swp (sgl k) a b)
def beqL : List Nat → List Nat → Bool
  | [], [] => true
  | x :: xs, y :: ys => Nat.beq x y && beqL xs ys
  | _, _ => false
theorem beqL_eq : ∀ {a b : List Nat}, beqL a b = true → a = b
  | [], [], _ => rfl
  | x :: xs, y :: ys, h => by
    simp only [beqL, Bool.and_eq_true] at h
    rw [Nat.eq_of_beq_eq_true h.1, beqL_eq h.2]
  | [], _ :: _, h => by simp [beqL] at h
  | _ :: _, [], h => by simp [beqL] at h
def allN (p : Nat → Bool) : Nat → Bool
  | 0 => true
  | n + 1 => p n && allN p n
theorem allN_spec {p : Nat → Bool} : ∀ {n : Nat}, allN p n = true → ∀ k, k < n → p k = true
  | n + 1, h, k, hk => by
    simp only [allN, Bool.and_eq_true] at h
    rcases Nat.lt_succ_iff_lt_or_eq.mp hk with h1 | rfl
    · exact allN_spec h.2 k h1
    · exact h.1
theorem allN_add {p : Nat → Bool} {a : Nat} (h : allN p a = true) : ∀ b, allN (fun i => p (i + a)) b = true → allN p (a + b) = true
  | 0, _ => h
  | b + 1, g => by
    simp only [allN, Bool.and_eq_true] at g
    show (p (a + b) && allN p (a + b)) = true
    rw [Bool.and_eq_true]
    exact ⟨by rw [Nat.add_comm a b]; exact g.1, allN_add h b g.2⟩
def prs : List (Nat × Nat) := [(0, 1), (0, 2), (0, 3), (0, 4), (0, 5), (1, 2), (1, 3), (1, 4), (1, 5), (2, 3), (2, 4), (2, 5), (3, 4), (3, 5), (4, 5)]
def ck1 (k : Nat) : Bool :=
  let l := sgl k
  Nat.beq l.length 6 && allN (fun c => Nat.blt (l.getD c 5) 6 && Nat.beq (ixOf (l.getD c 5) l) c && Nat.blt (ixOf c l) 6 && Nat.beq (l.getD (ixOf c l) 5) c) 6 && Nat.beq (rkl l) k
def ck2 (k : Nat) : Bool :=
  let l := sgl k
  prs.all (fun q => let m := swp l q.1 q.2; let j := rkl m; Nat.blt j 720 && beqL (sgl j) m)
set_option maxRecDepth 100000 in
theorem ck1_p0 : allN (fun i => ck1 (i + 0)) 90 = true := by decide +kernel
set_option maxRecDepth 100000 in
theorem ck1_p1 : allN (fun i => ck1 (i + 90)) 90 = true := by decide +kernel
set_option maxRecDepth 100000 in
theorem ck1_p2 : allN (fun i => ck1 (i + 180)) 90 = true := by decide +kernel
set_option maxRecDepth 100000 in
theorem ck1_p3 : allN (fun i => ck1 (i + 270)) 90 = true := by decide +kernel
set_option maxRecDepth 100000 in
theorem ck1_p4 : allN (fun i => ck1 (i + 360)) 90 = true := by decide +kernel
set_option maxRecDepth 100000 in
theorem ck1_p5 : allN (fun i => ck1 (i + 450)) 90 = true := by decide +kernel
set_option maxRecDepth 100000 in
theorem ck1_p6 : allN (fun i => ck1 (i + 540)) 90 = true := by decide +kernel
set_option maxRecDepth 100000 in
theorem ck1_p7 : allN (fun i => ck1 (i + 630)) 90 = true := by decide +kernel
theorem ck1_all : allN ck1 720 = true := (allN_add (p := ck1) (a := 630) (allN_add (p := ck1) (a := 540) (allN_add (p := ck1) (a := 450) (allN_add (p := ck1) (a := 360) (allN_add (p := ck1) (a := 270) (allN_add (p := ck1) (a := 180) (allN_add (p := ck1) (a := 90) ck1_p0 90 ck1_p1) 90 ck1_p2) 90 ck1_p3) 90 ck1_p4) 90 ck1_p5) 90 ck1_p6) 90 ck1_p7)
set_option maxRecDepth 100000 in
theorem ck2_p0 : allN (fun i => ck2 (i + 0)) 90 = true := by decide +kernel
set_option maxRecDepth 100000 in
theorem ck2_p1 : allN (fun i => ck2 (i + 90)) 90 = true := by decide +kernel
set_option maxRecDepth 100000 in
theorem ck2_p2 : allN (fun i => ck2 (i + 180)) 90 = true := by decide +kernel
set_option maxRecDepth 100000 in
theorem ck2_p3 : allN (fun i => ck2 (i + 270)) 90 = true := by decide +kernel
set_option maxRecDepth 100000 in
theorem ck2_p4 : allN (fun i => ck2 (i + 360)) 90 = true := by decide +kernel
set_option maxRecDepth 100000 in
theorem ck2_p5 : allN (fun i => ck2 (i + 450)) 90 = true := by decide +kernel
set_option maxRecDepth 100000 in
theorem ck2_p6 : allN (fun i => ck2 (i + 540)) 90 = true := by decide +kernel
set_option maxRecDepth 100000 in
theorem ck2_p7 : allN (fun i => ck2 (i + 630)) 90 = true := by decide +kernel
theorem ck2_all : allN ck2 720 = true := (allN_add (p := ck2) (a := 630) (allN_add (p := ck2) (a := 540) (allN_add (p := ck2) (a := 450) (allN_add (p := ck2) (a := 360) (allN_add (p := ck2) (a := 270) (allN_add (p := ck2) (a := 180) (allN_add (p := ck2) (a := 90) ck2_p0 90 ck2_p1) 90 ck2_p2) 90 ck2_p3) 90 ck2_p4) 90 ck2_p5) 90 ck2_p6) 90 ck2_p7)
theorem ck1_at {k : Nat} (hk : k < 720) : (sgl k).length = 6 ∧ (∀ c, c < 6 → sg k c < 6 ∧ pl k (sg k c) = c ∧ pl k c < 6 ∧ sg k (pl k c) = c) ∧ rkl (sgl k) = k := by
  have h := allN_spec ck1_all k hk
  simp only [ck1, Bool.and_eq_true] at h
  refine ⟨Nat.eq_of_beq_eq_true h.1.1, fun c hc => ?_, Nat.eq_of_beq_eq_true h.2⟩
  have h2 := allN_spec h.1.2 c hc
  simp only [Bool.and_eq_true] at h2
  exact ⟨Nat.le_of_ble_eq_true h2.1.1.1, Nat.eq_of_beq_eq_true h2.1.1.2, Nat.le_of_ble_eq_true h2.1.2, Nat.eq_of_beq_eq_true h2.2⟩
theorem sg_lt {k c : Nat} (hk : k < 720) (hc : c < 6) : sg k c < 6 := ((ck1_at hk).2.1 c hc).1
theorem pl_lt {k s : Nat} (hk : k < 720) (hs : s < 6) : pl k s < 6 := ((ck1_at hk).2.1 s hs).2.2.1
theorem pl_sg {k c : Nat} (hk : k < 720) (hc : c < 6) : pl k (sg k c) = c := ((ck1_at hk).2.1 c hc).2.1
theorem sg_pl {k s : Nat} (hk : k < 720) (hs : s < 6) : sg k (pl k s) = s := ((ck1_at hk).2.1 s hs).2.2.2
theorem rk_sgl {k : Nat} (hk : k < 720) : rkl (sgl k) = k := (ck1_at hk).2.2
theorem swp_comm {l : List Nat} {a b : Nat} (h : a ≠ b) : swp l a b = swp l b a := by
  unfold swp
  exact List.set_comm _ _ h
theorem ex_comm {k a b : Nat} (h : a ≠ b) : ex k a b = ex k b a := by unfold ex; rw [swp_comm h]
theorem prs_mem {a b : Nat} (hb : b < 6) (hab : a < b) : (a, b) ∈ prs := by
  have h : ∀ b, b < 6 → ∀ a, a < b → (a, b) ∈ prs := by decide
  exact h b hb a hab
theorem ex_ok {k a b : Nat} (hk : k < 720) (ha : a < 6) (hb : b < 6) (hab : a ≠ b) : ex k a b < 720 ∧ sgl (ex k a b) = swp (sgl k) a b := by
  have key : ∀ a b, b < 6 → a < b → ex k a b < 720 ∧ sgl (ex k a b) = swp (sgl k) a b := by
    intro a b hb hab
    have h := List.all_eq_true.mp (allN_spec ck2_all k hk) (a, b) (prs_mem hb hab)
    simp only [Bool.and_eq_true] at h
    exact ⟨Nat.le_of_ble_eq_true h.1, beqL_eq h.2⟩
  rcases Nat.lt_or_gt_of_ne hab with h | h
  · exact key a b hb h
  · rw [ex_comm hab, swp_comm hab]
    exact key b a ha h
theorem ex_lt {k a b : Nat} (hk : k < 720) (ha : a < 6) (hb : b < 6) (hab : a ≠ b) : ex k a b < 720 := (ex_ok hk ha hb hab).1
theorem sg_ex {k a b c : Nat} (hk : k < 720) (ha : a < 6) (hb : b < 6) (hab : a ≠ b) : sg (ex k a b) c = sg k (if c = a then b else if c = b then a else c) := by
  have hl := (ck1_at hk).1
  unfold sg
  rw [(ex_ok hk ha hb hab).2]
  unfold swp
  simp only [List.getD_eq_getElem?_getD]
  by_cases h1 : c = b
  · subst h1
    rw [List.getElem?_set_self (by simp [hl]; omega)]
    have : ¬ c = a := fun e => hab e.symm
    simp [this]
  · rw [List.getElem?_set_ne (Ne.symm h1)]
    by_cases h2 : c = a
    · subst h2
      rw [List.getElem?_set_self (by omega)]
      simp
    · rw [List.getElem?_set_ne (Ne.symm h2)]
      simp [h1, h2]
/-- two lays with the same signs are one -/
theorem lay_ext {j k : Nat} (hj : j < 720) (hk : k < 720) (h : ∀ c, c < 6 → sg j c = sg k c) : j = k := by
  have h1 := (ck1_at hj).1
  have h2 := (ck1_at hk).1
  have e : sgl j = sgl k := by
    apply List.ext_getElem?
    intro i
    by_cases hi : i < 6
    · have := h i hi
      unfold sg at this
      simp only [List.getD_eq_getElem?_getD] at this
      rw [List.getElem?_eq_getElem (by omega), List.getElem?_eq_getElem (by omega)] at this ⊢
      simpa using this
    · rw [List.getElem?_eq_none (by omega), List.getElem?_eq_none (by omega)]
  rw [← rk_sgl hj, ← rk_sgl hk, e]
def nx (c d : Nat) : Bool := c + 3 == d || d + 3 == c || ((c + 1 == d || d + 1 == c) && c / 3 == d / 3)
/-- a tile may go (its kind aside) -/
def go (k t : Nat) : Bool := nx (pl k t) (pl k 5)
def mv (k t : Nat) : Nat := ex k (pl k t) (pl k 5)
def wy (k t : Nat) : Nat := if pl k t / 3 = pl k 5 / 3 then 0 else 1
