-- ===== chances as parts: the reference's way, and the class's =====
def gv (f : Nat → Nat) (q x : Nat) : Nat → Nat := uN f q (f q + x)
def shT (kn k y : Nat) : Nat → (Nat → Nat) → (Nat → Nat)
  | 0, f => f
  | t + 1, f => if prc kn k t = 0 then shT kn k y t f else gv (shT kn k y t f) (mv k t) y
def shR (kn k x : Nat) (f : Nat → Nat) : Nat → Nat := if chc kn k 5 = 0 then gv f k (6 * x) else shT kn k (6 / chc kn k 5 * x) 5 f
def shC (kn k x : Nat) (f : Nat → Nat) : Nat → Nat := if chc kn k 5 = 0 then gv f k x else shT kn k (x / chc kn k 5) 5 f
def stR (kn : Nat) (p : Nat → Nat) : Nat → (Nat → Nat)
  | 0 => fun _ => 0
  | i + 1 => if p i = 0 then stR kn p i else shR kn i (p i) (stR kn p i)
def stC (kn : Nat) (p : Nat → Nat) : Nat → (Nat → Nat)
  | 0 => fun _ => 0
  | i + 1 => if p i = 0 then stC kn p i else shC kn i (p i) (stC kn p i)
def rp (kn k0 : Nat) : Nat → (Nat → Nat)
  | 0 => uN (fun _ => 0) k0 1
  | m + 1 => stR kn (rp kn k0 m) 720
def cp (kn k0 : Nat) : Nat → (Nat → Nat)
  | 0 => uN (fun _ => 0) k0 46656
  | m + 1 => stC kn (cp kn k0 m) 720
def ckG (k : Nat) : Bool := Nat.ble ((bif go k 0 then 1 else 0) + (bif go k 1 then 1 else 0) + (bif go k 2 then 1 else 0) + (bif go k 3 then 1 else 0) + (bif go k 4 then 1 else 0)) 3
set_option maxRecDepth 100000 in
theorem ckG_p0 : allN (fun i => ckG (i + 0)) 90 = true := by decide +kernel
set_option maxRecDepth 100000 in
theorem ckG_p1 : allN (fun i => ckG (i + 90)) 90 = true := by decide +kernel
set_option maxRecDepth 100000 in
theorem ckG_p2 : allN (fun i => ckG (i + 180)) 90 = true := by decide +kernel
set_option maxRecDepth 100000 in
theorem ckG_p3 : allN (fun i => ckG (i + 270)) 90 = true := by decide +kernel
set_option maxRecDepth 100000 in
theorem ckG_p4 : allN (fun i => ckG (i + 360)) 90 = true := by decide +kernel
set_option maxRecDepth 100000 in
theorem ckG_p5 : allN (fun i => ckG (i + 450)) 90 = true := by decide +kernel
set_option maxRecDepth 100000 in
theorem ckG_p6 : allN (fun i => ckG (i + 540)) 90 = true := by decide +kernel
set_option maxRecDepth 100000 in
theorem ckG_p7 : allN (fun i => ckG (i + 630)) 90 = true := by decide +kernel
theorem ckG_all : allN ckG 720 = true := (allN_add (p := ckG) (a := 630) (allN_add (p := ckG) (a := 540) (allN_add (p := ckG) (a := 450) (allN_add (p := ckG) (a := 360) (allN_add (p := ckG) (a := 270) (allN_add (p := ckG) (a := 180) (allN_add (p := ckG) (a := 90) ckG_p0 90 ckG_p1) 90 ckG_p2) 90 ckG_p3) 90 ckG_p4) 90 ckG_p5) 90 ckG_p6) 90 ckG_p7)
theorem chc_3 {kn k : Nat} (hk : k < 720) : chc kn k 5 ≤ 3 := by
  have h := Nat.le_of_ble_eq_true (allN_spec ckG_all k hk)
  have key : ∀ t, (if prc kn k t = 0 then 0 else 1) ≤ (bif go k t then 1 else 0) := by
    intro t
    by_cases hg : go k t = true
    · rw [hg]; split <;> simp
    · have : prc kn k t = 0 := by unfold prc; rw [if_neg hg]
      rw [if_pos this]; omega
  have k0 := key 0
  have k1 := key 1
  have k2 := key 2
  have k3 := key 3
  have k4 := key 4
  simp only [chc]
  omega
def scl (c : Nat) (f : Nat → Nat) : Nat → Nat := fun q => c * f q
theorem gv_scl (c : Nat) (f : Nat → Nat) (q x : Nat) : gv (scl c f) q (c * x) = scl c (gv f q x) := by
  funext r
  by_cases h : r = q
  · subst h; simp [gv, scl, uN, Nat.mul_add]
  · simp [gv, scl, uN, h]
theorem shT_scl (kn k c y : Nat) (f : Nat → Nat) : ∀ t, shT kn k (c * y) t (scl c f) = scl c (shT kn k y t f)
  | 0 => rfl
  | t + 1 => by
    unfold shT
    split
    · exact shT_scl kn k c y f t
    · rw [shT_scl kn k c y f t, gv_scl]
theorem shC_scl {kn k c x : Nat} (hk : k < 720) (f : Nat → Nat) : shC kn k (c * 6 * x) (scl c f) = scl c (shR kn k x f) := by
  have h3 := chc_3 (kn := kn) hk
  unfold shC shR
  by_cases h0 : chc kn k 5 = 0
  · rw [if_pos h0, if_pos h0, Nat.mul_assoc, gv_scl]
  · rw [if_neg h0, if_neg h0]
    have e : c * 6 * x / chc kn k 5 = c * (6 / chc kn k 5 * x) := by
      rcases (show chc kn k 5 = 1 ∨ chc kn k 5 = 2 ∨ chc kn k 5 = 3 by omega) with h | h | h <;> rw [h]
      · simp [Nat.mul_assoc]
      · rw [show c * 6 * x = (c * (3 * x)) * 2 by rw [Nat.mul_comm c 6, Nat.mul_assoc 6, Nat.mul_left_comm c 3 x]; omega, Nat.mul_div_cancel _ (by omega)]
      · rw [show c * 6 * x = (c * (2 * x)) * 3 by rw [Nat.mul_comm c 6, Nat.mul_assoc 6, Nat.mul_left_comm c 2 x]; omega, Nat.mul_div_cancel _ (by omega)]
    rw [e, shT_scl]
theorem stC_scl {kn c : Nat} (hc : 0 < c) (p : Nat → Nat) : ∀ i, i ≤ 720 → stC kn (scl (c * 6) p) i = scl c (stR kn p i)
  | 0, _ => by funext q; simp [stC, stR, scl]
  | i + 1, hi => by
    unfold stC stR
    have h0 : scl (c * 6) p i = 0 ↔ p i = 0 := by
      simp only [scl, Nat.mul_eq_zero]
      omega
    by_cases h : p i = 0
    · rw [if_pos h, if_pos (h0.mpr h)]
      exact stC_scl hc p i (by omega)
    · rw [if_neg h, if_neg (fun e => h (h0.mp e)), stC_scl hc p i (by omega)]
      exact shC_scl (by omega) _
theorem cp_rp (kn k0 : Nat) : ∀ m, m ≤ 6 → cp kn k0 m = scl (6 ^ (6 - m)) (rp kn k0 m)
  | 0, _ => by
    funext q
    by_cases h : q = k0
    · subst h; simp [cp, rp, scl, uN]
    · simp [cp, rp, scl, uN, h]
  | m + 1, hm => by
    have e : 6 ^ (6 - m) = 6 ^ (6 - (m + 1)) * 6 := by
      rw [show 6 - m = (6 - (m + 1)) + 1 by omega, Nat.pow_succ]
    show stC kn (cp kn k0 m) 720 = scl _ (stR kn (rp kn k0 m) 720)
    rw [cp_rp kn k0 m (by omega), e]
    exact stC_scl (Nat.pow_pos (by omega)) _ 720 (Nat.le_refl _)
def sumN (f : Nat → Nat) : Nat → Nat
  | 0 => 0
  | n + 1 => sumN f n + f n
theorem sumN_le (f : Nat → Nat) : ∀ {n q : Nat}, q < n → f q ≤ sumN f n
  | n + 1, q, h => by
    unfold sumN
    by_cases e : q = n
    · subst e; omega
    · have := sumN_le f (n := n) (q := q) (by omega); omega
theorem sumN_congr {f g : Nat → Nat} : ∀ {n : Nat}, (∀ q, q < n → f q = g q) → sumN f n = sumN g n
  | 0, _ => rfl
  | n + 1, h => by unfold sumN; rw [sumN_congr (fun q hq => h q (by omega)), h n (by omega)]
theorem sumN_gv (f : Nat → Nat) (q x : Nat) : ∀ {n : Nat}, q < n → sumN (gv f q x) n = sumN f n + x
  | n + 1, h => by
    unfold sumN
    by_cases e : q = n
    · subst e
      rw [sumN_congr (g := f) (fun r hr => by unfold gv; exact uN_n (by omega))]
      simp [gv, uN]; omega
    · rw [sumN_gv f q x (by omega)]
      have : gv f q x n = f n := by unfold gv; exact uN_n (fun z => e z.symm)
      omega
theorem sumN_shT {kn k y : Nat} (hk : k < 720) (f : Nat → Nat) : ∀ t, t ≤ 5 → sumN (shT kn k y t f) 720 = sumN f 720 + chc kn k t * y
  | 0, _ => by simp [shT, chc]
  | t + 1, ht => by
    unfold shT
    have ih := sumN_shT (kn := kn) (y := y) hk f t (by omega)
    by_cases h : prc kn k t = 0
    · rw [if_pos h, ih]; simp [chc, h]
    · rw [if_neg h, sumN_gv _ _ _ (mv_lt hk (by omega)), ih]
      simp [chc, h, Nat.add_mul]; omega
theorem sumN_shR {kn k x : Nat} (hk : k < 720) (f : Nat → Nat) : sumN (shR kn k x f) 720 = sumN f 720 + 6 * x := by
  have h3 := chc_3 (kn := kn) hk
  unfold shR
  by_cases h0 : chc kn k 5 = 0
  · rw [if_pos h0, sumN_gv _ _ _ hk]
  · rw [if_neg h0, sumN_shT hk _ 5 (Nat.le_refl _)]
    rcases (show chc kn k 5 = 1 ∨ chc kn k 5 = 2 ∨ chc kn k 5 = 3 by omega) with h | h | h <;> rw [h] <;> omega
theorem sumN_stR {kn : Nat} (p : Nat → Nat) : ∀ i, i ≤ 720 → sumN (stR kn p i) 720 = 6 * sumN p i
  | 0, _ => by
    have : ∀ n, sumN (fun _ => 0) n = 0 := by
      intro n
      induction n with
      | zero => rfl
      | succ n ih => simp [sumN, ih]
    exact this 720
  | i + 1, hi => by
    have ih := sumN_stR (kn := kn) p i (by omega)
    unfold stR
    by_cases h : p i = 0
    · rw [if_pos h, ih]; simp [sumN, h]
    · rw [if_neg h, sumN_shR (by omega), ih]; simp [sumN]; omega
theorem sumN_rp {kn k0 : Nat} (hk : k0 < 720) : ∀ m, sumN (rp kn k0 m) 720 = 6 ^ m
  | 0 => by
    have : ∀ n, sumN (uN (fun _ => 0) k0 1) n = if k0 < n then 1 else 0 := by
      intro n
      induction n with
      | zero => rfl
      | succ n ih =>
        unfold sumN
        rw [ih]
        by_cases e : n = k0
        · subst e; simp [uN]
        · have : uN (fun _ => 0) k0 1 n = 0 := uN_n e
          rw [this]
          by_cases g : k0 < n
          · rw [if_pos g, if_pos (by omega)]
          · rw [if_neg g, if_neg (by omega)]
    show sumN (uN (fun _ => 0) k0 1) 720 = 1
    rw [this, if_pos hk]
  | m + 1 => by
    show sumN (stR kn (rp kn k0 m) 720) 720 = _
    rw [sumN_stR _ 720 (Nat.le_refl _), sumN_rp hk m, Nat.pow_succ]; omega
theorem rp_le {kn k0 m q : Nat} (hk : k0 < 720) (hq : q < 720) : rp kn k0 m q ≤ 6 ^ m := by
  rw [← sumN_rp (kn := kn) hk m]
  exact sumN_le _ hq
theorem pow6 {m : Nat} (h : m ≤ 6) : 6 ^ (6 - m) * 6 ^ m = 46656 := by
  rw [← Nat.pow_add, show 6 - m + m = 6 by omega]
theorem cp_le {kn k0 m q : Nat} (hk : k0 < 720) (hm : m ≤ 6) (hq : q < 720) : cp kn k0 m q ≤ 46656 := by
  rw [cp_rp kn k0 m hm, ← pow6 hm]
  exact Nat.mul_le_mul_left _ (rp_le hk hq)
/-- the parts with a tile at a cell -/
def swp1 (p : Nat → Nat) (t x : Nat) : Nat → Nat
  | 0 => 0
  | i + 1 => swp1 p t x i + if pl i t = x then p i else 0
theorem swp1_scl (c : Nat) (p : Nat → Nat) (t x : Nat) : ∀ n, swp1 (scl c p) t x n = c * swp1 p t x n
  | 0 => by simp [swp1]
  | n + 1 => by
    unfold swp1
    rw [swp1_scl c p t x n]
    split
    · simp [scl, Nat.mul_add]
    · simp
theorem swp1_le (p : Nat → Nat) (t x : Nat) : ∀ n, swp1 p t x n ≤ sumN p n
  | 0 => Nat.le_refl _
  | n + 1 => by
    have := swp1_le p t x n
    unfold swp1 sumN
    split <;> omega
def oddsN (kn k m t x what : Nat) : Nat :=
  let a := swp1 (rp kn k m) t x 720
  let g := Nat.gcd a (6 ^ m)
  if what = 0 then a / g else 6 ^ m / g
theorem odds_cls {kn k m t x : Nat} (hk : k < 720) (hm : m ≤ 6) (what : Nat) :
    (if what = 0 then swp1 (cp kn k m) t x 720 else 46656) / Nat.gcd 46656 (swp1 (cp kn k m) t x 720) = oddsN kn k m t x what := by
  have hc : 0 < 6 ^ (6 - m) := Nat.pow_pos (by omega)
  rw [cp_rp kn k m hm, swp1_scl, ← pow6 hm, Nat.gcd_mul_left]
  unfold oddsN
  rw [Nat.gcd_comm (6 ^ m)]
  by_cases h : what = 0
  · rw [if_pos h, if_pos h, Nat.mul_div_mul_left _ _ hc]
  · rw [if_neg h, if_neg h, Nat.mul_div_mul_left _ _ hc]
