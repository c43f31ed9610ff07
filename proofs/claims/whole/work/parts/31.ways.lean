-- ===== a push back; the way to the goal =====
theorem nx_comm : ∀ c, c < 6 → ∀ d, d < 6 → nx c d = nx d c := by decide +kernel
theorem pl_of {k s c : Nat} (hk : k < 720) (hc : c < 6) (h : sg k c = s) : pl k s = c := by rw [← h]; exact pl_sg hk hc
theorem mv_pl {k t : Nat} (hk : k < 720) (ht : t < 5) : pl (mv k t) t = pl k 5 ∧ pl (mv k t) 5 = pl k t := by
  have hq := mv_lt hk ht
  have h1 := pl_lt hk (show t < 6 by omega)
  have h2 := pl_lt hk (show 5 < 6 by omega)
  have hne := pl_ne hk ht
  have e1 : sg (mv k t) (pl k 5) = t := by
    unfold mv
    rw [sg_ex hk h1 h2 hne, if_neg (fun e => hne e.symm), if_pos rfl, sg_pl hk (by omega)]
  have e2 : sg (mv k t) (pl k t) = 5 := by
    unfold mv
    rw [sg_ex hk h1 h2 hne, if_pos rfl, sg_pl hk (by omega)]
  exact ⟨pl_of hq h2 e1, pl_of hq h1 e2⟩
theorem mv_mv {k t : Nat} (hk : k < 720) (ht : t < 5) : mv (mv k t) t = k := by
  have hq := mv_lt hk ht
  have h1 := pl_lt hk (show t < 6 by omega)
  have h2 := pl_lt hk (show 5 < 6 by omega)
  have hne := pl_ne hk ht
  obtain ⟨e1, e2⟩ := mv_pl hk ht
  have hm : mv (mv k t) t = ex (mv k t) (pl k 5) (pl k t) := by
    show ex (mv k t) (pl (mv k t) t) (pl (mv k t) 5) = _
    rw [e1, e2]
  rw [hm]
  refine lay_ext (ex_lt hq h2 h1 (fun e => hne e.symm)) hk (fun c hc => ?_)
  rw [sg_ex hq h2 h1 (fun e => hne e.symm)]
  unfold mv
  rw [sg_ex hk h1 h2 hne]
  by_cases g1 : c = pl k 5
  · rw [if_pos g1, if_pos rfl, g1]
  · rw [if_neg g1]
    by_cases g2 : c = pl k t
    · rw [if_pos g2, if_neg (fun e => hne e.symm), if_pos rfl, g2]
    · rw [if_neg g2, if_neg g2, if_neg g1]
theorem prc_mv {kn k t : Nat} (hk : k < 720) (ht : t < 5) : prc kn (mv k t) t = prc kn k t := by
  obtain ⟨e1, e2⟩ := mv_pl hk ht
  have h1 := pl_lt hk (show t < 6 by omega)
  have h2 := pl_lt hk (show 5 < 6 by omega)
  have eg : go (mv k t) t = go k t := by
    unfold go
    rw [e1, e2]
    exact nx_comm _ h2 _ h1
  have ew : wy (mv k t) t = wy k t := by
    unfold wy
    rw [e1, e2]
    by_cases g : pl k t / 3 = pl k 5 / 3
    · rw [if_pos g, if_pos g.symm]
    · rw [if_neg g, if_neg (fun e => g e.symm)]
  unfold prc
  rw [eg, ew]
/-- the least tile on a cheapest way; 5: none -/
def ctF (c : Nat → Nat) (kn k : Nat) : Nat → Nat → Nat
  | 0, _ => 5
  | d + 1, t => if prc kn k t ≠ 0 ∧ c (mv k t) + prc kn k t = c k then t else ctF c kn k d (t + 1)
def ctN (c : Nat → Nat) (kn k : Nat) : Nat := ctF c kn k 5 0
theorem ctF_spec (c : Nat → Nat) (kn k : Nat) : ∀ d t, t + d = 5 → (ctF c kn k d t = 5 ∧ ∀ u, t ≤ u → u < 5 → ¬ (prc kn k u ≠ 0 ∧ c (mv k u) + prc kn k u = c k)) ∨ (ctF c kn k d t < 5 ∧ prc kn k (ctF c kn k d t) ≠ 0 ∧ c (mv k (ctF c kn k d t)) + prc kn k (ctF c kn k d t) = c k)
  | 0, t, ht => Or.inl ⟨rfl, fun u h1 h2 => by omega⟩
  | d + 1, t, ht => by
    unfold ctF
    by_cases h : prc kn k t ≠ 0 ∧ c (mv k t) + prc kn k t = c k
    · rw [if_pos h]
      exact Or.inr ⟨by omega, h.1, h.2⟩
    · rw [if_neg h]
      rcases ctF_spec c kn k d (t + 1) (by omega) with ⟨a, b⟩ | a
      · refine Or.inl ⟨a, fun u h1 h2 => ?_⟩
        by_cases e : u = t
        · subst e; exact h
        · exact b u (by omega) h2
      · exact Or.inr a
theorem ctN_5 {c : Nat → Nat} {kn g k : Nat} (hD : IsDist kn g c) (hk : k < 720) (hf : c k ≠ FARN) : (ctN c kn k = 5 ↔ k = g) ∧ (k ≠ g → ctN c kn k < 5 ∧ prc kn k (ctN c kn k) ≠ 0 ∧ c (mv k (ctN c kn k)) + prc kn k (ctN c kn k) = c k) := by
  have h := ctF_spec c kn k 5 0 rfl
  have hg : k = g → ctN c kn k = 5 := by
    intro e
    rcases h with h | h
    · exact h.1
    · exfalso
      have h0 : c k = 0 := by rw [e]; exact hD.1
      have := h.2.2
      have := h.2.1
      omega
  have hn : k ≠ g → ctN c kn k < 5 ∧ prc kn k (ctN c kn k) ≠ 0 ∧ c (mv k (ctN c kn k)) + prc kn k (ctN c kn k) = c k := by
    intro e
    rcases h with h | h
    · exfalso
      rcases hD.2.2.2 k hk hf with h1 | ⟨p, t, b1, b2, b3, b4, b5, b6⟩
      · exact e h1.1
      · refine h.2 t (Nat.zero_le _) b2 ⟨?_, ?_⟩
        · rw [← b5, prc_mv b1 b2]; exact b4
        · rw [← b5, mv_mv b1 b2, prc_mv b1 b2, b5]; exact b6.symm
    · exact h
  refine ⟨⟨fun e => ?_, hg⟩, hn⟩
  by_cases g1 : k = g
  · exact g1
  · have := (hn g1).1; omega
/-- how many pushes, each time by the least tile of a cheapest way -/
def stpF (c : Nat → Nat) (kn g : Nat) : Nat → Nat → Nat
  | 0, _ => 0
  | f + 1, k => if k = g then 0 else stpF c kn g f (mv k (ctN c kn k)) + 1
theorem stpF_le {c : Nat → Nat} {kn g : Nat} (hD : IsDist kn g c) : ∀ f k, k < 720 → c k ≠ FARN → stpF c kn g f k ≤ cnt (fun q => decide (c q < c k)) 720
  | 0, k, _, _ => Nat.zero_le _
  | f + 1, k, hk, hf => by
    unfold stpF
    by_cases e : k = g
    · rw [if_pos e]; exact Nat.zero_le _
    · rw [if_neg e]
      obtain ⟨h1, h2, h3⟩ := (ctN_5 hD hk hf).2 e
      have hq := mv_lt hk h1
      have hqf := (hD.2.2.1 k hk hf _ h1 h2).1
      have ih := stpF_le hD f _ hq hqf
      have := cnt_lt (P := fun q => decide (c q < c (mv k (ctN c kn k)))) (Q := fun q => decide (c q < c k)) (m := 720) (fun q _ h => by simp only [decide_eq_true_eq] at h ⊢; omega) _ hq (by simp) (by simp only [decide_eq_true_eq]; omega)
      omega
theorem stpF_720 {c : Nat → Nat} {kn g k : Nat} (hD : IsDist kn g c) (f : Nat) (hk : k < 720) (hf : c k ≠ FARN) : stpF c kn g f k < 720 := by
  have h1 := stpF_le hD f k hk hf
  have h2 := cnt_lt (P := fun q => decide (c q < c k)) (Q := fun _ => true) (m := 720) (fun _ _ _ => rfl) k hk (by simp) rfl
  have h3 := cnt_le (fun _ => true) 720
  omega
theorem stpF_fuel {c : Nat → Nat} {kn g : Nat} (hD : IsDist kn g c) : ∀ f k, k < 720 → c k ≠ FARN → c k ≤ f → ∀ f2, c k ≤ f2 → stpF c kn g f k = stpF c kn g f2 k
  | 0, k, hk, hf, hle, f2, hle2 => by
    have hg : k = g := by
      by_cases e : k = g
      · exact e
      · obtain ⟨h1, h2, h3⟩ := (ctN_5 hD hk hf).2 e; omega
    cases f2 with
    | zero => rfl
    | succ f2 => simp [stpF, hg]
  | f + 1, k, hk, hf, hle, f2, hle2 => by
    by_cases e : k = g
    · cases f2 with
      | zero => simp [stpF, e]
      | succ f2 => simp [stpF, e]
    · obtain ⟨h1, h2, h3⟩ := (ctN_5 hD hk hf).2 e
      have hq := mv_lt hk h1
      have hqf := (hD.2.2.1 k hk hf _ h1 h2).1
      cases f2 with
      | zero => omega
      | succ f2 =>
        unfold stpF
        rw [if_neg e, if_neg e, stpF_fuel hD f _ hq hqf (by omega) f2 (by omega)]
section WA
variable {w : Wd}
theorem am_cheapestTile {kn g k : Nat} {c fd : Nat → Nat} {n mo : Nat} (hT : Tab w) (hkn : kn < 2 ^ 31) (hK : wI w 15 2 = nI kn) (hR : Fullg w kn g c fd n mo) (hk : k < 720) (hf : c k ≠ FARN) : A_X5_cheapestTile 35 [.ref 19, .int (nI k)] w (some (.int (sgnN (ctN c kn k))), w) := by
  have hb : ∀ q, q < 720 → c q ≠ FARN → c q < 2 ^ 30 := fun q hq h => by have := hR.2.1.2.1 q hq h; omega
  have loop : ∀ d t (l4 : Option Value), t + d = 5 → Z_X5_cheapestTile 35 18 [some (.ref 19), some (.int (nI k)), some (.int (nI (c k))), some (.int (nI t)), l4] [] w (some (.int (sgnN (ctF c kn k d t))), w) := by
    intro d
    induction d with
    | zero =>
      intro t l4 ht
      have ht : t = 5 := by omega
      subst ht
      exact b_X5_cheapestTile_18 (fun _ => b_X5_cheapestTile_78) (fun h => absurd (show (5 : Int32) ≤ nI 5 from nI_le (a := 5) (by omega) (by omega)) h)
    | succ d ih =>
      intro t l4 ht
      have hpr := am_price (k := k) (t := t) (kn := kn) hT.2.2.2 hk (by omega) hkn
      refine b_X5_cheapestTile_18 (fun h => absurd (nle (a := 5) h (by omega) (by omega)) (by omega)) (fun _ => ?_)
      have go1 : ∀ l4, ctF c kn k (d + 1) t = ctF c kn k d (t + 1) → Z_X5_cheapestTile 35 18 [some (.ref 19), some (.int (nI k)), some (.int (nI (c k))), some (.int (nI (t + 1))), l4] [] w (some (.int (sgnN (ctF c kn k (d + 1) t))), w) := by
        intro l4 he
        rw [he]
        exact ih (t + 1) l4 (by omega)
      refine b_X5_cheapestTile_23 (by rw [hK]; exact hpr) (fun h => b_X5_cheapestTile_72 ?_) (fun h => ?_)
      · rw [nI_1]
        have h0 := (np_m1 (prc_le _ _ _)).mp h
        exact go1 _ (by show (if _ then _ else _) = _; rw [if_neg (fun q => q.1 h0)])
      · have h0 : prc kn k t ≠ 0 := fun e => h ((np_m1 (prc_le _ _ _)).mpr e)
        have hgo : go k t = true := by
          cases hg : go k t with
          | true => rfl
          | false => exact absurd (by unfold prc; simp [hg]) h0
        have hq := mv_lt hk (show t < 5 by omega)
        have hqf := (hR.2.1.2.2.1 k hk hf t (by omega) h0).1
        have hle := prc_le kn k t
        have hnp : np (prc kn k t) = nI (prc kn k t) := by unfold np; rw [if_neg h0]
        have b1 := hb _ hq hqf
        have b2 := hb _ hk hf
        refine b_X5_cheapestTile_47 (am_pushed hT.2.2.1 hk (by omega) hgo) (am_costOfg hR hq) (fun h2 => b_X5_cheapestTile_72 ?_) (fun h2 => ?_)
        · rw [ec_n hqf, hnp, nI_add] at h2
          rw [nI_1]
          exact go1 _ (by show (if _ then _ else _) = _; rw [if_neg (fun q => h2 (by rw [q.2]))])
        · rw [ec_n hqf, hnp, nI_add] at h2
          have h3 := neq h2 (by omega) (by omega)
          have : ctF c kn k (d + 1) t = t := by show (if _ then _ else _) = _; rw [if_pos ⟨h0, h3⟩]
          rw [this]
          have e5 : sgnN t = nI t := by unfold sgnN; rw [if_neg (by omega)]
          rw [e5]
          exact b_X5_cheapestTile_70
  refine ai_X5_cheapestTile (b_X5_cheapestTile_0 (am_costOfg hR hk) (fun _ => b_X5_cheapestTile_16 ?_) (fun h => ?_))
  · rw [ec_n hf]
    exact loop 5 0 none rfl
  · rw [ec_n hf] at h
    have := hb k hk hf
    exact absurd h (nI_m1 (by omega))
theorem am_pushesToGoal {kn g k : Nat} {c fd : Nat → Nat} {n mo : Nat} (hT : Tab w) (hkn : kn < 2 ^ 31) (hK : wI w 15 2 = nI kn) (h0 : wI w 15 0 = nI k) (h1 : wI w 15 1 = nI g) (hg : g < 720) (hR : Fullg w kn g c fd n mo) (hk : k < 720) :
    A_X5_pushesToGoal 35 [.ref 19] w (some (.int (if c k = FARN then -1 else nI (stpF c kn g (c k) k))), w) := by
  have run : ∀ f k, k < 720 → c k ≠ FARN → c k ≤ f → ∀ p, p + stpF c kn g f k < 720 → Z_X5_pushesToGoal 35 30 [some (.ref 19), some (.int (nI k)), some (.int (nI p))] [] w (some (.int (nI (p + stpF c kn g f k))), w) := by
    intro f
    induction f with
    | zero =>
      intro k hk hf hle p hp
      have hkg : k = g := by
        by_cases e : k = g
        · exact e
        · obtain ⟨h1, h2, h3⟩ := (ctN_5 hR.2.1 hk hf).2 e; omega
      exact b_X5_pushesToGoal_30 (fun _ => b_X5_pushesToGoal_68) (fun h => absurd (by rw [h1, hkg]) h)
    | succ f ih =>
      intro k hk hf hle p hp
      by_cases e : k = g
      · have : stpF c kn g (f + 1) k = 0 := by simp [stpF, e]
        rw [this]
        exact b_X5_pushesToGoal_30 (fun _ => b_X5_pushesToGoal_68) (fun h => absurd (by rw [h1, e]) h)
      · obtain ⟨q1, q2, q3⟩ := (ctN_5 hR.2.1 hk hf).2 e
        have hs : stpF c kn g (f + 1) k = stpF c kn g f (mv k (ctN c kn k)) + 1 := by show (if _ then _ else _) = _; rw [if_neg e]
        rw [hs] at hp ⊢
        have hq := mv_lt hk q1
        have hqf := (hR.2.1.2.2.1 k hk hf _ q1 q2).1
        have hgo : go k (ctN c kn k) = true := by
          cases hg : go k (ctN c kn k) with
          | true => rfl
          | false => exact absurd (by unfold prc; simp [hg]) q2
        have e5 : sgnN (ctN c kn k) = nI (ctN c kn k) := by unfold sgnN; rw [if_neg (by omega)]
        refine b_X5_pushesToGoal_30 (fun h => absurd (neq (by rw [h1] at h; exact h) (by omega) (by omega)) e) (fun _ => b_X5_pushesToGoal_41 (fun h => absurd (nle (a := 720) h (by omega) (by omega)) (by omega)) (fun _ => b_X5_pushesToGoal_48 (am_cheapestTile hT hkn hK hR hk hf) (by rw [e5]; exact am_pushed hT.2.2.1 hk (by omega) hgo) ?_))
        rw [nI_1]
        have := ih (mv k (ctN c kn k)) hq hqf (by omega) (p + 1) (by omega)
        rw [show p + 1 + stpF c kn g f (mv k (ctN c kn k)) = p + (stpF c kn g f (mv k (ctN c kn k)) + 1) by omega] at this
        exact this
  refine ai_X5_pushesToGoal (b_X5_pushesToGoal_0 (by rw [h0]; exact am_costOfg hR hk) (fun h => ?_) (fun h => ?_))
  · by_cases hf : c k = FARN
    · exact absurd (ec_f hf) h
    · rw [if_neg hf]
      refine b_X5_pushesToGoal_20 ?_
      rw [h0]
      have := run (c k) k hk hf (Nat.le_refl _) 0 (by have := stpF_720 hR.2.1 (c k) hk hf; omega)
      rw [Nat.zero_add] at this
      exact this
  · by_cases hf : c k = FARN
    · rw [if_pos hf]
      exact b_X5_pushesToGoal_18
    · rw [ec_n hf] at h
      have := hR.2.1.2.1 k hk hf
      exact absurd h (nI_m1 (by omega))
-- ===== circles =====
def cirI (p : Nat → Nat) : Nat → Nat → Nat → Nat
  | 0, _, dn => dn
  | f + 1, ce, dn => if dn / 2 ^ ce % 2 = 0 then cirI p f (p ce) (dn ||| 2 ^ ce) else dn
def cirO (p : Nat → Nat) : Nat → Nat × Nat
  | 0 => (0, 0)
  | n + 1 => let q := cirO p n; (q.1 + (if q.2 / 2 ^ n % 2 = 0 then 1 else 0), cirI p 6 n q.2)
def grS (l : List Nat) : Nat → List Nat × Nat
  | 0 => (l, 0)
  | c + 1 => let q := grS l c; let f := ixOf c q.1; (bif Nat.beq f c then q.1 else swp q.1 c f, q.2 + bif Nat.beq f c then 0 else 1)
def ck5 (j : Nat) : Bool := let l := sgl j; Nat.beq (6 - (cirO (fun c => l.getD c 5) 6).1) (grS l 6).2
set_option maxRecDepth 100000 in
theorem ck5_p0 : allN (fun i => ck5 (i + 0)) 90 = true := by decide +kernel
set_option maxRecDepth 100000 in
theorem ck5_p1 : allN (fun i => ck5 (i + 90)) 90 = true := by decide +kernel
set_option maxRecDepth 100000 in
theorem ck5_p2 : allN (fun i => ck5 (i + 180)) 90 = true := by decide +kernel
set_option maxRecDepth 100000 in
theorem ck5_p3 : allN (fun i => ck5 (i + 270)) 90 = true := by decide +kernel
set_option maxRecDepth 100000 in
theorem ck5_p4 : allN (fun i => ck5 (i + 360)) 90 = true := by decide +kernel
set_option maxRecDepth 100000 in
theorem ck5_p5 : allN (fun i => ck5 (i + 450)) 90 = true := by decide +kernel
set_option maxRecDepth 100000 in
theorem ck5_p6 : allN (fun i => ck5 (i + 540)) 90 = true := by decide +kernel
set_option maxRecDepth 100000 in
theorem ck5_p7 : allN (fun i => ck5 (i + 630)) 90 = true := by decide +kernel
theorem ck5_all : allN ck5 720 = true := (allN_add (p := ck5) (a := 630) (allN_add (p := ck5) (a := 540) (allN_add (p := ck5) (a := 450) (allN_add (p := ck5) (a := 360) (allN_add (p := ck5) (a := 270) (allN_add (p := ck5) (a := 180) (allN_add (p := ck5) (a := 90) ck5_p0 90 ck5_p1) 90 ck5_p2) 90 ck5_p3) 90 ck5_p4) 90 ck5_p5) 90 ck5_p6) 90 ck5_p7)
theorem or_lt64 {a c : Nat} (ha : a < 64) (hc : c < 6) : a ||| 2 ^ c < 64 := by
  have : 2 ^ c < 2 ^ 6 := Nat.pow_lt_pow_right (by omega) hc
  exact Nat.or_lt_two_pow (n := 6) ha this
theorem cirI_lt {p : Nat → Nat} (hp : ∀ c, c < 6 → p c < 6) : ∀ f ce dn, ce < 6 → dn < 64 → cirI p f ce dn < 64
  | 0, _, _, _, h => h
  | f + 1, ce, dn, hc, h => by
    unfold cirI
    split
    · exact cirI_lt hp f _ _ (hp _ hc) (or_lt64 h hc)
    · exact h
theorem cirO_lt {p : Nat → Nat} (hp : ∀ c, c < 6 → p c < 6) : ∀ n, n ≤ 6 → (cirO p n).2 < 64 ∧ (cirO p n).1 ≤ n
  | 0, _ => (show (0 : Nat) < 64 ∧ 0 ≤ 0 by decide)
  | n + 1, hn => by
    obtain ⟨h1, h2⟩ := cirO_lt hp n (by omega)
    refine ⟨cirI_lt hp 6 n _ (by omega) h1, ?_⟩
    show (cirO p n).1 + _ ≤ _
    split <;> omega
theorem bit_i {dn c : Nat} (h : dn < 64) (hc : c < 6) : (nI dn >>> (nI c &&& 31)) &&& 1 = nI (dn / 2 ^ c % 2) := by
  rw [n_shr (by omega) (by omega), n_and1 (Nat.lt_of_le_of_lt (Nat.div_le_self _ _) (by omega))]
theorem one_shl {c : Nat} (hc : c < 6) : (1 : Int32) <<< (nI c &&& 31) = nI (2 ^ c) := by
  have := n_shl (n := 1) (c := c) (by omega) (by
    have : 2 ^ c ≤ 2 ^ 6 := Nat.pow_le_pow_right (by omega) (by omega)
    omega)
  rw [Nat.one_mul] at this
  exact this
theorem am_circles {k g : Nat} (hT : Tab w) (h0 : wI w 15 0 = nI k) (h1 : wI w 15 1 = nI g) (hk : k < 720) (hg : g < 720) : A_X5_circles 35 [.ref 19] w (some (.int (nI (cirO (fun c => pl g (sg k c)) 6).1)), w) := by
  have hp : ∀ c, c < 6 → pl g (sg k c) < 6 := fun c hc => pl_lt hg (sg_lt hk hc)
  have loop : ∀ d n, n + d = 6 → ∀ (l4 l5 : Option Value), Z_X5_circles 35 6 [some (.ref 19), some (.int (nI (cirO (fun c => pl g (sg k c)) n).1)), some (.int (nI (cirO (fun c => pl g (sg k c)) n).2)), some (.int (nI n)), l4, l5] [] w (some (.int (nI (cirO (fun c => pl g (sg k c)) 6).1)), w) := by
    intro d
    induction d with
    | zero =>
      intro n hn l4 l5
      have hn : n = 6 := by omega
      subst hn
      exact b_X5_circles_6 (fun _ => b_X5_circles_96) (fun h => absurd (show (6 : Int32) ≤ nI 6 from nI_le (a := 6) (by omega) (by omega)) h)
    | succ d ih =>
      intro n hn l4 l5
      obtain ⟨hd, hcn⟩ := cirO_lt hp n (by omega)
      have inner : ∀ f st ce dn, st + f = 6 → ce < 6 → dn < 64 → cirI (fun c => pl g (sg k c)) f ce dn = (cirO (fun c => pl g (sg k c)) (n + 1)).2 → Z_X5_circles 35 29 [some (.ref 19), some (.int (nI (cirO (fun c => pl g (sg k c)) (n + 1)).1)), some (.int (nI dn)), some (.int (nI n)), some (.int (nI ce)), some (.int (nI st))] [] w (some (.int (nI (cirO (fun c => pl g (sg k c)) 6).1)), w) := by
        intro f
        induction f with
        | zero =>
          intro st ce dn hst hc hdn he
          have hst : st = 6 := by omega
          subst hst
          have he : dn = (cirO (fun c => pl g (sg k c)) (n + 1)).2 := he
          refine b_X5_circles_29 (fun _ => b_X5_circles_90 ?_) (fun h => absurd (show (6 : Int32) ≤ nI 6 from nI_le (a := 6) (by omega) (by omega)) h)
          rw [nI_1, he]
          exact ih (n + 1) (by omega) _ _
        | succ f ih2 =>
          intro st ce dn hst hc hdn he
          refine b_X5_circles_29 (fun h => absurd (nle (a := 6) h (by omega) (by omega)) (by omega)) (fun _ => b_X5_circles_36 (fun h => b_X5_circles_90 ?_) (fun h => ?_))
          · rw [bit_i hdn hc] at h
            have hb : ¬ dn / 2 ^ ce % 2 = 0 := fun e => h (by rw [e]; rfl)
            have he : dn = (cirO (fun c => pl g (sg k c)) (n + 1)).2 := by
              rw [← he]
              show _ = if _ then _ else _
              rw [if_neg hb]
            rw [nI_1, he]
            exact ih (n + 1) (by omega) _ _
          · rw [bit_i hdn hc] at h
            have hb : dn / 2 ^ ce % 2 = 0 := neq (b := 0) h (by omega) (by omega)
            refine b_X5_circles_45 (by rw [h0]; exact am_sign hT.1 (by omega) hk hc) (by rw [h1]; exact am_place hT.2.1 (by omega) hg (sg_lt hk hc)) ?_
            rw [one_shl hc, n_or, nI_1]
            refine ih2 (st + 1) _ _ (by omega) (hp ce hc) (or_lt64 hdn hc) ?_
            rw [← he]
            show _ = if _ then _ else _
            rw [if_pos hb]
      refine b_X5_circles_6 (fun h => absurd (nle (a := 6) h (by omega) (by omega)) (by omega)) (fun _ => b_X5_circles_12 (fun h => ?_) (fun h => b_X5_circles_20 ?_))
      · rw [bit_i hd (by omega)] at h
        have hb : ¬ (cirO (fun c => pl g (sg k c)) n).2 / 2 ^ n % 2 = 0 := fun e => h (by rw [e]; rfl)
        have e1 : (cirO (fun c => pl g (sg k c)) n).1 = (cirO (fun c => pl g (sg k c)) (n + 1)).1 := by
          show _ = (cirO (fun c => pl g (sg k c)) n).1 + if _ then 1 else 0
          rw [if_neg hb]; rfl
        refine b_X5_circles_23 ?_
        rw [e1]
        exact inner 6 0 n _ (by omega) (by omega) hd rfl
      · rw [bit_i hd (by omega)] at h
        have hb : (cirO (fun c => pl g (sg k c)) n).2 / 2 ^ n % 2 = 0 := neq (b := 0) h (by omega) (by omega)
        have e1 : (cirO (fun c => pl g (sg k c)) n).1 + 1 = (cirO (fun c => pl g (sg k c)) (n + 1)).1 := by
          show _ = (cirO (fun c => pl g (sg k c)) n).1 + if _ then 1 else 0
          rw [if_pos hb]
        refine b_X5_circles_23 ?_
        rw [nI_1, e1]
        exact inner 6 0 n _ (by omega) (by omega) hd rfl
  exact ai_X5_circles (b_X5_circles_0 (loop 6 0 rfl none none))
end WA
