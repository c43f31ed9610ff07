-- ===== the class's public methods: cheap, odds, see, forget, runs, image, restore, count =====
def bsS (c : Nat → Nat) (k a b : Nat) (st : Int32 × Nat) : Int32 × Nat := if c (ex k a b) < st.2 then (nI (10 * a + b), c (ex k a b)) else st
def bsI (c : Nat → Nat) (k a : Nat) : Nat → Nat → Int32 × Nat → Int32 × Nat
  | 0, _, st => st
  | d + 1, b, st => bsI c k a d (b + 1) (bsS c k a b st)
def bsO (c : Nat → Nat) (k : Nat) : Nat → Nat → Int32 × Nat → Int32 × Nat
  | 0, _, st => st
  | d + 1, a, st => bsO c k d (a + 1) (bsI c k a (5 - a) (a + 1) st)
def chA (q : Nat) (st : Int32 × Nat) : Int32 := match q with
  | 0 => st.1
  | _ => ec st.2
noncomputable def chN (u : CU) (q : Nat) : Int32 := chA q (bsO (dsN (cN u) (cG u)) (cK u) 6 0 (-1, FARN))
noncomputable def rCheap (s : Sg) (x : Int32) : Int32 × Sg := match ix 2 x with
  | none => (-102, s)
  | some q => match gC s with
    | none => (-103, s)
    | some u => if 20 ≤ gH s then (-103, s) else (chN u q, (gP s, gT s, gH s + 1, gC s, gI s))
def odN (u : CU) (m t c q : Nat) : Int32 := nI (oddsN (cN u) (cK u) m t c q)
def rOdds (s : Sg) (x y z v : Int32) : Int32 := match gC s with
  | none => -101
  | some u => match ix 5 x with
    | none => -101
    | some t => match ix 6 y with
      | none => -101
      | some c => match ix 7 z with
        | none => -102
        | some m => match ix 2 v with
          | none => -102
          | some q => if m = 0 then -102 else odN u m t c q
def rSee (s : Sg) (x y z : Int32) : Int32 × Sg := match gC s with
  | none => (-101, s)
  | some u => match ix 5 x with
    | none => (-101, s)
    | some t => match ix 2 y with
      | none => (-102, s)
      | some a => match ix 4 z with
        | none => (-102, s)
        | some b => if 6 ≤ (cS u).length then (-104, s) else (nI ((cS u).length + 1), toC s (cK u, cG u, cN u, cP u, cC u, cS u ++ [(t, a, b)]))
def rForget (s : Sg) : Int32 × Sg := match gC s with
  | none => (0, s)
  | some u => (nI (cS u).length, toC s (cK u, cG u, cN u, cP u, cC u, []))
def rnS (kn : Nat) (z : Nat × Nat × Nat) : Nat × Nat × Nat := if chc kn z.1 5 = 0 then z else (mv z.1 (pick kn z.1 (nxS z.2.1 / 65536 % chc kn z.1 5)), nxS z.2.1, z.2.2 + prc kn z.1 (pick kn z.1 (nxS z.2.1 / 65536 % chc kn z.1 5)))
def rnG (kn : Nat) : Nat → Nat × Nat × Nat → Nat × Nat × Nat
  | 0, z => z
  | n + 1, z => rnG kn n (rnS kn z)
def rnA (g q : Nat) (z : Nat × Nat × Nat) : Int32 := match q with
  | 0 => nI z.2.2
  | 1 => nI (alk z.1 g 6)
  | _ => nI z.2.1
def rRuns (s : Sg) (x y v : Int32) : Int32 := match ix 61 x with
  | none => -102
  | some n => if n = 0 then -102 else if y < 0 then -102 else match ix 3 v with
    | none => -102
    | some q => match gC s with
      | none => -103
      | some u => rnA (cG u) q (rnG (cN u) n (cK u, y.toNatClampNeg, 0))
def rImage (s : Sg) : Int32 × Sg := match gC s with
  | none => (-103, s)
  | some u => (nI (cP u), (gP s, gT s, gH s, gC s, some u))
def rRest (s : Sg) : Int32 × Sg := match gI s with
  | none => (-103, s)
  | some u => (nI (cP u), toC s u)
def oN (o : Option CU) (d : Int32) (f : CU → Int32) : Int32 := match o with
  | none => d
  | some u => f u
def ctA (s : Sg) (q : Nat) : Int32 := match q with
  | 0 => oN (gC s) (-1) (fun u => nI (pl (cK u) 5))
  | 1 => oN (gC s) (-1) (fun u => nI (pl (cG u) 5))
  | 2 => oN (gC s) 0 (fun u => nI (cP u))
  | 3 => oN (gC s) 0 (fun u => nI (cC u))
  | 4 => oN (gC s) 0 (fun u => nI (chc (cN u) (cK u) 5))
  | 5 => oN (gC s) 0 (fun u => nI (alk (cK u) (cG u) 6))
  | 6 => oN (gC s) 0 (fun u => nI (cS u).length)
  | 7 => nI (gP s).length
  | 8 => nI (gT s)
  | _ => nI (gH s)
def rCount (s : Sg) (x : Int32) : Int32 := match ix 10 x with
  | none => -102
  | some q => ctA s q
section PV
variable {w : Wd}
theorem okc_ds {kn g : Nat} {c fd : Nat → Nat} {n mo : Nat} (h : Fullg w kn g c fd n mo) (q : Nat) : okc (c q) := h.1.2.2.2.2.1 q
theorem cheap_run {s : Sg} {u : CU} {fd : Nat → Nat} {n mo q : Nat} (h : RepC w s) (hu : CuOK u) (hs : StR 15 w u) (hq : q < 2) (hf : Fullg w (cN u) (cG u) (dsN (cN u) (cG u)) fd n mo) : ∀ d a, a + d = 6 → ∀ (st : Int32 × Nat) (l5 l6 : Option Value) (w1 : Wd), Fr [5] w w1 → okc st.2 → ∃ w', Z_X5_cheap 35 69 [some (.ref 19), some (.int (nI q)), some (.int st.1), some (.int (ec st.2)), some (.int (nI a)), l5, l6] [] w1 (some (.int (chA q (bsO (dsN (cN u) (cG u)) (cK u) d a st))), w') ∧ Fr [5] w w' := by
  obtain ⟨u1, u2, u3, u4, u5⟩ := hu
  obtain ⟨s0, -⟩ := hs
  intro d
  induction d with
  | zero =>
    intro a ha st l5 l6 w1 hF hok
    have ha : a = 6 := by omega
    subst ha
    refine ⟨w1, b_X5_cheap_69 (fun _ => b_X5_cheap_157 (fun e => ?_) (fun e => ?_)) (fun e => absurd (show (6 : Int32) ≤ nI 6 from nI_le (a := 6) (by omega) (by omega)) e), hF⟩
    · have : q = 1 := by
        rcases (show q = 0 ∨ q = 1 by omega) with rfl | rfl
        · exact absurd rfl e
        · rfl
      subst this
      exact b_X5_cheap_165 b_X5_cheap_166
    · have : q = 0 := neq (b := 0) e (by omega) (by omega)
      subst this
      exact b_X5_cheap_161 b_X5_cheap_166
  | succ d ih =>
    intro a ha st l5 l6 w1 hF hok
    have inner : ∀ e b, b + e = 6 → a < b → ∀ (st : Int32 × Nat) (l6 : Option Value) (w1 : Wd), Fr [5] w w1 → okc st.2 → ∃ w', Z_X5_cheap 35 82 [some (.ref 19), some (.int (nI q)), some (.int st.1), some (.int (ec st.2)), some (.int (nI a)), some (.int (nI b)), l6] [] w1 (some (.int (chA q (bsO (dsN (cN u) (cG u)) (cK u) d (a + 1) (bsI (dsN (cN u) (cG u)) (cK u) a e b st)))), w') ∧ Fr [5] w w' := by
      intro e
      induction e with
      | zero =>
        intro b hb hab st l6 w1 hF hok
        have hb : b = 6 := by omega
        subst hb
        obtain ⟨w', hz, hF'⟩ := ih (a + 1) (by omega) st (some (.int (nI 6))) l6 w1 hF hok
        refine ⟨w', b_X5_cheap_82 (fun _ => b_X5_cheap_151 ?_) (fun e => absurd (show (6 : Int32) ≤ nI 6 from nI_le (a := 6) (by omega) (by omega)) e), hF'⟩
        rw [nI_1]; exact hz
      | succ e ih2 =>
        intro b hb hab st l6 w1 hF hok
        obtain ⟨w2, hx, hF2⟩ := am_exchanged (w := w1) (mm := 35) (k := cK u) (a := a) (b := b) (h.1.1.fr hF (by decide) (by decide) (by decide) (by decide)).1 (by omega) u1 (by omega) (by omega) (by omega)
        have hf2 := Full_fr1 hf (hF.trans hF2) (by decide) (by decide) (by decide)
        have hlt := ex_lt u1 (show a < 6 by omega) (show b < 6 by omega) (by omega)
        have hco := am_costOfg (w := w2) hf2 hlt
        have hoc := okc_ds hf (ex (cK u) a b)
        have t0 : wI w1 15 0 = nI (cK u) := (hF.1 15 0 (by decide)).trans s0
        have fin : ∀ st2, st2 = bsS (dsN (cN u) (cG u)) (cK u) a b st → okc st2.2 → ∀ v, ∃ w', Z_X5_cheap 35 145 [some (.ref 19), some (.int (nI q)), some (.int st2.1), some (.int (ec st2.2)), some (.int (nI a)), some (.int (nI b)), some (.int v)] [] w2 (some (.int (chA q (bsO (dsN (cN u) (cG u)) (cK u) d (a + 1) (bsI (dsN (cN u) (cG u)) (cK u) a (e + 1) b st)))), w') ∧ Fr [5] w w' := by
          intro st2 he2 hok2 v
          subst he2
          obtain ⟨w', hz, hF'⟩ := ih2 (b + 1) (by omega) (by omega) _ (some (.int v)) w2 (hF.trans hF2) hok2
          refine ⟨w', b_X5_cheap_145 ?_, hF'⟩
          rw [nI_1]; exact hz
        have ent : ∀ {r}, (ec (dsN (cN u) (cG u) (ex (cK u) a b)) = -1 → Z_X5_cheap 35 145 [some (.ref 19), some (.int (nI q)), some (.int st.1), some (.int (ec st.2)), some (.int (nI a)), some (.int (nI b)), some (.int (ec (dsN (cN u) (cG u) (ex (cK u) a b))))] [] w2 r) → (¬ ec (dsN (cN u) (cG u) (ex (cK u) a b)) = -1 → Z_X5_cheap 35 122 [some (.ref 19), some (.int (nI q)), some (.int st.1), some (.int (ec st.2)), some (.int (nI a)), some (.int (nI b)), some (.int (ec (dsN (cN u) (cG u) (ex (cK u) a b))))] [] w2 r) → Z_X5_cheap 35 82 [some (.ref 19), some (.int (nI q)), some (.int st.1), some (.int (ec st.2)), some (.int (nI a)), some (.int (nI b)), l6] [] w1 r := fun z1 z2 => b_X5_cheap_82 (fun h => absurd (nle (a := 6) h (by omega) (by omega)) (by omega)) (fun _ => b_X5_cheap_89 (by rw [t0]; exact hx) hco z1 z2)
        have e10 : (10 : Int32) * nI a + nI b = nI (10 * a + b) := by rw [show (10 : Int32) = nI 10 from rfl, pk_mul, nI_add]
        by_cases hc : dsN (cN u) (cG u) (ex (cK u) a b) = FARN
        · have hs : st = bsS (dsN (cN u) (cG u)) (cK u) a b st := by
            unfold bsS
            rw [if_neg (by have := okc_le hok; omega)]
          obtain ⟨w', hz, hF'⟩ := fin st hs hok (ec (dsN (cN u) (cG u) (ex (cK u) a b)))
          exact ⟨w', ent (fun _ => hz) (fun e => absurd (ec_f hc) e), hF'⟩
        · have hcl : dsN (cN u) (cG u) (ex (cK u) a b) < 1048576 := hoc.resolve_left hc
          by_cases hlt2 : dsN (cN u) (cG u) (ex (cK u) a b) < st.2
          · have hs : (nI (10 * a + b), dsN (cN u) (cG u) (ex (cK u) a b)) = bsS (dsN (cN u) (cG u)) (cK u) a b st := by
              unfold bsS
              rw [if_pos hlt2]
            obtain ⟨w', hz, hF'⟩ := fin _ hs hoc (ec (dsN (cN u) (cG u) (ex (cK u) a b)))
            have hz2 : Z_X5_cheap 35 133 [some (.ref 19), some (.int (nI q)), some (.int st.1), some (.int (ec st.2)), some (.int (nI a)), some (.int (nI b)), some (.int (ec (dsN (cN u) (cG u) (ex (cK u) a b))))] [] w2 (some (.int (chA q (bsO (dsN (cN u) (cG u)) (cK u) d (a + 1) (bsI (dsN (cN u) (cG u)) (cK u) a (e + 1) b st)))), w') := by
              refine b_X5_cheap_133 ?_
              rw [e10]; exact hz
            refine ⟨w', ent (fun e => absurd ((ec_m1 hoc).mp e) hc) (fun _ => b_X5_cheap_122 (fun _ => hz2) (fun e => b_X5_cheap_127 (fun h2 => ?_) (fun _ => hz2))), hF'⟩
            have hs1 : st.2 ≠ FARN := fun e2 => e (ec_f e2)
            rw [ec_n hs1, ec_n hc] at h2
            have := nle h2 (by have := hok.resolve_left hs1; omega) (by omega)
            omega
          · have hs : st = bsS (dsN (cN u) (cG u)) (cK u) a b st := by
              unfold bsS
              rw [if_neg hlt2]
            have hs1 : st.2 ≠ FARN := fun e2 => by rw [e2] at hlt2; unfold FARN at hlt2; omega
            obtain ⟨w', hz, hF'⟩ := fin st hs hok (ec (dsN (cN u) (cG u) (ex (cK u) a b)))
            refine ⟨w', ent (fun e => absurd ((ec_m1 hoc).mp e) hc) (fun _ => b_X5_cheap_122 (fun e => absurd ((ec_m1 hok).mp e) hs1) (fun _ => b_X5_cheap_127 (fun _ => hz) (fun h2 => absurd ?_ h2))), hF'⟩
            rw [ec_n hs1, ec_n hc]
            exact nI_le (by omega) (by omega)
    obtain ⟨w', hz, hF'⟩ := inner (5 - a) (a + 1) (by omega) (by omega) st l6 w1 hF hok
    refine ⟨w', b_X5_cheap_69 (fun h => absurd (nle (a := 6) h (by omega) (by omega)) (by omega)) (fun _ => b_X5_cheap_76 ?_), hF'⟩
    rw [nI_1]; exact hz
theorem am_cheap {s : Sg} (h : RepC w s) (hcl : gH s ≤ 20) (x : Int32) : ∃ w', A_X5_cheap 35 [.ref 19, .int x] w (some (.int (rCheap s x).1), w') ∧ Fr CL w w' ∧ RepC w' (rCheap s x).2 := by
  have hN := h.now
  have hT := am_hasTray hN
  unfold rCheap
  rcases ix_cases x (n := 2) (by decide) with ⟨e, h1⟩ | ⟨q, hq, rfl, e⟩
  · rw [e]
    exact ⟨w, ai_X5_cheap (b_X5_cheap_0 (am_isWithin _ _ _) (fun e => absurd (wi0 (n := 1) h1 (by decide)) e) (fun _ => b_X5_cheap_9)), Fr.refl _ _, h⟩
  · rw [e]
    have w1r := wi1 (n := 1) hq (by decide)
    cases hc : gC s with
    | none =>
      rw [hc] at hT
      exact ⟨w, ai_X5_cheap (b_X5_cheap_0 (am_isWithin _ _ _) (fun _ => b_X5_cheap_12 hT (fun _ => b_X5_cheap_28) (fun e => absurd rfl e)) (fun e => absurd (w1r.symm.trans e) (by decide))), Fr.refl _ _, h⟩
    | some u =>
      rw [hc] at hT hN
      dsimp only
      have hch : wI w 19 10 = nI (gH s) := h.2.2.2.1
      by_cases h20 : 20 ≤ gH s
      · rw [if_pos h20]
        exact ⟨w, ai_X5_cheap (b_X5_cheap_0 (am_isWithin _ _ _) (fun _ => b_X5_cheap_12 hT (fun e => absurd e b1) (fun _ => b_X5_cheap_19 (fun e => absurd (nlt (b := 20) (by rw [hch] at e; exact e) (by omega) (by omega)) (by omega)) (fun _ => b_X5_cheap_28))) (fun e => absurd (w1r.symm.trans e) (by decide))), Fr.refl _ _, h⟩
      · rw [if_neg h20]
        obtain ⟨hu, hs⟩ := hN
        have hR0 : RepC (sI w 19 10 (wI w 19 10 + 1)) (gP s, gT s, gH s + 1, some u, gI s) := by
          obtain ⟨⟨h1, h2, h3, h4⟩, h5, h6, h7, h8, h9⟩ := h
          have hF : Fr [19] w (sI w 19 10 (wI w 19 10 + 1)) := Fr.sI (by simp)
          have hk : KepR (sI w 19 10 (wI w 19 10 + 1)) (gI s) := by
            cases hi : gI s with
            | none => rw [hi] at h9; exact h9
            | some v => rw [hi] at h9; exact h9
          exact ⟨⟨h1, h2.fr hF (by decide) (by decide) (by decide), h3.fr hF (by decide) (by decide) (by decide), h4.fr hF (by decide) (by decide) (by decide)⟩, h5, h6, (show wI w 19 10 + 1 = nI (gH s + 1) by rw [h7, nI_1]), ⟨hu, hs⟩, hk⟩
        obtain ⟨w1, fd, n, mo, ha, hF, hR, hfull⟩ := am_srchg hR0 hu.2.1 hu.2.2.1
        have hs1 : StR 15 w1 u := StR.fr (w := sI w 19 10 (wI w 19 10 + 1)) hs hF (by decide) (by decide)
        obtain ⟨w', hz, hF'⟩ := cheap_run hR hu hs1 hq hfull 6 0 rfl (-1, FARN) none none w1 (Fr.refl _ _) (Or.inl rfl)
        obtain ⟨t0, t1, t2, -⟩ := hs
        refine ⟨w', ai_X5_cheap (b_X5_cheap_0 (am_isWithin _ _ _) (fun _ => b_X5_cheap_12 hT (fun e => absurd e b1) (fun _ => b_X5_cheap_19 (fun _ => b_X5_cheap_31 (by rw [t1, t2]; exact ha) hz) (fun e => absurd (by rw [hch]; exact nI_lt (b := 20) (by omega) (by omega)) e))) (fun e => absurd (w1r.symm.trans e) (by decide))), ?_, ?_⟩
        · exact ((Fr.sI (T := CL) (by decide)).trans (hF.mono (by decide))).trans (hF'.mono (by decide))
        · exact hR.row (hF'.mono (by decide))
theorem wl0 {x : Int32} {n : Nat} (h : x < 0 ∨ nI (n + 1) ≤ x) (hn : n + 1 < 2 ^ 31) : bz (decide (1 ≤ x ∧ x ≤ nI n)) = 0 := by
  have : ¬ (1 ≤ x ∧ x ≤ nI n) := fun q => h.elim (fun h1 => Int32.not_lt.mpr (Int32.le_trans (by decide) q.1) h1) (fun h1 => nI_leOf h1 hn q.2)
  simp [bz, this]
theorem wl1 {j n : Nat} (h : j < n + 1) (h0 : j ≠ 0) (hn : n + 1 < 2 ^ 31) : bz (decide ((1 : Int32) ≤ nI j ∧ nI j ≤ nI n)) = 1 := by
  have h1 : (1 : Int32) ≤ nI j := nI_le (a := 1) (by omega) (by omega)
  have h2 : nI j ≤ nI n := nI_le (by omega) (by omega)
  simp [bz, h1, h2]
theorem wl2 (n : Nat) : bz (decide ((1 : Int32) ≤ nI 0 ∧ nI 0 ≤ nI n)) = 0 := by
  have : ¬ ((1 : Int32) ≤ nI 0) := by decide
  simp [bz, this]
theorem am_odds_in {s : Sg} {u : CU} (h : RepC w s) (hu : CuOK u) (hs : StR 15 w u) {t c m q : Nat} (ht : t < 5) (hc : c < 6) (hm : m < 7) (hm0 : m ≠ 0) (hq : q < 2) (he : A_X5_isTile 35 [.ref 19, .int (nI t)] w (some (.int (bz true)), w)) (hf : A_X5_isCell 35 [.ref 19, .int (nI c)] w (some (.int (bz true)), w)) : ∃ w', A_X5_odds 35 [.ref 19, .int (nI t), .int (nI c), .int (nI m), .int (nI q)] w (some (.int (odN u m t c q)), w') ∧ Fr CL w w' ∧ RepC w' s := by
  obtain ⟨u1, u2, u3, u4, u5⟩ := hu
  have hkl := u3.lt
  obtain ⟨s0, s1, s2, s3, s4, s5, s6⟩ := hs
  obtain ⟨w1, ha, hF, hP, g3, g4, g5, hv⟩ := am_drawFrom (w := w) (k := cK u) (kn := cN u) (m := m) h.1.1 h.1.2.2.2 u1 (by omega) (by omega)
  have hR : RepC w1 s := h.keep hF (by decide) (h.1.2.1.fr hF (by decide) (by decide) (by decide)) (h.1.2.2.1.fr hF (by decide) (by decide) (by decide)) ⟨hP, Or.inr ⟨cK u, cN u, m, u1, by omega, by omega, g3, g4, g5, hv⟩⟩
  have hp := am_partsWith (w := w1) (kn := cN u) (k := cK u) (m := m) (t := t) (x := c) hR.1.1.2.1 hP u1 (by omega) ht hc hv
  obtain ⟨S, hS⟩ : ∃ S, S = swp1 (cp (cN u) (cK u) m) t c 720 := ⟨_, rfl⟩
  have hSl : S ≤ 46656 := by
    rw [hS, cp_rp (cN u) (cK u) m (by omega), swp1_scl, ← pow6 (m := m) (by omega)]
    refine Nat.mul_le_mul_left _ ?_
    rw [← sumN_rp (kn := cN u) u1 m]
    exact swp1_le _ _ _ _
  have hgp : 0 < Nat.gcd 46656 S := Nat.gcd_pos_of_pos_left _ (by omega)
  have hgl : Nat.gcd 46656 S ≤ 46656 := Nat.gcd_le_left _ (by omega)
  have hcm : (if 1 < nI (Nat.gcd 46656 S) then nI (Nat.gcd 46656 S) else 1) = nI (Nat.gcd 46656 S) := by
    by_cases g : 1 < Nat.gcd 46656 S
    · rw [if_pos (show (1 : Int32) < nI (Nat.gcd 46656 S) from nI_lt (a := 1) g (by omega))]
    · have e1 : Nat.gcd 46656 S = 1 := by omega
      rw [e1]; decide
  have hod : odN u m t c q = nI ((if q = 0 then S else 46656) / Nat.gcd 46656 S) := by
    unfold odN
    rw [← odds_cls u1 (by omega) q, ← hS]
  rw [← hS] at hp
  have hg := am_gd (w := w1) hSl
  rw [← s0, ← s2] at ha
  have hne : ¬ nI (Nat.gcd 46656 S) = 0 := nI_ne0 hgp (by omega)
  have ent : ∀ {r}, (¬ nI q = 0 → Z_X5_odds 35 98 [some (.ref 19), some (.int (nI t)), some (.int (nI c)), some (.int (nI m)), some (.int (nI q)), some (.int (nI S)), some (.int (nI (Nat.gcd 46656 S)))] [] w1 r) → (nI q = 0 → Z_X5_odds 35 93 [some (.ref 19), some (.int (nI t)), some (.int (nI c)), some (.int (nI m)), some (.int (nI q)), some (.int (nI S)), some (.int (nI (Nat.gcd 46656 S)))] [] w1 r) → A_X5_odds 35 [.ref 19, .int (nI t), .int (nI c), .int (nI m), .int (nI q)] w r := fun z1 z2 =>
    ai_X5_odds (b_X5_odds_0 he (fun e => absurd e b1) (fun _ => b_X5_odds_8 hf (fun _ => b_X5_odds_19 (am_isWithin _ _ _) (fun e => absurd ((wl1 (n := 6) hm hm0 (by decide)).symm.trans e) (by decide)) (fun _ => b_X5_odds_29 (am_isWithin _ _ _) (fun _ => b_X5_odds_42 ha hp hg (by rw [hcm]; exact z1) (by rw [hcm]; exact z2)) (fun e => absurd ((wi1 (n := 1) hq (by decide)).symm.trans e) (by decide)))) (fun e => absurd e b1)))
  refine ⟨w1, ?_, hF.mono (by decide), hR⟩
  rw [hod]
  rcases (show q = 0 ∨ q = 1 by omega) with rfl | rfl
  · rw [if_pos rfl, ← pk_div (by omega) hgp (by omega)]
    exact ent (fun e => absurd rfl e) (fun _ => b_X5_odds_93 (b_X5_odds_100 hne))
  · rw [if_neg (by omega), ← pk_div (by omega) hgp (by omega)]
    exact ent (fun _ => b_X5_odds_98 (b_X5_odds_100 hne)) (fun e => absurd e (by decide))
theorem am_odds {s : Sg} (h : RepC w s) (x y z v : Int32) : ∃ w', A_X5_odds 35 [.ref 19, .int x, .int y, .int z, .int v] w (some (.int (rOdds s x y z v)), w') ∧ Fr CL w w' ∧ RepC w' s := by
  have hN := h.now
  have hT := am_isTile hN x
  have hT2 := am_isCell hN y
  unfold rOdds
  cases hc : gC s with
  | none =>
    rw [hc] at hT
    exact ⟨w, ai_X5_odds (b_X5_odds_0 hT (fun _ => b_X5_odds_16) (fun q => absurd rfl q)), Fr.refl _ _, h⟩
  | some u =>
    rw [hc] at hT hT2 hN
    rcases ix_cases x (n := 5) (by decide) with ⟨e, -⟩ | ⟨t, ht, rfl, e⟩
    · rw [e] at hT ⊢
      exact ⟨w, ai_X5_odds (b_X5_odds_0 hT (fun _ => b_X5_odds_16) (fun q => absurd rfl q)), Fr.refl _ _, h⟩
    · rw [e] at hT ⊢
      rcases ix_cases y (n := 6) (by decide) with ⟨e2, -⟩ | ⟨c, hq, rfl, e2⟩
      · rw [e2] at hT2 ⊢
        exact ⟨w, ai_X5_odds (b_X5_odds_0 hT (fun q => absurd q b1) (fun _ => b_X5_odds_8 hT2 (fun q => absurd rfl q) (fun _ => b_X5_odds_16))), Fr.refl _ _, h⟩
      · rw [e2] at hT2 ⊢
        have ent : ∀ {r}, Z_X5_odds 35 19 [some (.ref 19), some (.int (nI t)), some (.int (nI c)), some (.int z), some (.int v), none, none] [] w r → A_X5_odds 35 [.ref 19, .int (nI t), .int (nI c), .int z, .int v] w r := fun z1 => ai_X5_odds (b_X5_odds_0 hT (fun q => absurd q b1) (fun _ => b_X5_odds_8 hT2 (fun _ => z1) (fun q => absurd q b1)))
        rcases ix_cases z (n := 7) (by decide) with ⟨e3, h3⟩ | ⟨m, hm, rfl, e3⟩
        · rw [e3]
          exact ⟨w, ent (b_X5_odds_19 (am_isWithin _ _ _) (fun _ => b_X5_odds_39) (fun e => absurd (wl0 (n := 6) h3 (by decide)) e)), Fr.refl _ _, h⟩
        · rw [e3]
          have m0 : m = 0 → ∀ {r}, Z_X5_odds 35 39 [some (.ref 19), some (.int (nI t)), some (.int (nI c)), some (.int (nI m)), some (.int v), none, none] [] w r → A_X5_odds 35 [.ref 19, .int (nI t), .int (nI c), .int (nI m), .int v] w r := fun hm0 {r} z1 => by
            subst hm0
            exact ent (b_X5_odds_19 (am_isWithin _ _ _) (fun _ => z1) (fun e => absurd (wl2 6) e))
          rcases ix_cases v (n := 2) (by decide) with ⟨e4, h4⟩ | ⟨q, hq2, rfl, e4⟩
          · rw [e4]
            by_cases hm0 : m = 0
            · exact ⟨w, m0 hm0 b_X5_odds_39, Fr.refl _ _, h⟩
            · exact ⟨w, ent (b_X5_odds_19 (am_isWithin _ _ _) (fun _ => b_X5_odds_39) (fun _ => b_X5_odds_29 (am_isWithin _ _ _) (fun e => absurd (wi0 (n := 1) h4 (by decide)) e) (fun _ => b_X5_odds_39))), Fr.refl _ _, h⟩
          · rw [e4]
            dsimp only
            by_cases hm0 : m = 0
            · rw [if_pos hm0]
              exact ⟨w, m0 hm0 b_X5_odds_39, Fr.refl _ _, h⟩
            · rw [if_neg hm0]
              exact am_odds_in h hN.1 hN.2 ht hq hm hm0 hq2 hT hT2
theorem am_see {s : Sg} (h : RepC w s) (x y z : Int32) : ∃ w', A_X5_see 35 [.ref 19, .int x, .int y, .int z] w (some (.int (rSee s x y z).1), w') ∧ Fr CL w w' ∧ RepC w' (rSee s x y z).2 := by
  have hN := h.now
  have hT := am_isTile hN x
  unfold rSee
  cases hc : gC s with
  | none =>
    rw [hc] at hT
    exact ⟨w, ai_X5_see (b_X5_see_0 hT (fun q => absurd rfl q) (fun _ => b_X5_see_8)), Fr.refl _ _, h⟩
  | some u =>
    rw [hc] at hT hN
    obtain ⟨⟨u1, u2, u3, u4, u5⟩, s0, s1, s2, s3, s4, s5, s6⟩ := hN
    rcases ix_cases x (n := 5) (by decide) with ⟨e, -⟩ | ⟨t, ht, rfl, e⟩
    · rw [e] at hT ⊢
      exact ⟨w, ai_X5_see (b_X5_see_0 hT (fun q => absurd rfl q) (fun _ => b_X5_see_8)), Fr.refl _ _, h⟩
    · rw [e] at hT ⊢
      rcases ix_cases y (n := 2) (by decide) with ⟨e2, h2⟩ | ⟨a, ha, rfl, e2⟩
      · rw [e2]
        exact ⟨w, ai_X5_see (b_X5_see_0 hT (fun _ => b_X5_see_11 (am_isWithin _ _ _) (fun _ => b_X5_see_29) (fun e => absurd (wi0 (n := 1) h2 (by decide)) e)) (fun q => absurd q b1)), Fr.refl _ _, h⟩
      · rw [e2]
        have w2 := wi1 (n := 1) ha (by decide)
        rcases ix_cases z (n := 4) (by decide) with ⟨e3, h3⟩ | ⟨b, hb, rfl, e3⟩
        · rw [e3]
          exact ⟨w, ai_X5_see (b_X5_see_0 hT (fun _ => b_X5_see_11 (am_isWithin _ _ _) (fun e => absurd (w2.symm.trans e) (by decide)) (fun _ => b_X5_see_20 (am_isWithin _ _ _) (fun e => absurd (wi0 (n := 3) h3 (by decide)) e) (fun _ => b_X5_see_29))) (fun q => absurd q b1)), Fr.refl _ _, h⟩
        · rw [e3]
          have w3 := wi1 (n := 3) hb (by decide)
          have ent : ∀ {r}, Z_X5_see 35 32 [some (.ref 19), some (.int (nI t)), some (.int (nI a)), some (.int (nI b))] [] w r → A_X5_see 35 [.ref 19, .int (nI t), .int (nI a), .int (nI b)] w r := fun z => ai_X5_see (b_X5_see_0 hT (fun _ => b_X5_see_11 (am_isWithin _ _ _) (fun e => absurd (w2.symm.trans e) (by decide)) (fun _ => b_X5_see_20 (am_isWithin _ _ _) (fun _ => z) (fun e => absurd (w3.symm.trans e) (by decide)))) (fun q => absurd q b1))
          dsimp only
          have hl6 := u5.1
          by_cases h6 : 6 ≤ (cS u).length
          · rw [if_pos h6]
            exact ⟨w, ent (b_X5_see_32 (fun e => absurd (nlt (b := 6) (by rw [s5] at e; exact e) (by omega) (by omega)) (by omega)) (fun _ => b_X5_see_44)), Fr.refl _ _, h⟩
          · rw [if_neg h6]
            have hF : Fr [15, 16] w (sI (sA w 16 (upd (wA w 16) t (wA w 16 t &&& nI (mkN a b)))) 15 5 (wI w 15 5 + 1)) := (Fr.sA (by simp)).trans (Fr.sI (by simp))
            refine ⟨_, ?_, hF.mono (by decide), h.put hF (by decide) (u := (cK u, cG u, cN u, cP u, cC u, cS u ++ [(t, a, b)])) ⟨u1, u2, u3, u4, ?_, ?_⟩ ⟨s0, s1, s2, s3, s4, ?_, ?_⟩⟩
            · have e5 : nI ((cS u).length + 1) = wI (sI (sA w 16 (upd (wA w 16) t (wA w 16 t &&& nI (mkN a b)))) 15 5 (wI w 15 5 + 1)) 15 5 := by
                show _ = wI w 15 5 + 1
                rw [s5, nI_1]
              rw [e5]
              exact ent (b_X5_see_32 (fun _ => b_X5_see_47 (am_sortsThatCost ha hb) (am_narrow ht)) (fun e => absurd (by rw [s5]; exact nI_lt (b := 6) (by omega) (by omega)) e))
            · show (cS u ++ [(t, a, b)]).length ≤ 6
              rw [List.length_append]
              simp; omega
            · intro e he
              rcases List.mem_append.mp he with he | he
              · exact u5.2 e he
              · rw [List.mem_singleton] at he
                subst he
                exact ⟨ht, ha, hb⟩
            · show wI w 15 5 + 1 = nI (cS u ++ [(t, a, b)]).length
              rw [s5, nI_1, List.length_append]
              rfl
            · intro t2 ht2
              show upd (wA w 16) t (wA w 16 t &&& nI (mkN a b)) t2 = nI (srt (cS u ++ [(t, a, b)]) t2)
              rw [srt_snoc]
              by_cases e : t2 = t
              · subst e
                have s6' : wA w 16 t2 = nI (srt (cS u) t2) := s6 t2 ht2
                rw [pk_us, if_pos rfl, s6', n_and]
              · rw [pk_un e, if_neg (fun q => e q.symm)]
                exact s6 t2 ht2
theorem am_forget {s : Sg} (h : RepC w s) : ∃ w', A_X5_forget 35 [.ref 19] w (some (.int (rForget s).1), w') ∧ Fr CL w w' ∧ RepC w' (rForget s).2 := by
  have hN := h.now
  obtain ⟨w1, ha, hF, h5, h0, hs⟩ := am_forgetSeenn (w := w)
  unfold rForget
  cases hc : gC s with
  | none =>
    rw [hc] at hN
    obtain ⟨a0, a1, a3, a4, a5⟩ := hN
    refine ⟨w1, ?_, hF.mono (by decide), ?_⟩
    · have := ai_X5_forget (b_X5_forget_0 ha)
      rw [a5] at this
      exact this
    · obtain ⟨⟨h1, h2, h3, h4⟩, p5, p6, p7, p8, p9⟩ := h
      refine ⟨⟨h1.fr hF (by decide) (by decide) (by decide) (by decide), h2.fr hF (by decide) (by decide) (by decide), h3.fr hF (by decide) (by decide) (by decide), h4.fr hF (by decide) (by decide) (by decide)⟩, p5.fr hF (by decide) (by decide), (hF.1 19 9 (by decide)).trans p6, (hF.1 19 10 (by decide)).trans p7, ?_, p9.fr hF (by decide) (by decide) (by decide)⟩
      rw [hc]
      exact ⟨(h5 0 (by decide)).trans a0, (h5 1 (by decide)).trans a1, (h5 3 (by decide)).trans a3, (h5 4 (by decide)).trans a4, h0⟩
  | some u =>
    rw [hc] at hN
    obtain ⟨⟨u1, u2, u3, u4, u5⟩, s0, s1, s2, s3, s4, s5, s6⟩ := hN
    refine ⟨w1, ?_, hF.mono (by decide), h.put hF (by decide) (u := (cK u, cG u, cN u, cP u, cC u, [])) ⟨u1, u2, u3, u4, Nat.zero_le _, fun e he => by cases he⟩ ⟨(h5 0 (by decide)).trans s0, (h5 1 (by decide)).trans s1, (h5 2 (by decide)).trans s2, (h5 3 (by decide)).trans s3, (h5 4 (by decide)).trans s4, h0, fun t ht => hs t ht⟩⟩
    have := ai_X5_forget (b_X5_forget_0 ha)
    rw [s5] at this
    exact this
theorem pick_spec {kn k o : Nat} (h : o < chc kn k 5) : pick kn k o < 5 ∧ prc kn k (pick kn k o) ≠ 0 ∧ chc kn k (pick kn k o) = o := pickF_spec kn k o 5 0 0 rfl rfl (Nat.zero_le _) h
theorem rnS_ok {kn : Nat} {z : Nat × Nat × Nat} (h1 : z.1 < 720) (h2 : z.2.1 < 2147483648) : (rnS kn z).1 < 720 ∧ (rnS kn z).2.1 < 2147483648 := by
  unfold rnS
  by_cases h : chc kn z.1 5 = 0
  · rw [if_pos h]; exact ⟨h1, h2⟩
  · rw [if_neg h]
    have hp := pickF_spec kn z.1 (nxS z.2.1 / 65536 % chc kn z.1 5) 5 0 0 rfl rfl (Nat.zero_le _) (Nat.mod_lt _ (by omega))
    exact ⟨mv_lt h1 hp.1, nxS_lt _⟩
theorem am_runs {s : Sg} (h : RepC w s) (x y v : Int32) : A_X5_runs 35 [.ref 19, .int x, .int y, .int v] w (some (.int (rRuns s x y v)), w) := by
  have hN := h.now
  have hT := am_hasTray hN
  unfold rRuns
  rcases ix_cases x (n := 61) (by decide) with ⟨e, h1⟩ | ⟨n, hn, rfl, e⟩
  · rw [e]
    exact ai_X5_runs (b_X5_runs_0 (am_isWithin _ _ _) (fun _ => b_X5_runs_23) (fun e => absurd (wl0 (n := 60) h1 (by decide)) e))
  · rw [e]
    dsimp only
    by_cases hn0 : n = 0
    · rw [if_pos hn0]
      subst hn0
      exact ai_X5_runs (b_X5_runs_0 (am_isWithin _ _ _) (fun _ => b_X5_runs_23) (fun e => absurd (wl2 60) e))
    · rw [if_neg hn0]
      have w1 := wl1 (n := 60) hn hn0 (by decide)
      by_cases hy : y < 0
      · rw [if_pos hy]
        exact ai_X5_runs (b_X5_runs_0 (am_isWithin _ _ _) (fun e => absurd (w1.symm.trans e) (by decide)) (fun _ => b_X5_runs_10 (fun _ => b_X5_runs_23) (fun e => absurd hy e)))
      · rw [if_neg hy]
        have ent : ∀ {r}, Z_X5_runs 35 14 [some (.ref 19), some (.int (nI n)), some (.int y), some (.int v), none, none, none, none, none, none] [] w r → A_X5_runs 35 [.ref 19, .int (nI n), .int y, .int v] w r := fun z => ai_X5_runs (b_X5_runs_0 (am_isWithin _ _ _) (fun e => absurd (w1.symm.trans e) (by decide)) (fun _ => b_X5_runs_10 (fun e => absurd e hy) (fun _ => z)))
        rcases ix_cases v (n := 3) (by decide) with ⟨e2, h2⟩ | ⟨q, hq, rfl, e2⟩
        · rw [e2]
          exact ent (b_X5_runs_14 (am_isWithin _ _ _) (fun e => absurd (wi0 (n := 2) h2 (by decide)) e) (fun _ => b_X5_runs_23))
        · rw [e2]
          have w2 := wi1 (n := 2) hq (by decide)
          cases hc : gC s with
          | none =>
            rw [hc] at hT
            exact ent (b_X5_runs_14 (am_isWithin _ _ _) (fun _ => b_X5_runs_26 hT (fun e => absurd rfl e) (fun _ => b_X5_runs_33)) (fun e => absurd (w2.symm.trans e) (by decide)))
          | some u =>
            rw [hc] at hT hN
            obtain ⟨⟨u1, u2, u3, u4, u5⟩, s0, s1, s2, s3, s4, s5, s6⟩ := hN
            have hkl := u3.lt
            obtain ⟨sd, hsd, rfl⟩ := nI_of hy
            rw [nI_clamp hsd]
            have loop : ∀ d j, j + d = n → ∀ (z : Nat × Nat × Nat) (l8 l9 : Option Value), z.1 < 720 → z.2.1 < 2147483648 → Z_X5_runs 35 54 [some (.ref 19), some (.int (nI n)), some (.int (nI sd)), some (.int (nI q)), some (.int (nI z.1)), some (.int (nI z.2.1)), some (.int (nI z.2.2)), some (.int (nI j)), l8, l9] [] w (some (.int (rnA (cG u) q (rnG (cN u) d z))), w) := by
              intro d
              induction d with
              | zero =>
                intro j hj z l8 l9 h1 h2
                have hj : j = n := by omega
                subst hj
                refine b_X5_runs_54 (fun _ => ?_) (fun e => absurd (nI_le (Nat.le_refl j) (by omega)) e)
                show Z_X5_runs _ _ _ _ _ (some (.int (rnA (cG u) q z)), w)
                rcases (show q = 0 ∨ q = 1 ∨ q = 2 by omega) with rfl | rfl | rfl
                · exact b_X5_runs_158 (fun e => absurd rfl e) (fun _ => b_X5_runs_162)
                · exact b_X5_runs_158 (fun _ => b_X5_runs_165 (fun e => absurd rfl e) (fun _ => b_X5_runs_170 (by rw [s1]; exact am_cellsAlike h.1.1.1 h1 u2) b_X5_runs_188)) (fun e => absurd e (by decide))
                · exact b_X5_runs_158 (fun _ => b_X5_runs_165 (fun _ => b_X5_runs_186 b_X5_runs_188) (fun e => absurd e (by decide))) (fun e => absurd e (by decide))
              | succ d ih =>
                intro j hj z l8 l9 h1 h2
                have hch := am_choices (w := w) (k := z.1) (kn := cN u) h.1.1.2.2.2 h1 (by omega)
                have h5 := chc_le (cN u) z.1 5
                have hok := rnS_ok (kn := cN u) h1 h2
                refine b_X5_runs_54 (fun e => absurd (nle e (by omega) (by omega)) (by omega)) (fun _ => b_X5_runs_60 (by rw [s2]; exact hch) (fun e => b_X5_runs_152 ?_) (fun e => ?_))
                · have h0 : chc (cN u) z.1 5 = 0 := by have := nle (b := 0) e (by omega) (by omega); omega
                  have hr : rnS (cN u) z = z := by unfold rnS; rw [if_pos h0]
                  rw [nI_1]
                  have := ih (j + 1) (by omega) z (some (.int (nI (chc (cN u) z.1 5)))) l9 h1 h2
                  show Z_X5_runs _ _ _ _ _ (some (.int (rnA (cG u) q (rnG (cN u) d (rnS (cN u) z)))), w)
                  rw [hr]
                  exact this
                · have h0 : chc (cN u) z.1 5 ≠ 0 := fun e2 => e (by rw [e2]; decide)
                  have hp0 : 0 < chc (cN u) z.1 5 := by omega
                  have hp := pick_spec (kn := cN u) (k := z.1) (o := nxS z.2.1 / 65536 % chc (cN u) z.1 5) (Nat.mod_lt _ hp0)
                  have hnx := nxS_lt z.2.1
                  have hr : rnS (cN u) z = (mv z.1 (pick (cN u) z.1 (nxS z.2.1 / 65536 % chc (cN u) z.1 5)), nxS z.2.1, z.2.2 + prc (cN u) z.1 (pick (cN u) z.1 (nxS z.2.1 / 65536 % chc (cN u) z.1 5))) := by unfold rnS; rw [if_neg h0]
                  have hns := am_nextSeed (w := w) h2
                  have hcc := am_choice (w := w) (k := z.1) (kn := cN u) (o := nxS z.2.1 / 65536 % chc (cN u) z.1 5) h.1.1.2.2.2 h1 (by omega) (Nat.mod_lt _ hp0)
                  show Z_X5_runs _ _ _ _ _ (some (.int (rnA (cG u) q (rnG (cN u) d (rnS (cN u) z)))), w)
                  rw [hr] at hok ⊢
                  generalize nxS z.2.1 = n2 at hp hnx hok hns hcc ⊢
                  generalize hqq : n2 / 65536 % chc (cN u) z.1 5 = o2 at hp hok hcc ⊢
                  generalize pick (cN u) z.1 o2 = tt at hp hok hcc ⊢
                  have hgo : go z.1 tt = true := by
                    cases hg : go z.1 tt with
                    | true => rfl
                    | false => exact absurd (by unfold prc; simp [hg]) hp.2.1
                  have hdiv : nI n2 / 65536 = nI (n2 / 65536) := pk_div (d := 65536) (by omega) (by omega) (by omega)
                  have hrem : nI (n2 / 65536) - nI (n2 / 65536) / nI (chc (cN u) z.1 5) * nI (chc (cN u) z.1 5) = nI o2 := by
                    rw [pk_rem (by omega) hp0 (by omega), hqq]
                  have hpr := am_price (w := w) (k := z.1) (t := tt) (kn := cN u) h.1.1.2.2.2 h1 hp.1 (by omega)
                  have hnp : np (prc (cN u) z.1 tt) = nI (prc (cN u) z.1 tt) := by
                    unfold np
                    rw [if_neg hp.2.1]
                  rw [hnp] at hpr
                  refine b_X5_runs_83 hns (nI_ne0 hp0 (by omega)) (by rw [s2, hdiv, hrem]; exact hcc) (by rw [s2]; exact hpr) (am_pushed h.1.1.2.2.1 h1 (by have := hp.1; omega) hgo) (b_X5_runs_152 ?_)
                  rw [nI_1, nI_add]
                  exact ih (j + 1) (by omega) (mv z.1 tt, n2, z.2.2 + prc (cN u) z.1 tt) _ _ hok.1 hok.2
            exact ent (b_X5_runs_14 (am_isWithin _ _ _) (fun _ => b_X5_runs_26 hT (fun _ => b_X5_runs_36 (by rw [s0]; exact loop n 0 (by omega) (cK u, sd, 0) none none u1 (by omega))) (fun e => absurd e b1)) (fun e => absurd (w2.symm.trans e) (by decide)))
theorem am_image {s : Sg} (h : RepC w s) : ∃ w', A_X5_image 35 [.ref 19] w (some (.int (rImage s).1), w') ∧ Fr CL w w' ∧ RepC w' (rImage s).2 := by
  have hN := h.now
  have hT := am_hasTray hN
  unfold rImage
  cases hc : gC s with
  | none =>
    rw [hc] at hT
    exact ⟨w, ai_X5_image (b_X5_image_0 hT (fun e => absurd rfl e) (fun _ => b_X5_image_7)), Fr.refl _ _, h⟩
  | some u =>
    rw [hc] at hT hN
    obtain ⟨w1, ha, hF, hf, hs⟩ := am_copyk (w := w)
    obtain ⟨hu, hs0⟩ := hN
    have hs1 := hs0.fr hF (by decide) (by decide)
    obtain ⟨s0, s1, s2, s3, s4, s5, s6⟩ := hs0
    have hF2 : Fr [17, 18, 19] w (sI w1 19 11 1) := (hF.mono (by decide)).trans (Fr.sI (by simp))
    refine ⟨sI w1 19 11 1, ?_, hF2.mono (by decide), ?_⟩
    · have := ai_X5_image (b_X5_image_0 hT (fun _ => b_X5_image_10 ha) (fun e => absurd e b1))
      rw [hs1.2.2.2.1] at this
      exact this
    · obtain ⟨⟨h1, h2, h3, h4⟩, p5, p6, p7, p8, p9⟩ := h
      have p5' := p5.fr hF (by decide) (by decide)
      refine ⟨⟨h1.fr hF2 (by decide) (by decide) (by decide) (by decide), h2.fr hF2 (by decide) (by decide) (by decide), h3.fr hF2 (by decide) (by decide) (by decide), h4.fr hF2 (by decide) (by decide) (by decide)⟩, p5', (hF.1 19 9 (by decide)).trans p6, (hF.1 19 10 (by decide)).trans p7, ⟨hu, hs1⟩, ⟨rfl, hu, (hf 0 (by decide)).trans s0, (hf 1 (by decide)).trans s1, (hf 2 (by decide)).trans s2, (hf 3 (by decide)).trans s3, (hf 4 (by decide)).trans s4, (hf 5 (by decide)).trans s5, fun t ht => (hs t ht).trans (s6 t ht)⟩⟩
theorem am_restore {s : Sg} (h : RepC w s) : ∃ w', A_X5_restore 35 [.ref 19] w (some (.int (rRest s).1), w') ∧ Fr CL w w' ∧ RepC w' (rRest s).2 := by
  have hN := h.kep
  unfold rRest
  cases hc : gI s with
  | none =>
    rw [hc] at hN
    exact ⟨w, ai_X5_restore (b_X5_restore_0 (fun e => absurd hN e) (fun _ => b_X5_restore_7)), Fr.refl _ _, h⟩
  | some u =>
    rw [hc] at hN
    obtain ⟨h11, hu, s0, s1, s2, s3, s4, s5, s6⟩ := hN
    obtain ⟨w1, ha, hF, hf, hs⟩ := am_copyn (w := w)
    refine ⟨w1, ?_, hF.mono (by decide), h.put hF (by decide) hu ⟨(hf 0 (by decide)).trans s0, (hf 1 (by decide)).trans s1, (hf 2 (by decide)).trans s2, (hf 3 (by decide)).trans s3, (hf 4 (by decide)).trans s4, (hf 5 (by decide)).trans s5, fun t ht => (hs t ht).trans (s6 t ht)⟩⟩
    have := ai_X5_restore (b_X5_restore_0 (fun _ => b_X5_restore_10 ha) (fun e => absurd (h11.symm.trans e) (by decide)))
    rw [(hf 3 (by decide)).trans s3] at this
    exact this
theorem am_count_in {s : Sg} (h : RepC w s) {q : Nat} (hq : q < 10) : A_X5_count 35 [.ref 19, .int (nI q)] w (some (.int (ctA s q)), w) := by
  have hN := h.now
  have hT := am_hasTray hN
  obtain ⟨⟨h1, -⟩, p5, p6, p7, -, -⟩ := h
  rcases (show q = 0 ∨ q = 1 ∨ q = 2 ∨ q = 3 ∨ q = 4 ∨ q = 5 ∨ q = 6 ∨ q = 7 ∨ q = 8 ∨ q = 9 by omega) with rfl | rfl | rfl | rfl | rfl | rfl | rfl | rfl | rfl | rfl
  · refine ai_X5_count (b_X5_count_0_c0 rfl (b_X5_count_56 ?_))
    show A_X2_place _ _ _ (some (.int (oN (gC s) _ _)), _)
    cases hc : gC s with
    | none => rw [hc] at hN; rw [hN.1]; exact am_place_m1 (by omega)
    | some u => rw [hc] at hN; rw [hN.2.1]; exact am_place (s := 5) h1.2.1 (by omega) hN.1.1 (by omega)
  · refine ai_X5_count (b_X5_count_0_c1 rfl (b_X5_count_72 ?_))
    show A_X2_place _ _ _ (some (.int (oN (gC s) _ _)), _)
    cases hc : gC s with
    | none => rw [hc] at hN; rw [hN.2.1]; exact am_place_m1 (by omega)
    | some u => rw [hc] at hN; rw [hN.2.2.1]; exact am_place (s := 5) h1.2.1 (by omega) hN.1.2.1 (by omega)
  · refine ai_X5_count (b_X5_count_0_c2 rfl ?_)
    show Z_X5_count _ _ _ _ _ (some (.int (oN (gC s) _ _)), _)
    cases hc : gC s with
    | none =>
      rw [hc] at hN
      have := @b_X5_count_88 (nI 2) w
      rw [hN.2.2.1] at this
      exact this
    | some u =>
      rw [hc] at hN
      have := @b_X5_count_88 (nI 2) w
      rw [hN.2.2.2.2.1] at this
      exact this
  · refine ai_X5_count (b_X5_count_0_c3 rfl ?_)
    show Z_X5_count _ _ _ _ _ (some (.int (oN (gC s) _ _)), _)
    cases hc : gC s with
    | none =>
      rw [hc] at hN
      have := @b_X5_count_96 (nI 3) w
      rw [hN.2.2.2.1] at this
      exact this
    | some u =>
      rw [hc] at hN
      have := @b_X5_count_96 (nI 3) w
      rw [hN.2.2.2.2.2.1] at this
      exact this
  · refine ai_X5_count (b_X5_count_0_c4 rfl (b_X5_count_104 ?_))
    show A_X2_choices _ _ _ (some (.int (oN (gC s) _ _)), _)
    cases hc : gC s with
    | none => rw [hc] at hN; rw [hN.1]; exact am_choices_m1
    | some u =>
      rw [hc] at hN
      rw [hN.2.1, hN.2.2.2.1]
      exact am_choices h1.2.2.2 hN.1.1 (by have := hN.1.2.2.1.lt; omega)
  · refine ai_X5_count (b_X5_count_0_c5 rfl ?_)
    show Z_X5_count _ _ _ _ _ (some (.int (oN (gC s) _ _)), _)
    cases hc : gC s with
    | none =>
      rw [hc] at hT
      exact b_X5_count_126 hT (fun _ => b_X5_count_154 b_X5_count_155) (fun e => absurd rfl e)
    | some u =>
      rw [hc] at hT hN
      refine b_X5_count_126 hT (fun e => absurd e b1) (fun _ => b_X5_count_133 ?_ b_X5_count_155)
      rw [hN.2.1, hN.2.2.1]
      exact am_cellsAlike h1.1 hN.1.1 hN.1.2.1
  · refine ai_X5_count (b_X5_count_0_c6 rfl ?_)
    show Z_X5_count _ _ _ _ _ (some (.int (oN (gC s) _ _)), _)
    cases hc : gC s with
    | none =>
      rw [hc] at hN
      have := @b_X5_count_156 (nI 6) w
      rw [hN.2.2.2.2] at this
      exact this
    | some u =>
      rw [hc] at hN
      have := @b_X5_count_156 (nI 6) w
      rw [hN.2.2.2.2.2.2.1] at this
      exact this
  · refine ai_X5_count (b_X5_count_0_c7 rfl ?_)
    have := @b_X5_count_164 (nI 7) w
    rw [p5.2.1] at this
    exact this
  · refine ai_X5_count (b_X5_count_0_c8 rfl ?_)
    have := @b_X5_count_169 (nI 8) w
    rw [p6] at this
    exact this
  · refine ai_X5_count (b_X5_count_0_c9 rfl ?_)
    have := @b_X5_count_174 (nI 9) w
    rw [p7] at this
    exact this
theorem am_count {s : Sg} (h : RepC w s) (x : Int32) : A_X5_count 35 [.ref 19, .int x] w (some (.int (rCount s x)), w) := by
  unfold rCount
  rcases ix_cases x (n := 10) (by decide) with ⟨e, h1⟩ | ⟨q, hq, rfl, e⟩
  · rw [e]
    exact ai_X5_count (b_X5_count_0_d (sw_d (n := 9) h1 (by decide)) b_X5_count_179)
  · rw [e]
    exact am_count_in h hq
end PV
