-- ===== the reference: parts, sorts, runs =====
def PF (w : Wd) (a : Nat) (f : Nat → Nat) : Prop := ∀ q, q < 720 → wA w a q = nI (f q)
theorem PF.fr {T : List Nat} {w w' : Wd} {a : Nat} {f : Nat → Nat} (h : PF w a f) (g : Fr T w w') (n : a ∉ T) : PF w' a f := fun q hq => (congrFun (g.2.2.2 a n) q).trans (h q hq)
theorem PF.put {w : Wd} {a q v : Nat} {f : Nat → Nat} {x : Int32} (h : PF w a f) (hx : x = nI v) : PF (sA w a (upd (wA w a) q x)) a (uN f q v) := by
  intro r hr
  rw [wA_sA_s]
  by_cases e : r = q
  · subst e; rw [pk_us, uN_s, hx]
  · rw [pk_un e, uN_n e]; exact h r hr
section MP
variable {w : Wd}
theorem am_drawPush {k kn : Nat} {p f : Nat → Nat} (hK : KM w kn) (hk : k < 720) (hp : PF w 29 p) (hf : PF w 30 f) : ∃ w', A_X6_drawPush 35 [.ref 22, .int (nI k)] w (none, w') ∧ Fr [30] w w' ∧ PF w' 30 (shR kn k (p k) f) := by
  have h3 := chc_3 (kn := kn) hk
  have hml := mbN_lt kn k
  have hsz := am_msize (w := w) (b := mbN kn k) (by omega)
  rw [szN_mb] at hsz
  have hin : vp_in (nI k) 720 := vp_in_nI hk (by omega)
  have hcl : (nI k).toNatClampNeg = k := nI_clamp (by omega)
  have hpk : wA w 29 (nI k).toNatClampNeg = nI (p k) := by rw [hcl]; exact hp k hk
  by_cases h0 : chc kn k 5 = 0
  · have e : shR kn k (p k) f = uN f k (f k + 6 * p k) := by unfold shR gv; rw [if_pos h0]
    rw [e]
    rw [h0] at hsz
    have hF : Fr [30] w (sA w 30 (upd (wA w 30) (nI k).toNatClampNeg (wA w 30 (nI k).toNatClampNeg + 6 * wA w 29 (nI k).toNatClampNeg))) := Fr.sA (by simp)
    refine ⟨_, ai_X6_drawPush (b_X6_drawPush_0 (am_trayOf hk) (am_mayBe hK hk) hsz (fun e => absurd rfl e) (fun _ => b_X6_drawPush_22 hin hin hin (b_X6_drawPush_40 (b_X6_drawPush_43 (fun e => absurd e (by decide)) (fun _ => b_X6_drawPush_49 (fun _ => b_X6_drawPush_98) (fun e => absurd (by decide) e)))))), hF, ?_⟩
    rw [hpk, hcl]
    refine hf.put ?_
    rw [hf k hk, show (6 : Int32) = nI 6 from rfl, pk_mul, nI_add]
  · have e : shR kn k (p k) f = shT kn k (6 / chc kn k 5 * p k) 5 f := by unfold shR; rw [if_neg h0]
    have hdv : (6 : Int32) / nI (chc kn k 5) = nI (6 / chc kn k 5) := pk_div (a := 6) (by omega) (by omega) (by omega)
    rw [e]
    have loop : ∀ d t, t + d = 5 → ∀ w1, Fr [30] w w1 → PF w1 30 (shT kn k (6 / chc kn k 5 * p k) t f) → ∃ w', Z_X6_drawPush 35 43 [some (.ref 22), some (.int (nI k)), some (.int (nI (tr k))), some (.int (nI (mbN kn k))), some (.int (nI (chc kn k 5))), some (.int (nI t))] [] w1 (none, w') ∧ Fr [30] w w' ∧ PF w' 30 (shT kn k (6 / chc kn k 5 * p k) 5 f) := by
      intro d
      induction d with
      | zero =>
        intro t ht w1 hF hq
        have ht : t = 5 := by omega
        subst ht
        exact ⟨w1, b_X6_drawPush_43 (fun _ => b_X6_drawPush_98) (fun h => absurd (show (5 : Int32) ≤ nI 5 from nI_le (a := 5) (by omega) (by omega)) h), hF, hq⟩
      | succ d ih =>
        intro t ht w1 hF hq
        have hi := am_isIn (w := w1) (b := mbN kn k) (i := t) (by omega) (by omega)
        have hbit : (mbN kn k).testBit t = mbp kn k t := by
          rw [mbN_bit]
          have : (decide (t < 5)) = true := by simp; omega
          rw [this]; rfl
        rw [hbit] at hi
        have ent : ∀ {r}, Z_X6_drawPush 35 54 [some (.ref 22), some (.int (nI k)), some (.int (nI (tr k))), some (.int (nI (mbN kn k))), some (.int (nI (chc kn k 5))), some (.int (nI t))] [] w1 r → Z_X6_drawPush 35 43 [some (.ref 22), some (.int (nI k)), some (.int (nI (tr k))), some (.int (nI (mbN kn k))), some (.int (nI (chc kn k 5))), some (.int (nI t))] [] w1 r := fun z => b_X6_drawPush_43 (fun h => absurd (nle (a := 5) h (by omega) (by omega)) (by omega)) (fun _ => b_X6_drawPush_49 (fun h => absurd h (nI_nle (by omega) (by omega))) (fun _ => z))
        by_cases hz0 : prc kn k t = 0
        · have hb : mbp kn k t = false := by simp [mbp, hz0]
          rw [hb] at hi
          obtain ⟨w', hz, rest⟩ := ih (t + 1) (by omega) w1 hF (by unfold shT; rw [if_pos hz0]; exact hq)
          refine ⟨w', ent (b_X6_drawPush_54 hi (fun _ => b_X6_drawPush_92 ?_) (fun e => absurd rfl e)), rest⟩
          rw [nI_1]; exact hz
        · have hb : mbp kn k t = true := by simp [mbp, hz0]
          rw [hb] at hi
          have hq7 := mv_lt hk (show t < 5 by omega)
          have hcq : (nI (mv k t)).toNatClampNeg = mv k t := nI_clamp (by omega)
          have hinq : vp_in (nI (mv k t)) 720 := vp_in_nI hq7 (by omega)
          have hpk1 : wA w1 29 (nI k).toNatClampNeg = nI (p k) := by rw [hcl]; exact (hp.fr hF (by decide)) k hk
          obtain ⟨w', hz, rest⟩ := ih (t + 1) (by omega) (sA w1 30 (upd (wA w1 30) (nI (mv k t)).toNatClampNeg (wA w1 30 (nI (mv k t)).toNatClampNeg + 6 / nI (chc kn k 5) * wA w1 29 (nI k).toNatClampNeg))) (hF.trans (Fr.sA (by simp))) (by
            have e2 : shT kn k (6 / chc kn k 5 * p k) (t + 1) f = uN (shT kn k (6 / chc kn k 5 * p k) t f) (mv k t) (shT kn k (6 / chc kn k 5 * p k) t f (mv k t) + 6 / chc kn k 5 * p k) := by
              show (if _ then _ else gv _ _ _) = _
              rw [if_neg hz0]; rfl
            rw [e2, hcq]
            refine hq.put ?_
            rw [hpk1, hq _ hq7, hdv, pk_mul, nI_add])
          refine ⟨w', ent (b_X6_drawPush_54 hi (fun e => absurd e b1) (fun _ => b_X6_drawPush_63 (am_mpushed hk (by omega)) (am_rankOf hq7) hinq (nI_ne0 (by omega) (by omega)) hin hinq (b_X6_drawPush_92 ?_))), rest⟩
          rw [nI_1]; exact hz
    obtain ⟨w', hz, rest⟩ := loop 5 0 rfl w (Fr.refl _ _) hf
    exact ⟨w', ai_X6_drawPush (b_X6_drawPush_0 (am_trayOf hk) (am_mayBe hK hk) hsz (fun _ => b_X6_drawPush_40 hz) (fun e => absurd (neq (b := 0) e (by omega) (by omega)) h0)), rest⟩
theorem am_layParts {k kn m : Nat} (hK : KM w kn) (h1 : wI w 22 1 = nI (tr k)) (hk : k < 720) (hm : m ≤ 6) : ∃ w', A_X6_layParts 35 [.ref 22, .int (nI m)] w (none, w') ∧ Fr [29, 30] w w' ∧ PF w' 29 (rp kn k m) := by
  have no : ∀ {j d}, j + (d + 1) = 720 → ¬ (720 : Int32) ≤ nI j := fun hj h => absurd (nle (a := 720) h (by omega) (by omega)) (by omega)
  have pushes : ∀ d j, j + d = m → ∀ (w1 : Wd) (l3 : Option Value), Fr [29, 30] w w1 → PF w1 29 (rp kn k j) → ∃ w', Z_X6_layParts 35 37 [some (.ref 22), some (.int (nI m)), some (.int (nI j)), l3] [] w1 (none, w') ∧ Fr [29, 30] w w' ∧ PF w' 29 (rp kn k m) := by
    intro d
    induction d with
    | zero =>
      intro j hj w1 l3 hF hp
      have hj : j = m := by omega
      subst hj
      exact ⟨w1, b_X6_layParts_37 (fun _ => b_X6_layParts_126) (fun h => absurd (nI_le (Nat.le_refl j) (by omega)) h), hF, hp⟩
    | succ d ih =>
      intro j hj w1 l3 hF hp
      -- copy back
      have back : ∀ e i, i + e = 720 → ∀ w2, Fr [29, 30] w w2 → PF w2 30 (rp kn k (j + 1)) → (∀ r, r < i → wA w2 29 r = nI (rp kn k (j + 1) r)) → ∃ w', Z_X6_layParts 35 95 [some (.ref 22), some (.int (nI m)), some (.int (nI j)), some (.int (nI i))] [] w2 (none, w') ∧ Fr [29, 30] w w' ∧ PF w' 29 (rp kn k m) := by
        intro e
        induction e with
        | zero =>
          intro i hi w2 hF2 h30 h29
          have hi : i = 720 := by omega
          subst hi
          obtain ⟨w', hz, rest⟩ := ih (j + 1) (by omega) w2 (some (.int (nI 720))) hF2 (fun q hq => h29 q hq)
          refine ⟨w', b_X6_layParts_95 (fun _ => b_X6_layParts_120 ?_) (fun h => absurd (show (720 : Int32) ≤ nI 720 from nI_le (a := 720) (by omega) (by omega)) h), rest⟩
          rw [nI_1]; exact hz
        | succ e ih2 =>
          intro i hi w2 hF2 h30 h29
          have hcl : (nI i).toNatClampNeg = i := nI_clamp (by omega)
          have hin : vp_in (nI i) 720 := vp_in_nI (by omega) (by omega)
          obtain ⟨w', hz, rest⟩ := ih2 (i + 1) (by omega) (sA w2 29 (upd (wA w2 29) (nI i).toNatClampNeg (wA w2 30 (nI i).toNatClampNeg))) (hF2.trans (Fr.sA (by simp))) (fun q hq => by rw [wA_sA_n (by decide)]; exact h30 q hq) (fun r hr => by
            rw [wA_sA_s, hcl]
            by_cases e : r = i
            · subst e; rw [pk_us]; exact h30 r (by omega)
            · rw [pk_un e]; exact h29 r (by omega))
          refine ⟨w', b_X6_layParts_95 (fun h => absurd h (no hi)) (fun _ => b_X6_layParts_102 hin hin ?_), rest⟩
          rw [nI_1]; exact hz
      -- draw
      have draw : ∀ e i, i + e = 720 → ∀ w2, Fr [29, 30] w w2 → PF w2 29 (rp kn k j) → PF w2 30 (stR kn (rp kn k j) i) → ∃ w', Z_X6_layParts 35 66 [some (.ref 22), some (.int (nI m)), some (.int (nI j)), some (.int (nI i))] [] w2 (none, w') ∧ Fr [29, 30] w w' ∧ PF w' 29 (rp kn k m) := by
        intro e
        induction e with
        | zero =>
          intro i hi w2 hF2 h29 h30
          have hi : i = 720 := by omega
          subst hi
          obtain ⟨w', hz, rest⟩ := back 720 0 rfl w2 hF2 h30 (fun r hr => absurd hr (Nat.not_lt_zero _))
          exact ⟨w', b_X6_layParts_66 (fun _ => b_X6_layParts_93 hz) (fun h => absurd (show (720 : Int32) ≤ nI 720 from nI_le (a := 720) (by omega) (by omega)) h), rest⟩
        | succ e ih2 =>
          intro i hi w2 hF2 h29 h30
          have hcl : (nI i).toNatClampNeg = i := nI_clamp (by omega)
          have hin : vp_in (nI i) 720 := vp_in_nI (by omega) (by omega)
          have hle := rp_le (kn := kn) (m := j) hk (show i < 720 by omega)
          have h66 : 6 ^ j ≤ 6 ^ 6 := Nat.pow_le_pow_right (by omega) (by omega)
          have hval : wA w2 29 (nI i).toNatClampNeg = nI (rp kn k j i) := by rw [hcl]; exact h29 i (by omega)
          by_cases h0 : rp kn k j i = 0
          · obtain ⟨w', hz, rest⟩ := ih2 (i + 1) (by omega) w2 hF2 h29 (by unfold stR; rw [if_pos h0]; exact h30)
            refine ⟨w', b_X6_layParts_66 (fun h => absurd h (no hi)) (fun _ => b_X6_layParts_73 hin (fun _ => b_X6_layParts_87 ?_) (fun h => absurd (by rw [hval, h0]; decide) h)), rest⟩
            rw [nI_1]; exact hz
          · obtain ⟨w3, ha, hF3, hp3⟩ := am_drawPush (w := w2) (k := i) (hK.fr hF2 (by decide)) (by omega) h29 h30
            obtain ⟨w', hz, rest⟩ := ih2 (i + 1) (by omega) w3 (hF2.trans (hF3.mono (by decide))) (h29.fr hF3 (by decide)) (by unfold stR; rw [if_neg h0]; exact hp3)
            refine ⟨w', b_X6_layParts_66 (fun h => absurd h (no hi)) (fun _ => b_X6_layParts_73 hin (fun h => absurd (nle (b := 0) (by rw [hval] at h; exact h) (by omega) (by omega)) (by omega)) (fun _ => b_X6_layParts_82 ha (b_X6_layParts_87 ?_))), rest⟩
            rw [nI_1]; exact hz
      -- clear
      have clear : ∀ e i, i + e = 720 → ∀ w2, Fr [29, 30] w w2 → PF w2 29 (rp kn k j) → (∀ r, r < i → wA w2 30 r = nI 0) → ∃ w', Z_X6_layParts 35 44 [some (.ref 22), some (.int (nI m)), some (.int (nI j)), some (.int (nI i))] [] w2 (none, w') ∧ Fr [29, 30] w w' ∧ PF w' 29 (rp kn k m) := by
        intro e
        induction e with
        | zero =>
          intro i hi w2 hF2 h29 h30
          have hi : i = 720 := by omega
          subst hi
          obtain ⟨w', hz, rest⟩ := draw 720 0 rfl w2 hF2 h29 (fun q hq => h30 q hq)
          exact ⟨w', b_X6_layParts_44 (fun _ => b_X6_layParts_64 hz) (fun h => absurd (show (720 : Int32) ≤ nI 720 from nI_le (a := 720) (by omega) (by omega)) h), rest⟩
        | succ e ih2 =>
          intro i hi w2 hF2 h29 h30
          have hcl : (nI i).toNatClampNeg = i := nI_clamp (by omega)
          obtain ⟨w', hz, rest⟩ := ih2 (i + 1) (by omega) (sA w2 30 (upd (wA w2 30) (nI i).toNatClampNeg 0)) (hF2.trans (Fr.sA (by simp))) (fun q hq => by rw [wA_sA_n (by decide)]; exact h29 q hq) (fun r hr => by
            rw [wA_sA_s, hcl]
            by_cases e : r = i
            · subst e; rw [pk_us]; rfl
            · rw [pk_un e]; exact h30 r (by omega))
          refine ⟨w', b_X6_layParts_44 (fun h => absurd h (no hi)) (fun _ => b_X6_layParts_51 (vp_in_nI (by omega) (by omega)) ?_), rest⟩
          rw [nI_1]; exact hz
      obtain ⟨w', hz, rest⟩ := clear 720 0 rfl w1 hF hp (fun r hr => absurd hr (Nat.not_lt_zero _))
      exact ⟨w', b_X6_layParts_37 (fun h => absurd (nle h (by omega) (by omega)) (by omega)) (fun _ => b_X6_layParts_42 hz), rest⟩
  have first : ∀ e i, i + e = 720 → ∀ w2, Fr [29, 30] w w2 → (∀ r, r < i → wA w2 29 r = nI 0) → ∃ w', Z_X6_layParts 35 2 [some (.ref 22), some (.int (nI m)), some (.int (nI i)), none] [] w2 (none, w') ∧ Fr [29, 30] w w' ∧ PF w' 29 (rp kn k m) := by
    intro e
    induction e with
    | zero =>
      intro i hi w2 hF2 h29
      have hi : i = 720 := by omega
      subst hi
      have t1 : wI w2 22 1 = nI (tr k) := (hF2.1 22 1 (by decide)).trans h1
      obtain ⟨w', hz, rest⟩ := pushes m 0 (by omega) (sA w2 29 (upd (wA w2 29) (nI k).toNatClampNeg 1)) none (hF2.trans (Fr.sA (by simp))) (by
        rw [nI_clamp (by omega)]
        exact PF.put (f := fun _ => 0) (v := 1) (fun q hq => h29 q hq) rfl)
      exact ⟨w', b_X6_layParts_2 (fun _ => b_X6_layParts_22 (by rw [t1]; exact am_rankOf hk) (vp_in_nI hk (by omega)) hz) (fun h => absurd (show (720 : Int32) ≤ nI 720 from nI_le (a := 720) (by omega) (by omega)) h), rest⟩
    | succ e ih2 =>
      intro i hi w2 hF2 h29
      have hcl : (nI i).toNatClampNeg = i := nI_clamp (by omega)
      obtain ⟨w', hz, rest⟩ := ih2 (i + 1) (by omega) (sA w2 29 (upd (wA w2 29) (nI i).toNatClampNeg 0)) (hF2.trans (Fr.sA (by simp))) (fun r hr => by
        rw [wA_sA_s, hcl]
        by_cases e : r = i
        · subst e; rw [pk_us]; rfl
        · rw [pk_un e]; exact h29 r (by omega))
      refine ⟨w', b_X6_layParts_2 (fun h => absurd h (no hi)) (fun _ => b_X6_layParts_9 (vp_in_nI (by omega) (by omega)) ?_), rest⟩
      rw [nI_1]; exact hz
  obtain ⟨w', hz, rest⟩ := first 720 0 rfl w (Fr.refl _ _) (fun r hr => absurd hr (Nat.not_lt_zero _))
  exact ⟨w', ai_X6_layParts (b_X6_layParts_0 hz), rest⟩
theorem am_oddsNow {u : CU} {t x m q : Nat} (hu : CuOK u) (hK : KM w (cN u)) (h1 : wI w 22 1 = nI (tr (cK u))) (ht : t < 5) (hx : x < 6) (hm : m < 7) (hq : q < 2) : ∃ w', A_X6_oddsNow 35 [.ref 22, .int (nI t), .int (nI x), .int (nI m), .int (nI q)] w (some (.int (odN u m t x q)), w') ∧ Fr [29, 30] w w' := by
  obtain ⟨u1, u2, u3, u4, u5⟩ := hu
  obtain ⟨w1, ha, hF, hp⟩ := am_layParts (m := m) hK h1 u1 (by omega)
  refine ⟨w1, ?_, hF⟩
  have h66 : ∀ j, j ≤ 6 → 6 ^ j ≤ 6 ^ 6 := fun j hj => Nat.pow_le_pow_right (by omega) hj
  have h6m := h66 m (by omega)
  have hsum : ∀ i, i ≤ 720 → swp1 (rp (cN u) (cK u) m) t x i ≤ 6 ^ m := by
    intro i hi
    have mono : ∀ d, swp1 (rp (cN u) (cK u) m) t x i ≤ swp1 (rp (cN u) (cK u) m) t x (i + d) := by
      intro d
      induction d with
      | zero => exact Nat.le_refl _
      | succ d ih => refine Nat.le_trans ih ?_; show _ ≤ swp1 _ t x (i + d) + _; omega
    have h1 := mono (720 - i)
    rw [show i + (720 - i) = 720 by omega] at h1
    have h2 := swp1_le (rp (cN u) (cK u) m) t x 720
    rw [sumN_rp u1 m] at h2
    omega
  obtain ⟨S, hS⟩ : ∃ S, S = swp1 (rp (cN u) (cK u) m) t x 720 := ⟨_, rfl⟩
  have hSl : S ≤ 6 ^ m := by rw [hS]; exact hsum 720 (Nat.le_refl _)
  have hpos : 0 < 6 ^ m := Nat.pow_pos (by omega)
  have hgp : 0 < Nat.gcd S (6 ^ m) := Nat.gcd_pos_of_pos_right _ hpos
  have hgl : Nat.gcd S (6 ^ m) ≤ 6 ^ m := Nat.gcd_le_right _ hpos
  have hod : odN u m t x q = nI (if q = 0 then S / Nat.gcd S (6 ^ m) else 6 ^ m / Nat.gcd S (6 ^ m)) := by
    unfold odN oddsN
    rw [← hS]
  have fin : ∀ v, Z_X6_oddsNow 35 89 [some (.ref 22), some (.int (nI t)), some (.int (nI x)), some (.int (nI m)), some (.int (nI q)), some (.int (nI S)), some (.int (nI (6 ^ m))), some (.int v)] [] w1 (some (.int (odN u m t x q)), w1) := by
    intro v
    rw [hod]
    rcases (show q = 0 ∨ q = 1 by omega) with rfl | rfl
    · rw [if_pos rfl, ← pk_div (by omega) hgp (by omega)]
      exact b_X6_oddsNow_89 (am_divisor (by omega) (by omega)) (fun e => absurd rfl e) (fun _ => b_X6_oddsNow_103 (nI_ne0 hgp (by omega)) b_X6_oddsNow_116)
    · rw [if_neg (by omega), ← pk_div (by omega) hgp (by omega)]
      exact b_X6_oddsNow_89 (am_divisor (by omega) (by omega)) (fun _ => b_X6_oddsNow_111 (nI_ne0 hgp (by omega)) b_X6_oddsNow_116) (fun e => absurd e (by decide))
  have adds : ∀ d i, i + d = 720 → Z_X6_oddsNow 35 36 [some (.ref 22), some (.int (nI t)), some (.int (nI x)), some (.int (nI m)), some (.int (nI q)), some (.int (nI (swp1 (rp (cN u) (cK u) m) t x i))), some (.int (nI (6 ^ m))), some (.int (nI i))] [] w1 (some (.int (odN u m t x q)), w1) := by
    intro d
    induction d with
    | zero =>
      intro i hi
      have hi : i = 720 := by omega
      subst hi
      rw [← hS]
      exact b_X6_oddsNow_36 (fun _ => fin _) (fun h => absurd (show (720 : Int32) ≤ nI 720 from nI_le (a := 720) (by omega) (by omega)) h)
    | succ d ih =>
      intro i hi
      have hcl : (nI i).toNatClampNeg = i := nI_clamp (by omega)
      have hin : vp_in (nI i) 720 := vp_in_nI (by omega) (by omega)
      have hle := rp_le (kn := cN u) (m := m) u1 (show i < 720 by omega)
      have hval : wA w1 29 (nI i).toNatClampNeg = nI (rp (cN u) (cK u) m i) := by rw [hcl]; exact hp i (by omega)
      have hsg := sg_lt (show i < 720 by omega) hx
      have hno : ¬ (720 : Int32) ≤ nI i := fun h => absurd (nle (a := 720) h (by omega) (by omega)) (by omega)
      have go : ∀ v : Int32, (∀ a : Nat, nI a + v = nI (a + if pl i t = x then rp (cN u) (cK u) m i else 0)) → Z_X6_oddsNow 35 80 [some (.ref 22), some (.int (nI t)), some (.int (nI x)), some (.int (nI m)), some (.int (nI q)), some (.int (nI (swp1 (rp (cN u) (cK u) m) t x i))), some (.int (nI (6 ^ m))), some (.int (nI i))] [.int v, .int (nI (swp1 (rp (cN u) (cK u) m) t x i))] w1 (some (.int (odN u m t x q)), w1) := by
        intro v hv
        refine b_X6_oddsNow_80 ?_
        rw [hv, nI_1]
        exact ih (i + 1) (by omega)
      have z0 : ∀ a : Nat, nI a + 0 = nI a := fun a => by rw [show (0 : Int32) = nI 0 from rfl, nI_add]; rfl
      refine b_X6_oddsNow_36 (fun h => absurd h hno) (fun _ => b_X6_oddsNow_44 hin (fun h => b_X6_oddsNow_79 (go 0 (fun a => ?_))) (fun h => b_X6_oddsNow_56 (am_trayOf (by omega)) (am_isAt (by omega) hx) (fun h2 => b_X6_oddsNow_79 (go 0 (fun a => ?_))) (fun h2 => b_X6_oddsNow_69 hin ?_)))
      · rw [hval] at h
        have h0 := nle (b := 0) h (by omega) (by omega)
        rw [z0]
        congr 1
        split <;> omega
      · have hne : ¬ pl i t = x := fun e => by
          have h3 := sg_pl (show i < 720 by omega) (show t < 6 by omega)
          rw [e] at h3
          exact h2 (by rw [h3])
        rw [if_neg hne, z0]
        rfl
      · have h3 : sg i x = t := neq h2 (by omega) (by omega)
        have hpl : pl i t = x := by rw [← h3]; exact pl_sg (by omega) hx
        rw [hval]
        exact go _ (fun a => by rw [if_pos hpl, nI_add])
  have pows : ∀ d i, i + d = m → Z_X6_oddsNow 35 14 [some (.ref 22), some (.int (nI t)), some (.int (nI x)), some (.int (nI m)), some (.int (nI q)), some (.int 0), some (.int (nI (6 ^ i))), some (.int (nI i))] [] w1 (some (.int (odN u m t x q)), w1) := by
    intro d
    induction d with
    | zero =>
      intro i hi
      have hi : i = m := by omega
      subst hi
      exact b_X6_oddsNow_14 (fun _ => b_X6_oddsNow_33 (adds 720 0 rfl)) (fun h => absurd (nI_le (Nat.le_refl i) (by omega)) h)
    | succ d ih =>
      intro i hi
      refine b_X6_oddsNow_14 (fun h => absurd (nle h (by omega) (by omega)) (by omega)) (fun _ => b_X6_oddsNow_20 ?_)
      rw [show (6 : Int32) = nI 6 from rfl, pk_mul, nI_1, ← Nat.pow_succ]
      exact ih (i + 1) (by omega)
  exact ai_X6_oddsNow (b_X6_oddsNow_0 ha (pows m 0 (by omega)))
-- sorts
def SnR (a b c : Nat) (w : Wd) (sn : List (Nat × Nat × Nat)) : Prop := ∀ i e, sn[i]? = some e → wA w a i = nI e.1 ∧ wA w b i = nI e.2.1 ∧ wA w c i = nI e.2.2
theorem SnR.fr {a b c : Nat} {T : List Nat} {w w' : Wd} {sn : List (Nat × Nat × Nat)} (h : SnR a b c w sn) (f : Fr T w w') (na : a ∉ T) (nb : b ∉ T) (nc : c ∉ T) : SnR a b c w' sn := fun i e he => ⟨(congrFun (f.2.2.2 a na) i).trans (h i e he).1, (congrFun (f.2.2.2 b nb) i).trans (h i e he).2.1, (congrFun (f.2.2.2 c nc) i).trans (h i e he).2.2⟩
def fitS (t j : Nat) (e : Nat × Nat × Nat) : Bool := e.1 != t || prcK j e.2.1 == e.2.2
theorem mkG_bit : ∀ y, y < 2 → ∀ v, v < 4 → ∀ i, i < 5 → (mkN y v).testBit i = (prcK i y == v) := by decide +kernel
theorem mkN_lt : ∀ y, y < 2 → ∀ v, v < 4 → mkN y v < 2 ^ 5 := by decide +kernel
theorem srt_bit {sn : List (Nat × Nat × Nat)} (h : ∀ e ∈ sn, e.1 < 5 ∧ e.2.1 < 2 ∧ e.2.2 < 4) (t i : Nat) (hi : i < 5) : (srt sn t).testBit i = sn.all (fitS t i) := by
  have key : ∀ (l : List (Nat × Nat × Nat)), (∀ e ∈ l, e.1 < 5 ∧ e.2.1 < 2 ∧ e.2.2 < 4) → ∀ a : Nat, (l.foldl (fun a e => if e.1 = t then a &&& mkN e.2.1 e.2.2 else a) a).testBit i = (a.testBit i && l.all (fitS t i)) := by
    intro l
    induction l with
    | nil => intro _ a; simp
    | cons e l ih =>
      intro hl a
      obtain ⟨e1, e2, e3⟩ := hl e List.mem_cons_self
      rw [List.foldl_cons, ih (fun e he => hl e (List.mem_cons_of_mem _ he)), List.all_cons]
      unfold fitS
      by_cases g : e.1 = t
      · rw [if_pos g, Nat.testBit_and, mkG_bit _ e2 _ e3 i hi]
        have : (e.1 != t) = false := by simp [g]
        rw [this]
        simp [Bool.and_assoc]
      · rw [if_neg g]
        have : (e.1 != t) = true := by simp [g]
        rw [this]
        simp
  unfold srt
  rw [key sn h 31]
  have : ∀ i, i < 5 → (31 : Nat).testBit i = true := by decide
  rw [this i hi]
  simp
theorem srt_bb {sn : List (Nat × Nat × Nat)} (h : ∀ e ∈ sn, e.1 < 5 ∧ e.2.1 < 2 ∧ e.2.2 < 4) (t : Nat) : srt sn t = bb (fun j => sn.all (fitS t j)) 5 := by
  apply Nat.eq_of_testBit_eq
  intro i
  by_cases hi : i < 5
  · rw [srt_bit h t i hi, bb_bit]
    simp [hi]
  · rw [bb_bit]
    have h1 := srt_lt sn t
    have : (srt sn t).testBit i = false := Nat.testBit_lt_two_pow (Nat.lt_of_lt_of_le h1 (Nat.pow_le_pow_right (n := 2) (by omega) (show 5 ≤ i by omega)))
    rw [this]
    simp [hi]
theorem all_take {sn : List (Nat × Nat × Nat)} {p : Nat × Nat × Nat → Bool} {i : Nat} {e : Nat × Nat × Nat} (h : sn[i]? = some e) : (sn.take (i + 1)).all p = ((sn.take i).all p && p e) := by
  rw [List.take_succ, h]
  simp
theorem am_msortsOf {sn : List (Nat × Nat × Nat)} {t : Nat} (hS : SnOK sn) (hR : SnR 24 25 26 w sn) (hl : wI w 22 7 = nI sn.length) (ht : t < 5) : A_X6_sortsOf 35 [.ref 22, .int (nI t)] w (some (.int (nI (srt sn t))), w) := by
  rw [srt_bb hS.2]
  have hl6 := hS.1
  have loop : ∀ d j, j + d = 5 → ∀ (l4 l5 : Option Value), Z_X6_sortsOf 35 4 [some (.ref 22), some (.int (nI t)), some (.int (nI (bb (fun j => sn.all (fitS t j)) j))), some (.int (nI j)), l4, l5] [] w (some (.int (nI (bb (fun j => sn.all (fitS t j)) 5))), w) := by
    intro d
    induction d with
    | zero =>
      intro j hj l4 l5
      have hj : j = 5 := by omega
      subst hj
      exact b_X6_sortsOf_4 (fun _ => b_X6_sortsOf_95) (fun h => absurd (show (4 : Int32) < nI 5 from nI_lt (a := 4) (by omega) (by omega)) h)
    | succ d ih =>
      intro j hj l4 l5
      have inner : ∀ e i, i + e = sn.length → Z_X6_sortsOf 35 15 [some (.ref 22), some (.int (nI t)), some (.int (nI (bb (fun j => sn.all (fitS t j)) j))), some (.int (nI j)), some (.int (bz ((sn.take i).all (fitS t j)))), some (.int (nI i))] [] w (some (.int (nI (bb (fun j => sn.all (fitS t j)) 5))), w) := by
        intro e
        induction e with
        | zero =>
          intro i hi
          have hi : i = sn.length := by omega
          subst hi
          rw [List.take_length]
          have e5 : bb (fun j => sn.all (fitS t j)) (j + 1) = bb (fun j => sn.all (fitS t j)) j ||| if sn.all (fitS t j) = true then 2 ^ j else 0 := rfl
          refine b_X6_sortsOf_15 (fun _ => b_X6_sortsOf_74 (fun h => ?_) (fun h => ?_)) (fun h => absurd (by rw [hl]; exact nI_le (Nat.le_refl _) (by omega)) h)
          · have hb := bz_0.mp h
            refine b_X6_sortsOf_86 (b_X6_sortsOf_87 ?_)
            rw [hb] at e5
            rw [show (0 : Int32) = nI 0 from rfl, n_or, nI_1]
            have := ih (j + 1) (by omega) (some (.int (bz (sn.all (fitS t j))))) (some (.int (nI sn.length)))
            rw [e5] at this
            exact this
          · have hb : sn.all (fitS t j) = true := by
              cases g : sn.all (fitS t j) with
              | true => rfl
              | false => exact absurd (bz_0.mpr g) h
            refine b_X6_sortsOf_80 (b_X6_sortsOf_87 ?_)
            rw [hb] at e5
            rw [one_shl (by omega), n_or, nI_1]
            have := ih (j + 1) (by omega) (some (.int (bz (sn.all (fitS t j))))) (some (.int (nI sn.length)))
            rw [e5] at this
            exact this
        | succ e ih2 =>
          intro i hi
          have hlt : i < sn.length := by omega
          have hg : sn[i]? = some sn[i] := List.getElem?_eq_getElem hlt
          obtain ⟨r1, r2, r3⟩ := hR i _ hg
          obtain ⟨o1, o2, o3⟩ := hS.2 _ (List.mem_of_getElem? hg)
          have hcl : (nI i).toNatClampNeg = i := nI_clamp (by omega)
          have hin : vp_in (nI i) 6 := vp_in_nI (by omega) (by omega)
          have hall := all_take (p := fitS t j) hg
          have nx : ∀ b, b = (sn.take (i + 1)).all (fitS t j) → Z_X6_sortsOf 35 66 [some (.ref 22), some (.int (nI t)), some (.int (nI (bb (fun j => sn.all (fitS t j)) j))), some (.int (nI j)), some (.int (bz ((sn.take i).all (fitS t j)))), some (.int (nI i))] [.int (bz b)] w (some (.int (nI (bb (fun j => sn.all (fitS t j)) 5))), w) := by
            intro b hb
            subst hb
            refine b_X6_sortsOf_66 ?_
            rw [nI_1]; exact ih2 (i + 1) (by omega)
          have hpk := prcK_le j (by omega) sn[i].2.1 o2
          refine b_X6_sortsOf_15 (fun h => absurd (nle (by rw [hl] at h; exact h) (by omega) (by omega)) (by omega)) (fun _ => b_X6_sortsOf_24 (fun h => b_X6_sortsOf_65 (nx false ?_)) (fun h => b_X6_sortsOf_29 hin (fun h2 => b_X6_sortsOf_61 (nx true ?_)) (fun h2 => b_X6_sortsOf_40 hin (by rw [hcl, r2]; exact am_costBy (by omega) o2) hin (fun h3 => b_X6_sortsOf_65 (nx false ?_)) (fun h3 => b_X6_sortsOf_61 (nx true ?_)))))
          · rw [hall, bz_0.mp h]; rfl
          · have hb : (sn.take i).all (fitS t j) = true := by
              cases g : (sn.take i).all (fitS t j) with
              | true => rfl
              | false => exact absurd (bz_0.mpr g) h
            rw [hcl, r1] at h2
            have hne : ¬ sn[i].1 = t := fun e => h2 (by rw [e])
            rw [hall, hb]
            simp [fitS, hne]
          · rw [hcl, r1] at h2
            have he : sn[i].1 = t := neq h2 (by omega) (by omega)
            rw [hcl, r3] at h3
            have hne : ¬ prcK j sn[i].2.1 = sn[i].2.2 := fun e => h3 (by rw [e])
            rw [hall]
            simp [fitS, he, hne]
          · have hb : (sn.take i).all (fitS t j) = true := by
              cases g : (sn.take i).all (fitS t j) with
              | true => rfl
              | false => exact absurd (bz_0.mpr g) h
            rw [hcl, r3] at h3
            have he : prcK j sn[i].2.1 = sn[i].2.2 := neq h3 (by omega) (by omega)
            rw [hall, hb]
            simp [fitS, he]
      exact b_X6_sortsOf_4 (fun h => absurd (nlt (a := 4) h (by omega) (by omega)) (by omega)) (fun _ => b_X6_sortsOf_9 (inner sn.length 0 (by omega)))
  exact ai_X6_sortsOf (b_X6_sortsOf_0 (loop 5 0 rfl none none))
def wsG (b y v : Nat) : Nat → Nat
  | 0 => 0
  | n + 1 => wsG b y v n + if b.testBit n = true ∧ prcK n y = v then 1 else 0
theorem wsG_pop : ∀ b, b < 32 → ∀ y, y < 2 → ∀ v, v < 4 → wsG b y v 5 = popN (b &&& mkN y v) := by decide +kernel
theorem wsG_le (b y v : Nat) : ∀ n, wsG b y v n ≤ n
  | 0 => Nat.le_refl _
  | n + 1 => by have := wsG_le b y v n; unfold wsG; split <;> omega
theorem am_worstBy {b y : Nat} (hb : b < 32) (hy : y < 2) : A_X6_worstBy 35 [.int (nI b), .int (nI y)] w (some (.int (nI (ml b y))), w) := by
  have loop : ∀ d v, v + d = 4 → ∀ (l4 l5 : Option Value), Z_X6_worstBy 35 4 [some (.int (nI b)), some (.int (nI y)), some (.int (nI (mlG b y v))), some (.int (nI v)), l4, l5] [] w (some (.int (nI (ml b y))), w) := by
    intro d
    induction d with
    | zero =>
      intro v hv l4 l5
      have hv : v = 4 := by omega
      subst hv
      exact b_X6_worstBy_4 (fun _ => b_X6_worstBy_75) (fun h => absurd (show (3 : Int32) < nI 4 from nI_lt (a := 3) (by omega) (by omega)) h)
    | succ d ih =>
      intro v hv l4 l5
      have inner : ∀ e n, n + e = 5 → Z_X6_worstBy 35 15 [some (.int (nI b)), some (.int (nI y)), some (.int (nI (mlG b y v))), some (.int (nI v)), some (.int (nI (wsG b y v n))), some (.int (nI n))] [] w (some (.int (nI (ml b y))), w) := by
        intro e
        induction e with
        | zero =>
          intro n hn
          have hn : n = 5 := by omega
          subst hn
          have h1 := mlG_le b y v
          have h2 := popN_le (b &&& mkN y v)
          rw [wsG_pop b hb y hy v (by omega)]
          have e5 : mlG b y (v + 1) = if mlG b y v < popN (b &&& mkN y v) then popN (b &&& mkN y v) else mlG b y v := rfl
          refine b_X6_worstBy_15 (fun _ => b_X6_worstBy_56 (fun h => ?_) (fun h => ?_)) (fun h => absurd (show (4 : Int32) < nI 5 from nI_lt (a := 4) (by omega) (by omega)) h)
          · have h3 := nle h (by omega) (by omega)
            rw [if_neg (by omega)] at e5
            refine b_X6_worstBy_67 (b_X6_worstBy_68 ?_)
            rw [nI_1, ← e5]
            exact ih (v + 1) (by omega) _ _
          · have h3 : mlG b y v < popN (b &&& mkN y v) := Nat.lt_of_not_le (fun q => h (nI_le q (by omega)))
            rw [if_pos h3] at e5
            refine b_X6_worstBy_62 (b_X6_worstBy_68 ?_)
            rw [nI_1, ← e5]
            exact ih (v + 1) (by omega) _ _
        | succ e ih2 =>
          intro n hn
          have hi := am_isIn (w := w) (b := b) (i := n) (by omega) (by omega)
          have hpk := prcK_le n (by omega) y hy
          have e5 : wsG b y v (n + 1) = wsG b y v n + if b.testBit n = true ∧ prcK n y = v then 1 else 0 := rfl
          have z0 : ¬ (b.testBit n = true ∧ prcK n y = v) → Z_X6_worstBy 35 46 [some (.int (nI b)), some (.int (nI y)), some (.int (nI (mlG b y v))), some (.int (nI v)), some (.int (nI (wsG b y v n))), some (.int (nI n))] [.int (nI (wsG b y v n))] w (some (.int (nI (ml b y))), w) := by
            intro hn0
            rw [if_neg hn0] at e5
            refine b_X6_worstBy_46 (b_X6_worstBy_47 ?_)
            rw [show (0 : Int32) = nI 0 from rfl, nI_add, nI_1, ← e5]
            exact ih2 (n + 1) (by omega)
          refine b_X6_worstBy_15 (fun h => absurd (nlt (a := 4) h (by omega) (by omega)) (by omega)) (fun _ => b_X6_worstBy_21 hi (fun h => z0 (fun q => ?_)) (fun h => b_X6_worstBy_32 (am_costBy (by omega) hy) (fun h2 => z0 (fun q => h2 (by rw [q.2]))) (fun h2 => b_X6_worstBy_42 (b_X6_worstBy_47 ?_))))
          · rw [bz_0.mp h] at q
            exact absurd q.1 (by decide)
          · have hb1 : b.testBit n = true := by
              cases g : b.testBit n with
              | true => rfl
              | false => exact absurd (bz_0.mpr g) h
            rw [if_pos ⟨hb1, neq h2 (by omega) (by omega)⟩] at e5
            rw [nI_1, nI_1, ← e5]
            exact ih2 (n + 1) (by omega)
      exact b_X6_worstBy_4 (fun h => absurd (nlt (a := 3) h (by omega) (by omega)) (by omega)) (fun _ => b_X6_worstBy_9 (inner 5 0 rfl))
  exact ai_X6_worstBy (b_X6_worstBy_0 (loop 4 0 rfl none none))
theorem am_wayFor {sn : List (Nat × Nat × Nat)} {t : Nat} (hS : SnOK sn) (hR : SnR 24 25 26 w sn) (hl : wI w 22 7 = nI sn.length) (ht : t < 5) : A_X6_wayFor 35 [.ref 22, .int (nI t)] w (some (.int (bwN (srt sn t))), w) := by
  have hb := srt_lt sn t
  have h1 := mlG_le (srt sn t) 1 4
  have h0 := mlG_le (srt sn t) 0 4
  unfold bwN
  refine ai_X6_wayFor (b_X6_wayFor_0 (am_msortsOf hS hR hl ht) (fun h => ?_) (fun h => ?_))
  · rw [if_neg (fun e => h (by rw [e]; rfl))]
    refine b_X6_wayFor_14 (am_worstBy (y := 1) hb (by omega)) (am_worstBy (y := 0) hb (by omega)) (fun h2 => ?_) (fun h2 => ?_)
    · have : ¬ ml (srt sn t) 1 < ml (srt sn t) 0 := by have := nle h2 (show ml (srt sn t) 0 < 2 ^ 31 by unfold ml; omega) (show ml (srt sn t) 1 < 2 ^ 31 by unfold ml; omega); omega
      rw [if_neg this]
      exact b_X6_wayFor_31 b_X6_wayFor_32
    · have : ml (srt sn t) 1 < ml (srt sn t) 0 := Nat.lt_of_not_le (fun q => h2 (nI_le q (show ml (srt sn t) 1 < 2 ^ 31 by unfold ml; omega)))
      rw [if_pos this]
      exact b_X6_wayFor_27 b_X6_wayFor_32
  · rw [if_pos (neq (b := 0) h (by omega) (by omega))]
    exact b_X6_wayFor_10 b_X6_wayFor_32
-- runs
theorem lN_and31 (a : Nat) : lN a &&& 2147483647 = lN (a % 2147483648) := by
  apply Int64.toBitVec_inj.1
  show BitVec.ofNat 64 a &&& BitVec.ofNat 64 2147483647 = BitVec.ofNat 64 (a % 2147483648)
  apply BitVec.eq_of_toNat_eq
  rw [BitVec.toNat_and, BitVec.toNat_ofNat, BitVec.toNat_ofNat, BitVec.toNat_ofNat]
  rw [show (2147483647 : Nat) % 2 ^ 64 = 2 ^ 31 - 1 from rfl, Nat.and_two_pow_sub_one_eq_mod]
  have := Nat.mod_lt a (show 0 < 2147483648 by omega)
  rw [Nat.mod_eq_of_lt (show a % 2147483648 < 2 ^ 64 by omega)]
  rw [show (2 : Nat) ^ 64 = 2147483648 * 8589934592 from rfl, show (2 : Nat) ^ 31 = 2147483648 from rfl, Nat.mod_mul_right_mod]
theorem am_draw {sd d : Nat} (hs : sd < 2147483648) (hd : 0 < d) (hd2 : d < 100) (h : wJ w 22 17 = lN sd) : A_X6_draw 35 [.ref 22, .int (nI d)] w (some (.int (nI (nxS sd / 65536 % d))), sJ w 22 17 (lN (nxS sd))) := by
  have h1 : (((1103515245 : Int64) * (wJ w 22 17) + 12345) &&& 2147483647) = lN (nxS sd) := by
    rw [h, show (1103515245 : Int64) = lN 1103515245 from rfl, lN_mul, show (12345 : Int64) = lN 12345 from rfl, lN_add, lN_and31]
    rfl
  have hn := nxS_lt sd
  have hne : ¬ (nI d).toInt64 = 0 := by
    rw [nI_l (by omega), show (0 : Int64) = lN 0 from rfl, pk_lEQ (by omega) (by omega)]
    omega
  have h2 := ai_X6_draw (b_X6_draw_0 (x1 := nI d) (w := w) hne)
  rw [h1] at h2
  generalize nxS sd = n2 at hn h2 ⊢
  rw [nI_l (show d < 2 ^ 31 by omega), show (65536 : Int64) = lN 65536 from rfl, pk_lDiv (by omega) (by omega) (by omega), pk_lRem (by omega) hd (by omega), lN_i] at h2
  exact h2
theorem am_ofSet {kn k o : Nat} (ho : o < chc kn k 5) : A_X6_ofSet 35 [.int (nI (mbN kn k)), .int (nI o)] w (some (.int (nI (pick kn k o))), w) := by
  have hml := mbN_lt kn k
  have h5 := chc_le kn k 5
  have loop : ∀ d t ahead, t + d = 5 → ahead ≤ o → pickF kn k o d t ahead < 5 → Z_X6_ofSet 35 4 [some (.int (nI (mbN kn k))), some (.int (nI o)), some (.int (nI t)), some (.int (nI (o - ahead)))] [] w (some (.int (nI (pickF kn k o d t ahead))), w) := by
    intro d
    induction d with
    | zero =>
      intro t ahead ht hle hlt
      have : pickF kn k o 0 t ahead = 5 := rfl
      omega
    | succ d ih =>
      intro t ahead ht hle hlt
      have hi := am_isIn (w := w) (b := mbN kn k) (i := t) (by omega) (by omega)
      have hbit : (mbN kn k).testBit t = mbp kn k t := by
        rw [mbN_bit]
        have : (decide (t < 5)) = true := by simp; omega
        rw [this]; rfl
      rw [hbit] at hi
      by_cases hz0 : prc kn k t = 0
      · have hb : mbp kn k t = false := by simp [mbp, hz0]
        rw [hb] at hi
        have e : pickF kn k o (d + 1) t ahead = pickF kn k o d (t + 1) ahead := by show (if _ then _ else _) = _; rw [if_pos hz0]
        rw [e] at hlt ⊢
        refine b_X6_ofSet_4 hi (fun _ => b_X6_ofSet_16 hi (fun _ => b_X6_ofSet_29 (b_X6_ofSet_30 ?_)) (fun e => absurd rfl e)) (fun e => absurd rfl e)
        rw [show (0 : Int32) = nI 0 from rfl, pk_sub (Nat.zero_le _), nI_1]
        exact ih (t + 1) ahead (by omega) hle hlt
      · have hb : mbp kn k t = true := by simp [mbp, hz0]
        rw [hb] at hi
        by_cases he : ahead = o
        · have e : pickF kn k o (d + 1) t ahead = t := by show (if _ then _ else if _ then _ else _) = _; rw [if_neg hz0, if_pos he]
          rw [e]
          refine b_X6_ofSet_4 hi (fun e => absurd e b1) (fun _ => b_X6_ofSet_12 (fun _ => b_X6_ofSet_38) (fun e => absurd ?_ e))
          rw [show o - ahead = 0 by omega]
          decide
        · have e : pickF kn k o (d + 1) t ahead = pickF kn k o d (t + 1) (ahead + 1) := by show (if _ then _ else if _ then _ else _) = _; rw [if_neg hz0, if_neg he]
          rw [e] at hlt ⊢
          refine b_X6_ofSet_4 hi (fun e => absurd e b1) (fun _ => b_X6_ofSet_12 (fun e => absurd e (nI_nle (by omega) (by omega))) (fun _ => b_X6_ofSet_16 hi (fun e => absurd e b1) (fun _ => b_X6_ofSet_25 (b_X6_ofSet_30 ?_))))
          rw [show (1 : Int32) = nI 1 from rfl, pk_sub (show 1 ≤ o - ahead by omega), nI_add, show o - ahead - 1 = o - (ahead + 1) by omega]
          exact ih (t + 1) (ahead + 1) (by omega) (by omega) hlt
  exact ai_X6_ofSet (b_X6_ofSet_0 (loop 5 0 0 rfl (Nat.zero_le _) (pick_spec ho).1))
theorem am_alikeIn {k g : Nat} (h2 : wI w 22 2 = nI (tr g)) (hk : k < 720) (hg : g < 720) : A_X6_alikeIn 35 [.ref 22, .int (nI (tr k))] w (some (.int (nI (alk k g 6))), w) := by
  have loop : ∀ d c, c + d = 6 → Z_X6_alikeIn 35 4 [some (.ref 22), some (.int (nI (tr k))), some (.int (nI (alk k g c))), some (.int (nI c))] [] w (some (.int (nI (alk k g 6))), w) := by
    intro d
    induction d with
    | zero =>
      intro c hc
      have hc : c = 6 := by omega
      subst hc
      exact b_X6_alikeIn_4 (fun _ => b_X6_alikeIn_40) (fun h => absurd (show (6 : Int32) ≤ nI 6 from nI_le (a := 6) (by omega) (by omega)) h)
    | succ d ih =>
      intro c hc
      have s1 := sg_lt hk (show c < 6 by omega)
      have s2 := sg_lt hg (show c < 6 by omega)
      have e5 : alk k g (c + 1) = alk k g c + if sg k c = sg g c then 1 else 0 := rfl
      refine b_X6_alikeIn_4 (fun h => absurd (nle (a := 6) h (by omega) (by omega)) (by omega)) (fun _ => b_X6_alikeIn_10 (am_isAt hk (by omega)) (by rw [h2]; exact am_isAt hg (by omega)) (fun h => b_X6_alikeIn_31 (b_X6_alikeIn_32 ?_)) (fun h => b_X6_alikeIn_27 (b_X6_alikeIn_32 ?_)))
      · rw [if_neg (fun e => h (by rw [e]))] at e5
        rw [show (0 : Int32) = nI 0 from rfl, nI_add, nI_1, ← e5]
        exact ih (c + 1) (by omega)
      · rw [if_pos (neq h (by omega) (by omega))] at e5
        rw [nI_1, nI_1, ← e5]
        exact ih (c + 1) (by omega)
  exact ai_X6_alikeIn (b_X6_alikeIn_0 (loop 6 0 rfl))
theorem sJ_sJ {w : Wd} {i f : Nat} {v v' : Int64} : sJ (sJ w i f v) i f v' = sJ w i f v' := by
  show (w.1, _, w.2.2) = (w.1, _, w.2.2)
  congr 2
  funext a b
  by_cases h : a = i ∧ b = f <;> simp [sJ, h]
theorem wJ_sJ_s {w : Wd} {i f : Nat} {v : Int64} : wJ (sJ w i f v) i f = v := by
  show (if i = i ∧ f = f then v else w.2.1 i f) = v
  rw [if_pos ⟨rfl, rfl⟩]
theorem szN_0 : ∀ b, b < 32 → b ≠ 0 → szN b 6 ≠ 0 := by decide
theorem am_runsNow {u : CU} {n sd q : Nat} (hu : CuOK u) (hK : KM w (cN u)) (h1 : wI w 22 1 = nI (tr (cK u))) (h2 : wI w 22 2 = nI (tr (cG u))) (hn : n < 61) (hs : sd < 2147483648) (hq : q < 3) : ∃ v, A_X6_runsNow 35 [.ref 22, .int (nI n), .int (nI sd), .int (nI q)] w (some (.int (rnA (cG u) q (rnG (cN u) n (cK u, sd, 0)))), sJ w 22 17 v) := by
  obtain ⟨u1, u2, u3, u4, u5⟩ := hu
  have loop : ∀ d j, j + d = n → ∀ (z : Nat × Nat × Nat) (l7 l8 : Option Value), z.1 < 720 → z.2.1 < 2147483648 → ∃ v, Z_X6_runsNow 35 18 [some (.ref 22), some (.int (nI n)), some (.int (nI sd)), some (.int (nI q)), some (.int (nI (tr z.1))), some (.int (nI z.2.2)), some (.int (nI j)), l7, l8] [] (sJ w 22 17 (lN z.2.1)) (some (.int (rnA (cG u) q (rnG (cN u) d z))), sJ w 22 17 v) := by
    intro d
    induction d with
    | zero =>
      intro j hj z l7 l8 z1 z2
      have hj : j = n := by omega
      subst hj
      refine ⟨lN z.2.1, b_X6_runsNow_18 (fun _ => ?_) (fun h => absurd (nI_le (Nat.le_refl j) (by omega)) h)⟩
      show Z_X6_runsNow _ _ _ _ _ (some (.int (rnA (cG u) q z)), _)
      rcases (show q = 0 ∨ q = 1 ∨ q = 2 by omega) with rfl | rfl | rfl
      · exact b_X6_runsNow_81 (fun e => absurd rfl e) (fun _ => b_X6_runsNow_85 b_X6_runsNow_109)
      · exact b_X6_runsNow_81 (fun _ => b_X6_runsNow_90 (fun e => absurd rfl e) (fun _ => b_X6_runsNow_95 (am_alikeIn (w := sJ w 22 17 (lN z.2.1)) h2 z1 u2) b_X6_runsNow_109)) (fun e => absurd e (by decide))
      · have e17 : (wJ (sJ w 22 17 (lN z.2.1)) 22 17).toInt32 = nI z.2.1 := by
          rw [wJ_sJ_s, lN_i]
        have hz := b_X6_runsNow_81 (w := sJ w 22 17 (lN z.2.1)) (x1 := nI j) (x2 := nI sd) (x3 := nI 2) (x4 := nI (tr z.1)) (x5 := nI z.2.2) (x6 := nI j) (l7 := l7) (l8 := l8) (fun _ => b_X6_runsNow_90 (fun _ => b_X6_runsNow_104 b_X6_runsNow_109) (fun e => absurd e (by decide))) (fun e => absurd e (by decide))
        rw [e17] at hz
        exact hz
    | succ d ih =>
      intro j hj z l7 l8 z1 z2
      have hml := mbN_lt (cN u) z.1
      have hsz := szN_mb (cN u) z.1
      have h5 := chc_le (cN u) z.1 5
      have hok := rnS_ok (kn := cN u) z1 z2
      have ent : ∀ {r}, Z_X6_runsNow 35 24 [some (.ref 22), some (.int (nI n)), some (.int (nI sd)), some (.int (nI q)), some (.int (nI (tr z.1))), some (.int (nI z.2.2)), some (.int (nI j)), l7, l8] [] (sJ w 22 17 (lN z.2.1)) r → Z_X6_runsNow 35 18 [some (.ref 22), some (.int (nI n)), some (.int (nI sd)), some (.int (nI q)), some (.int (nI (tr z.1))), some (.int (nI z.2.2)), some (.int (nI j)), l7, l8] [] (sJ w 22 17 (lN z.2.1)) r := fun zz => b_X6_runsNow_18 (fun e => absurd (nle e (by omega) (by omega)) (by omega)) (fun _ => zz)
      have hmb : A_X6_mayBePushed 35 [.ref 22, .int (nI (tr z.1))] (sJ w 22 17 (lN z.2.1)) (some (.int (nI (mbN (cN u) z.1))), sJ w 22 17 (lN z.2.1)) := am_mayBe (w := sJ w 22 17 (lN z.2.1)) hK z1
      by_cases hm0 : mbN (cN u) z.1 = 0
      · have h0 : chc (cN u) z.1 5 = 0 := by rw [← hsz, hm0]; rfl
        have hr : rnS (cN u) z = z := by unfold rnS; rw [if_pos h0]
        obtain ⟨v, hz⟩ := ih (j + 1) (by omega) z (some (.int (nI (mbN (cN u) z.1)))) l8 z1 z2
        refine ⟨v, ent (b_X6_runsNow_24 hmb (fun _ => b_X6_runsNow_75 ?_) (fun e => absurd (by rw [hm0]; rfl) e))⟩
        rw [nI_1]
        show Z_X6_runsNow _ _ _ _ _ (some (.int (rnA (cG u) q (rnG (cN u) d (rnS (cN u) z)))), _)
        rw [hr]
        exact hz
      · have h0 : chc (cN u) z.1 5 ≠ 0 := by rw [← hsz]; exact szN_0 _ hml hm0
        have hp0 : 0 < chc (cN u) z.1 5 := by omega
        have hp := pick_spec (kn := cN u) (k := z.1) (o := nxS z.2.1 / 65536 % chc (cN u) z.1 5) (Nat.mod_lt _ hp0)
        have hr : rnS (cN u) z = (mv z.1 (pick (cN u) z.1 (nxS z.2.1 / 65536 % chc (cN u) z.1 5)), nxS z.2.1, z.2.2 + prc (cN u) z.1 (pick (cN u) z.1 (nxS z.2.1 / 65536 % chc (cN u) z.1 5))) := by unfold rnS; rw [if_neg h0]
        have h17 : wJ (sJ w 22 17 (lN z.2.1)) 22 17 = lN z.2.1 := wJ_sJ_s
        have hdr := am_draw (w := sJ w 22 17 (lN z.2.1)) (d := chc (cN u) z.1 5) z2 hp0 (by omega) h17
        have hsz2 : A_X6_size 35 [.int (nI (mbN (cN u) z.1))] (sJ w 22 17 (lN z.2.1)) (some (.int (nI (chc (cN u) z.1 5))), sJ w 22 17 (lN z.2.1)) := by rw [← hsz]; exact am_msize (by omega)
        have hos := am_ofSet (w := sJ w 22 17 (lN (nxS z.2.1))) (kn := cN u) (k := z.1) (o := nxS z.2.1 / 65536 % chc (cN u) z.1 5) (Nat.mod_lt _ hp0)
        rw [sJ_sJ] at hdr
        rw [hr] at hok
        have ih2 := ih (j + 1) (by omega) (rnS (cN u) z)
        show ∃ v, Z_X6_runsNow _ _ _ _ _ (some (.int (rnA (cG u) q (rnG (cN u) d (rnS (cN u) z)))), sJ w 22 17 v)
        rw [hr] at ih2 ⊢
        generalize nxS z.2.1 = n2 at hp hok hdr hos ih2 ⊢
        generalize n2 / 65536 % chc (cN u) z.1 5 = o2 at hp hok hdr hos ih2 ⊢
        generalize pick (cN u) z.1 o2 = tt at hp hok hdr hos ih2 ⊢
        obtain ⟨v, hz⟩ := ih2 (some (.int (nI (mbN (cN u) z.1)))) (some (.int (nI tt))) hok.1 hok.2
        refine ⟨v, ent (b_X6_runsNow_24 hmb (fun e => absurd (neq (b := 0) e (by omega) (by omega)) hm0) (fun _ => b_X6_runsNow_37 hsz2 hdr hos (am_costIn (w := sJ w 22 17 (lN n2)) hK z1 hp.1) (am_mpushed z1 hp.1) (b_X6_runsNow_75 ?_)))⟩
        rw [nI_1, nI_add]
        exact hz
  obtain ⟨v, hz⟩ := loop n 0 (by omega) (cK u, sd, 0) none none u1 hs
  refine ⟨v, ai_X6_runsNow (b_X6_runsNow_0 ?_)⟩
  have e0 : (nI sd).toInt64 = lN sd := nI_l (show sd < 2 ^ 31 by omega)
  rw [h1, e0]
  dsimp only at hz
  rw [nI_0] at hz
  exact hz
end MP
