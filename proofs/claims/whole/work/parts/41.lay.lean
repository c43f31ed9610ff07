-- ===== the reference's search =====
theorem am_within (x lo hi : Int32) {w : Wd} : A_X6_within 35 [.int x, .int lo, .int hi] w (some (.int (bz (decide (lo ≤ x ∧ x ≤ hi)))), w) := by
  refine ai_X6_within (b_X6_within_0 (fun h => ?_) (fun h => b_X6_within_5 (fun h2 => ?_) (fun h2 => ?_)))
  · have : bz (decide (lo ≤ x ∧ x ≤ hi)) = 0 := by
      have h9 : ¬ lo ≤ x := Int32.not_le.mpr h
      simp [bz, h9]
    rw [this]; exact b_X6_within_14 (b_X6_within_15 (Or.inl rfl))
  · have : bz (decide (lo ≤ x ∧ x ≤ hi)) = 0 := by
      have h9 : ¬ x ≤ hi := Int32.not_le.mpr h2
      simp [bz, h9]
    rw [this]; exact b_X6_within_14 (b_X6_within_15 (Or.inl rfl))
  · have : bz (decide (lo ≤ x ∧ x ≤ hi)) = 1 := by
      have h9 : x ≤ hi := Int32.not_lt.mp h2
      have h8 : lo ≤ x := Int32.not_lt.mp h
      simp [bz, h9, h8]
    rw [this]; exact b_X6_within_10 (b_X6_within_15 (Or.inr rfl))
def DR (w : Wd) (c : Nat → Nat) : Prop := (∀ q, q < 720 → wA w 28 q = nI (c q)) ∧ ∀ q, c q ≤ FARN
theorem DR.fr {T : List Nat} {w w' : Wd} {c : Nat → Nat} (h : DR w c) (f : Fr T w w') (n : 28 ∉ T) : DR w' c := ⟨fun q hq => (congrFun (f.2.2.2 28 n) q).trans (h.1 q hq), h.2⟩
theorem ntC_far {c : Nat → Nat} {q v : Nat} (hv : v < FARN) (hb : ∀ r, c r ≤ FARN) (r : Nat) : ntC c q v r ≤ FARN := Nat.le_trans (ntC_le hv (hb r)) (hb r)
section LA
variable {w : Wd}
theorem am_comeFrom {kn s C k : Nat} {c fd : Nat → Nat} {n mo : Nat} (hK : KM w kn) (hR : DR w c) (hI : SInv kn s C c fd n mo) (hk : k < 720) (hC : c k = C) (hCl : C < FARN) :
    ∃ w' c' fd' n' mo', A_X6_comeFrom 35 [.ref 22, .int (nI (tr k)), .int (nI C)] w (none, w') ∧ Fr [28] w w' ∧ DR w' c' ∧ SInv kn s C c' fd' n' mo' ∧
      (∀ r, c r ≤ C → c' r = c r) ∧ (∀ r, C < c r → C < c' r) ∧ (∀ t, t < 5 → prc kn k t ≠ 0 → c' (mv k t) ≠ FARN ∧ c' (mv k t) ≤ C + prc kn k t) ∧ (∀ r, c' r ≤ c r) := by
  have hC3 : C ≤ 2157 := by
    obtain ⟨i, h1, h2⟩ := hI.2.2.2.2.1 k hk (by omega)
    have := (hI.2.2.2.1 i h1).2.2
    have := hI.n_le
    rw [h2] at *
    omega
  have hFA : FARN = 268435456 := rfl
  have loop : ∀ d t, t + d = 5 → ∀ (w1 : Wd) (c1 fd1 : Nat → Nat) (n1 mo1 : Nat) (l5 l6 : Option Value), Fr [28] w w1 → DR w1 c1 → SInv kn s C c1 fd1 n1 mo1 →
      (∀ r, c r ≤ C → c1 r = c r) → (∀ r, C < c r → C < c1 r) → (∀ u, u < t → prc kn k u ≠ 0 → c1 (mv k u) ≠ FARN ∧ c1 (mv k u) ≤ C + prc kn k u) → (∀ r, c1 r ≤ c r) →
      ∃ w' c' fd' n' mo', Z_X6_comeFrom 35 9 [some (.ref 22), some (.int (nI (tr k))), some (.int (nI C)), some (.int (nI (mbN kn k))), some (.int (nI t)), l5, l6] [] w1 (none, w') ∧ Fr [28] w w' ∧ DR w' c' ∧ SInv kn s C c' fd' n' mo' ∧
      (∀ r, c r ≤ C → c' r = c r) ∧ (∀ r, C < c r → C < c' r) ∧ (∀ t, t < 5 → prc kn k t ≠ 0 → c' (mv k t) ≠ FARN ∧ c' (mv k t) ≤ C + prc kn k t) ∧ (∀ r, c' r ≤ c r) := by
    intro d
    induction d with
    | zero =>
      intro t ht w1 c1 fd1 n1 mo1 l5 l6 hF hR1 hI1 hlow hhi hrel hle
      have ht : t = 5 := by omega
      subst ht
      exact ⟨w1, c1, fd1, n1, mo1, b_X6_comeFrom_9 (fun _ => b_X6_comeFrom_83) (fun h => absurd (show (5 : Int32) ≤ nI 5 from nI_le (a := 5) (by omega) (by omega)) h), hF, hR1, hI1, hlow, hhi, hrel, hle⟩
    | succ d ih =>
      intro t ht w1 c1 fd1 n1 mo1 l5 l6 hF hR1 hI1 hlow hhi hrel hle
      have hml := mbN_lt kn k
      have hi := am_isIn (w := w1) (b := mbN kn k) (i := t) (by omega) (by omega)
      have hbit : (mbN kn k).testBit t = mbp kn k t := by
        rw [mbN_bit]
        have : (decide (t < 5)) = true := by simp; omega
        rw [this]; rfl
      rw [hbit] at hi
      by_cases hz0 : prc kn k t = 0
      · have hb : mbp kn k t = false := by simp [mbp, hz0]
        rw [hb] at hi
        obtain ⟨w', c', fd', n', mo', hz, rest⟩ := ih (t + 1) (by omega) w1 c1 fd1 n1 mo1 l5 l6 hF hR1 hI1 hlow hhi (fun u hu hp => by
          by_cases e : u = t
          · subst e; exact absurd hz0 hp
          · exact hrel u (by omega) hp) hle
        refine ⟨w', c', fd', n', mo', b_X6_comeFrom_9 (fun h => absurd (nle (a := 5) h (by omega) (by omega)) (by omega)) (fun _ => b_X6_comeFrom_15 hi (fun _ => b_X6_comeFrom_77 ?_) (fun e => absurd rfl e)), rest⟩
        rw [nI_1]; exact hz
      · have hb : mbp kn k t = true := by simp [mbp, hz0]
        rw [hb] at hi
        have hle3 := prc_le kn k t
        have hq : mv k t < 720 := mv_lt hk (by omega)
        have hck : c1 k = C := by rw [hlow k (by omega)]; exact hC
        obtain ⟨j0, hj0, hfj⟩ := hI1.2.2.2.2.1 k hk (by omega)
        have hI2 := SInv.note (t := t) hI1 hR1.2 (j0 := j0) hj0 (by rw [hfj]; exact hck) (by omega) (by rw [hfj]; exact hz0)
        rw [hfj] at hI2
        have hvF : C + prc kn k t < FARN := by omega
        have hCv : C < C + prc kn k t := by omega
        have hcq := hR1.2 (mv k t)
        have hcl : (nI (mv k t)).toNatClampNeg = mv k t := nI_clamp (by omega)
        have hin : vp_in (nI (mv k t)) 720 := vp_in_nI hq (by omega)
        have hval : wA w1 28 (nI (mv k t)).toNatClampNeg = nI (c1 (mv k t)) := by rw [hcl]; exact hR1.1 _ hq
        have hKM : KM w1 kn := hK.fr hF (by decide)
        have hst : ∃ v, v = (if c1 (mv k t) ≤ C + prc kn k t then c1 (mv k t) else C + prc kn k t) := ⟨_, rfl⟩
        obtain ⟨v, hv⟩ := hst
        have hnt : ntC c1 (mv k t) (C + prc kn k t) (mv k t) = v := by
          unfold ntC
          rw [hv]
          by_cases g : c1 (mv k t) = FARN
          · rw [if_pos g, uN_s, if_neg (by omega)]
          · rw [if_neg g]
            by_cases g2 : C + prc kn k t < c1 (mv k t)
            · rw [if_pos g2, uN_s, if_neg (by omega)]
            · rw [if_neg g2, if_pos (by omega)]
        have hR2 : DR (sA w1 28 (upd (wA w1 28) (mv k t) (nI v))) (ntC c1 (mv k t) (C + prc kn k t)) := by
          refine ⟨fun r hr => ?_, ntC_far hvF hR1.2⟩
          rw [wA_sA_s]
          by_cases e : r = mv k t
          · subst e; rw [pk_us, hnt]
          · rw [pk_un e, ntC_n e]; exact hR1.1 r hr
        obtain ⟨w', c', fd', n', mo', hz, rest⟩ := ih (t + 1) (by omega) (sA w1 28 (upd (wA w1 28) (mv k t) (nI v))) _ _ _ _ (some (.int (nI (mv k t)))) (some (.int (nI (C + prc kn k t)))) (hF.trans (Fr.sA (by simp))) hR2 hI2
          (fun r hr => by rw [ntC_low hCv hCl (by rw [hlow r hr]; exact hr)]; exact hlow r hr)
          (fun r hr => ntC_hi hCv (hhi r hr))
          (fun u hu hp => by
            by_cases e : u = t
            · subst e; exact ntC_q hvF
            · obtain ⟨h1, h2⟩ := hrel u (by omega) hp
              have h3 := ntC_le (q := mv k t) hvF (hR1.2 (mv k u))
              have := hR1.2 (mv k u)
              exact ⟨by omega, by omega⟩)
          (fun r => Nat.le_trans (ntC_le hvF (hR1.2 r)) (hle r))
        have fin : Z_X6_comeFrom 35 76 [some (.ref 22), some (.int (nI (tr k))), some (.int (nI C)), some (.int (nI (mbN kn k))), some (.int (nI t)), some (.int (nI (mv k t))), some (.int (nI (C + prc kn k t)))] [.int (nI v), .int (nI (mv k t)), .ref 28] w1 (none, w') := by
          refine b_X6_comeFrom_76 hin (b_X6_comeFrom_77 ?_)
          rw [hcl, nI_1]
          exact hz
        refine ⟨w', c', fd', n', mo', b_X6_comeFrom_9 (fun h => absurd (nle (a := 5) h (by omega) (by omega)) (by omega)) (fun _ => b_X6_comeFrom_15 hi (fun e => absurd e b1) (fun _ => b_X6_comeFrom_24 (am_mpushed hk (by omega)) (am_rankOf hq) (am_costIn hKM hk (by omega)) hin (fun h => ?_) (fun h => ?_))), rest⟩
        · rw [hval, nI_add] at h
          have h2 := nle h (by omega) (by omega)
          rw [if_pos h2] at hv
          rw [nI_add]
          refine b_X6_comeFrom_69 hin ?_
          rw [hval, ← hv]
          exact fin
        · rw [hval, nI_add] at h
          have h2 : ¬ c1 (mv k t) ≤ C + prc kn k t := fun q => h (nI_le q (by omega))
          rw [if_neg h2] at hv
          rw [nI_add]
          refine b_X6_comeFrom_64 ?_
          rw [hv] at fin
          exact fin
  obtain ⟨w', c', fd', n', mo', hz, rest⟩ := loop 5 0 rfl w c fd n mo none none (Fr.refl _ _) hR hI (fun _ _ => rfl) (fun _ h => h) (fun u hu => absurd hu (Nat.not_lt_zero _)) (fun _ => Nat.le_refl _)
  exact ⟨w', c', fd', n', mo', ai_X6_comeFrom (b_X6_comeFrom_0 (am_mayBe hK hk) hz), rest⟩
theorem am_layCosts {k kn : Nat} (hK : KM w kn) (hk : k < 720) : ∃ w', A_X6_layCosts 35 [.ref 22, .int (nI (tr k))] w (some (.int (nI (mxW kn k))), w') ∧ Fr [28] w w' ∧ DR w' (dsN kn k) ∧ IsDist kn k (dsN kn k) := by
  have hFA : FARN = 268435456 := rfl
  -- the search from cost C on
  have hop : ∀ d C, C + d = 2161 → ∀ (w1 : Wd) (c fd : Nat → Nat) (n mo M0 : Nat) (l4 : Option Value), Fr [28] w w1 → DR w1 c → SInv kn k C c fd n mo → (∀ q, q < 720 → c q < C → c q ≤ M0) → M0 ≤ C → (∃ q, q < 720 ∧ c q ≠ FARN ∧ c q = M0) →
      ∃ w' c fd n mo M C', Z_X6_layCosts 35 37 [some (.ref 22), some (.int (nI (tr k))), some (.int (nI M0)), some (.int (nI C)), l4] [] w1 (some (.int (nI M)), w') ∧ Fr [28] w w' ∧ DR w' c ∧ SInv kn k C' c fd n mo ∧ (∀ q, q < 720 → c q < C' → c q ≤ M) ∧ M + 3 < C' ∧ (∃ q, q < 720 ∧ c q ≠ FARN ∧ c q = M) := by
    intro d
    induction d with
    | zero =>
      intro C hC w1 c fd n mo M0 l4 hF hR hI hM hMC hat
      have hnl := hI.n_le
      have hmo := hI.2.2.2.2.2.1
      obtain ⟨q, q1, q2, q3⟩ := hat
      have h7 := hI.2.2.2.2.2.2.1 q q1 q2
      refine ⟨w1, c, fd, n, mo, M0, C, b_X6_layCosts_37 (fun _ => b_X6_layCosts_90) (fun e => absurd ?_ e), hF, hR, hI, hM, by omega, ⟨q, q1, q2, q3⟩⟩
      rw [show (3 : Int32) = nI 3 from rfl, nI_add]
      exact nI_lt (by omega) (by omega)
    | succ d ih =>
      intro C hC w1 c fd n mo M0 l4 hF hR hI hM hMC hat
      have hCl : C < FARN := by omega
      by_cases hx : M0 + 3 < C
      · refine ⟨w1, c, fd, n, mo, M0, C, b_X6_layCosts_37 (fun _ => b_X6_layCosts_90) (fun e => absurd ?_ e), hF, hR, hI, hM, hx, hat⟩
        rw [show (3 : Int32) = nI 3 from rfl, nI_add]
        exact nI_lt (by omega) (by omega)
      · have inner : ∀ e j, j + e = 720 → ∀ (w2 : Wd) (c2 fd2 : Nat → Nat) (n2 mo2 M2 : Nat), Fr [28] w w2 → DR w2 c2 → SInv kn k C c2 fd2 n2 mo2 → (∀ r, c r ≤ C → c2 r = c r) → (∀ r, C < c r → C < c2 r) → (∀ i, i < j → c i = C → ∀ t, t < 5 → prc kn i t ≠ 0 → c2 (mv i t) ≠ FARN ∧ c2 (mv i t) ≤ C + prc kn i t) → (∀ q, q < 720 → c q < C → c q ≤ M2) → M2 ≤ C → (∀ i, i < j → c i = C → M2 = C) → (∃ q, q < 720 ∧ c2 q ≠ FARN ∧ c2 q = M2) →
            ∃ w' c fd n mo M C', Z_X6_layCosts 35 47 [some (.ref 22), some (.int (nI (tr k))), some (.int (nI M2)), some (.int (nI C)), some (.int (nI j))] [] w2 (some (.int (nI M)), w') ∧ Fr [28] w w' ∧ DR w' c ∧ SInv kn k C' c fd n mo ∧ (∀ q, q < 720 → c q < C' → c q ≤ M) ∧ M + 3 < C' ∧ (∃ q, q < 720 ∧ c q ≠ FARN ∧ c q = M) := by
          intro e
          induction e with
          | zero =>
            intro j hj w2 c2 fd2 n2 mo2 M2 hF2 hR2 hI2 hlow hhi hrel hM2 hMC2 hset hat2
            have hj : j = 720 := by omega
            subst hj
            have hcc : ∀ r, c2 r ≤ C → c2 r = c r := fun r hr => by
              rcases Nat.lt_or_ge C (c r) with g | g
              · have := hhi r g; omega
              · exact hlow r g
            have hI3 : SInv kn k (C + 1) c2 fd2 n2 mo2 := by
              obtain ⟨a1, a2, a3, a4, a5, a6, a7, a8, a9⟩ := hI2
              refine ⟨a1, a2, a3, a4, a5, a6, a7, fun q hq hf => ?_, fun p hp hlt t ht hpr => ?_⟩
              · rcases a8 q hq hf with h1 | ⟨p, t, b1, b2, b3, b4⟩
                · exact Or.inl h1
                · exact Or.inr ⟨p, t, b1, b2, by omega, b4⟩
              · by_cases hlt2 : c2 p < C
                · exact a9 p hp hlt2 t ht hpr
                · have hpC : c2 p = C := by omega
                  have h2 := hrel p hp (by rw [← hcc p (by omega)]; exact hpC) t ht hpr
                  rw [hpC]
                  exact h2
            obtain ⟨w', c', fd', n', mo', M', C', hz, rest⟩ := ih (C + 1) (by omega) w2 c2 fd2 n2 mo2 M2 (some (.int (nI 720))) hF2 hR2 hI3 (fun q hq hlt => by
              have h1 := hcc q (by omega)
              by_cases g : c q < C
              · rw [h1]; exact hM2 q hq g
              · have h3 := hset q hq (by omega)
                omega) (by omega) hat2
            refine ⟨w', c', fd', n', mo', M', C', b_X6_layCosts_47 (fun _ => b_X6_layCosts_84 ?_) (fun h => absurd (show (720 : Int32) ≤ nI 720 from nI_le (a := 720) (by omega) (by omega)) h), rest⟩
            rw [nI_1]; exact hz
          | succ e ih2 =>
            intro j hj w2 c2 fd2 n2 mo2 M2 hF2 hR2 hI2 hlow hhi hrel hM2 hMC2 hset hat2
            have hcb := hR2.2 j
            have hval : wA w2 28 (nI j).toNatClampNeg = nI (c2 j) := by rw [nI_clamp (by omega)]; exact hR2.1 j (by omega)
            have hin : vp_in (nI j) 720 := vp_in_nI (by omega) (by omega)
            have hno : ¬ (720 : Int32) ≤ nI j := fun h => absurd (nle (a := 720) h (by omega) (by omega)) (by omega)
            by_cases hCj : c2 j = C
            · have hcj : c j = C := by
                rcases Nat.lt_or_ge C (c j) with g | g
                · have := hhi j g; omega
                · rw [← hlow j g]; exact hCj
              obtain ⟨w3, c3, fd3, n3, mo3, ha, hF3, hR3, hI3, hlow3, hhi3, hrel3, hle3⟩ := am_comeFrom (w := w2) (k := j) (hK.fr hF2 (by decide)) hR2 hI2 (by omega) hCj hCl
              obtain ⟨w', c', fd', n', mo', M', C', hz, rest⟩ := ih2 (j + 1) (by omega) w3 c3 fd3 n3 mo3 C (hF2.trans hF3) hR3 hI3
                (fun r hr => by rw [hlow3 r (by rw [hlow r hr]; exact hr)]; exact hlow r hr)
                (fun r hr => hhi3 r (hhi r hr))
                (fun i hi hiC t ht hpr => by
                  by_cases ei : i = j
                  · subst ei; exact hrel3 t ht hpr
                  · obtain ⟨h1, h2⟩ := hrel i (by omega) hiC t ht hpr
                    have h3 := hle3 (mv i t)
                    have h4 := hR2.2 (mv i t)
                    exact ⟨by omega, by omega⟩)
                (fun q hq hlt => Nat.le_of_lt hlt) (Nat.le_refl _) (fun _ _ _ => rfl) ⟨j, by omega, by rw [hlow3 j (by omega)]; omega, by rw [hlow3 j (by omega)]; exact hCj⟩
              refine ⟨w', c', fd', n', mo', M', C', b_X6_layCosts_47 (fun h => absurd h hno) (fun _ => b_X6_layCosts_55 hin (fun h => absurd (by rw [hval, hCj]) h) (fun _ => b_X6_layCosts_66 (am_trayOf (by omega)) ha (b_X6_layCosts_78 ?_))), rest⟩
              rw [nI_1]; exact hz
            · obtain ⟨w', c', fd', n', mo', M', C', hz, rest⟩ := ih2 (j + 1) (by omega) w2 c2 fd2 n2 mo2 M2 hF2 hR2 hI2 hlow hhi
                (fun i hi hiC t ht hpr => by
                  by_cases ei : i = j
                  · subst ei; exact absurd ((hlow i (by omega)).trans hiC) hCj
                  · exact hrel i (by omega) hiC t ht hpr) hM2 hMC2
                (fun i hi hiC => by
                  by_cases ei : i = j
                  · subst ei; exact absurd ((hlow i (by omega)).trans hiC) hCj
                  · exact hset i (by omega) hiC) hat2
              refine ⟨w', c', fd', n', mo', M', C', b_X6_layCosts_47 (fun h => absurd h hno) (fun _ => b_X6_layCosts_55 hin (fun _ => b_X6_layCosts_78 ?_) (fun h => absurd (neq (by rw [hval] at h; exact h) (by omega) (by omega)) hCj)), rest⟩
              rw [nI_1]; exact hz
        obtain ⟨w', c', fd', n', mo', M', C', hz, rest⟩ := inner 720 0 rfl w1 c fd n mo M0 hF hR hI (fun _ _ => rfl) (fun _ h => h) (fun i hi => absurd hi (Nat.not_lt_zero _)) hM hMC (fun i hi => absurd hi (Nat.not_lt_zero _)) hat
        refine ⟨w', c', fd', n', mo', M', C', b_X6_layCosts_37 (fun h => ?_) (fun _ => b_X6_layCosts_44 hz), rest⟩
        rw [show (3 : Int32) = nI 3 from rfl, nI_add] at h
        exact absurd (nlt h (by omega) (by omega)) hx
  -- the whole
  have key : ∀ w2, Fr [28] w w2 → (∀ i, i < 720 → wA w2 28 i = nI FARN) → ∃ w', Z_X6_layCosts 35 23 [some (.ref 22), some (.int (nI (tr k))), some (.int (nI 720)), none, none] [] w2 (some (.int (nI (mxW kn k))), w') ∧ Fr [28] w w' ∧ DR w' (dsN kn k) ∧ IsDist kn k (dsN kn k) := by
    intro w2 hF2 hA2
    have hR1 : DR (sA w2 28 (upd (wA w2 28) k 0)) (uN (fun _ => FARN) k 0) := by
      refine ⟨fun r hr => ?_, fun r => ?_⟩
      · rw [wA_sA_s]
        by_cases e : r = k
        · subst e; rw [pk_us, uN_s]; rfl
        · rw [pk_un e, uN_n e]; exact hA2 r hr
      · by_cases e : r = k
        · subst e; rw [uN_s]; omega
        · rw [uN_n e]; omega
    have cz : ∀ m, cnt (fin (fun _ => FARN)) m = 0 := by
      intro m
      induction m with
      | zero => rfl
      | succ m ih => unfold cnt; rw [ih]; simp [fin]
    have hk0 : ∀ q, uN (fun _ => FARN) k 0 q ≠ FARN → q = k := fun q h => by
      by_cases e : q = k
      · exact e
      · exact absurd (uN_n e) h
    have hI1 : SInv kn k 0 (uN (fun _ => FARN) k 0) (uN (fun _ => 0) 0 k) 1 0 := by
      refine ⟨uN_s, ?_, Nat.le_refl _, fun i hi => ?_, fun q hq h => ⟨0, by omega, by rw [uN_s, hk0 q h]⟩, by omega, fun q hq h => by rw [hk0 q h, uN_s]; omega, fun q hq h => Or.inl ⟨hk0 q h, by rw [hk0 q h, uN_s]⟩, fun p hp h => absurd h (Nat.not_lt_zero _)⟩
      · rw [cnt_upd (P := fin (fun _ => FARN)) k hk (fun r hr => by simp [fin, uN_n hr]) (by simp [fin]) (by simp [fin, uN_s, FARN]), cz]
      · have : i = 0 := by omega
        subst this
        rw [uN_s, uN_s]
        exact ⟨hk, by decide, by omega⟩
    obtain ⟨w', c, fd, n, mo, M, C, hz, hF', hR', hI', hM', hMC', hat'⟩ := hop 2161 0 (by omega) _ _ _ _ _ 0 none (hF2.trans (Fr.sA (by simp))) hR1 hI1 (fun q hq h => absurd h (Nat.not_lt_zero _)) (Nat.le_refl _) ⟨k, hk, by rw [uN_s]; decide, uN_s⟩
    have hall : ∀ v q, q < 720 → c q ≠ FARN → c q = v → c q ≤ M := by
      intro v
      induction v using Nat.strongRecOn with
      | ind v ihv =>
        intro q hq hf hv
        by_cases g : c q < C
        · exact hM' q hq g
        · rcases hI'.2.2.2.2.2.2.2.1 q hq hf with ⟨h1, h2⟩ | ⟨p, t, b1, b2, b3, b4, b5, b6⟩
          · omega
          · have h3 := prc_le kn p t
            have hcq := hR'.2 q
            have h4 := ihv (c p) (by omega) p b1 (by omega) rfl
            omega
    have hI3 : SInv kn k C c fd n M := by
      obtain ⟨a1, a2, a3, a4, a5, a6, a7, a8, a9⟩ := hI'
      obtain ⟨q, q1, q2, q3⟩ := hat'
      have := a7 q q1 q2
      exact ⟨a1, a2, a3, a4, a5, by omega, fun q hq hf => hall _ q hq hf rfl, a8, a9⟩
    have hD := hI3.done hR'.2 (by omega)
    have hDs := dsN_ok hD hk
    have e : ∀ q, q < 720 → c q = dsN kn k q := fun q hq => dsN_eq hD hk q hq
    have hMx : IsMax (dsN kn k) M := by
      obtain ⟨q, q1, q2, q3⟩ := hat'
      exact ⟨⟨q, q1, by rw [← e q q1]; exact q2, by rw [← e q q1]; exact q3⟩, fun r hr hf => by rw [← e r hr] at hf ⊢; exact hall _ r hr hf rfl⟩
    have hMe := mxW_eq hMx
    subst hMe
    refine ⟨w', b_X6_layCosts_23 (am_rankOf hk) (vp_in_nI hk (by omega)) ?_, hF', ⟨fun q hq => by rw [hR'.1 q hq, e q hq], dsN_le hDs⟩, hDs⟩
    rw [nI_clamp (by omega)]
    exact hz
  have reach : ∀ d j, j + d = 720 → ∀ (w1 : Wd), Fr [28] w w1 → (∀ i, i < j → wA w1 28 i = nI FARN) → ∃ w', Z_X6_layCosts 35 2 [some (.ref 22), some (.int (nI (tr k))), some (.int (nI j)), none, none] [] w1 (some (.int (nI (mxW kn k))), w') ∧ Fr [28] w w' ∧ DR w' (dsN kn k) ∧ IsDist kn k (dsN kn k) := by
    intro d
    induction d with
    | zero =>
      intro j hj w1 hF h
      have hj : j = 720 := by omega
      subst hj
      obtain ⟨w', hz, rest⟩ := key w1 hF h
      exact ⟨w', b_X6_layCosts_2 (fun _ => hz) (fun h => absurd (show (720 : Int32) ≤ nI 720 from nI_le (a := 720) (by omega) (by omega)) h), rest⟩
    | succ d ih =>
      intro j hj w1 hF h
      obtain ⟨w', hz, rest⟩ := ih (j + 1) (by omega) (sA w1 28 (upd (wA w1 28) j 268435456)) (hF.trans (Fr.sA (by simp))) (fun i hi => by
        rw [wA_sA_s]
        by_cases e : i = j
        · subst e; rw [pk_us]; rfl
        · rw [pk_un e]; exact h i (by omega))
      refine ⟨w', b_X6_layCosts_2 (fun h => absurd (nle (a := 720) h (by omega) (by omega)) (by omega)) (fun _ => b_X6_layCosts_9 (vp_in_nI (by omega) (by omega)) ?_), rest⟩
      rw [nI_clamp (by omega), nI_1]
      exact hz
  obtain ⟨w', hz, rest⟩ := reach 720 0 rfl w (Fr.refl _ _) (fun i hi => absurd hi (Nat.not_lt_zero _))
  exact ⟨w', ai_X6_layCosts (b_X6_layCosts_0 hz), rest⟩
end LA
