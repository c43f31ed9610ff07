-- ===== the reference's questions of the costs =====
section MQ
variable {w : Wd}
theorem am_mcostOf {c : Nat → Nat} {k : Nat} (hR : DR w c) (hk : k < 720) : A_X6_costOf 35 [.ref 22, .int (nI (tr k))] w (some (.int (ec (c k))), w) := by
  have hb := hR.2 k
  have hFA : FARN = 268435456 := rfl
  have hval : wA w 28 (nI k).toNatClampNeg = nI (c k) := by rw [nI_clamp (by omega)]; exact hR.1 k hk
  refine ai_X6_costOf (b_X6_costOf_0 (am_rankOf hk) (vp_in_nI hk (by omega)) (fun h => ?_) (fun h => ?_))
  · rw [hval] at h ⊢
    rw [ec_n (fun e => h (by rw [e]; rfl))]
    exact b_X6_costOf_20 b_X6_costOf_21
  · rw [hval] at h ⊢
    rw [ec_f (neq (b := 268435456) h (by omega) (by omega))]
    exact b_X6_costOf_16 b_X6_costOf_21
theorem am_firstOf {c : Nat → Nat} {kn g k : Nat} (hK : KM w kn) (hR : DR w c) (hD : IsDist kn g c) (hk : k < 720) (hf : c k ≠ FARN) : A_X6_firstOf 35 [.ref 22, .int (nI (tr k))] w (some (.int (sgnN (ctN c kn k))), w) := by
  have hFA : FARN = 268435456 := rfl
  have hck := hD.2.1 k hk hf
  have last : ∀ t, t ≤ 5 → Z_X6_firstOf 35 56 [some (.ref 22), some (.int (nI (tr k))), some (.int (nI (c k))), some (.int (nI t))] [] w (some (.int (sgnN t)), w) := by
    intro t ht
    unfold sgnN
    by_cases e : t = 5
    · rw [if_pos e]
      exact b_X6_firstOf_56 (fun h => absurd (by rw [e]; rfl) h) (fun _ => b_X6_firstOf_61 b_X6_firstOf_66)
    · rw [if_neg e]
      exact b_X6_firstOf_56 (fun _ => b_X6_firstOf_65 b_X6_firstOf_66) (fun h => absurd (neq (b := 5) h (by omega) (by omega)) e)
  have loop : ∀ d t, t + d = 5 → Z_X6_firstOf 35 8 [some (.ref 22), some (.int (nI (tr k))), some (.int (nI (c k))), some (.int (nI t))] [] w (some (.int (sgnN (ctF c kn k d t))), w) := by
    intro d
    induction d with
    | zero =>
      intro t ht
      have ht : t = 5 := by omega
      subst ht
      exact b_X6_firstOf_8 (fun _ => last 5 (Nat.le_refl _)) (fun h => absurd (show (5 : Int32) ≤ nI 5 from nI_le (a := 5) (by omega) (by omega)) h)
    | succ d ih =>
      intro t ht
      have hle := prc_le kn k t
      have ent : ∀ {r}, Z_X6_firstOf 35 13 [some (.ref 22), some (.int (nI (tr k))), some (.int (nI (c k))), some (.int (nI t))] [] w r → Z_X6_firstOf 35 8 [some (.ref 22), some (.int (nI (tr k))), some (.int (nI (c k))), some (.int (nI t))] [] w r := fun z => b_X6_firstOf_8 (fun h => absurd (nle (a := 5) h (by omega) (by omega)) (by omega)) (fun _ => z)
      have no : ¬ (prc kn k t ≠ 0 ∧ c (mv k t) + prc kn k t = c k) → Z_X6_firstOf 35 50 [some (.ref 22), some (.int (nI (tr k))), some (.int (nI (c k))), some (.int (nI t))] [] w (some (.int (sgnN (ctF c kn k (d + 1) t))), w) := by
        intro h
        have e : ctF c kn k (d + 1) t = ctF c kn k d (t + 1) := by show (if _ then _ else _) = _; rw [if_neg h]
        rw [e]
        refine b_X6_firstOf_50 ?_
        rw [nI_1]; exact ih (t + 1) (by omega)
      refine ent (b_X6_firstOf_13 (fun h => no ?_) (fun h => b_X6_firstOf_17 (am_costIn hK hk (by omega)) (fun h2 => no ?_) (fun h2 => ?_)))
      · have h0 : c k = 0 := by have := nle (b := 0) h (by omega) (by omega); omega
        intro q
        omega
      · have h0 : prc kn k t = 0 := by have := nle (b := 0) h2 (by omega) (by omega); omega
        exact fun q => q.1 h0
      · have h0 : prc kn k t ≠ 0 := fun e => h2 (by rw [e]; decide)
        have hq := mv_lt hk (show t < 5 by omega)
        have hqf := (hD.2.2.1 k hk hf t (by omega) h0).1
        have hqb := hD.2.1 _ hq hqf
        have hval : wA w 28 (nI (mv k t)).toNatClampNeg = nI (c (mv k t)) := by rw [nI_clamp (by omega)]; exact hR.1 _ hq
        refine b_X6_firstOf_26 (am_mpushed hk (by omega)) (am_rankOf hq) (vp_in_nI hq (by omega)) (am_costIn hK hk (by omega)) (fun h3 => ?_) (fun h3 => no (fun q => h3 ?_))
        · rw [hval] at h3
          have hge : prc kn k t ≤ c k := by
            by_cases g : prc kn k t ≤ c k
            · exact g
            · have := pk_sneg (a := c k) (b := prc kn k t) (by omega) (by omega)
              rw [← h3] at this
              exact absurd this (nI_pos (by omega))
          rw [pk_sub hge] at h3
          have h4 := neq h3 (by omega) (by omega)
          have e : ctF c kn k (d + 1) t = t := by show (if _ then _ else _) = _; rw [if_pos ⟨h0, by omega⟩]
          rw [e]
          exact last t (by omega)
        · rw [hval, pk_sub (by omega), ← q.2]
          congr 1
          omega
  have h := am_mcostOf hR hk
  rw [ec_n hf] at h
  exact ai_X6_firstOf (b_X6_firstOf_0 h (loop 5 0 rfl))
theorem am_leastNow {u : CU} {q : Nat} (hu : CuOK u) (hK : KM w (cN u)) (h1 : wI w 22 1 = nI (tr (cK u))) (h2 : wI w 22 2 = nI (tr (cG u))) (hq : q < 3) : ∃ w', A_X6_leastNow 35 [.ref 22, .int (nI q)] w (some (.int (lNow u q)), w') ∧ Fr [28] w w' := by
  obtain ⟨u1, u2, u3, u4, u5⟩ := hu
  obtain ⟨w1, ha, hF, hR, hD⟩ := am_layCosts hK u2
  rw [← h2] at ha
  have t1 : wI w1 22 1 = nI (tr (cK u)) := (hF.1 22 1 (by decide)).trans h1
  have hK1 := hK.fr hF (by decide)
  have hco := am_mcostOf hR u1
  rw [← t1] at hco
  have hFA : FARN = 268435456 := rfl
  refine ⟨w1, ?_, hF⟩
  by_cases hq0 : q = 0
  · subst hq0
    exact ai_X6_leastNow (b_X6_leastNow_0 ha (fun _ => b_X6_leastNow_25 hco) (fun h => absurd rfl h))
  · have hqn : ¬ nI q = 0 := fun e => hq0 (neq (b := 0) e (by omega) (by omega))
    by_cases hf : dsN (cN u) (cG u) (cK u) = FARN
    · have e1 : lNow u q = ec (dsN (cN u) (cG u) (cK u)) := by
        rw [ec_f hf]
        rcases (show q = 1 ∨ q = 2 by omega) with rfl | rfl
        · show (if _ then _ else _) = _
          rw [if_pos hf]
        · show (if _ then _ else _) = _
          rw [if_pos hf]
      rw [e1]
      exact ai_X6_leastNow (b_X6_leastNow_0 ha (fun h => absurd h hqn) (fun _ => b_X6_leastNow_13 hco (fun h => absurd (ec_f hf) h) (fun _ => b_X6_leastNow_25 hco)))
    · have hcb := hD.2.1 _ u1 hf
      have run : ∀ f k, k < 720 → dsN (cN u) (cG u) k ≠ FARN → dsN (cN u) (cG u) k ≤ f → ∀ m, m + stpF (dsN (cN u) (cG u)) (cN u) (cG u) f k < 720 → ∀ x4, Z_X6_leastNow 35 52 [some (.ref 22), some (.int (nI q)), some (.int (nI m)), some (.int (nI (tr k))), some (.int x4), some (.int (sgnN (ctN (dsN (cN u) (cG u)) (cN u) k)))] [] w1 (some (.int (if q = 1 then x4 else nI (m + stpF (dsN (cN u) (cG u)) (cN u) (cG u) f k))), w1) := by
        have fin : ∀ m k x4 x5, Z_X6_leastNow 35 78 [some (.ref 22), some (.int (nI q)), some (.int (nI m)), some (.int (nI (tr k))), some (.int x4), some (.int x5)] [] w1 (some (.int (if q = 1 then x4 else nI m)), w1) := by
          intro m k x4 x5
          by_cases h1 : q = 1
          · rw [if_pos h1]
            exact b_X6_leastNow_78 (fun h => absurd (by rw [h1]; rfl) h) (fun _ => b_X6_leastNow_83 b_X6_leastNow_89)
          · rw [if_neg h1]
            exact b_X6_leastNow_78 (fun _ => b_X6_leastNow_88 b_X6_leastNow_89) (fun h => absurd (neq (b := 1) h (by omega) (by omega)) h1)
        intro f
        induction f with
        | zero =>
          intro k hk hf hle m hm x4
          have hkg : k = cG u := by
            by_cases e : k = cG u
            · exact e
            · obtain ⟨h1, h2, h3⟩ := (ctN_5 hD hk hf).2 e; omega
          have e5 := (ctN_5 hD hk hf).1.mpr hkg
          rw [e5]
          exact b_X6_leastNow_52 (fun _ => fin m k x4 _) (fun h => absurd rfl h)
        | succ f ih =>
          intro k hk hf hle m hm x4
          by_cases e : k = cG u
          · have e5 := (ctN_5 hD hk hf).1.mpr e
            have hs : stpF (dsN (cN u) (cG u)) (cN u) (cG u) (f + 1) k = 0 := by simp [stpF, e]
            rw [e5, hs]
            exact b_X6_leastNow_52 (fun _ => fin m k x4 _) (fun h => absurd rfl h)
          · obtain ⟨q1, q2, q3⟩ := (ctN_5 hD hk hf).2 e
            have hs : stpF (dsN (cN u) (cG u)) (cN u) (cG u) (f + 1) k = stpF (dsN (cN u) (cG u)) (cN u) (cG u) f (mv k (ctN (dsN (cN u) (cG u)) (cN u) k)) + 1 := by show (if _ then _ else _) = _; rw [if_neg e]
            rw [hs] at hm ⊢
            have hq2 := mv_lt hk q1
            have hqf := (hD.2.2.1 k hk hf _ q1 q2).1
            have e5 : sgnN (ctN (dsN (cN u) (cG u)) (cN u) k) = nI (ctN (dsN (cN u) (cG u)) (cN u) k) := by unfold sgnN; rw [if_neg (by omega)]
            rw [e5]
            refine b_X6_leastNow_52 (fun h => absurd h (nI_m1 (by omega))) (fun _ => b_X6_leastNow_58 (am_mpushed hk q1) (am_firstOf hK1 hR hD hq2 hqf) ?_)
            rw [nI_1, show m + (stpF (dsN (cN u) (cG u)) (cN u) (cG u) f (mv k (ctN (dsN (cN u) (cG u)) (cN u) k)) + 1) = m + 1 + stpF (dsN (cN u) (cG u)) (cN u) (cG u) f (mv k (ctN (dsN (cN u) (cG u)) (cN u) k)) by omega]
            exact ih _ hq2 hqf (by omega) (m + 1) (by omega) x4
      have hr := run (dsN (cN u) (cG u) (cK u)) (cK u) u1 hf (Nat.le_refl _) 0 (by have := stpF_720 hD (dsN (cN u) (cG u) (cK u)) u1 hf; omega) (sgnN (ctN (dsN (cN u) (cG u)) (cN u) (cK u)))
      have hfi := am_firstOf hK1 hR hD u1 hf
      rw [← t1] at hfi hr
      have e1 : lNow u q = if q = 1 then sgnN (ctN (dsN (cN u) (cG u)) (cN u) (cK u)) else nI (0 + stpF (dsN (cN u) (cG u)) (cN u) (cG u) (dsN (cN u) (cG u) (cK u)) (cK u)) := by
        rcases (show q = 1 ∨ q = 2 by omega) with rfl | rfl
        · rw [if_pos rfl]
          show (if _ then _ else _) = _
          rw [if_neg hf]
        · rw [if_neg (by omega), Nat.zero_add]
          show (if _ then _ else _) = _
          rw [if_neg hf]
      rw [e1]
      exact ai_X6_leastNow (b_X6_leastNow_0 ha (fun h => absurd h hqn) (fun _ => b_X6_leastNow_13 hco (fun _ => b_X6_leastNow_34 hfi hr) (fun h => absurd (by rw [ec_n hf] at h; exact h) (nI_m1 (by omega)))))
theorem am_reachNow {u : CU} {q : Nat} (hu : CuOK u) (hK : KM w (cN u)) (h1 : wI w 22 1 = nI (tr (cK u))) (hq : q < 2) : ∃ w', A_X6_reachNow 35 [.ref 22, .int (nI q)] w (some (.int (reN u q)), w') ∧ Fr [28] w w' := by
  obtain ⟨u1, u2, u3, u4, u5⟩ := hu
  obtain ⟨w1, ha, hF, hR, hD⟩ := am_layCosts hK u1
  rw [← h1] at ha
  have hFA : FARN = 268435456 := rfl
  refine ⟨w1, ?_, hF⟩
  have loop : ∀ d j, j + d = 720 → Z_X6_reachNow 35 14 [some (.ref 22), some (.int (nI q)), some (.int (nI (mxW (cN u) (cK u)))), some (.int (nI (cnt (fin (dsN (cN u) (cK u))) j))), some (.int (nI j))] [] w1 (some (.int (reN u q)), w1) := by
    intro d
    induction d with
    | zero =>
      intro j hj
      have hj : j = 720 := by omega
      subst hj
      refine b_X6_reachNow_14 (fun _ => ?_) (fun h => absurd (show (720 : Int32) ≤ nI 720 from nI_le (a := 720) (by omega) (by omega)) h)
      rcases (show q = 0 ∨ q = 1 by omega) with rfl | rfl
      · exact b_X6_reachNow_48 (fun h => absurd rfl h) (fun _ => b_X6_reachNow_52 b_X6_reachNow_57)
      · exact b_X6_reachNow_48 (fun _ => b_X6_reachNow_56 b_X6_reachNow_57) (fun h => absurd h (by decide))
    | succ d ih =>
      intro j hj
      have hcb := hR.2 j
      have hval : wA w1 28 (nI j).toNatClampNeg = nI (dsN (cN u) (cK u) j) := by rw [nI_clamp (by omega)]; exact hR.1 j (by omega)
      have e : cnt (fin (dsN (cN u) (cK u))) (j + 1) = cnt (fin (dsN (cN u) (cK u))) j + bif fin (dsN (cN u) (cK u)) j then 1 else 0 := rfl
      have hn := ih (j + 1) (by omega)
      rw [e] at hn
      refine b_X6_reachNow_14 (fun h => absurd (nle (a := 720) h (by omega) (by omega)) (by omega)) (fun _ => b_X6_reachNow_22 (vp_in_nI (by omega) (by omega)) (fun h => ?_) (fun h => ?_))
      · rw [hval] at h
        have h2 := nle (a := 268435456) h (by omega) (by omega)
        have h3 : fin (dsN (cN u) (cK u)) j = false := fin_f.mpr (by omega)
        rw [h3] at hn
        refine b_X6_reachNow_39 (b_X6_reachNow_40 ?_)
        rw [show (0 : Int32) = nI 0 from rfl, nI_add, nI_1]
        exact hn
      · rw [hval] at h
        have h3 : fin (dsN (cN u) (cK u)) j = true := fin_t.mpr (fun e => h (by rw [e]; decide))
        rw [h3] at hn
        refine b_X6_reachNow_35 (b_X6_reachNow_40 ?_)
        rw [show (1 : Int32) = nI 1 from rfl, nI_add, nI_add]
        exact hn
  exact ai_X6_reachNow (b_X6_reachNow_0 ha (loop 720 0 rfl))
theorem am_homeNow {u : CU} {t x : Nat} (hu : CuOK u) (hK : KM w (cN u)) (h1 : wI w 22 1 = nI (tr (cK u))) (ht : t < 5) (hx : x < 6) : ∃ w', A_X6_homeNow 35 [.ref 22, .int (nI t), .int (nI x)] w (some (.int (hoN u t x)), w') ∧ Fr [28] w w' := by
  obtain ⟨u1, u2, u3, u4, u5⟩ := hu
  obtain ⟨w1, ha, hF, hR, hD⟩ := am_layCosts hK u1
  rw [← h1] at ha
  have hFA : FARN = 268435456 := rfl
  refine ⟨w1, ?_, hF⟩
  have loop : ∀ d j, j + d = 720 → ∀ (v : Nat) (l5 : Option Value), v ≤ FARN → (∀ r, r < j → dsN (cN u) (cK u) r ≠ FARN → pl r t = x → v ≤ dsN (cN u) (cK u) r) → (v = FARN ∨ ∃ r, r < 720 ∧ dsN (cN u) (cK u) r ≠ FARN ∧ pl r t = x ∧ dsN (cN u) (cK u) r = v) → Z_X6_homeNow 35 15 [some (.ref 22), some (.int (nI t)), some (.int (nI x)), some (.int (nI v)), some (.int (nI j)), l5] [] w1 (some (.int (hoN u t x)), w1) := by
    intro d
    induction d with
    | zero =>
      intro j hj v l5 hv h1 h2
      have hj : j = 720 := by omega
      subst hj
      have e := lsW_eq hD ⟨h1, h2⟩
      have e2 : hoN u t x = ec v := by unfold hoN; rw [e]
      rw [e2]
      refine b_X6_homeNow_15 (fun _ => b_X6_homeNow_77 (fun h => ?_) (fun h => ?_)) (fun h => absurd (show (720 : Int32) ≤ nI 720 from nI_le (a := 720) (by omega) (by omega)) h)
      · rw [ec_n (fun e => h (by rw [e]; rfl))]
        exact b_X6_homeNow_87 b_X6_homeNow_88
      · rw [ec_f (neq (b := 268435456) h (by omega) (by omega))]
        exact b_X6_homeNow_83 b_X6_homeNow_88
    | succ d ih =>
      intro j hj v l5 hv h1 h2
      have hcb := hR.2 j
      have hval : wA w1 28 (nI j).toNatClampNeg = nI (dsN (cN u) (cK u) j) := by rw [nI_clamp (by omega)]; exact hR.1 j (by omega)
      have hno : ¬ (720 : Int32) ≤ nI j := fun h => absurd (nle (a := 720) h (by omega) (by omega)) (by omega)
      have hin : vp_in (nI j) 720 := vp_in_nI (by omega) (by omega)
      have hsg := sg_lt (show j < 720 by omega) hx
      have out : (dsN (cN u) (cK u) j ≠ FARN → pl j t = x → v ≤ dsN (cN u) (cK u) j) → ∀ l5, Z_X6_homeNow 35 51 [some (.ref 22), some (.int (nI t)), some (.int (nI x)), some (.int (nI v)), some (.int (nI j)), l5] [] w1 (some (.int (hoN u t x)), w1) := by
        intro hle l5
        refine b_X6_homeNow_51 (b_X6_homeNow_52 (fun _ => b_X6_homeNow_69 (b_X6_homeNow_70 ?_)) (fun h => absurd rfl h))
        rw [nI_1]
        exact ih (j + 1) (by omega) v _ hv (fun r hr hf hp => by
          by_cases e : r = j
          · subst e; exact hle hf hp
          · exact h1 r (by omega) hf hp) h2
      refine b_X6_homeNow_15 (fun h => absurd h hno) (fun _ => b_X6_homeNow_23 hin (fun h => ?_) (fun h => b_X6_homeNow_34 (am_trayOf (by omega)) (am_isAt (by omega) hx) (fun h2 => ?_) (fun h2 => ?_)))
      · rw [hval] at h
        exact out (fun _ _ => nle h (by omega) (by omega)) _
      · refine out (fun _ hp => ?_) _
        exfalso
        have h3 := sg_pl (show j < 720 by omega) (show t < 6 by omega)
        rw [hp] at h3
        exact h2 (by rw [h3])
      · rw [hval] at h
        have hlt : dsN (cN u) (cK u) j < v := Nat.lt_of_not_le (fun q => h (nI_le q (by omega)))
        have h3 : sg j x = t := neq h2 (by omega) (by omega)
        have hp : pl j t = x := by rw [← h3]; exact pl_sg (by omega) hx
        refine b_X6_homeNow_47 (b_X6_homeNow_52 (fun h => absurd h (by decide)) (fun _ => b_X6_homeNow_59 hin ?_))
        rw [hval]
        refine b_X6_homeNow_70 ?_
        rw [nI_1]
        refine ih (j + 1) (by omega) (dsN (cN u) (cK u) j) _ hcb (fun r hr hf hp2 => ?_) (Or.inr ⟨j, by omega, by omega, hp, rfl⟩)
        by_cases e : r = j
        · subst e; exact Nat.le_refl _
        · have := h1 r (by omega) hf hp2; omega
  exact ai_X6_homeNow (b_X6_homeNow_0 ha (loop 720 0 rfl FARN none (Nat.le_refl _) (fun r hr => absurd hr (Nat.not_lt_zero _)) (Or.inl rfl)))
theorem cirI_congr {p r : Nat → Nat} (h : ∀ c, c < 6 → p c = r c) (hp : ∀ c, c < 6 → p c < 6) : ∀ f ce dn, ce < 6 → cirI p f ce dn = cirI r f ce dn
  | 0, _, _, _ => rfl
  | f + 1, ce, dn, hc => by
    unfold cirI
    rw [← h ce hc]
    split
    · exact cirI_congr h hp f _ _ (hp ce hc)
    · rfl
theorem cirO_congr {p r : Nat → Nat} (h : ∀ c, c < 6 → p c = r c) (hp : ∀ c, c < 6 → p c < 6) : ∀ n, n ≤ 6 → cirO p n = cirO r n
  | 0, _ => rfl
  | n + 1, hn => by
    unfold cirO
    rw [cirO_congr h hp n (by omega)]
    dsimp only
    rw [cirI_congr h hp 6 n _ (by omega)]
theorem am_swapsNow {u : CU} (hu : CuOK u) (h1 : wI w 22 1 = nI (tr (cK u))) (h2 : wI w 22 2 = nI (tr (cG u))) : A_X6_swapsNow 35 [.ref 22] w (some (.int (swN u)), w) := by
  obtain ⟨u1, u2, u3, u4, u5⟩ := hu
  have hp : ∀ c, c < 6 → pl (cG u) (sg (cK u) c) < 6 := fun c hc => pl_lt u2 (sg_lt u1 hc)
  obtain ⟨j, hj, -, hsj⟩ := perm_lay (p := fun c => pl (cG u) (sg (cK u) c)) hp (fun c d hc hd e => sg_inj u1 hc hd (pl_inj u2 (sg_lt u1 hc) (sg_lt u1 hd) e))
  have hsw : swN u = nI (grS (sgl j) 6).2 := by
    have h5 := Nat.eq_of_beq_eq_true (allN_spec ck5_all j hj)
    unfold swN
    rw [← h5]
    have : cirO (fun c => pl (cG u) (sg (cK u) c)) 6 = cirO (fun c => (sgl j).getD c 5) 6 := cirO_congr (fun c hc => (hsj c hc).symm) hp 6 (Nat.le_refl _)
    rw [this]
  have loop : ∀ d c, c + d = 6 → ∀ (kc jc n : Nat) (l4 : Option Value), kc < 720 → jc < 720 → grS (sgl j) c = (sgl jc, n) → n ≤ c → (∀ x, x < 6 → sg jc x = pl (cG u) (sg kc x)) → Z_X6_swapsNow 35 9 [some (.ref 22), some (.int (nI (tr kc))), some (.int (nI n)), some (.int (nI c)), l4] [] w (some (.int (swN u)), w) := by
    intro d
    induction d with
    | zero =>
      intro c hc kc jc n l4 hk hjc hg hn hs
      have hc : c = 6 := by omega
      subst hc
      rw [hsw, hg]
      exact b_X6_swapsNow_9 (fun _ => b_X6_swapsNow_67) (fun h => absurd (show (6 : Int32) ≤ nI 6 from nI_le (a := 6) (by omega) (by omega)) h)
    | succ d ih =>
      intro c hc kc jc n l4 hk hjc hg hn hs
      have hgc := sg_lt u2 (show c < 6 by omega)
      have hf6 := pl_lt hk hgc
      have hfj : pl jc c = pl kc (sg (cG u) c) := by
        refine pl_of hjc hf6 ?_
        rw [hs _ hf6, sg_pl hk hgc]
        exact pl_sg u2 (by omega)
      have hgs : grS (sgl j) (c + 1) = (bif Nat.beq (pl jc c) c then sgl jc else swp (sgl jc) c (pl jc c), n + bif Nat.beq (pl jc c) c then 0 else 1) := by
        show (bif Nat.beq (ixOf c (grS (sgl j) c).1) c then (grS (sgl j) c).1 else swp (grS (sgl j) c).1 c (ixOf c (grS (sgl j) c).1), (grS (sgl j) c).2 + bif Nat.beq (ixOf c (grS (sgl j) c).1) c then 0 else 1) = _
        rw [hg]
        rfl
      rw [hfj] at hgs
      have hin : A_X6_isAt 35 [.int (wI w 22 2), .int (nI c)] w (some (.int (nI (sg (cG u) c))), w) := by rw [h2]; exact am_isAt u2 (by omega)
      refine b_X6_swapsNow_9 (fun h => absurd (nle (a := 6) h (by omega) (by omega)) (by omega)) (fun _ => b_X6_swapsNow_15 hin (am_whereIs hk hgc) (fun h => ?_) (fun h => ?_))
      · have hne : ¬ pl kc (sg (cG u) c) = c := fun e => h (by rw [e])
        rw [nbf hne] at hgs
        have hex := ex_ok hk (show c < 6 by omega) hf6 (fun e => hne e.symm)
        have hexj := ex_ok hjc (show c < 6 by omega) hf6 (fun e => hne e.symm)
        refine b_X6_swapsNow_40 (b_X6_swapsNow_41 (fun _ => b_X6_swapsNow_53 (am_mexchanged hk (by omega) hf6 (fun e => hne e.symm)) (b_X6_swapsNow_60 ?_)) (fun e => absurd e h))
        rw [nI_1, nI_1]
        refine ih (c + 1) (by omega) _ (ex jc c (pl kc (sg (cG u) c))) (n + 1) _ hex.1 hexj.1 ?_ (by omega) (fun x hx => ?_)
        · rw [hgs, hexj.2]; rfl
        · rw [sg_ex hk (by omega) hf6 (fun e => hne e.symm), sg_ex hjc (by omega) hf6 (fun e => hne e.symm)]
          have h6 : (if x = c then pl kc (sg (cG u) c) else if x = pl kc (sg (cG u) c) then c else x) < 6 := by
            split
            · exact hf6
            · split <;> omega
          exact hs _ h6
      · have he : pl kc (sg (cG u) c) = c := neq h (by omega) (by omega)
        rw [he, show Nat.beq c c = true from Nat.beq_refl c] at hgs
        rw [he]
        refine b_X6_swapsNow_36 (b_X6_swapsNow_41 (fun e => absurd rfl e) (fun _ => b_X6_swapsNow_49 (b_X6_swapsNow_60 ?_)))
        rw [show (0 : Int32) = nI 0 from rfl, nI_add, Nat.add_zero, nI_1]
        exact ih (c + 1) (by omega) kc jc n _ hk hjc hgs (by omega) hs
  refine ai_X6_swapsNow (b_X6_swapsNow_0 ?_)
  rw [h1]
  exact loop 6 0 rfl (cK u) j 0 none u1 hj rfl (Nat.le_refl _) hsj
def stOK (st : Int32 × Nat) : Prop := (st.1 = -1 ∧ st.2 = FARN) ∨ (st.1 ≠ -1 ∧ st.2 < FARN)
theorem am_cheapNow {u : CU} {q : Nat} (hu : CuOK u) (hK : KM w (cN u)) (h1 : wI w 22 1 = nI (tr (cK u))) (h2 : wI w 22 2 = nI (tr (cG u))) (hq : q < 2) : ∃ w', A_X6_cheapNow 35 [.ref 22, .int (nI q)] w (some (.int (chN u q)), w') ∧ Fr [28] w w' := by
  obtain ⟨u1, u2, u3, u4, u5⟩ := hu
  obtain ⟨w1, ha, hF, hR, hD⟩ := am_layCosts hK u2
  rw [← h2] at ha
  have t1 : wI w1 22 1 = nI (tr (cK u)) := (hF.1 22 1 (by decide)).trans h1
  have hFA : FARN = 268435456 := rfl
  refine ⟨w1, ?_, hF⟩
  have e10 : ∀ a b, (10 : Int32) * nI a + nI b = nI (10 * a + b) := fun a b => by rw [show (10 : Int32) = nI 10 from rfl, pk_mul, nI_add]
  have loop : ∀ d a, a + d = 6 → ∀ (st : Int32 × Nat) (l5 l6 : Option Value), stOK st → Z_X6_cheapNow 35 17 [some (.ref 22), some (.int (nI q)), some (.int st.1), some (.int (nI st.2)), some (.int (nI a)), l5, l6] [] w1 (some (.int (chA q (bsO (dsN (cN u) (cG u)) (cK u) d a st))), w1) := by
    intro d
    induction d with
    | zero =>
      intro a ha st l5 l6 hok
      have ha : a = 6 := by omega
      subst ha
      refine b_X6_cheapNow_17 (fun _ => ?_) (fun h => absurd (show (6 : Int32) ≤ nI 6 from nI_le (a := 6) (by omega) (by omega)) h)
      show Z_X6_cheapNow _ _ _ _ _ (some (.int (chA q st)), w1)
      rcases hok with ⟨e1, e2⟩ | ⟨e1, e2⟩
      · have e : chA q st = st.1 := by
          rcases (show q = 0 ∨ q = 1 by omega) with rfl | rfl
          · rfl
          · show ec st.2 = st.1
            rw [ec_f e2, e1]
        rw [e]
        exact b_X6_cheapNow_102 (fun _ => b_X6_cheapNow_111 b_X6_cheapNow_116) (fun h => absurd e1 h)
      · rcases (show q = 0 ∨ q = 1 by omega) with rfl | rfl
        · exact b_X6_cheapNow_102 (fun h => absurd h e1) (fun _ => b_X6_cheapNow_107 (fun h => absurd rfl h) (fun _ => b_X6_cheapNow_111 b_X6_cheapNow_116))
        · have e : chA 1 st = nI st.2 := by show ec st.2 = _; exact ec_n (by omega)
          rw [e]
          exact b_X6_cheapNow_102 (fun h => absurd h e1) (fun _ => b_X6_cheapNow_107 (fun _ => b_X6_cheapNow_115 b_X6_cheapNow_116) (fun h => absurd h (by decide)))
    | succ d ih =>
      intro a ha st l5 l6 hok
      have inner : ∀ e b, b + e = 6 → a < b → ∀ (st : Int32 × Nat) (l6 : Option Value), stOK st → Z_X6_cheapNow 35 30 [some (.ref 22), some (.int (nI q)), some (.int st.1), some (.int (nI st.2)), some (.int (nI a)), some (.int (nI b)), l6] [] w1 (some (.int (chA q (bsO (dsN (cN u) (cG u)) (cK u) d (a + 1) (bsI (dsN (cN u) (cG u)) (cK u) a e b st)))), w1) := by
        intro e
        induction e with
        | zero =>
          intro b hb hab st l6 hok
          have hb : b = 6 := by omega
          subst hb
          refine b_X6_cheapNow_30 (fun _ => b_X6_cheapNow_96 ?_) (fun h => absurd (show (6 : Int32) ≤ nI 6 from nI_le (a := 6) (by omega) (by omega)) h)
          rw [nI_1]; exact ih (a + 1) (by omega) st _ _ hok
        | succ e ih2 =>
          intro b hb hab st l6 hok
          have hlt := ex_lt u1 (show a < 6 by omega) (show b < 6 by omega) (by omega)
          have hcb := hR.2 (ex (cK u) a b)
          have hval : wA w1 28 (nI (ex (cK u) a b)).toNatClampNeg = nI (dsN (cN u) (cG u) (ex (cK u) a b)) := by rw [nI_clamp (by omega)]; exact hR.1 _ hlt
          have hsl : st.2 ≤ FARN := by rcases hok with ⟨_, e2⟩ | ⟨_, e2⟩ <;> omega
          have hx : A_X6_exchanged 35 [.int (wI w1 22 1), .int (nI a), .int (nI b)] w1 (some (.int (nI (tr (ex (cK u) a b)))), w1) := by rw [t1]; exact am_mexchanged u1 (by omega) (by omega) (by omega)
          have hnx : bsI (dsN (cN u) (cG u)) (cK u) a (e + 1) b st = bsI (dsN (cN u) (cG u)) (cK u) a e (b + 1) (bsS (dsN (cN u) (cG u)) (cK u) a b st) := rfl
          rw [hnx]
          refine b_X6_cheapNow_30 (fun h => absurd (nle (a := 6) h (by omega) (by omega)) (by omega)) (fun _ => b_X6_cheapNow_37 hx (am_rankOf hlt) (vp_in_nI hlt (by omega)) (fun h => ?_) (fun h => ?_))
          · rw [hval] at h ⊢
            have h3 := nle h (by omega) (by omega)
            have hs : bsS (dsN (cN u) (cG u)) (cK u) a b st = st := by unfold bsS; rw [if_neg (by omega)]
            rw [hs]
            refine b_X6_cheapNow_75 (b_X6_cheapNow_76 (fun _ => b_X6_cheapNow_88 (b_X6_cheapNow_89 ?_)) (fun e => absurd h e))
            rw [nI_1]; exact ih2 (b + 1) (by omega) (by omega) st _ hok
          · rw [hval] at h ⊢
            have h3 : dsN (cN u) (cG u) (ex (cK u) a b) < st.2 := Nat.lt_of_not_le (fun q => h (nI_le q (by omega)))
            have hs : bsS (dsN (cN u) (cG u)) (cK u) a b st = (nI (10 * a + b), dsN (cN u) (cG u) (ex (cK u) a b)) := by unfold bsS; rw [if_pos h3]
            rw [hs]
            refine b_X6_cheapNow_64 (b_X6_cheapNow_76 (fun e => absurd e h) (fun _ => b_X6_cheapNow_83 (b_X6_cheapNow_89 ?_)))
            rw [nI_1, e10]
            exact ih2 (b + 1) (by omega) (by omega) (nI (10 * a + b), dsN (cN u) (cG u) (ex (cK u) a b)) _ (Or.inr ⟨nI_m1 (by omega), by show dsN (cN u) (cG u) (ex (cK u) a b) < FARN; omega⟩)
      refine b_X6_cheapNow_17 (fun h => absurd (nle (a := 6) h (by omega) (by omega)) (by omega)) (fun _ => b_X6_cheapNow_24 ?_)
      rw [nI_1]
      exact inner (5 - a) (a + 1) (by omega) (by omega) st l6 hok
  exact ai_X6_cheapNow (b_X6_cheapNow_0 ha (loop 6 0 rfl (-1, FARN) none none (Or.inl ⟨rfl, rfl⟩)))
end MQ
