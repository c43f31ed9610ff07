def Fullh (w : Wd) (kn k : Nat) (c fd : Nat → Nat) (n mo : Nat) : Prop :=
  SpRh w c fd n mo ∧ IsDist kn k c ∧ n = cnt (fin c) 720 ∧ (∀ i, i < n → fd i < 720 ∧ c (fd i) ≠ FARN) ∧ ∀ q, q < 720 → c q ≠ FARN → ∃ i, i < n ∧ fd i = q
def SpOKh (w : Wd) : Prop := wI w 6 5 = -1 ∨ ∃ (k kn : Nat) (c fd : Nat → Nat) (n mo : Nat), k < 720 ∧ kn < 2 ^ 31 ∧ wI w 6 5 = nI k ∧ wI w 6 6 = nI kn ∧ Fullh w kn k c fd n mo
theorem SpOKh.fr {T : List Nat} {w w' : Wd} (h : SpOKh w) (f : Fr T w w') (n6 : 6 ∉ T) (n7 : 7 ∉ T) (n8 : 8 ∉ T) : SpOKh w' := by
  have e6 : ∀ g, wI w' 6 g = wI w 6 g := fun g => f.1 6 g n6
  have e7 : wA w' 7 = wA w 7 := f.2.2.2 7 n7
  have e8 : wA w' 8 = wA w 8 := f.2.2.2 8 n8
  rcases h with h | ⟨k, kn, c, fd, n, mo, a1, a2, a3, a4, ⟨b1, b2, b3, b4, b5⟩, a6⟩
  · exact Or.inl (by rw [e6]; exact h)
  · exact Or.inr ⟨k, kn, c, fd, n, mo, a1, a2, by rw [e6]; exact a3, by rw [e6]; exact a4, ⟨by rw [e6]; exact b1, by rw [e6]; exact b2, fun q hq => by rw [e7]; exact b3 q hq, fun i hi => by rw [e8]; exact b4 i hi, b5⟩, a6⟩
section SSh
variable {w : Wd}
theorem am_csth {c : Nat → Nat} {q : Nat} (h3 : ∀ q, q < 720 → wA w 7 q = ec (c q)) (hq : q < 720) : A_X3h_costOf 35 [.ref 6, .int (nI q)] w (some (.int (ec (c q))), w) := by
  refine ai_X3h_costOf (b_X3h_costOf_0 (am_isWithin _ _ _) (fun h => absurd ((in719 hq).symm.trans h) (by decide)) (fun _ => b_X3h_costOf_11 (vp_in_nI hq (by omega)) ?_))
  rw [nI_clamp (by omega), h3 q hq]
  exact b_X3h_costOf_21
theorem am_searchh {k kn : Nat} (hT : Tab w) (hk : k < 720) (hkn : kn < 2 ^ 31) (hO : SpOKh w) :
    ∃ w' c fd n mo, A_X3h_searchFrom 35 [.ref 6, .int (nI k), .int (nI kn)] w (none, w') ∧ Fr [6, 7, 8] w w' ∧ wI w' 6 5 = nI k ∧ wI w' 6 6 = nI kn ∧ Fullh w' kn k c fd n mo := by
  -- the search anew
  have anew : ∃ w' c fd n mo, Z_X3h_searchFrom 35 17 [some (.ref 6), some (.int (nI k)), some (.int (nI kn)), none, none, none] [] w (none, w') ∧ Fr [6, 7, 8] w w' ∧ wI w' 6 5 = nI k ∧ wI w' 6 6 = nI kn ∧ Fullh w' kn k c fd n mo := by
    obtain ⟨g, hfill, hg⟩ := am_fill (w := sI (sI (sI (sI w 6 5 (nI k)) 6 6 (nI kn)) 6 3 0) 6 4 0) (a := 7) (n := 720) (x := -1) rfl (by decide) (by decide)
    obtain ⟨w0, hw0⟩ : ∃ w0, w0 = sA (sI (sI (sI (sI w 6 5 (nI k)) 6 6 (nI kn)) 6 3 0) 6 4 0) 7 g := ⟨_, rfl⟩
    have hF0 : Fr [6, 7, 8] w w0 := by
      rw [hw0]
      exact ((((Fr.sI (by simp)).trans (Fr.sI (by simp))).trans (Fr.sI (by simp))).trans (Fr.sI (by simp))).trans (Fr.sA (by simp))
    have h05 : wI w0 6 5 = nI k := by rw [hw0]; rfl
    have h06 : wI w0 6 6 = nI kn := by rw [hw0]; rfl
    have hR0 : SpRh w0 (fun _ => FARN) (fun _ => 0) 0 0 := by
      refine ⟨by rw [hw0]; rfl, by rw [hw0]; rfl, fun q hq => ?_, fun i hi => absurd hi (Nat.not_lt_zero _), fun q => Or.inl rfl, by omega, by omega⟩
      rw [hw0, wA_sA_s, hg q hq, ec_f rfl]
    obtain ⟨w1, hn1, hF1, hR1, g5, g6⟩ := am_noteh (w := w0) (q := k) (v := 0) hR0 hk (by omega) (fun _ => by omega)
    have eC : ntC (fun _ => FARN) k 0 = uN (fun _ => FARN) k 0 := by unfold ntC; rw [if_pos rfl]
    have eF : ntF (fun _ => FARN) (fun _ => 0) 0 k = uN (fun _ => 0) 0 k := by unfold ntF; rw [if_pos rfl]
    have eN : ntN (fun _ => FARN) 0 k = 1 := by unfold ntN; rw [if_pos rfl]
    have eM : ntM (fun _ => FARN) 0 k 0 = 0 := by unfold ntM; simp
    rw [eC, eF, eN, eM] at hR1
    have cz : ∀ m, cnt (fin (fun _ => FARN)) m = 0 := by
      intro m
      induction m with
      | zero => rfl
      | succ m ih => unfold cnt; rw [ih]; simp [fin]
    have hk0 : ∀ q, uN (fun _ => FARN) k 0 q ≠ FARN → q = k := fun q h => by
      by_cases e : q = k
      · exact e
      · exact absurd (uN_n e) h
    have hI1 : SInv kn k 0 (uN (fun _ => FARN) k 0) (uN (fun _ => 0) 0 k) 1 0 := by
      refine ⟨uN_s, ?_, Nat.le_refl _, fun i hi => ?_, fun q hq h => ⟨0, by omega, by rw [uN_s, hk0 q h]⟩, by omega, fun q hq h => by rw [hk0 q h, uN_s]; omega, fun q hq h => Or.inl ⟨hk0 q h, by rw [hk0 q h, uN_s]⟩, fun p hp h => absurd h (Nat.not_lt_zero _)⟩
      · rw [cnt_upd (P := fin (fun _ => FARN)) k hk (fun r hr => by simp [fin, uN_n hr]) (by simp [fin]) (by simp [fin, uN_s, FARN]), cz]
      · have : i = 0 := by omega
        subst this
        rw [uN_s, uN_s]
        exact ⟨hk, by decide, by omega⟩
    -- the loop over costs
    have loop : ∀ d C, C + d = 2160 → ∀ (w1 : Wd) (c fd : Nat → Nat) (n mo : Nat) (l4 l5 : Option Value), Fr [6, 7, 8] w w1 → wI w1 6 5 = nI k → wI w1 6 6 = nI kn → SpRh w1 c fd n mo → SInv kn k C c fd n mo →
        ∃ w' c fd n mo, Z_X3h_searchFrom 35 53 [some (.ref 6), some (.int (nI k)), some (.int (nI kn)), some (.int (nI C)), l4, l5] [] w1 (none, w') ∧ Fr [6, 7, 8] w w' ∧ wI w' 6 5 = nI k ∧ wI w' 6 6 = nI kn ∧ Fullh w' kn k c fd n mo := by
      intro d
      induction d with
      | zero =>
        intro C hC w1 c fd n mo l4 l5 hF k5 k6 hR hI
        have hC : C = 2160 := by omega
        subst hC
        have hnl := hI.n_le
        have hmo := hI.2.2.2.2.2.1
        exact ⟨w1, c, fd, n, mo, b_X3h_searchFrom_53 (fun _ => b_X3h_searchFrom_123) (fun h => absurd (show (2160 : Int32) ≤ nI 2160 from nI_le (a := 2160) (by omega) (by omega)) h), hF, k5, k6, hR, hI.done (fun q => okc_le (hR.2.2.2.2.1 q)) (by omega), hI.2.1, fun i hi => ⟨(hI.2.2.2.1 i hi).1, (hI.2.2.2.1 i hi).2.1⟩, hI.2.2.2.2.1⟩
      | succ d ih =>
        intro C hC w1 c fd n mo l4 l5 hF k5 k6 hR hI
        have hnl := hI.n_le
        have hmo := hI.2.2.2.2.2.1
        by_cases hx : mo < C
        · exact ⟨w1, c, fd, n, mo, b_X3h_searchFrom_53 (fun h => absurd (nle (a := 2160) h (by omega) (by omega)) (by omega)) (fun _ => b_X3h_searchFrom_60 (fun _ => b_X3h_searchFrom_123) (fun h => absurd (by rw [hR.2.1]; exact nI_lt hx (by omega)) h)), hF, k5, k6, hR, hI.done (fun q => okc_le (hR.2.2.2.2.1 q)) hx, hI.2.1, fun i hi => ⟨(hI.2.2.2.1 i hi).1, (hI.2.2.2.1 i hi).2.1⟩, hI.2.2.2.2.1⟩
        · have inner : ∀ e i, i + e = n → ∀ (w2 : Wd) (c2 fd2 : Nat → Nat) (n2 mo2 : Nat), Fr [6, 7, 8] w w2 → wI w2 6 5 = nI k → wI w2 6 6 = nI kn → SpRh w2 c2 fd2 n2 mo2 → SInv kn k C c2 fd2 n2 mo2 → n ≤ n2 → (∀ i, i < n → fd2 i = fd i) → (∀ r, c r ≤ C → c2 r = c r) → (∀ r, C < c r → C < c2 r) → (∀ j, j < i → c (fd j) = C → ∀ t, t < 5 → prc kn (fd j) t ≠ 0 → c2 (mv (fd j) t) ≠ FARN ∧ c2 (mv (fd j) t) ≤ C + prc kn (fd j) t) → (∀ i, n ≤ i → i < n2 → C < c2 (fd2 i)) →
              ∃ w' c fd n' mo, Z_X3h_searchFrom 35 77 [some (.ref 6), some (.int (nI k)), some (.int (nI kn)), some (.int (nI C)), some (.int (nI n)), some (.int (nI i))] [] w2 (none, w') ∧ Fr [6, 7, 8] w w' ∧ wI w' 6 5 = nI k ∧ wI w' 6 6 = nI kn ∧ Fullh w' kn k c fd n' mo := by
            intro e
            induction e with
            | zero =>
              intro i hi w2 c2 fd2 n2 mo2 hF2 k52 k62 hR2 hI2 hn2 hfd hlow hhi hrel hnew
              have hi : i = n := by omega
              subst hi
              have hI3 : SInv kn k (C + 1) c2 fd2 n2 mo2 := by
                obtain ⟨a1, a2, a3, a4, a5, a6, a7, a8, a9⟩ := hI2
                refine ⟨a1, a2, a3, a4, a5, a6, a7, fun q hq hf => ?_, fun p hp hlt t ht hpr => ?_⟩
                · rcases a8 q hq hf with h1 | ⟨p, t, b1, b2, b3, b4⟩
                  · exact Or.inl h1
                  · exact Or.inr ⟨p, t, b1, b2, by omega, b4⟩
                · by_cases hlt2 : c2 p < C
                  · exact a9 p hp hlt2 t ht hpr
                  · have hpC : c2 p = C := by omega
                    have hCF : C < FARN := by unfold FARN; omega
                    obtain ⟨j, hj, hjp⟩ := a5 p hp (by omega)
                    rcases Nat.lt_or_ge j i with g | g
                    · have e1 : fd j = p := by rw [← hfd j g]; exact hjp
                      have e2 : c p = C := by
                        rcases Nat.lt_or_ge C (c p) with g1 | g1
                        · have := hhi p g1; omega
                        · have := hlow p g1; omega
                      have := hrel j g (by rw [e1]; exact e2) t ht (by rw [e1]; exact hpr)
                      rw [e1] at this
                      rw [hpC]
                      exact this
                    · have := hnew j g hj
                      rw [hjp] at this
                      omega
              obtain ⟨w', c', fd', n', mo', hz, rest⟩ := ih (C + 1) (by omega) w2 c2 fd2 n2 mo2 (some (.int (nI i))) (some (.int (nI i))) hF2 k52 k62 hR2 hI3
              refine ⟨w', c', fd', n', mo', b_X3h_searchFrom_77 (fun _ => b_X3h_searchFrom_117 ?_) (fun h => absurd (nI_le (Nat.le_refl i) (by omega)) h), rest⟩
              rw [nI_1]
              exact hz
            | succ e ih2 =>
              intro i hi w2 c2 fd2 n2 mo2 hF2 k52 k62 hR2 hI2 hn2 hfd hlow hhi hrel hnew
              have hT2 : Tab w2 := hT.fr hF2 (by decide) (by decide) (by decide) (by decide)
              have hin : vp_in (nI i) 720 := vp_in_nI (by omega) (by omega)
              have hcl : (nI i).toNatClampNeg = i := nI_clamp (by omega)
              have hfi : wA w2 8 (nI i).toNatClampNeg = nI (fd2 i) := by rw [hcl]; exact hR2.2.2.2.1 i (by omega)
              have hf7 := (hI2.2.2.2.1 i (by omega)).1
              have hfF := (hI2.2.2.2.1 i (by omega)).2.1
              have hfb := (hI2.2.2.2.1 i (by omega)).2.2
              have hcv : A_X3h_costOf 35 [.ref 6, .int (wA w2 8 (nI i).toNatClampNeg)] w2 (some (.int (nI (c2 (fd2 i)))), w2) := by
                rw [hfi, ← ec_n hfF]
                exact am_csth hR2.2.2.1 hf7
              have hno : ¬ nI n ≤ nI i := nI_ge (by omega) (by omega)
              by_cases hCi : c2 (fd2 i) = C
              · obtain ⟨w3, c3, fd3, n3, mo3, ha, hF3, hR3, g53, g63, hI3, hn3, hfd3, hlow3, hhi3, hrel3, hle3, hnew3⟩ := am_nnh (j0 := i) hT2 hkn k62 hR2 hI2 (by omega) hCi
                have hcfi : c (fd i) = C := by
                  rw [hfd i (by omega)] at hCi
                  rcases Nat.lt_or_ge C (c (fd i)) with g1 | g1
                  · have := hhi _ g1; omega
                  · have := hlow _ g1; omega
                obtain ⟨w', c', fd', n', mo', hz, rest⟩ := ih2 (i + 1) (by omega) w3 c3 fd3 n3 mo3 (hF2.trans hF3) (g53.trans k52) (g63.trans k62) hR3 hI3 (by omega)
                  (fun j hj => by rw [hfd3 j (by omega)]; exact hfd j hj)
                  (fun r hr => by rw [hlow3 r (by rw [hlow r hr]; exact hr)]; exact hlow r hr)
                  (fun r hr => hhi3 r (hhi r hr))
                  (fun j hj hjC t ht hpr => by
                    by_cases ej : j = i
                    · subst ej
                      have := hrel3 t ht (by rw [hfd j (by omega)]; exact hpr)
                      rw [hfd j (by omega)] at this
                      exact this
                    · obtain ⟨h1, h2⟩ := hrel j (by omega) hjC t ht hpr
                      have h3 := hle3 (mv (fd j) t)
                      have h4 := (hR2.2.2.2.2.1 (mv (fd j) t)).resolve_left h1
                      exact ⟨by unfold FARN; omega, by omega⟩)
                  (fun j h1 h2 => by
                    rcases Nat.lt_or_ge j n2 with g | g
                    · rw [hfd3 j g]; exact hhi3 _ (hnew j h1 g)
                    · exact hnew3 j g h2)
                refine ⟨w', c', fd', n', mo', b_X3h_searchFrom_77 (fun h => absurd h hno) (fun _ => b_X3h_searchFrom_84 hin hcv (fun h => absurd (by rw [hCi]) h) (fun _ => b_X3h_searchFrom_99 hin (by rw [hfi]; exact ha) (b_X3h_searchFrom_111 ?_))), rest⟩
                rw [nI_1]
                exact hz
              · obtain ⟨w', c', fd', n', mo', hz, rest⟩ := ih2 (i + 1) (by omega) w2 c2 fd2 n2 mo2 hF2 k52 k62 hR2 hI2 hn2 hfd hlow hhi
                  (fun j hj hjC t ht hpr => by
                    by_cases ej : j = i
                    · subst ej
                      exfalso
                      apply hCi
                      rw [hfd j (by omega), hlow _ (by omega)]
                      exact hjC
                    · exact hrel j (by omega) hjC t ht hpr) hnew
                refine ⟨w', c', fd', n', mo', b_X3h_searchFrom_77 (fun h => absurd h hno) (fun _ => b_X3h_searchFrom_84 hin hcv (fun _ => b_X3h_searchFrom_111 ?_) (fun h => absurd (neq h (by omega) (by omega)) hCi)), rest⟩
                rw [nI_1]
                exact hz
          obtain ⟨w', c', fd', n', mo', hz, rest⟩ := inner n 0 (by omega) w1 c fd n mo hF k5 k6 hR hI (Nat.le_refl _) (fun _ _ => rfl) (fun _ _ => rfl) (fun _ h => h) (fun j hj => absurd hj (Nat.not_lt_zero _)) (fun i h1 h2 => by omega)
          refine ⟨w', c', fd', n', mo', b_X3h_searchFrom_53 (fun h => absurd (nle (a := 2160) h (by omega) (by omega)) (by omega)) (fun _ => b_X3h_searchFrom_60 (fun h => absurd (nlt (by rw [hR.2.1] at h; exact h) (by omega) (by omega)) hx) (fun _ => b_X3h_searchFrom_68 ?_)), rest⟩
          rw [hR.1]
          exact hz
    obtain ⟨w', c', fd', n', mo', hz, rest⟩ := loop 2160 0 (by omega) w1 _ _ _ _ none none (hF0.trans hF1) (g5.trans h05) (g6.trans h06) hR1 hI1
    exact ⟨w', c', fd', n', mo', b_X3h_searchFrom_17 (by rw [hw0] at hn1; exact hfill) (by rw [← hw0]; exact hn1) hz, rest⟩
  obtain ⟨wA', cA', fdA', nA', moA', hzA, restA⟩ := anew
  by_cases e1 : nI k = wI w 6 5
  · by_cases e2 : nI kn = wI w 6 6
    · rcases hO with h | ⟨k', kn', c, fd, n, mo, a1, a2, a3, a4, hfull⟩
      · exact absurd (e1.trans h) (nI_m1 (by omega))
      · have q1 : k = k' := neq (e1.trans a3) (by omega) (by omega)
        have q2 : kn = kn' := neq (e2.trans a4) hkn a2
        subst q1; subst q2
        exact ⟨w, c, fd, n, mo, ai_X3h_searchFrom (b_X3h_searchFrom_0 (fun h => absurd e1 h) (fun _ => b_X3h_searchFrom_8 (fun h => absurd e2 h) (fun _ => b_X3h_searchFrom_16))), Fr.refl _ _, a3, a4, hfull⟩
    · exact ⟨wA', cA', fdA', nA', moA', ai_X3h_searchFrom (b_X3h_searchFrom_0 (fun h => absurd e1 h) (fun _ => b_X3h_searchFrom_8 (fun _ => hzA) (fun h => absurd h e2))), restA⟩
  · exact ⟨wA', cA', fdA', nA', moA', ai_X3h_searchFrom (b_X3h_searchFrom_0 (fun _ => hzA) (fun h => absurd h e1)), restA⟩
theorem am_costOfh {kn k q : Nat} {c fd : Nat → Nat} {n mo : Nat} (hR : Fullh w kn k c fd n mo) (hq : q < 720) : A_X3h_costOf 35 [.ref 6, .int (nI q)] w (some (.int (ec (c q))), w) :=
  am_csth hR.1.2.2.1 hq
theorem am_sizeh {kn k : Nat} {c fd : Nat → Nat} {n mo : Nat} (hR : Fullh w kn k c fd n mo) : A_X3h_size 35 [.ref 6] w (some (.int (nI (cnt (fin c) 720))), w) := by
  rw [← hR.2.2.1, ← hR.1.1]
  exact ai_X3h_size b_X3h_size_0
theorem am_farthesth {kn k : Nat} {c fd : Nat → Nat} {n mo : Nat} (hk : k < 720) (hR : Fullh w kn k c fd n mo) : ∃ M, A_X3h_farthest 35 [.ref 6] w (some (.int (nI M)), w) ∧ IsMax c M := by
  obtain ⟨⟨r1, r2, r3, r4, r5, r6, r7⟩, hD, hn, hfd, hex⟩ := hR
  have loop : ∀ d i, i + d = n → ∀ M, M < 1048576 → (∀ j, j < i → c (fd j) ≤ M) → (M = 0 ∨ ∃ j, j < i ∧ c (fd j) = M) → ∃ M', Z_X3h_farthest 35 4 [some (.ref 6), some (.int (nI M)), some (.int (nI i))] [] w (some (.int (nI M')), w) ∧ (∀ j, j < n → c (fd j) ≤ M') ∧ (M' = 0 ∨ ∃ j, j < n ∧ c (fd j) = M') := by
    intro d
    induction d with
    | zero =>
      intro i hi M hM h1 h2
      have hi : i = n := by omega
      subst hi
      exact ⟨M, b_X3h_farthest_4 (fun _ => b_X3h_farthest_33) (fun h => absurd (by rw [r1]; exact nI_le (Nat.le_refl i) (by omega)) h), h1, h2⟩
    | succ d ih =>
      intro i hi M hM h1 h2
      obtain ⟨f1, f2⟩ := hfd i (by omega)
      have hv := (r5 (fd i)).resolve_left f2
      have hcl : (nI i).toNatClampNeg = i := nI_clamp (by omega)
      have hfi : wA w 8 (nI i).toNatClampNeg = nI (fd i) := by rw [hcl]; exact r4 i (by omega)
      have hcv : A_X3h_costOf 35 [.ref 6, .int (wA w 8 (nI i).toNatClampNeg)] w (some (.int (nI (c (fd i)))), w) := by
        rw [hfi, ← ec_n f2]
        exact am_csth r3 f1
      obtain ⟨M', hz, h3, h4⟩ := ih (i + 1) (by omega) (if M < c (fd i) then c (fd i) else M) (by split <;> omega) (fun j hj => by
        by_cases e : j = i
        · subst e; split <;> omega
        · have := h1 j (by omega); split <;> omega) (by
        by_cases g : M < c (fd i)
        · rw [if_pos g]; exact Or.inr ⟨i, by omega, rfl⟩
        · rw [if_neg g]
          rcases h2 with h2 | ⟨j, hj, e⟩
          · exact Or.inl h2
          · exact Or.inr ⟨j, by omega, e⟩)
      refine ⟨M', b_X3h_farthest_4 (fun h => absurd (nle (by rw [r1] at h; exact h) (by omega) (by omega)) (by omega)) (fun _ => b_X3h_farthest_12 (vp_in_nI (by omega) (by omega)) hcv ?_), h3, h4⟩
      rw [nI_1]
      have : (if nI M < nI (c (fd i)) then nI (c (fd i)) else nI M) = nI (if M < c (fd i) then c (fd i) else M) := by
        by_cases g : M < c (fd i)
        · rw [if_pos (nI_lt g (by omega)), if_pos g]
        · rw [if_neg (nI_nlt (by omega) (by omega)), if_neg g]
      rw [this]
      exact hz
  obtain ⟨M, hz, h1, h2⟩ := loop n 0 (by omega) 0 (by omega) (fun j hj => absurd hj (Nat.not_lt_zero _)) (Or.inl rfl)
  refine ⟨M, ai_X3h_farthest (b_X3h_farthest_0 hz), ?_, fun q hq hf => ?_⟩
  · rcases h2 with h2 | ⟨j, hj, e⟩
    · exact ⟨k, hk, by rw [hD.1]; decide, by rw [hD.1, h2]⟩
    · exact ⟨fd j, (hfd j hj).1, (hfd j hj).2, e⟩
  · obtain ⟨j, hj, e⟩ := hex q hq hf
    rw [← e]; exact h1 j hj
theorem am_leastWithh {kn k t x : Nat} {c fd : Nat → Nat} {n mo : Nat} (hT : TabP w) (ht : t < 5) (hx : x < 6) (hR : Fullh w kn k c fd n mo) : ∃ v, A_X3h_leastWith 35 [.ref 6, .int (nI t), .int (nI x)] w (some (.int (ec v)), w) ∧ IsLeast c t x v := by
  obtain ⟨⟨r1, r2, r3, r4, r5, r6, r7⟩, hD, hn, hfd, hex⟩ := hR
  have loop : ∀ d i, i + d = n → ∀ v l5, okc v → (∀ j, j < i → pl (fd j) t = x → v ≤ c (fd j)) → (v = FARN ∨ ∃ j, j < i ∧ pl (fd j) t = x ∧ c (fd j) = v) → ∃ v', Z_X3h_leastWith 35 5 [some (.ref 6), some (.int (nI t)), some (.int (nI x)), some (.int (ec v)), some (.int (nI i)), l5] [] w (some (.int (ec v')), w) ∧ (∀ j, j < n → pl (fd j) t = x → v' ≤ c (fd j)) ∧ (v' = FARN ∨ ∃ j, j < n ∧ pl (fd j) t = x ∧ c (fd j) = v') := by
    intro d
    induction d with
    | zero =>
      intro i hi v l5 hv h1 h2
      have hi : i = n := by omega
      subst hi
      exact ⟨v, b_X3h_leastWith_5 (fun _ => b_X3h_leastWith_66) (fun h => absurd (by rw [r1]; exact nI_le (Nat.le_refl i) (by omega)) h), h1, h2⟩
    | succ d ih =>
      intro i hi v l5 hv h1 h2
      obtain ⟨f1, f2⟩ := hfd i (by omega)
      have hcv0 := (r5 (fd i)).resolve_left f2
      have hcl : (nI i).toNatClampNeg = i := nI_clamp (by omega)
      have hfi : wA w 8 (nI i).toNatClampNeg = nI (fd i) := by rw [hcl]; exact r4 i (by omega)
      have hcv : A_X3h_costOf 35 [.ref 6, .int (wA w 8 (nI i).toNatClampNeg)] w (some (.int (nI (c (fd i)))), w) := by
        rw [hfi, ← ec_n f2]
        exact am_csth r3 f1
      have hin : vp_in (nI i) 720 := vp_in_nI (by omega) (by omega)
      have hpl := pl_lt f1 (show t < 6 by omega)
      have hno : ¬ wI w 6 3 ≤ nI i := by rw [r1]; exact nI_ge (by omega) (by omega)
      have go : ∀ v2, okc v2 → (∀ j, j < i + 1 → pl (fd j) t = x → v2 ≤ c (fd j)) → (v2 = FARN ∨ ∃ j, j < i + 1 ∧ pl (fd j) t = x ∧ c (fd j) = v2) → ∃ v', Z_X3h_leastWith 35 60 [some (.ref 6), some (.int (nI t)), some (.int (nI x)), some (.int (ec v2)), some (.int (nI i)), some (.int (nI (c (fd i))))] [] w (some (.int (ec v')), w) ∧ (∀ j, j < n → pl (fd j) t = x → v' ≤ c (fd j)) ∧ (v' = FARN ∨ ∃ j, j < n ∧ pl (fd j) t = x ∧ c (fd j) = v') := by
        intro v2 g1 g2 g3
        obtain ⟨v', hz, rest⟩ := ih (i + 1) (by omega) v2 (some (.int (nI (c (fd i))))) g1 g2 g3
        refine ⟨v', b_X3h_leastWith_60 ?_, rest⟩
        rw [nI_1]; exact hz
      by_cases hp : pl (fd i) t = x
      · by_cases hvF : v = FARN ∨ c (fd i) < v
        · obtain ⟨v', hz, rest⟩ := go (c (fd i)) (r5 _) (fun j hj hpj => by
            by_cases e : j = i
            · subst e; exact Nat.le_refl _
            · have := h1 j (by omega) hpj
              have := okc_le (r5 (fd i))
              rcases hvF with h | h
              · omega
              · omega) (Or.inr ⟨i, by omega, hp, rfl⟩)
          rw [ec_n f2] at hz
          refine ⟨v', b_X3h_leastWith_5 (fun h => absurd h hno) (fun _ => b_X3h_leastWith_14 hin hcv hin (by rw [hfi]; exact am_place hT (by omega) f1 (by omega)) (fun h => absurd (by rw [hp]) h) (fun _ => b_X3h_leastWith_46 (fun _ => b_X3h_leastWith_57 ?_) (fun h => b_X3h_leastWith_51 (fun h3 => ?_) (fun _ => b_X3h_leastWith_57 ?_)))), rest⟩
          · exact hz
          · exfalso
            rw [ec_m1 hv] at h
            have h4 := hvF.resolve_left h
            rw [ec_n h] at h3
            have := nle h3 (by have := hv.resolve_left h; omega) (by omega)
            omega
          · exact hz
        · have hv1 : v ≠ FARN := fun e => hvF (Or.inl e)
          have hv2 : v ≤ c (fd i) := Nat.le_of_not_lt (fun e => hvF (Or.inr e))
          obtain ⟨v', hz, rest⟩ := go v hv (fun j hj hpj => by
            by_cases e : j = i
            · subst e; exact hv2
            · exact h1 j (by omega) hpj) (by
            rcases h2 with h2 | ⟨j, hj, e⟩
            · exact Or.inl h2
            · exact Or.inr ⟨j, by omega, e⟩)
          refine ⟨v', b_X3h_leastWith_5 (fun h => absurd h hno) (fun _ => b_X3h_leastWith_14 hin hcv hin (by rw [hfi]; exact am_place hT (by omega) f1 (by omega)) (fun h => absurd (by rw [hp]) h) (fun _ => b_X3h_leastWith_46 (fun h => absurd ((ec_m1 hv).mp h) hv1) (fun h => b_X3h_leastWith_51 (fun _ => ?_) (fun h3 => absurd (by rw [ec_n hv1]; exact nI_le hv2 (by omega)) h3)))), rest⟩
          exact hz
      · obtain ⟨v', hz, rest⟩ := go v hv (fun j hj hpj => by
          by_cases e : j = i
          · subst e; exact absurd hpj hp
          · exact h1 j (by omega) hpj) (by
          rcases h2 with h2 | ⟨j, hj, e⟩
          · exact Or.inl h2
          · exact Or.inr ⟨j, by omega, e⟩)
        refine ⟨v', b_X3h_leastWith_5 (fun h => absurd h hno) (fun _ => b_X3h_leastWith_14 hin hcv hin (by rw [hfi]; exact am_place hT (by omega) f1 (by omega)) (fun _ => ?_) (fun h => absurd (neq h (by omega) (by omega)) hp)), rest⟩
        exact hz
  obtain ⟨v, hz, h1, h2⟩ := loop n 0 (by omega) FARN none (Or.inl rfl) (fun j hj => absurd hj (Nat.not_lt_zero _)) (Or.inl rfl)
  refine ⟨v, ai_X3h_leastWith (b_X3h_leastWith_0 (by rw [← ec_f (v := FARN) rfl]; exact hz)), fun q hq hf hp => ?_, ?_⟩
  · obtain ⟨j, hj, e⟩ := hex q hq hf
    rw [← e]; exact h1 j hj (by rw [e]; exact hp)
  · rcases h2 with h2 | ⟨j, hj, hp, e⟩
    · exact Or.inl h2
    · exact Or.inr ⟨fd j, (hfd j hj).1, (hfd j hj).2, hp, e⟩
end SSh

def Fullg (w : Wd) (kn k : Nat) (c fd : Nat → Nat) (n mo : Nat) : Prop :=
  SpRg w c fd n mo ∧ IsDist kn k c ∧ n = cnt (fin c) 720 ∧ (∀ i, i < n → fd i < 720 ∧ c (fd i) ≠ FARN) ∧ ∀ q, q < 720 → c q ≠ FARN → ∃ i, i < n ∧ fd i = q
def SpOKg (w : Wd) : Prop := wI w 9 5 = -1 ∨ ∃ (k kn : Nat) (c fd : Nat → Nat) (n mo : Nat), k < 720 ∧ kn < 2 ^ 31 ∧ wI w 9 5 = nI k ∧ wI w 9 6 = nI kn ∧ Fullg w kn k c fd n mo
theorem SpOKg.fr {T : List Nat} {w w' : Wd} (h : SpOKg w) (f : Fr T w w') (n6 : 9 ∉ T) (n7 : 10 ∉ T) (n8 : 11 ∉ T) : SpOKg w' := by
  have e6 : ∀ g, wI w' 9 g = wI w 9 g := fun g => f.1 9 g n6
  have e7 : wA w' 10 = wA w 10 := f.2.2.2 10 n7
  have e8 : wA w' 11 = wA w 11 := f.2.2.2 11 n8
  rcases h with h | ⟨k, kn, c, fd, n, mo, a1, a2, a3, a4, ⟨b1, b2, b3, b4, b5⟩, a6⟩
  · exact Or.inl (by rw [e6]; exact h)
  · exact Or.inr ⟨k, kn, c, fd, n, mo, a1, a2, by rw [e6]; exact a3, by rw [e6]; exact a4, ⟨by rw [e6]; exact b1, by rw [e6]; exact b2, fun q hq => by rw [e7]; exact b3 q hq, fun i hi => by rw [e8]; exact b4 i hi, b5⟩, a6⟩
section SSg
variable {w : Wd}
theorem am_cstg {c : Nat → Nat} {q : Nat} (h3 : ∀ q, q < 720 → wA w 10 q = ec (c q)) (hq : q < 720) : A_X3g_costOf 35 [.ref 9, .int (nI q)] w (some (.int (ec (c q))), w) := by
  refine ai_X3g_costOf (b_X3g_costOf_0 (am_isWithin _ _ _) (fun h => absurd ((in719 hq).symm.trans h) (by decide)) (fun _ => b_X3g_costOf_11 (vp_in_nI hq (by omega)) ?_))
  rw [nI_clamp (by omega), h3 q hq]
  exact b_X3g_costOf_21
theorem am_searchg {k kn : Nat} (hT : Tab w) (hk : k < 720) (hkn : kn < 2 ^ 31) (hO : SpOKg w) :
    ∃ w' c fd n mo, A_X3g_searchFrom 35 [.ref 9, .int (nI k), .int (nI kn)] w (none, w') ∧ Fr [9, 10, 11] w w' ∧ wI w' 9 5 = nI k ∧ wI w' 9 6 = nI kn ∧ Fullg w' kn k c fd n mo := by
  -- the search anew
  have anew : ∃ w' c fd n mo, Z_X3g_searchFrom 35 17 [some (.ref 9), some (.int (nI k)), some (.int (nI kn)), none, none, none] [] w (none, w') ∧ Fr [9, 10, 11] w w' ∧ wI w' 9 5 = nI k ∧ wI w' 9 6 = nI kn ∧ Fullg w' kn k c fd n mo := by
    obtain ⟨g, hfill, hg⟩ := am_fill (w := sI (sI (sI (sI w 9 5 (nI k)) 9 6 (nI kn)) 9 3 0) 9 4 0) (a := 10) (n := 720) (x := -1) rfl (by decide) (by decide)
    obtain ⟨w0, hw0⟩ : ∃ w0, w0 = sA (sI (sI (sI (sI w 9 5 (nI k)) 9 6 (nI kn)) 9 3 0) 9 4 0) 10 g := ⟨_, rfl⟩
    have hF0 : Fr [9, 10, 11] w w0 := by
      rw [hw0]
      exact ((((Fr.sI (by simp)).trans (Fr.sI (by simp))).trans (Fr.sI (by simp))).trans (Fr.sI (by simp))).trans (Fr.sA (by simp))
    have h05 : wI w0 9 5 = nI k := by rw [hw0]; rfl
    have h06 : wI w0 9 6 = nI kn := by rw [hw0]; rfl
    have hR0 : SpRg w0 (fun _ => FARN) (fun _ => 0) 0 0 := by
      refine ⟨by rw [hw0]; rfl, by rw [hw0]; rfl, fun q hq => ?_, fun i hi => absurd hi (Nat.not_lt_zero _), fun q => Or.inl rfl, by omega, by omega⟩
      rw [hw0, wA_sA_s, hg q hq, ec_f rfl]
    obtain ⟨w1, hn1, hF1, hR1, g5, g6⟩ := am_noteg (w := w0) (q := k) (v := 0) hR0 hk (by omega) (fun _ => by omega)
    have eC : ntC (fun _ => FARN) k 0 = uN (fun _ => FARN) k 0 := by unfold ntC; rw [if_pos rfl]
    have eF : ntF (fun _ => FARN) (fun _ => 0) 0 k = uN (fun _ => 0) 0 k := by unfold ntF; rw [if_pos rfl]
    have eN : ntN (fun _ => FARN) 0 k = 1 := by unfold ntN; rw [if_pos rfl]
    have eM : ntM (fun _ => FARN) 0 k 0 = 0 := by unfold ntM; simp
    rw [eC, eF, eN, eM] at hR1
    have cz : ∀ m, cnt (fin (fun _ => FARN)) m = 0 := by
      intro m
      induction m with
      | zero => rfl
      | succ m ih => unfold cnt; rw [ih]; simp [fin]
    have hk0 : ∀ q, uN (fun _ => FARN) k 0 q ≠ FARN → q = k := fun q h => by
      by_cases e : q = k
      · exact e
      · exact absurd (uN_n e) h
    have hI1 : SInv kn k 0 (uN (fun _ => FARN) k 0) (uN (fun _ => 0) 0 k) 1 0 := by
      refine ⟨uN_s, ?_, Nat.le_refl _, fun i hi => ?_, fun q hq h => ⟨0, by omega, by rw [uN_s, hk0 q h]⟩, by omega, fun q hq h => by rw [hk0 q h, uN_s]; omega, fun q hq h => Or.inl ⟨hk0 q h, by rw [hk0 q h, uN_s]⟩, fun p hp h => absurd h (Nat.not_lt_zero _)⟩
      · rw [cnt_upd (P := fin (fun _ => FARN)) k hk (fun r hr => by simp [fin, uN_n hr]) (by simp [fin]) (by simp [fin, uN_s, FARN]), cz]
      · have : i = 0 := by omega
        subst this
        rw [uN_s, uN_s]
        exact ⟨hk, by decide, by omega⟩
    -- the loop over costs
    have loop : ∀ d C, C + d = 2160 → ∀ (w1 : Wd) (c fd : Nat → Nat) (n mo : Nat) (l4 l5 : Option Value), Fr [9, 10, 11] w w1 → wI w1 9 5 = nI k → wI w1 9 6 = nI kn → SpRg w1 c fd n mo → SInv kn k C c fd n mo →
        ∃ w' c fd n mo, Z_X3g_searchFrom 35 53 [some (.ref 9), some (.int (nI k)), some (.int (nI kn)), some (.int (nI C)), l4, l5] [] w1 (none, w') ∧ Fr [9, 10, 11] w w' ∧ wI w' 9 5 = nI k ∧ wI w' 9 6 = nI kn ∧ Fullg w' kn k c fd n mo := by
      intro d
      induction d with
      | zero =>
        intro C hC w1 c fd n mo l4 l5 hF k5 k6 hR hI
        have hC : C = 2160 := by omega
        subst hC
        have hnl := hI.n_le
        have hmo := hI.2.2.2.2.2.1
        exact ⟨w1, c, fd, n, mo, b_X3g_searchFrom_53 (fun _ => b_X3g_searchFrom_123) (fun h => absurd (show (2160 : Int32) ≤ nI 2160 from nI_le (a := 2160) (by omega) (by omega)) h), hF, k5, k6, hR, hI.done (fun q => okc_le (hR.2.2.2.2.1 q)) (by omega), hI.2.1, fun i hi => ⟨(hI.2.2.2.1 i hi).1, (hI.2.2.2.1 i hi).2.1⟩, hI.2.2.2.2.1⟩
      | succ d ih =>
        intro C hC w1 c fd n mo l4 l5 hF k5 k6 hR hI
        have hnl := hI.n_le
        have hmo := hI.2.2.2.2.2.1
        by_cases hx : mo < C
        · exact ⟨w1, c, fd, n, mo, b_X3g_searchFrom_53 (fun h => absurd (nle (a := 2160) h (by omega) (by omega)) (by omega)) (fun _ => b_X3g_searchFrom_60 (fun _ => b_X3g_searchFrom_123) (fun h => absurd (by rw [hR.2.1]; exact nI_lt hx (by omega)) h)), hF, k5, k6, hR, hI.done (fun q => okc_le (hR.2.2.2.2.1 q)) hx, hI.2.1, fun i hi => ⟨(hI.2.2.2.1 i hi).1, (hI.2.2.2.1 i hi).2.1⟩, hI.2.2.2.2.1⟩
        · have inner : ∀ e i, i + e = n → ∀ (w2 : Wd) (c2 fd2 : Nat → Nat) (n2 mo2 : Nat), Fr [9, 10, 11] w w2 → wI w2 9 5 = nI k → wI w2 9 6 = nI kn → SpRg w2 c2 fd2 n2 mo2 → SInv kn k C c2 fd2 n2 mo2 → n ≤ n2 → (∀ i, i < n → fd2 i = fd i) → (∀ r, c r ≤ C → c2 r = c r) → (∀ r, C < c r → C < c2 r) → (∀ j, j < i → c (fd j) = C → ∀ t, t < 5 → prc kn (fd j) t ≠ 0 → c2 (mv (fd j) t) ≠ FARN ∧ c2 (mv (fd j) t) ≤ C + prc kn (fd j) t) → (∀ i, n ≤ i → i < n2 → C < c2 (fd2 i)) →
              ∃ w' c fd n' mo, Z_X3g_searchFrom 35 77 [some (.ref 9), some (.int (nI k)), some (.int (nI kn)), some (.int (nI C)), some (.int (nI n)), some (.int (nI i))] [] w2 (none, w') ∧ Fr [9, 10, 11] w w' ∧ wI w' 9 5 = nI k ∧ wI w' 9 6 = nI kn ∧ Fullg w' kn k c fd n' mo := by
            intro e
            induction e with
            | zero =>
              intro i hi w2 c2 fd2 n2 mo2 hF2 k52 k62 hR2 hI2 hn2 hfd hlow hhi hrel hnew
              have hi : i = n := by omega
              subst hi
              have hI3 : SInv kn k (C + 1) c2 fd2 n2 mo2 := by
                obtain ⟨a1, a2, a3, a4, a5, a6, a7, a8, a9⟩ := hI2
                refine ⟨a1, a2, a3, a4, a5, a6, a7, fun q hq hf => ?_, fun p hp hlt t ht hpr => ?_⟩
                · rcases a8 q hq hf with h1 | ⟨p, t, b1, b2, b3, b4⟩
                  · exact Or.inl h1
                  · exact Or.inr ⟨p, t, b1, b2, by omega, b4⟩
                · by_cases hlt2 : c2 p < C
                  · exact a9 p hp hlt2 t ht hpr
                  · have hpC : c2 p = C := by omega
                    have hCF : C < FARN := by unfold FARN; omega
                    obtain ⟨j, hj, hjp⟩ := a5 p hp (by omega)
                    rcases Nat.lt_or_ge j i with g | g
                    · have e1 : fd j = p := by rw [← hfd j g]; exact hjp
                      have e2 : c p = C := by
                        rcases Nat.lt_or_ge C (c p) with g1 | g1
                        · have := hhi p g1; omega
                        · have := hlow p g1; omega
                      have := hrel j g (by rw [e1]; exact e2) t ht (by rw [e1]; exact hpr)
                      rw [e1] at this
                      rw [hpC]
                      exact this
                    · have := hnew j g hj
                      rw [hjp] at this
                      omega
              obtain ⟨w', c', fd', n', mo', hz, rest⟩ := ih (C + 1) (by omega) w2 c2 fd2 n2 mo2 (some (.int (nI i))) (some (.int (nI i))) hF2 k52 k62 hR2 hI3
              refine ⟨w', c', fd', n', mo', b_X3g_searchFrom_77 (fun _ => b_X3g_searchFrom_117 ?_) (fun h => absurd (nI_le (Nat.le_refl i) (by omega)) h), rest⟩
              rw [nI_1]
              exact hz
            | succ e ih2 =>
              intro i hi w2 c2 fd2 n2 mo2 hF2 k52 k62 hR2 hI2 hn2 hfd hlow hhi hrel hnew
              have hT2 : Tab w2 := hT.fr hF2 (by decide) (by decide) (by decide) (by decide)
              have hin : vp_in (nI i) 720 := vp_in_nI (by omega) (by omega)
              have hcl : (nI i).toNatClampNeg = i := nI_clamp (by omega)
              have hfi : wA w2 11 (nI i).toNatClampNeg = nI (fd2 i) := by rw [hcl]; exact hR2.2.2.2.1 i (by omega)
              have hf7 := (hI2.2.2.2.1 i (by omega)).1
              have hfF := (hI2.2.2.2.1 i (by omega)).2.1
              have hfb := (hI2.2.2.2.1 i (by omega)).2.2
              have hcv : A_X3g_costOf 35 [.ref 9, .int (wA w2 11 (nI i).toNatClampNeg)] w2 (some (.int (nI (c2 (fd2 i)))), w2) := by
                rw [hfi, ← ec_n hfF]
                exact am_cstg hR2.2.2.1 hf7
              have hno : ¬ nI n ≤ nI i := nI_ge (by omega) (by omega)
              by_cases hCi : c2 (fd2 i) = C
              · obtain ⟨w3, c3, fd3, n3, mo3, ha, hF3, hR3, g53, g63, hI3, hn3, hfd3, hlow3, hhi3, hrel3, hle3, hnew3⟩ := am_nng (j0 := i) hT2 hkn k62 hR2 hI2 (by omega) hCi
                have hcfi : c (fd i) = C := by
                  rw [hfd i (by omega)] at hCi
                  rcases Nat.lt_or_ge C (c (fd i)) with g1 | g1
                  · have := hhi _ g1; omega
                  · have := hlow _ g1; omega
                obtain ⟨w', c', fd', n', mo', hz, rest⟩ := ih2 (i + 1) (by omega) w3 c3 fd3 n3 mo3 (hF2.trans hF3) (g53.trans k52) (g63.trans k62) hR3 hI3 (by omega)
                  (fun j hj => by rw [hfd3 j (by omega)]; exact hfd j hj)
                  (fun r hr => by rw [hlow3 r (by rw [hlow r hr]; exact hr)]; exact hlow r hr)
                  (fun r hr => hhi3 r (hhi r hr))
                  (fun j hj hjC t ht hpr => by
                    by_cases ej : j = i
                    · subst ej
                      have := hrel3 t ht (by rw [hfd j (by omega)]; exact hpr)
                      rw [hfd j (by omega)] at this
                      exact this
                    · obtain ⟨h1, h2⟩ := hrel j (by omega) hjC t ht hpr
                      have h3 := hle3 (mv (fd j) t)
                      have h4 := (hR2.2.2.2.2.1 (mv (fd j) t)).resolve_left h1
                      exact ⟨by unfold FARN; omega, by omega⟩)
                  (fun j h1 h2 => by
                    rcases Nat.lt_or_ge j n2 with g | g
                    · rw [hfd3 j g]; exact hhi3 _ (hnew j h1 g)
                    · exact hnew3 j g h2)
                refine ⟨w', c', fd', n', mo', b_X3g_searchFrom_77 (fun h => absurd h hno) (fun _ => b_X3g_searchFrom_84 hin hcv (fun h => absurd (by rw [hCi]) h) (fun _ => b_X3g_searchFrom_99 hin (by rw [hfi]; exact ha) (b_X3g_searchFrom_111 ?_))), rest⟩
                rw [nI_1]
                exact hz
              · obtain ⟨w', c', fd', n', mo', hz, rest⟩ := ih2 (i + 1) (by omega) w2 c2 fd2 n2 mo2 hF2 k52 k62 hR2 hI2 hn2 hfd hlow hhi
                  (fun j hj hjC t ht hpr => by
                    by_cases ej : j = i
                    · subst ej
                      exfalso
                      apply hCi
                      rw [hfd j (by omega), hlow _ (by omega)]
                      exact hjC
                    · exact hrel j (by omega) hjC t ht hpr) hnew
                refine ⟨w', c', fd', n', mo', b_X3g_searchFrom_77 (fun h => absurd h hno) (fun _ => b_X3g_searchFrom_84 hin hcv (fun _ => b_X3g_searchFrom_111 ?_) (fun h => absurd (neq h (by omega) (by omega)) hCi)), rest⟩
                rw [nI_1]
                exact hz
          obtain ⟨w', c', fd', n', mo', hz, rest⟩ := inner n 0 (by omega) w1 c fd n mo hF k5 k6 hR hI (Nat.le_refl _) (fun _ _ => rfl) (fun _ _ => rfl) (fun _ h => h) (fun j hj => absurd hj (Nat.not_lt_zero _)) (fun i h1 h2 => by omega)
          refine ⟨w', c', fd', n', mo', b_X3g_searchFrom_53 (fun h => absurd (nle (a := 2160) h (by omega) (by omega)) (by omega)) (fun _ => b_X3g_searchFrom_60 (fun h => absurd (nlt (by rw [hR.2.1] at h; exact h) (by omega) (by omega)) hx) (fun _ => b_X3g_searchFrom_68 ?_)), rest⟩
          rw [hR.1]
          exact hz
    obtain ⟨w', c', fd', n', mo', hz, rest⟩ := loop 2160 0 (by omega) w1 _ _ _ _ none none (hF0.trans hF1) (g5.trans h05) (g6.trans h06) hR1 hI1
    exact ⟨w', c', fd', n', mo', b_X3g_searchFrom_17 (by rw [hw0] at hn1; exact hfill) (by rw [← hw0]; exact hn1) hz, rest⟩
  obtain ⟨wA', cA', fdA', nA', moA', hzA, restA⟩ := anew
  by_cases e1 : nI k = wI w 9 5
  · by_cases e2 : nI kn = wI w 9 6
    · rcases hO with h | ⟨k', kn', c, fd, n, mo, a1, a2, a3, a4, hfull⟩
      · exact absurd (e1.trans h) (nI_m1 (by omega))
      · have q1 : k = k' := neq (e1.trans a3) (by omega) (by omega)
        have q2 : kn = kn' := neq (e2.trans a4) hkn a2
        subst q1; subst q2
        exact ⟨w, c, fd, n, mo, ai_X3g_searchFrom (b_X3g_searchFrom_0 (fun h => absurd e1 h) (fun _ => b_X3g_searchFrom_8 (fun h => absurd e2 h) (fun _ => b_X3g_searchFrom_16))), Fr.refl _ _, a3, a4, hfull⟩
    · exact ⟨wA', cA', fdA', nA', moA', ai_X3g_searchFrom (b_X3g_searchFrom_0 (fun h => absurd e1 h) (fun _ => b_X3g_searchFrom_8 (fun _ => hzA) (fun h => absurd h e2))), restA⟩
  · exact ⟨wA', cA', fdA', nA', moA', ai_X3g_searchFrom (b_X3g_searchFrom_0 (fun _ => hzA) (fun h => absurd h e1)), restA⟩
theorem am_costOfg {kn k q : Nat} {c fd : Nat → Nat} {n mo : Nat} (hR : Fullg w kn k c fd n mo) (hq : q < 720) : A_X3g_costOf 35 [.ref 9, .int (nI q)] w (some (.int (ec (c q))), w) :=
  am_cstg hR.1.2.2.1 hq
theorem am_sizeg {kn k : Nat} {c fd : Nat → Nat} {n mo : Nat} (hR : Fullg w kn k c fd n mo) : A_X3g_size 35 [.ref 9] w (some (.int (nI (cnt (fin c) 720))), w) := by
  rw [← hR.2.2.1, ← hR.1.1]
  exact ai_X3g_size b_X3g_size_0
theorem am_farthestg {kn k : Nat} {c fd : Nat → Nat} {n mo : Nat} (hk : k < 720) (hR : Fullg w kn k c fd n mo) : ∃ M, A_X3g_farthest 35 [.ref 9] w (some (.int (nI M)), w) ∧ IsMax c M := by
  obtain ⟨⟨r1, r2, r3, r4, r5, r6, r7⟩, hD, hn, hfd, hex⟩ := hR
  have loop : ∀ d i, i + d = n → ∀ M, M < 1048576 → (∀ j, j < i → c (fd j) ≤ M) → (M = 0 ∨ ∃ j, j < i ∧ c (fd j) = M) → ∃ M', Z_X3g_farthest 35 4 [some (.ref 9), some (.int (nI M)), some (.int (nI i))] [] w (some (.int (nI M')), w) ∧ (∀ j, j < n → c (fd j) ≤ M') ∧ (M' = 0 ∨ ∃ j, j < n ∧ c (fd j) = M') := by
    intro d
    induction d with
    | zero =>
      intro i hi M hM h1 h2
      have hi : i = n := by omega
      subst hi
      exact ⟨M, b_X3g_farthest_4 (fun _ => b_X3g_farthest_33) (fun h => absurd (by rw [r1]; exact nI_le (Nat.le_refl i) (by omega)) h), h1, h2⟩
    | succ d ih =>
      intro i hi M hM h1 h2
      obtain ⟨f1, f2⟩ := hfd i (by omega)
      have hv := (r5 (fd i)).resolve_left f2
      have hcl : (nI i).toNatClampNeg = i := nI_clamp (by omega)
      have hfi : wA w 11 (nI i).toNatClampNeg = nI (fd i) := by rw [hcl]; exact r4 i (by omega)
      have hcv : A_X3g_costOf 35 [.ref 9, .int (wA w 11 (nI i).toNatClampNeg)] w (some (.int (nI (c (fd i)))), w) := by
        rw [hfi, ← ec_n f2]
        exact am_cstg r3 f1
      obtain ⟨M', hz, h3, h4⟩ := ih (i + 1) (by omega) (if M < c (fd i) then c (fd i) else M) (by split <;> omega) (fun j hj => by
        by_cases e : j = i
        · subst e; split <;> omega
        · have := h1 j (by omega); split <;> omega) (by
        by_cases g : M < c (fd i)
        · rw [if_pos g]; exact Or.inr ⟨i, by omega, rfl⟩
        · rw [if_neg g]
          rcases h2 with h2 | ⟨j, hj, e⟩
          · exact Or.inl h2
          · exact Or.inr ⟨j, by omega, e⟩)
      refine ⟨M', b_X3g_farthest_4 (fun h => absurd (nle (by rw [r1] at h; exact h) (by omega) (by omega)) (by omega)) (fun _ => b_X3g_farthest_12 (vp_in_nI (by omega) (by omega)) hcv ?_), h3, h4⟩
      rw [nI_1]
      have : (if nI M < nI (c (fd i)) then nI (c (fd i)) else nI M) = nI (if M < c (fd i) then c (fd i) else M) := by
        by_cases g : M < c (fd i)
        · rw [if_pos (nI_lt g (by omega)), if_pos g]
        · rw [if_neg (nI_nlt (by omega) (by omega)), if_neg g]
      rw [this]
      exact hz
  obtain ⟨M, hz, h1, h2⟩ := loop n 0 (by omega) 0 (by omega) (fun j hj => absurd hj (Nat.not_lt_zero _)) (Or.inl rfl)
  refine ⟨M, ai_X3g_farthest (b_X3g_farthest_0 hz), ?_, fun q hq hf => ?_⟩
  · rcases h2 with h2 | ⟨j, hj, e⟩
    · exact ⟨k, hk, by rw [hD.1]; decide, by rw [hD.1, h2]⟩
    · exact ⟨fd j, (hfd j hj).1, (hfd j hj).2, e⟩
  · obtain ⟨j, hj, e⟩ := hex q hq hf
    rw [← e]; exact h1 j hj
theorem am_leastWithg {kn k t x : Nat} {c fd : Nat → Nat} {n mo : Nat} (hT : TabP w) (ht : t < 5) (hx : x < 6) (hR : Fullg w kn k c fd n mo) : ∃ v, A_X3g_leastWith 35 [.ref 9, .int (nI t), .int (nI x)] w (some (.int (ec v)), w) ∧ IsLeast c t x v := by
  obtain ⟨⟨r1, r2, r3, r4, r5, r6, r7⟩, hD, hn, hfd, hex⟩ := hR
  have loop : ∀ d i, i + d = n → ∀ v l5, okc v → (∀ j, j < i → pl (fd j) t = x → v ≤ c (fd j)) → (v = FARN ∨ ∃ j, j < i ∧ pl (fd j) t = x ∧ c (fd j) = v) → ∃ v', Z_X3g_leastWith 35 5 [some (.ref 9), some (.int (nI t)), some (.int (nI x)), some (.int (ec v)), some (.int (nI i)), l5] [] w (some (.int (ec v')), w) ∧ (∀ j, j < n → pl (fd j) t = x → v' ≤ c (fd j)) ∧ (v' = FARN ∨ ∃ j, j < n ∧ pl (fd j) t = x ∧ c (fd j) = v') := by
    intro d
    induction d with
    | zero =>
      intro i hi v l5 hv h1 h2
      have hi : i = n := by omega
      subst hi
      exact ⟨v, b_X3g_leastWith_5 (fun _ => b_X3g_leastWith_66) (fun h => absurd (by rw [r1]; exact nI_le (Nat.le_refl i) (by omega)) h), h1, h2⟩
    | succ d ih =>
      intro i hi v l5 hv h1 h2
      obtain ⟨f1, f2⟩ := hfd i (by omega)
      have hcv0 := (r5 (fd i)).resolve_left f2
      have hcl : (nI i).toNatClampNeg = i := nI_clamp (by omega)
      have hfi : wA w 11 (nI i).toNatClampNeg = nI (fd i) := by rw [hcl]; exact r4 i (by omega)
      have hcv : A_X3g_costOf 35 [.ref 9, .int (wA w 11 (nI i).toNatClampNeg)] w (some (.int (nI (c (fd i)))), w) := by
        rw [hfi, ← ec_n f2]
        exact am_cstg r3 f1
      have hin : vp_in (nI i) 720 := vp_in_nI (by omega) (by omega)
      have hpl := pl_lt f1 (show t < 6 by omega)
      have hno : ¬ wI w 9 3 ≤ nI i := by rw [r1]; exact nI_ge (by omega) (by omega)
      have go : ∀ v2, okc v2 → (∀ j, j < i + 1 → pl (fd j) t = x → v2 ≤ c (fd j)) → (v2 = FARN ∨ ∃ j, j < i + 1 ∧ pl (fd j) t = x ∧ c (fd j) = v2) → ∃ v', Z_X3g_leastWith 35 60 [some (.ref 9), some (.int (nI t)), some (.int (nI x)), some (.int (ec v2)), some (.int (nI i)), some (.int (nI (c (fd i))))] [] w (some (.int (ec v')), w) ∧ (∀ j, j < n → pl (fd j) t = x → v' ≤ c (fd j)) ∧ (v' = FARN ∨ ∃ j, j < n ∧ pl (fd j) t = x ∧ c (fd j) = v') := by
        intro v2 g1 g2 g3
        obtain ⟨v', hz, rest⟩ := ih (i + 1) (by omega) v2 (some (.int (nI (c (fd i))))) g1 g2 g3
        refine ⟨v', b_X3g_leastWith_60 ?_, rest⟩
        rw [nI_1]; exact hz
      by_cases hp : pl (fd i) t = x
      · by_cases hvF : v = FARN ∨ c (fd i) < v
        · obtain ⟨v', hz, rest⟩ := go (c (fd i)) (r5 _) (fun j hj hpj => by
            by_cases e : j = i
            · subst e; exact Nat.le_refl _
            · have := h1 j (by omega) hpj
              have := okc_le (r5 (fd i))
              rcases hvF with h | h
              · omega
              · omega) (Or.inr ⟨i, by omega, hp, rfl⟩)
          rw [ec_n f2] at hz
          refine ⟨v', b_X3g_leastWith_5 (fun h => absurd h hno) (fun _ => b_X3g_leastWith_14 hin hcv hin (by rw [hfi]; exact am_place hT (by omega) f1 (by omega)) (fun h => absurd (by rw [hp]) h) (fun _ => b_X3g_leastWith_46 (fun _ => b_X3g_leastWith_57 ?_) (fun h => b_X3g_leastWith_51 (fun h3 => ?_) (fun _ => b_X3g_leastWith_57 ?_)))), rest⟩
          · exact hz
          · exfalso
            rw [ec_m1 hv] at h
            have h4 := hvF.resolve_left h
            rw [ec_n h] at h3
            have := nle h3 (by have := hv.resolve_left h; omega) (by omega)
            omega
          · exact hz
        · have hv1 : v ≠ FARN := fun e => hvF (Or.inl e)
          have hv2 : v ≤ c (fd i) := Nat.le_of_not_lt (fun e => hvF (Or.inr e))
          obtain ⟨v', hz, rest⟩ := go v hv (fun j hj hpj => by
            by_cases e : j = i
            · subst e; exact hv2
            · exact h1 j (by omega) hpj) (by
            rcases h2 with h2 | ⟨j, hj, e⟩
            · exact Or.inl h2
            · exact Or.inr ⟨j, by omega, e⟩)
          refine ⟨v', b_X3g_leastWith_5 (fun h => absurd h hno) (fun _ => b_X3g_leastWith_14 hin hcv hin (by rw [hfi]; exact am_place hT (by omega) f1 (by omega)) (fun h => absurd (by rw [hp]) h) (fun _ => b_X3g_leastWith_46 (fun h => absurd ((ec_m1 hv).mp h) hv1) (fun h => b_X3g_leastWith_51 (fun _ => ?_) (fun h3 => absurd (by rw [ec_n hv1]; exact nI_le hv2 (by omega)) h3)))), rest⟩
          exact hz
      · obtain ⟨v', hz, rest⟩ := go v hv (fun j hj hpj => by
          by_cases e : j = i
          · subst e; exact absurd hpj hp
          · exact h1 j (by omega) hpj) (by
          rcases h2 with h2 | ⟨j, hj, e⟩
          · exact Or.inl h2
          · exact Or.inr ⟨j, by omega, e⟩)
        refine ⟨v', b_X3g_leastWith_5 (fun h => absurd h hno) (fun _ => b_X3g_leastWith_14 hin hcv hin (by rw [hfi]; exact am_place hT (by omega) f1 (by omega)) (fun _ => ?_) (fun h => absurd (neq h (by omega) (by omega)) hp)), rest⟩
        exact hz
  obtain ⟨v, hz, h1, h2⟩ := loop n 0 (by omega) FARN none (Or.inl rfl) (fun j hj => absurd hj (Nat.not_lt_zero _)) (Or.inl rfl)
  refine ⟨v, ai_X3g_leastWith (b_X3g_leastWith_0 (by rw [← ec_f (v := FARN) rfl]; exact hz)), fun q hq hf hp => ?_, ?_⟩
  · obtain ⟨j, hj, e⟩ := hex q hq hf
    rw [← e]; exact h1 j hj (by rw [e]; exact hp)
  · rcases h2 with h2 | ⟨j, hj, hp, e⟩
    · exact Or.inl h2
    · exact Or.inr ⟨fd j, (hfd j hj).1, (hfd j hj).2, hp, e⟩
end SSg
