-- ===== the search of a Spread (two instances) =====
def SpRh (w : Wd) (c fd : Nat → Nat) (n mo : Nat) : Prop :=
  wI w 6 3 = nI n ∧ wI w 6 4 = nI mo ∧ (∀ q, q < 720 → wA w 7 q = ec (c q)) ∧ (∀ i, i < n → wA w 8 i = nI (fd i)) ∧ (∀ q, okc (c q)) ∧ n ≤ 720 ∧ mo < 1048576
section SPh
variable {w : Wd}
theorem am_noteh {c fd : Nat → Nat} {n mo q v : Nat} (hR : SpRh w c fd n mo) (hq : q < 720) (hv : v < 1048576) (hn : c q = FARN → n < 720) :
    ∃ w', A_X3h_note 35 [.ref 6, .int (nI q), .int (nI v)] w (none, w') ∧ Fr [6, 7, 8] w w' ∧ SpRh w' (ntC c q v) (ntF c fd n q) (ntN c n q) (ntM c mo q v) ∧ wI w' 6 5 = wI w 6 5 ∧ wI w' 6 6 = wI w 6 6 := by
  obtain ⟨r1, r2, r3, r4, r5, r6, r7⟩ := hR
  have hin : vp_in (nI q) 720 := vp_in_nI hq (by omega)
  have hcl : (nI q).toNatClampNeg = q := nI_clamp (by omega)
  have hok : ∀ r, okc (ntC c q v r) := by
    intro r
    by_cases e : r = q
    · subst e
      unfold ntC
      split
      · rw [uN_s]; exact Or.inr hv
      · split
        · rw [uN_s]; exact Or.inr hv
        · exact r5 r
    · rw [ntC_n e]; exact r5 r
  by_cases hc : c q = FARN
  · have hn1 := hn hc
    have eC : ntC c q v = uN c q v := by unfold ntC; rw [if_pos hc]
    have eF : ntF c fd n q = uN fd n q := by unfold ntF; rw [if_pos hc]
    have eN : ntN c n q = n + 1 := by unfold ntN; rw [if_pos hc]
    have eM : ntM c mo q v = if mo < v then v else mo := by unfold ntM; rw [if_pos hc]
    have hcn : (wI w 6 3).toNatClampNeg = n := by rw [r1]; exact nI_clamp (by omega)
    refine ⟨_, ai_X3h_note (b_X3h_note_0 (am_isWithin _ _ _) (fun _ => b_X3h_note_12 hin (fun h => absurd (by rw [hcl, r3 q hq]; exact ec_f hc) h) (fun _ => b_X3h_note_22 (fun h => absurd (nle (a := 720) (by rw [r1] at h; exact h) (by omega) (by omega)) (by omega)) (fun _ => b_X3h_note_32 (by rw [r1]; exact vp_in_nI hn1 (by omega)) hin b_X3h_note_91))) (fun h => absurd ((in719 hq).symm.trans h) (by decide))), ?_, ?_, ?_, ?_⟩
    · exact (((Fr.sA (by simp)).trans (Fr.sI (by simp))).trans (Fr.sA (by simp))).trans (Fr.sI (by simp))
    · rw [eN, eF, eM]
      refine ⟨?_, ?_, ?_, ?_, hok, by omega, by split <;> omega⟩
      · show wI w 6 3 + 1 = _
        rw [r1, nI_1]
      · show (if wI w 6 4 < nI v then nI v else wI w 6 4) = _
        rw [r2]
        by_cases g : mo < v
        · rw [if_pos (nI_lt g (by omega)), if_pos g]
        · rw [if_neg (nI_nlt (by omega) (by omega)), if_neg g]
      · intro r hr
        show (upd (wA w 7) (nI q).toNatClampNeg (nI v)) r = _
        rw [hcl, eC]
        by_cases e : r = q
        · subst e
          rw [pk_us, uN_s, ec_n (by unfold FARN; omega)]
        · rw [pk_un e, uN_n e]; exact r3 r hr
      · intro i hi
        show (upd (wA w 8) (wI w 6 3).toNatClampNeg (nI q)) i = _
        rw [hcn]
        by_cases e : i = n
        · subst e
          rw [pk_us, uN_s]
        · rw [pk_un e, uN_n e]; exact r4 i (by omega)
    · rfl
    · rfl
  · have eF : ntF c fd n q = fd := by unfold ntF; rw [if_neg hc]
    have eN : ntN c n q = n := by unfold ntN; rw [if_neg hc]
    have eM : ntM c mo q v = mo := by unfold ntM; rw [if_neg hc]
    have hcq : c q < 1048576 := (r5 q).resolve_left hc
    have hne : ¬ wA w 7 (nI q).toNatClampNeg = -1 := by
      rw [hcl, r3 q hq, ec_m1 (r5 q)]; exact hc
    have hval : wA w 7 (nI q).toNatClampNeg = nI (c q) := by rw [hcl, r3 q hq, ec_n hc]
    by_cases g : v < c q
    · have eC : ntC c q v = uN c q v := by unfold ntC; rw [if_neg hc, if_pos g]
      refine ⟨_, ai_X3h_note (b_X3h_note_0 (am_isWithin _ _ _) (fun _ => b_X3h_note_12 hin (fun _ => b_X3h_note_74 hin (fun h => absurd (nle (by rw [hval] at h; exact h) (by omega) (by omega)) (by omega)) (fun _ => b_X3h_note_84 hin b_X3h_note_91)) (fun h => absurd h hne)) (fun h => absurd ((in719 hq).symm.trans h) (by decide))), Fr.sA (by simp), ?_, rfl, rfl⟩
      rw [eN, eF, eM]
      refine ⟨r1, r2, ?_, r4, hok, r6, r7⟩
      intro r hr
      show (upd (wA w 7) (nI q).toNatClampNeg (nI v)) r = _
      rw [hcl, eC]
      by_cases e : r = q
      · subst e
        rw [pk_us, uN_s, ec_n (by unfold FARN; omega)]
      · rw [pk_un e, uN_n e]; exact r3 r hr
    · have eC : ntC c q v = c := by unfold ntC; rw [if_neg hc, if_neg g]
      refine ⟨w, ai_X3h_note (b_X3h_note_0 (am_isWithin _ _ _) (fun _ => b_X3h_note_12 hin (fun _ => b_X3h_note_74 hin (fun _ => b_X3h_note_91) (fun h => absurd (by rw [hval]; exact nI_le (by omega) (by omega)) h)) (fun h => absurd h hne)) (fun h => absurd ((in719 hq).symm.trans h) (by decide))), Fr.refl _ _, ?_, rfl, rfl⟩
      rw [eN, eF, eM, eC]
      exact ⟨r1, r2, r3, r4, r5, r6, r7⟩
/-- all pushes from a lay just settled are noted -/
theorem am_nnh {kn s C : Nat} {c fd : Nat → Nat} {n mo j0 : Nat} (hT : Tab w) (hkn : kn < 2 ^ 31) (hK : wI w 6 6 = nI kn) (hR : SpRh w c fd n mo) (hI : SInv kn s C c fd n mo) (hj : j0 < n) (hC : c (fd j0) = C) :
    ∃ w' c' fd' n' mo', A_X3h_noteNeighbours 35 [.ref 6, .int (nI (fd j0)), .int (nI C)] w (none, w') ∧ Fr [6, 7, 8] w w' ∧ SpRh w' c' fd' n' mo' ∧ wI w' 6 5 = wI w 6 5 ∧ wI w' 6 6 = wI w 6 6 ∧ SInv kn s C c' fd' n' mo' ∧ n ≤ n' ∧
      (∀ i, i < n → fd' i = fd i) ∧ (∀ r, c r ≤ C → c' r = c r) ∧ (∀ r, C < c r → C < c' r) ∧ (∀ t, t < 5 → prc kn (fd j0) t ≠ 0 → c' (mv (fd j0) t) ≠ FARN ∧ c' (mv (fd j0) t) ≤ C + prc kn (fd j0) t) ∧ (∀ r, c' r ≤ c r) ∧ (∀ i, n ≤ i → i < n' → C < c' (fd' i)) := by
  have hp0 := (hI.2.2.2.1 j0 hj).1
  have hC3 : C ≤ 2157 := by have := (hI.2.2.2.1 j0 hj).2.2; have := hI.n_le; omega
  have loop : ∀ d t, t + d = 5 → ∀ (w1 : Wd) (c1 fd1 : Nat → Nat) (n1 mo1 : Nat) (l4 : Option Value), Fr [6, 7, 8] w w1 → SpRh w1 c1 fd1 n1 mo1 → wI w1 6 5 = wI w 6 5 → wI w1 6 6 = wI w 6 6 → SInv kn s C c1 fd1 n1 mo1 → n ≤ n1 →
      (∀ i, i < n → fd1 i = fd i) → (∀ r, c r ≤ C → c1 r = c r) → (∀ r, C < c r → C < c1 r) → (∀ u, u < t → prc kn (fd j0) u ≠ 0 → c1 (mv (fd j0) u) ≠ FARN ∧ c1 (mv (fd j0) u) ≤ C + prc kn (fd j0) u) → (∀ r, c1 r ≤ c r) → (∀ i, n ≤ i → i < n1 → C < c1 (fd1 i)) →
      ∃ w' c' fd' n' mo', Z_X3h_noteNeighbours 35 2 [some (.ref 6), some (.int (nI (fd j0))), some (.int (nI C)), some (.int (nI t)), l4] [] w1 (none, w') ∧ Fr [6, 7, 8] w w' ∧ SpRh w' c' fd' n' mo' ∧ wI w' 6 5 = wI w 6 5 ∧ wI w' 6 6 = wI w 6 6 ∧ SInv kn s C c' fd' n' mo' ∧ n ≤ n' ∧
      (∀ i, i < n → fd' i = fd i) ∧ (∀ r, c r ≤ C → c' r = c r) ∧ (∀ r, C < c r → C < c' r) ∧ (∀ t, t < 5 → prc kn (fd j0) t ≠ 0 → c' (mv (fd j0) t) ≠ FARN ∧ c' (mv (fd j0) t) ≤ C + prc kn (fd j0) t) ∧ (∀ r, c' r ≤ c r) ∧ (∀ i, n ≤ i → i < n' → C < c' (fd' i)) := by
    intro d
    induction d with
    | zero =>
      intro t ht w1 c1 fd1 n1 mo1 l4 hF hR1 k5 k6 hI1 hn1 hf hlow hhi hrel hle hnew
      have ht : t = 5 := by omega
      subst ht
      exact ⟨w1, c1, fd1, n1, mo1, b_X3h_noteNeighbours_2 (fun _ => b_X3h_noteNeighbours_51) (fun h => absurd (show (5 : Int32) ≤ nI 5 from nI_le (a := 5) (by omega) (by omega)) h), hF, hR1, k5, k6, hI1, hn1, hf, hlow, hhi, hrel, hle, hnew⟩
    | succ d ih =>
      intro t ht w1 c1 fd1 n1 mo1 l4 hF hR1 k5 k6 hI1 hn1 hf hlow hhi hrel hle hnew
      have hT1 : Tab w1 := hT.fr hF (by decide) (by decide) (by decide) (by decide)
      have hpr := am_price (k := fd j0) (t := t) (kn := kn) hT1.2.2.2 hp0 (by omega) hkn
      rw [← hK, ← k6] at hpr
      have hfj : fd1 j0 = fd j0 := hf j0 hj
      have hCj : c1 (fd1 j0) = C := by rw [hfj, hlow _ (by omega)]; exact hC
      by_cases hz0 : prc kn (fd j0) t = 0
      · obtain ⟨w', c', fd', n', mo', hz, rest⟩ := ih (t + 1) (by omega) w1 c1 fd1 n1 mo1 (some (.int (-1))) hF hR1 k5 k6 hI1 hn1 hf hlow hhi (fun u hu hp => by
          by_cases e : u = t
          · subst e; exact absurd hz0 hp
          · exact hrel u (by omega) hp) hle hnew
        refine ⟨w', c', fd', n', mo', ?_, rest⟩
        refine b_X3h_noteNeighbours_2 (fun h => absurd (nle (a := 5) h (by omega) (by omega)) (by omega)) (fun _ => b_X3h_noteNeighbours_7 hpr (fun _ => b_X3h_noteNeighbours_45 ?_) (fun h => absurd ((np_m1 (prc_le _ _ _)).mpr hz0) h))
        rw [nI_1, (np_m1 (prc_le _ _ _)).mpr hz0]
        exact hz
      · have hgo : go (fd j0) t = true := by
          cases hg : go (fd j0) t with
          | true => rfl
          | false => exact absurd (by unfold prc; simp [hg]) hz0
        have hle3 := prc_le kn (fd j0) t
        have hnp : np (prc kn (fd j0) t) = nI (prc kn (fd j0) t) := by unfold np; rw [if_neg hz0]
        have hq : mv (fd j0) t < 720 := mv_lt hp0 (by omega)
        have hnn : c1 (mv (fd j0) t) = FARN → n1 < 720 := by
          intro e
          rw [hI1.2.1]
          have h1 := cnt_lt (P := fin c1) (Q := fun _ => true) (m := 720) (fun _ _ _ => rfl) _ hq (fin_f.mpr e) rfl
          have h2 := cnt_le (fun _ => true) 720
          omega
        obtain ⟨w2, ha, hF2, hR2, g5, g6⟩ := am_noteh (v := C + prc kn (fd j0) t) hR1 hq (by omega) hnn
        have hI2 := SInv.note (t := t) hI1 (fun q => okc_le (hR1.2.2.2.2.1 q)) (j0 := j0) (by omega) hCj (by omega) (by rw [hfj]; exact hz0)
        rw [hfj] at hI2
        have hCF : C < FARN := by unfold FARN; omega
        have hvF : C + prc kn (fd j0) t < FARN := by unfold FARN; omega
        have hCv : C < C + prc kn (fd j0) t := by omega
        obtain ⟨w', c', fd', n', mo', hz, rest⟩ := ih (t + 1) (by omega) w2 _ _ _ _ (some (.int (nI (prc kn (fd j0) t)))) (hF.trans hF2) hR2 (g5.trans k5) (g6.trans k6) hI2 (by unfold ntN; split <;> omega)
          (fun i hi => by
            have : ntF c1 fd1 n1 (mv (fd j0) t) i = fd1 i := by
              unfold ntF
              split
              · exact uN_n (by omega)
              · rfl
            rw [this]; exact hf i hi)
          (fun r hr => by rw [ntC_low hCv hCF (by rw [hlow r hr]; exact hr)]; exact hlow r hr)
          (fun r hr => ntC_hi hCv (hhi r hr))
          (fun u hu hp => by
            by_cases e : u = t
            · subst e; exact ntC_q hvF
            · obtain ⟨h1, h2⟩ := hrel u (by omega) hp
              have h3 := ntC_le (q := mv (fd j0) t) hvF (okc_le (hR1.2.2.2.2.1 (mv (fd j0) u)))
              exact ⟨by have := okc_le (hR1.2.2.2.2.1 (mv (fd j0) u)); omega, by omega⟩)
          (fun r => Nat.le_trans (ntC_le hvF (okc_le (hR1.2.2.2.2.1 r))) (hle r))
          (fun i h1 h2 => by
            unfold ntN at h2
            unfold ntF
            by_cases e : c1 (mv (fd j0) t) = FARN
            · rw [if_pos e] at h2 ⊢
              by_cases e2 : i = n1
              · subst e2
                rw [uN_s]
                exact ntC_hi hCv (by rw [e]; exact hCF)
              · rw [uN_n e2]
                exact ntC_hi hCv (hnew i h1 (by omega))
            · rw [if_neg e] at h2 ⊢
              exact ntC_hi hCv (hnew i h1 h2))
        refine ⟨w', c', fd', n', mo', ?_, rest⟩
        rw [hnp] at hpr
        refine b_X3h_noteNeighbours_2 (fun h => absurd (nle (a := 5) h (by omega) (by omega)) (by omega)) (fun _ => b_X3h_noteNeighbours_7 hpr (fun h => absurd h (nI_m1 (by omega))) (fun _ => b_X3h_noteNeighbours_28 (am_pushed hT1.2.2.1 hp0 (by omega) hgo) (by rw [nI_add]; exact ha) (b_X3h_noteNeighbours_45 ?_)))
        rw [nI_1]
        exact hz
  obtain ⟨w', c', fd', n', mo', hz, rest⟩ := loop 5 0 rfl w c fd n mo none (Fr.refl _ _) hR rfl rfl hI (Nat.le_refl _) (fun _ _ => rfl) (fun _ _ => rfl) (fun _ h => h) (fun u hu => absurd hu (Nat.not_lt_zero _)) (fun _ => Nat.le_refl _) (fun i h1 h2 => by omega)
  exact ⟨w', c', fd', n', mo', ai_X3h_noteNeighbours (b_X3h_noteNeighbours_0 hz), rest⟩
end SPh

-- ===== the search of a Spread (two instances) =====
def SpRg (w : Wd) (c fd : Nat → Nat) (n mo : Nat) : Prop :=
  wI w 9 3 = nI n ∧ wI w 9 4 = nI mo ∧ (∀ q, q < 720 → wA w 10 q = ec (c q)) ∧ (∀ i, i < n → wA w 11 i = nI (fd i)) ∧ (∀ q, okc (c q)) ∧ n ≤ 720 ∧ mo < 1048576
section SPg
variable {w : Wd}
theorem am_noteg {c fd : Nat → Nat} {n mo q v : Nat} (hR : SpRg w c fd n mo) (hq : q < 720) (hv : v < 1048576) (hn : c q = FARN → n < 720) :
    ∃ w', A_X3g_note 35 [.ref 9, .int (nI q), .int (nI v)] w (none, w') ∧ Fr [9, 10, 11] w w' ∧ SpRg w' (ntC c q v) (ntF c fd n q) (ntN c n q) (ntM c mo q v) ∧ wI w' 9 5 = wI w 9 5 ∧ wI w' 9 6 = wI w 9 6 := by
  obtain ⟨r1, r2, r3, r4, r5, r6, r7⟩ := hR
  have hin : vp_in (nI q) 720 := vp_in_nI hq (by omega)
  have hcl : (nI q).toNatClampNeg = q := nI_clamp (by omega)
  have hok : ∀ r, okc (ntC c q v r) := by
    intro r
    by_cases e : r = q
    · subst e
      unfold ntC
      split
      · rw [uN_s]; exact Or.inr hv
      · split
        · rw [uN_s]; exact Or.inr hv
        · exact r5 r
    · rw [ntC_n e]; exact r5 r
  by_cases hc : c q = FARN
  · have hn1 := hn hc
    have eC : ntC c q v = uN c q v := by unfold ntC; rw [if_pos hc]
    have eF : ntF c fd n q = uN fd n q := by unfold ntF; rw [if_pos hc]
    have eN : ntN c n q = n + 1 := by unfold ntN; rw [if_pos hc]
    have eM : ntM c mo q v = if mo < v then v else mo := by unfold ntM; rw [if_pos hc]
    have hcn : (wI w 9 3).toNatClampNeg = n := by rw [r1]; exact nI_clamp (by omega)
    refine ⟨_, ai_X3g_note (b_X3g_note_0 (am_isWithin _ _ _) (fun _ => b_X3g_note_12 hin (fun h => absurd (by rw [hcl, r3 q hq]; exact ec_f hc) h) (fun _ => b_X3g_note_22 (fun h => absurd (nle (a := 720) (by rw [r1] at h; exact h) (by omega) (by omega)) (by omega)) (fun _ => b_X3g_note_32 (by rw [r1]; exact vp_in_nI hn1 (by omega)) hin b_X3g_note_91))) (fun h => absurd ((in719 hq).symm.trans h) (by decide))), ?_, ?_, ?_, ?_⟩
    · exact (((Fr.sA (by simp)).trans (Fr.sI (by simp))).trans (Fr.sA (by simp))).trans (Fr.sI (by simp))
    · rw [eN, eF, eM]
      refine ⟨?_, ?_, ?_, ?_, hok, by omega, by split <;> omega⟩
      · show wI w 9 3 + 1 = _
        rw [r1, nI_1]
      · show (if wI w 9 4 < nI v then nI v else wI w 9 4) = _
        rw [r2]
        by_cases g : mo < v
        · rw [if_pos (nI_lt g (by omega)), if_pos g]
        · rw [if_neg (nI_nlt (by omega) (by omega)), if_neg g]
      · intro r hr
        show (upd (wA w 10) (nI q).toNatClampNeg (nI v)) r = _
        rw [hcl, eC]
        by_cases e : r = q
        · subst e
          rw [pk_us, uN_s, ec_n (by unfold FARN; omega)]
        · rw [pk_un e, uN_n e]; exact r3 r hr
      · intro i hi
        show (upd (wA w 11) (wI w 9 3).toNatClampNeg (nI q)) i = _
        rw [hcn]
        by_cases e : i = n
        · subst e
          rw [pk_us, uN_s]
        · rw [pk_un e, uN_n e]; exact r4 i (by omega)
    · rfl
    · rfl
  · have eF : ntF c fd n q = fd := by unfold ntF; rw [if_neg hc]
    have eN : ntN c n q = n := by unfold ntN; rw [if_neg hc]
    have eM : ntM c mo q v = mo := by unfold ntM; rw [if_neg hc]
    have hcq : c q < 1048576 := (r5 q).resolve_left hc
    have hne : ¬ wA w 10 (nI q).toNatClampNeg = -1 := by
      rw [hcl, r3 q hq, ec_m1 (r5 q)]; exact hc
    have hval : wA w 10 (nI q).toNatClampNeg = nI (c q) := by rw [hcl, r3 q hq, ec_n hc]
    by_cases g : v < c q
    · have eC : ntC c q v = uN c q v := by unfold ntC; rw [if_neg hc, if_pos g]
      refine ⟨_, ai_X3g_note (b_X3g_note_0 (am_isWithin _ _ _) (fun _ => b_X3g_note_12 hin (fun _ => b_X3g_note_74 hin (fun h => absurd (nle (by rw [hval] at h; exact h) (by omega) (by omega)) (by omega)) (fun _ => b_X3g_note_84 hin b_X3g_note_91)) (fun h => absurd h hne)) (fun h => absurd ((in719 hq).symm.trans h) (by decide))), Fr.sA (by simp), ?_, rfl, rfl⟩
      rw [eN, eF, eM]
      refine ⟨r1, r2, ?_, r4, hok, r6, r7⟩
      intro r hr
      show (upd (wA w 10) (nI q).toNatClampNeg (nI v)) r = _
      rw [hcl, eC]
      by_cases e : r = q
      · subst e
        rw [pk_us, uN_s, ec_n (by unfold FARN; omega)]
      · rw [pk_un e, uN_n e]; exact r3 r hr
    · have eC : ntC c q v = c := by unfold ntC; rw [if_neg hc, if_neg g]
      refine ⟨w, ai_X3g_note (b_X3g_note_0 (am_isWithin _ _ _) (fun _ => b_X3g_note_12 hin (fun _ => b_X3g_note_74 hin (fun _ => b_X3g_note_91) (fun h => absurd (by rw [hval]; exact nI_le (by omega) (by omega)) h)) (fun h => absurd h hne)) (fun h => absurd ((in719 hq).symm.trans h) (by decide))), Fr.refl _ _, ?_, rfl, rfl⟩
      rw [eN, eF, eM, eC]
      exact ⟨r1, r2, r3, r4, r5, r6, r7⟩
/-- all pushes from a lay just settled are noted -/
theorem am_nng {kn s C : Nat} {c fd : Nat → Nat} {n mo j0 : Nat} (hT : Tab w) (hkn : kn < 2 ^ 31) (hK : wI w 9 6 = nI kn) (hR : SpRg w c fd n mo) (hI : SInv kn s C c fd n mo) (hj : j0 < n) (hC : c (fd j0) = C) :
    ∃ w' c' fd' n' mo', A_X3g_noteNeighbours 35 [.ref 9, .int (nI (fd j0)), .int (nI C)] w (none, w') ∧ Fr [9, 10, 11] w w' ∧ SpRg w' c' fd' n' mo' ∧ wI w' 9 5 = wI w 9 5 ∧ wI w' 9 6 = wI w 9 6 ∧ SInv kn s C c' fd' n' mo' ∧ n ≤ n' ∧
      (∀ i, i < n → fd' i = fd i) ∧ (∀ r, c r ≤ C → c' r = c r) ∧ (∀ r, C < c r → C < c' r) ∧ (∀ t, t < 5 → prc kn (fd j0) t ≠ 0 → c' (mv (fd j0) t) ≠ FARN ∧ c' (mv (fd j0) t) ≤ C + prc kn (fd j0) t) ∧ (∀ r, c' r ≤ c r) ∧ (∀ i, n ≤ i → i < n' → C < c' (fd' i)) := by
  have hp0 := (hI.2.2.2.1 j0 hj).1
  have hC3 : C ≤ 2157 := by have := (hI.2.2.2.1 j0 hj).2.2; have := hI.n_le; omega
  have loop : ∀ d t, t + d = 5 → ∀ (w1 : Wd) (c1 fd1 : Nat → Nat) (n1 mo1 : Nat) (l4 : Option Value), Fr [9, 10, 11] w w1 → SpRg w1 c1 fd1 n1 mo1 → wI w1 9 5 = wI w 9 5 → wI w1 9 6 = wI w 9 6 → SInv kn s C c1 fd1 n1 mo1 → n ≤ n1 →
      (∀ i, i < n → fd1 i = fd i) → (∀ r, c r ≤ C → c1 r = c r) → (∀ r, C < c r → C < c1 r) → (∀ u, u < t → prc kn (fd j0) u ≠ 0 → c1 (mv (fd j0) u) ≠ FARN ∧ c1 (mv (fd j0) u) ≤ C + prc kn (fd j0) u) → (∀ r, c1 r ≤ c r) → (∀ i, n ≤ i → i < n1 → C < c1 (fd1 i)) →
      ∃ w' c' fd' n' mo', Z_X3g_noteNeighbours 35 2 [some (.ref 9), some (.int (nI (fd j0))), some (.int (nI C)), some (.int (nI t)), l4] [] w1 (none, w') ∧ Fr [9, 10, 11] w w' ∧ SpRg w' c' fd' n' mo' ∧ wI w' 9 5 = wI w 9 5 ∧ wI w' 9 6 = wI w 9 6 ∧ SInv kn s C c' fd' n' mo' ∧ n ≤ n' ∧
      (∀ i, i < n → fd' i = fd i) ∧ (∀ r, c r ≤ C → c' r = c r) ∧ (∀ r, C < c r → C < c' r) ∧ (∀ t, t < 5 → prc kn (fd j0) t ≠ 0 → c' (mv (fd j0) t) ≠ FARN ∧ c' (mv (fd j0) t) ≤ C + prc kn (fd j0) t) ∧ (∀ r, c' r ≤ c r) ∧ (∀ i, n ≤ i → i < n' → C < c' (fd' i)) := by
    intro d
    induction d with
    | zero =>
      intro t ht w1 c1 fd1 n1 mo1 l4 hF hR1 k5 k6 hI1 hn1 hf hlow hhi hrel hle hnew
      have ht : t = 5 := by omega
      subst ht
      exact ⟨w1, c1, fd1, n1, mo1, b_X3g_noteNeighbours_2 (fun _ => b_X3g_noteNeighbours_51) (fun h => absurd (show (5 : Int32) ≤ nI 5 from nI_le (a := 5) (by omega) (by omega)) h), hF, hR1, k5, k6, hI1, hn1, hf, hlow, hhi, hrel, hle, hnew⟩
    | succ d ih =>
      intro t ht w1 c1 fd1 n1 mo1 l4 hF hR1 k5 k6 hI1 hn1 hf hlow hhi hrel hle hnew
      have hT1 : Tab w1 := hT.fr hF (by decide) (by decide) (by decide) (by decide)
      have hpr := am_price (k := fd j0) (t := t) (kn := kn) hT1.2.2.2 hp0 (by omega) hkn
      rw [← hK, ← k6] at hpr
      have hfj : fd1 j0 = fd j0 := hf j0 hj
      have hCj : c1 (fd1 j0) = C := by rw [hfj, hlow _ (by omega)]; exact hC
      by_cases hz0 : prc kn (fd j0) t = 0
      · obtain ⟨w', c', fd', n', mo', hz, rest⟩ := ih (t + 1) (by omega) w1 c1 fd1 n1 mo1 (some (.int (-1))) hF hR1 k5 k6 hI1 hn1 hf hlow hhi (fun u hu hp => by
          by_cases e : u = t
          · subst e; exact absurd hz0 hp
          · exact hrel u (by omega) hp) hle hnew
        refine ⟨w', c', fd', n', mo', ?_, rest⟩
        refine b_X3g_noteNeighbours_2 (fun h => absurd (nle (a := 5) h (by omega) (by omega)) (by omega)) (fun _ => b_X3g_noteNeighbours_7 hpr (fun _ => b_X3g_noteNeighbours_45 ?_) (fun h => absurd ((np_m1 (prc_le _ _ _)).mpr hz0) h))
        rw [nI_1, (np_m1 (prc_le _ _ _)).mpr hz0]
        exact hz
      · have hgo : go (fd j0) t = true := by
          cases hg : go (fd j0) t with
          | true => rfl
          | false => exact absurd (by unfold prc; simp [hg]) hz0
        have hle3 := prc_le kn (fd j0) t
        have hnp : np (prc kn (fd j0) t) = nI (prc kn (fd j0) t) := by unfold np; rw [if_neg hz0]
        have hq : mv (fd j0) t < 720 := mv_lt hp0 (by omega)
        have hnn : c1 (mv (fd j0) t) = FARN → n1 < 720 := by
          intro e
          rw [hI1.2.1]
          have h1 := cnt_lt (P := fin c1) (Q := fun _ => true) (m := 720) (fun _ _ _ => rfl) _ hq (fin_f.mpr e) rfl
          have h2 := cnt_le (fun _ => true) 720
          omega
        obtain ⟨w2, ha, hF2, hR2, g5, g6⟩ := am_noteg (v := C + prc kn (fd j0) t) hR1 hq (by omega) hnn
        have hI2 := SInv.note (t := t) hI1 (fun q => okc_le (hR1.2.2.2.2.1 q)) (j0 := j0) (by omega) hCj (by omega) (by rw [hfj]; exact hz0)
        rw [hfj] at hI2
        have hCF : C < FARN := by unfold FARN; omega
        have hvF : C + prc kn (fd j0) t < FARN := by unfold FARN; omega
        have hCv : C < C + prc kn (fd j0) t := by omega
        obtain ⟨w', c', fd', n', mo', hz, rest⟩ := ih (t + 1) (by omega) w2 _ _ _ _ (some (.int (nI (prc kn (fd j0) t)))) (hF.trans hF2) hR2 (g5.trans k5) (g6.trans k6) hI2 (by unfold ntN; split <;> omega)
          (fun i hi => by
            have : ntF c1 fd1 n1 (mv (fd j0) t) i = fd1 i := by
              unfold ntF
              split
              · exact uN_n (by omega)
              · rfl
            rw [this]; exact hf i hi)
          (fun r hr => by rw [ntC_low hCv hCF (by rw [hlow r hr]; exact hr)]; exact hlow r hr)
          (fun r hr => ntC_hi hCv (hhi r hr))
          (fun u hu hp => by
            by_cases e : u = t
            · subst e; exact ntC_q hvF
            · obtain ⟨h1, h2⟩ := hrel u (by omega) hp
              have h3 := ntC_le (q := mv (fd j0) t) hvF (okc_le (hR1.2.2.2.2.1 (mv (fd j0) u)))
              exact ⟨by have := okc_le (hR1.2.2.2.2.1 (mv (fd j0) u)); omega, by omega⟩)
          (fun r => Nat.le_trans (ntC_le hvF (okc_le (hR1.2.2.2.2.1 r))) (hle r))
          (fun i h1 h2 => by
            unfold ntN at h2
            unfold ntF
            by_cases e : c1 (mv (fd j0) t) = FARN
            · rw [if_pos e] at h2 ⊢
              by_cases e2 : i = n1
              · subst e2
                rw [uN_s]
                exact ntC_hi hCv (by rw [e]; exact hCF)
              · rw [uN_n e2]
                exact ntC_hi hCv (hnew i h1 (by omega))
            · rw [if_neg e] at h2 ⊢
              exact ntC_hi hCv (hnew i h1 h2))
        refine ⟨w', c', fd', n', mo', ?_, rest⟩
        rw [hnp] at hpr
        refine b_X3g_noteNeighbours_2 (fun h => absurd (nle (a := 5) h (by omega) (by omega)) (by omega)) (fun _ => b_X3g_noteNeighbours_7 hpr (fun h => absurd h (nI_m1 (by omega))) (fun _ => b_X3g_noteNeighbours_28 (am_pushed hT1.2.2.1 hp0 (by omega) hgo) (by rw [nI_add]; exact ha) (b_X3g_noteNeighbours_45 ?_)))
        rw [nI_1]
        exact hz
  obtain ⟨w', c', fd', n', mo', hz, rest⟩ := loop 5 0 rfl w c fd n mo none (Fr.refl _ _) hR rfl rfl hI (Nat.le_refl _) (fun _ _ => rfl) (fun _ _ => rfl) (fun _ h => h) (fun u hu => absurd hu (Nat.not_lt_zero _)) (fun _ => Nat.le_refl _) (fun i h1 h2 => by omega)
  exact ⟨w', c', fd', n', mo', ai_X3g_noteNeighbours (b_X3g_noteNeighbours_0 hz), rest⟩
end SPg
