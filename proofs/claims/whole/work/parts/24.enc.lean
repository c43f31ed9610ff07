-- ===== none as -1; filling an array =====
def ec (v : Nat) : Int32 := if v = FARN then -1 else nI v
def okc (v : Nat) : Prop := v = FARN ∨ v < 1048576
theorem okc_le {v : Nat} (h : okc v) : v ≤ FARN := by rcases h with h | h <;> unfold FARN at * <;> omega
theorem ec_m1 {v : Nat} (h : okc v) : ec v = -1 ↔ v = FARN := by
  unfold ec
  by_cases e : v = FARN
  · simp [e]
  · rw [if_neg e]
    rcases h with h | h
    · exact absurd h e
    · exact ⟨fun g => absurd g (nI_m1 (by omega)), fun g => absurd g e⟩
theorem ec_n {v : Nat} (h : v ≠ FARN) : ec v = nI v := by unfold ec; rw [if_neg h]
theorem ec_f {v : Nat} (h : v = FARN) : ec v = -1 := by unfold ec; rw [if_pos h]
theorem sA_sA {w : Wd} {a : Nat} {g g' : Nat → Int32} : sA (sA w a g) a g' = sA w a g' := by
  show (w.1, w.2.1, w.2.2.1, _) = (w.1, w.2.1, w.2.2.1, _)
  congr 3
  funext b
  by_cases h : b = a <;> simp [sA, h]
theorem sA_self (w : Wd) (a : Nat) : sA w a (wA w a) = w := by
  obtain ⟨w1, w2, w3, w4⟩ := w
  show (w1, w2, w3, _) = (w1, w2, w3, _)
  congr 3
  funext b
  by_cases h : b = a
  · subst h; simp
  · simp [h]
theorem wA_sA_s {w : Wd} {a : Nat} {g : Nat → Int32} : wA (sA w a g) a = g := by
  show (if a = a then g else _) = g
  rw [if_pos rfl]
theorem wA_sA_n {w : Wd} {a b : Nat} {g : Nat → Int32} (h : b ≠ a) : wA (sA w a g) b = wA w b := by
  show (if b = a then g else w.2.2.2 b) = _
  rw [if_neg h]
theorem am_fill {w : Wd} {a n : Nat} {x : Int32} (ha : SH[a]? = some (.inr (0, n))) (hm : a < 35) (hn : n < 2 ^ 31) : ∃ g, A_J7_fill_53178 35 [.ref a, .int x] w (none, sA w a g) ∧ ∀ i, i < n → g i = x := by
  have loop : ∀ d i, i + d = n → ∀ g, (∀ j, j < i → g j = x) → ∃ g', Z_J7_fill_53178 35 5 [some (.ref a), some (.int x), some (.int (nI i)), some (.int (nI n))] [] (sA w a g) (none, sA w a g') ∧ ∀ i, i < n → g' i = x := by
    intro d
    induction d with
    | zero =>
      intro i hi g hg
      have hi : i = n := by omega
      subst hi
      exact ⟨g, b_J7_fill_53178_5 (fun _ => b_J7_fill_53178_20) (fun h => absurd (nI_le (Nat.le_refl i) hn) h), hg⟩
    | succ d ih =>
      intro i hi g hg
      obtain ⟨g', hz, hg'⟩ := ih (i + 1) (by omega) (upd g i x) (fun j hj => by
        by_cases e : j = i
        · subst e; rw [pk_us]
        · rw [pk_un e]; exact hg j (by omega))
      refine ⟨g', b_J7_fill_53178_5 (fun h => absurd (nle h (by omega) (by omega)) (by omega)) (fun _ => b_J7_fill_53178_10 hm ha (vp_in_nI (by omega) hn) ?_), hg'⟩
      rw [nI_clamp (by omega), nI_1, sA_sA, wA_sA_s]
      exact hz
  obtain ⟨g', hz, hg'⟩ := loop n 0 (by omega) (wA w a) (fun j hj => absurd hj (Nat.not_lt_zero _))
  rw [sA_self] at hz
  exact ⟨g', ai_J7_fill_53178 (b_J7_fill_53178_0 hm ha hz), hg'⟩
theorem in719 {q : Nat} (h : q < 720) : bz (decide ((0 : Int32) ≤ nI q ∧ nI q ≤ 719)) = 1 := by
  have h1 : (0 : Int32) ≤ nI q := nI_pos' (by omega)
  have h2 : nI q ≤ 719 := nI_le (b := 719) (by omega) (by omega)
  simp [bz, h1, h2]
