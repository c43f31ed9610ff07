-- ===== none as -1; filling an array =====
def ec (v : Nat) : Int32 := if v = FARN then -1 else nI v
def okc (v : Nat) : Prop := v = FARN ∨ v < 1048576
theorem okc_le {v : Nat} (h : okc v) : v ≤ FARN := by rcases h with h | h <;> unfold FARN at * <;> omega
theorem ec_m1 {v : Nat} (h : okc v) : ec v = -1 ↔ v = FARN := by
  unfold ec
  by_cases e : v = FARN
  · simp [e]
  · rw [if_neg e]
    rcases h with h | h
    · exact absurd h e
    · exact ⟨fun g => absurd g (nI_m1 (by omega)), fun g => absurd g e⟩
theorem ec_n {v : Nat} (h : v ≠ FARN) : ec v = nI v := by unfold ec; rw [if_neg h]
theorem ec_f {v : Nat} (h : v = FARN) : ec v = -1 := by unfold ec; rw [if_pos h]
theorem sA_sA {w : Wd} {a : Nat} {g g' : Nat → Int32} : sA (sA w a g) a g' = sA w a g' := by
  show (w.1, w.2.1, w.2.2.1, _) = (w.1, w.2.1, w.2.2.1, _)
  congr 3
  funext b
  by_cases h : b = a <;> simp [sA, h]
theorem sA_self (w : Wd) (a : Nat) : sA w a (wA w a) = w := by
  obtain ⟨w1, w2, w3, w4⟩ := w
  show (w1, w2, w3, _) = (w1, w2, w3, _)
  congr 3
  funext b
  by_cases h : b = a
  · subst h; simp
  · simp [h]
theorem wA_sA_s {w : Wd} {a : Nat} {g : Nat → Int32} : wA (sA w a g) a = g := by
  show (if a = a then g else _) = g
  rw [if_pos rfl]
theorem wA_sA_n {w : Wd} {a b : Nat} {g : Nat → Int32} (h : b ≠ a) : wA (sA w a g) b = wA w b := by
  show (if b = a then g else w.2.2.2 b) = _
  rw [if_neg h]
theorem am_fill {w : Wd} {a n : Nat} {x : Int32} (ha : SH[a]? = some (.inr (0, n))) (hm : a < 35) (hn : n < 2 ^ 31) : ∃ g, A_J7_fill_53178 35 [.ref a, .int x] w (none, sA w a g) ∧ ∀ i, i < n → g i = x := by
  have loop : ∀ d i, i + d = n → ∀ g, (∀ j, j < i → g j = x) → ∃ g', Z_J7_fill_53178 35 5 [some (.ref a), some (.int x), some (.int (nI i)), some (.int (nI n))] [] (sA w a g) (none, sA w a g') ∧ ∀ i, i < n → g' i = x := by
    intro d
    induction d with
    | zero =>
      intro i hi g hg
      have hi : i = n := by omega
      subst hi
      exact ⟨g, b_J7_fill_53178_5 (fun _ => b_J7_fill_53178_20) (fun h => absurd (nI_le (Nat.le_refl i) hn) h), hg⟩
    | succ d ih =>
      intro i hi g hg
      obtain ⟨g', hz, hg'⟩ := ih (i + 1) (by omega) (upd g i x) (fun j hj => by
        by_cases e : j = i
        · subst e; rw [pk_us]
        · rw [pk_un e]; exact hg j (by omega))
      refine ⟨g', b_J7_fill_53178_5 (fun h => absurd (nle h (by omega) (by omega)) (by omega)) (fun _ => b_J7_fill_53178_10 hm ha (vp_in_nI (by omega) hn) ?_), hg'⟩
      rw [nI_clamp (by omega), nI_1, sA_sA, wA_sA_s]
      exact hz
  obtain ⟨g', hz, hg'⟩ := loop n 0 (by omega) (wA w a) (fun j hj => absurd hj (Nat.not_lt_zero _))
  rw [sA_self] at hz
  exact ⟨g', ai_J7_fill_53178 (b_J7_fill_53178_0 hm ha hz), hg'⟩
theorem in719 {q : Nat} (h : q < 720) : bz (decide ((0 : Int32) ≤ nI q ∧ nI q ≤ 719)) = 1 := by
  have h1 : (0 : Int32) ≤ nI q := nI_pos' (by omega)
  have h2 : nI q ≤ 719 := nI_le (b := 719) (by omega) (by omega)
  simp [bz, h1, h2]
def IsMax (c : Nat → Nat) (M : Nat) : Prop := (∃ q, q < 720 ∧ c q ≠ FARN ∧ c q = M) ∧ ∀ q, q < 720 → c q ≠ FARN → c q ≤ M
def IsLeast (c : Nat → Nat) (t x v : Nat) : Prop := (∀ q, q < 720 → c q ≠ FARN → pl q t = x → v ≤ c q) ∧ (v = FARN ∨ ∃ q, q < 720 ∧ c q ≠ FARN ∧ pl q t = x ∧ c q = v)
theorem IsMax.uniq {c d : Nat → Nat} {M N : Nat} (h : ∀ q, q < 720 → c q = d q) (h1 : IsMax c M) (h2 : IsMax d N) : M = N := by
  obtain ⟨⟨q, a1, a2, a3⟩, a4⟩ := h1
  obtain ⟨⟨r, b1, b2, b3⟩, b4⟩ := h2
  have e1 := b4 q a1 (by rw [← h q a1]; exact a2)
  have e2 := a4 r b1 (by rw [h r b1]; exact b2)
  rw [← h q a1] at e1
  rw [h r b1] at e2
  omega
theorem IsLeast.uniq {c d : Nat → Nat} {t x v u : Nat} (h : ∀ q, q < 720 → c q = d q) (hb : ∀ q, q < 720 → c q ≤ FARN) (h1 : IsLeast c t x v) (h2 : IsLeast d t x u) : v = u := by
  obtain ⟨a1, a2⟩ := h1
  obtain ⟨b1, b2⟩ := h2
  rcases a2 with a2 | ⟨q, q1, q2, q3, q4⟩
  · rcases b2 with b2 | ⟨r, r1, r2, r3, r4⟩
    · omega
    · have := a1 r r1 (by rw [h r r1]; exact r2) r3
      have := hb r r1
      rw [h r r1] at this
      rw [h r r1] at *
      omega
  · have e1 := b1 q q1 (by rw [← h q q1]; exact q2) q3
    rw [← h q q1] at e1
    rcases b2 with b2 | ⟨r, r1, r2, r3, r4⟩
    · have := hb q q1; omega
    · have e2 := a1 r r1 (by rw [h r r1]; exact r2) r3
      rw [h r r1] at e2
      omega
