-- ===== least costs: the words, and the two searches as numbers =====
def FARN : Nat := 268435456
theorem pl_ne {k t : Nat} (hk : k < 720) (ht : t < 5) : pl k t ≠ pl k 5 := by
  intro e
  have h1 := sg_pl hk (show t < 6 by omega)
  have h2 := sg_pl hk (show 5 < 6 by omega)
  rw [e, h2] at h1
  omega
theorem mv_lt {k t : Nat} (hk : k < 720) (ht : t < 5) : mv k t < 720 := ex_lt hk (pl_lt hk (by omega)) (pl_lt hk (by omega)) (pl_ne hk ht)
def IsDist (kn s : Nat) (c : Nat → Nat) : Prop :=
  c s = 0 ∧ (∀ p, p < 720 → c p ≠ FARN → c p ≤ 2157) ∧
  (∀ p, p < 720 → c p ≠ FARN → ∀ t, t < 5 → prc kn p t ≠ 0 → c (mv p t) ≠ FARN ∧ c (mv p t) ≤ c p + prc kn p t) ∧
  (∀ q, q < 720 → c q ≠ FARN → (q = s ∧ c q = 0) ∨ ∃ p t, p < 720 ∧ t < 5 ∧ c p ≠ FARN ∧ prc kn p t ≠ 0 ∧ mv p t = q ∧ c q = c p + prc kn p t)
theorem IsDist.le {kn s : Nat} {c1 c2 : Nat → Nat} (h1 : IsDist kn s c1) (h2 : IsDist kn s c2) : ∀ n q, q < 720 → c1 q = n → c1 q ≠ FARN → c2 q ≠ FARN ∧ c2 q ≤ c1 q := by
  intro n
  induction n using Nat.strongRecOn with
  | ind n ih =>
    intro q hq hn hf
    rcases h1.2.2.2 q hq hf with ⟨rfl, h0⟩ | ⟨p, t, hp, ht, hpf, hpr, rfl, hc⟩
    · rw [h2.1]; exact ⟨by decide, Nat.zero_le _⟩
    · obtain ⟨a, b⟩ := ih (c1 p) (by omega) p hp rfl hpf
      obtain ⟨a2, b2⟩ := h2.2.2.1 p hp a t ht hpr
      exact ⟨a2, by omega⟩
theorem IsDist.uniq {kn s : Nat} {c1 c2 : Nat → Nat} (h1 : IsDist kn s c1) (h2 : IsDist kn s c2) (q : Nat) (hq : q < 720) : c1 q = c2 q := by
  by_cases e1 : c1 q = FARN
  · by_cases e2 : c2 q = FARN
    · rw [e1, e2]
    · exact absurd e1 (h2.le h1 _ q hq rfl e2).1
  · obtain ⟨a, b⟩ := h1.le h2 _ q hq rfl e1
    obtain ⟨_, d⟩ := h2.le h1 _ q hq rfl a
    omega
noncomputable def dst (kn s : Nat) : Nat → Nat := by
  classical
  exact if h : ∃ c, IsDist kn s c then Classical.choose h else fun _ => 0
theorem dst_ok {kn s : Nat} {c : Nat → Nat} (h : IsDist kn s c) : IsDist kn s (dst kn s) := by
  have he : ∃ c, IsDist kn s c := ⟨c, h⟩
  unfold dst
  rw [dif_pos he]
  exact Classical.choose_spec he
theorem dst_eq {kn s : Nat} {c : Nat → Nat} (h : IsDist kn s c) (q : Nat) (hq : q < 720) : c q = dst kn s q := h.uniq (dst_ok h) q hq
def cnt (P : Nat → Bool) : Nat → Nat
  | 0 => 0
  | m + 1 => cnt P m + bif P m then 1 else 0
theorem cnt_le (P : Nat → Bool) : ∀ m, cnt P m ≤ m
  | 0 => Nat.le_refl _
  | m + 1 => by have := cnt_le P m; unfold cnt; cases P m <;> simp <;> omega
theorem cnt_congr {P Q : Nat → Bool} : ∀ {m : Nat}, (∀ q, q < m → P q = Q q) → cnt P m = cnt Q m
  | 0, _ => rfl
  | m + 1, h => by unfold cnt; rw [cnt_congr (fun q hq => h q (by omega)), h m (by omega)]
theorem cnt_mono {P Q : Nat → Bool} : ∀ {m : Nat}, (∀ q, q < m → P q = true → Q q = true) → cnt P m ≤ cnt Q m
  | 0, _ => Nat.le_refl _
  | m + 1, h => by
    have ih := cnt_mono (P := P) (Q := Q) (m := m) (fun q hq => h q (by omega))
    have h1 := h m (by omega)
    unfold cnt
    cases hp : P m
    · simp; omega
    · rw [h1 hp]; simp; omega
theorem cnt_lt {P Q : Nat → Bool} : ∀ {m : Nat}, (∀ q, q < m → P q = true → Q q = true) → ∀ q, q < m → P q = false → Q q = true → cnt P m + 1 ≤ cnt Q m
  | 0, _, q, hq, _, _ => by omega
  | m + 1, h, q, hq, h1, h2 => by
    unfold cnt
    by_cases e : q = m
    · subst e
      have ih := cnt_mono (P := P) (Q := Q) (m := q) (fun r hr => h r (by omega))
      rw [h1, h2]; simp; omega
    · have ih := cnt_lt (P := P) (Q := Q) (m := m) (fun r hr => h r (by omega)) q (by omega) h1 h2
      have h3 := h m (by omega)
      cases hp : P m
      · simp; omega
      · rw [h3 hp]; simp; omega
theorem cnt_upd {P Q : Nat → Bool} : ∀ {m : Nat} (q : Nat), q < m → (∀ r, r ≠ q → Q r = P r) → P q = false → Q q = true → cnt Q m = cnt P m + 1
  | 0, q, hq, _, _, _ => by omega
  | m + 1, q, hq, h, h1, h2 => by
    unfold cnt
    by_cases e : q = m
    · subst e
      rw [cnt_congr (P := Q) (Q := P) (fun r hr => h r (by omega)), h1, h2]; simp
    · rw [cnt_upd q (by omega) h h1 h2, h m (fun z => e z.symm)]
      omega
def uN (f : Nat → Nat) (k x : Nat) : Nat → Nat := fun j => if j = k then x else f j
theorem uN_s {f : Nat → Nat} {k x : Nat} : uN f k x k = x := by simp [uN]
theorem uN_n {f : Nat → Nat} {k x j : Nat} (h : j ≠ k) : uN f k x j = f j := by simp [uN, h]
def fin (c : Nat → Nat) : Nat → Bool := fun q => c q != FARN
theorem fin_t {c : Nat → Nat} {q : Nat} : fin c q = true ↔ c q ≠ FARN := by simp [fin]
theorem fin_f {c : Nat → Nat} {q : Nat} : fin c q = false ↔ c q = FARN := by simp [fin]
def SInv (kn s C : Nat) (c fd : Nat → Nat) (n mo : Nat) : Prop :=
  c s = 0 ∧ n = cnt (fin c) 720 ∧ 1 ≤ n ∧
  (∀ i, i < n → fd i < 720 ∧ c (fd i) ≠ FARN ∧ c (fd i) ≤ 3 * i) ∧
  (∀ q, q < 720 → c q ≠ FARN → ∃ i, i < n ∧ fd i = q) ∧
  mo ≤ 3 * (n - 1) ∧ (∀ q, q < 720 → c q ≠ FARN → c q ≤ mo) ∧
  (∀ q, q < 720 → c q ≠ FARN → (q = s ∧ c q = 0) ∨ ∃ p t, p < 720 ∧ t < 5 ∧ c p ≤ C ∧ prc kn p t ≠ 0 ∧ mv p t = q ∧ c q = c p + prc kn p t) ∧
  (∀ p, p < 720 → c p < C → ∀ t, t < 5 → prc kn p t ≠ 0 → c (mv p t) ≠ FARN ∧ c (mv p t) ≤ c p + prc kn p t)
theorem SInv.n_le {kn s C : Nat} {c fd : Nat → Nat} {n mo : Nat} (h : SInv kn s C c fd n mo) : n ≤ 720 := by rw [h.2.1]; exact cnt_le _ _
/-- what noting q at v does -/
def ntC (c : Nat → Nat) (q v : Nat) : Nat → Nat := if c q = FARN then uN c q v else if v < c q then uN c q v else c
def ntF (c fd : Nat → Nat) (n q : Nat) : Nat → Nat := if c q = FARN then uN fd n q else fd
def ntN (c : Nat → Nat) (n q : Nat) : Nat := if c q = FARN then n + 1 else n
def ntM (c : Nat → Nat) (mo q v : Nat) : Nat := if c q = FARN then (if mo < v then v else mo) else mo
theorem ntC_q {c : Nat → Nat} {q v : Nat} (hv : v < FARN) : ntC c q v q ≠ FARN ∧ ntC c q v q ≤ v := by
  unfold ntC
  split
  · rw [uN_s]; omega
  · split
    · rw [uN_s]; omega
    · omega
theorem ntC_n {c : Nat → Nat} {q v r : Nat} (h : r ≠ q) : ntC c q v r = c r := by
  unfold ntC
  split
  · exact uN_n h
  · split
    · exact uN_n h
    · rfl
theorem ntC_le {c : Nat → Nat} {q v r : Nat} (hv : v < FARN) (hc : c r ≤ FARN) : ntC c q v r ≤ c r := by
  by_cases h : r = q
  · subst h
    unfold ntC
    split
    · rw [uN_s]; omega
    · split
      · rw [uN_s]; omega
      · omega
  · rw [ntC_n h]; omega
theorem ntC_low {c : Nat → Nat} {q v r C : Nat} (hv : C < v) (hC : C < FARN) (h : c r ≤ C) : ntC c q v r = c r := by
  by_cases e : r = q
  · subst e
    unfold ntC
    rw [if_neg (by omega), if_neg (by omega)]
  · exact ntC_n e
theorem ntC_hi {c : Nat → Nat} {q v r C : Nat} (hv : C < v) (h : C < c r) : C < ntC c q v r := by
  by_cases e : r = q
  · subst e
    unfold ntC
    split
    · rw [uN_s]; omega
    · split
      · rw [uN_s]; omega
      · omega
  · rw [ntC_n e]; exact h
theorem SInv.note {kn s C : Nat} {c fd : Nat → Nat} {n mo : Nat} (h : SInv kn s C c fd n mo) (hb : ∀ q, c q ≤ FARN) {j0 t : Nat} (hj : j0 < n) (hC : c (fd j0) = C) (ht : t < 5) (hp : prc kn (fd j0) t ≠ 0) :
    let q := mv (fd j0) t; let v := C + prc kn (fd j0) t
    SInv kn s C (ntC c q v) (ntF c fd n q) (ntN c n q) (ntM c mo q v) := by
  intro q v
  have hn := h.n_le
  obtain ⟨a1, a2, a3, a4, a5, a6, a7, a8, a9⟩ := h
  have hp0 := (a4 j0 hj).1
  have hC3 : C ≤ 3 * j0 := by rw [← hC]; exact (a4 j0 hj).2.2
  have hpr := prc_le kn (fd j0) t
  have hq : q < 720 := mv_lt hp0 ht
  have hCF : C < FARN := by unfold FARN; omega
  have hvF : v < FARN := by show C + prc kn (fd j0) t < FARN; unfold FARN; omega
  have hCv : C < v := by show C < C + prc kn (fd j0) t; omega
  have hlow : ∀ r, c r ≤ C → ntC c q v r = c r := fun r hr => ntC_low hCv hCF hr
  have hle : ∀ r, ntC c q v r ≤ c r := fun r => ntC_le hvF (hb r)
  have hqv := ntC_q (c := c) (q := q) hvF
  have hkeep : ∀ r, c r ≠ FARN → ntC c q v r ≠ FARN := fun r hr => by have := hle r; have := hb r; omega
  have hfin : ∀ r, r ≠ q → fin (ntC c q v) r = fin c r := fun r hr => by simp [fin, ntC_n hr]
  have hc0 : ntC c q v s = 0 := by rw [hlow s (by omega)]; exact a1
  have hpred : ∀ r, r < 720 → ntC c q v r ≠ FARN → (r = s ∧ ntC c q v r = 0) ∨ ∃ p t, p < 720 ∧ t < 5 ∧ ntC c q v p ≤ C ∧ prc kn p t ≠ 0 ∧ mv p t = r ∧ ntC c q v r = ntC c q v p + prc kn p t := by
    intro r hr hf
    by_cases e : ntC c q v r = c r
    · rcases a8 r hr (by rw [← e]; exact hf) with ⟨e1, e2⟩ | ⟨p, t1, b1, b2, b3, b4, b5, b6⟩
      · exact Or.inl ⟨e1, by rw [e]; exact e2⟩
      · exact Or.inr ⟨p, t1, b1, b2, by rw [hlow p b3]; exact b3, b4, b5, by rw [e, hlow p b3]; exact b6⟩
    · have hrq : r = q := by
        by_cases g : r = q
        · exact g
        · exact absurd (ntC_n g) e
      subst hrq
      refine Or.inr ⟨fd j0, t, hp0, ht, by rw [hlow _ (by omega)]; omega, hp, rfl, ?_⟩
      rw [hlow (fd j0) (by omega), hC]
      unfold ntC at e ⊢
      by_cases g : c q = FARN
      · rw [if_pos g, uN_s]
      · rw [if_neg g] at e ⊢
        by_cases g2 : v < c q
        · rw [if_pos g2, uN_s]
        · rw [if_neg g2] at e
          exact absurd rfl e
  have hset : ∀ p, p < 720 → ntC c q v p < C → ∀ t, t < 5 → prc kn p t ≠ 0 → ntC c q v (mv p t) ≠ FARN ∧ ntC c q v (mv p t) ≤ ntC c q v p + prc kn p t := by
    intro p hp1 hlt t1 ht1 hpr1
    have hcp : c p < C := by
      rcases Nat.lt_or_ge (c p) C with g | g
      · exact g
      · rcases Nat.lt_or_ge C (c p) with g2 | g2
        · have := ntC_hi (q := q) hCv g2; omega
        · have := hlow p g2; omega
    obtain ⟨b1, b2⟩ := a9 p hp1 hcp t1 ht1 hpr1
    refine ⟨hkeep _ b1, ?_⟩
    rw [hlow p (by omega)]
    exact Nat.le_trans (hle _) b2
  by_cases hcq : c q = FARN
  · have eN : ntN c n q = n + 1 := by unfold ntN; rw [if_pos hcq]
    have eF : ntF c fd n q = uN fd n q := by unfold ntF; rw [if_pos hcq]
    have eM : ntM c mo q v = if mo < v then v else mo := by unfold ntM; rw [if_pos hcq]
    have hcnt : n + 1 = cnt (fin (ntC c q v)) 720 := by
      rw [a2]
      exact (cnt_upd q hq hfin (fin_f.mpr hcq) (fin_t.mpr hqv.1)).symm
    rw [eN, eF, eM]
    refine ⟨hc0, hcnt, by omega, ?_, ?_, ?_, ?_, hpred, hset⟩
    · intro i hi
      by_cases g : i = n
      · subst g
        rw [uN_s]
        refine ⟨hq, hqv.1, ?_⟩
        have : v ≤ 3 * i := by show C + prc kn (fd j0) t ≤ 3 * i; omega
        omega
      · rw [uN_n g]
        obtain ⟨b1, b2, b3⟩ := a4 i (by omega)
        exact ⟨b1, hkeep _ b2, Nat.le_trans (hle _) b3⟩
    · intro r hr hf
      by_cases g : r = q
      · exact ⟨n, by omega, by rw [uN_s]; exact g.symm⟩
      · obtain ⟨i, b1, b2⟩ := a5 r hr (by rw [← ntC_n (c := c) (v := v) g]; exact hf)
        exact ⟨i, by omega, by rw [uN_n (by omega)]; exact b2⟩
    · have : v ≤ 3 * n := by show C + prc kn (fd j0) t ≤ 3 * n; omega
      split <;> omega
    · intro r hr hf
      by_cases g : r = q
      · subst g
        have := hqv.2
        split <;> omega
      · rw [ntC_n g] at hf ⊢
        have := a7 r hr hf
        split <;> omega
  · have eN : ntN c n q = n := by unfold ntN; rw [if_neg hcq]
    have eF : ntF c fd n q = fd := by unfold ntF; rw [if_neg hcq]
    have eM : ntM c mo q v = mo := by unfold ntM; rw [if_neg hcq]
    have hcnt : n = cnt (fin (ntC c q v)) 720 := by
      rw [a2]
      refine cnt_congr (fun r hr => ?_)
      by_cases g : r = q
      · subst g
        rw [fin_t.mpr hcq, fin_t.mpr hqv.1]
      · exact (hfin r g).symm
    rw [eN, eF, eM]
    refine ⟨hc0, hcnt, a3, ?_, ?_, a6, ?_, hpred, hset⟩
    · intro i hi
      obtain ⟨b1, b2, b3⟩ := a4 i hi
      exact ⟨b1, hkeep _ b2, Nat.le_trans (hle _) b3⟩
    · intro r hr hf
      refine a5 r hr ?_
      by_cases g : r = q
      · subst g; exact hcq
      · rw [← ntC_n (c := c) (v := v) g]; exact hf
    · intro r hr hf
      have h1 : c r ≠ FARN := by
        by_cases g : r = q
        · subst g; exact hcq
        · rw [← ntC_n (c := c) (v := v) g]; exact hf
      exact Nat.le_trans (hle r) (a7 r hr h1)
/-- the end: all that is found is settled -/
theorem SInv.done {kn s C : Nat} {c fd : Nat → Nat} {n mo : Nat} (h : SInv kn s C c fd n mo) (hb : ∀ q, c q ≤ FARN) (hC : mo < C) : IsDist kn s c := by
  have hn := h.n_le
  obtain ⟨a1, a2, a3, a4, a5, a6, a7, a8, a9⟩ := h
  refine ⟨a1, fun p hp hf => ?_, fun p hp hf => a9 p hp (Nat.lt_of_le_of_lt (a7 p hp hf) hC), fun q hq hf => ?_⟩
  · have := a7 p hp hf; omega
  · rcases a8 q hq hf with h1 | ⟨p, t, b1, b2, b3, b4, b5, b6⟩
    · exact Or.inl h1
    · refine Or.inr ⟨p, t, b1, b2, ?_, b4, b5, b6⟩
      intro e
      have := a7 q hq hf
      rw [b6, e] at this
      unfold FARN at this
      omega
