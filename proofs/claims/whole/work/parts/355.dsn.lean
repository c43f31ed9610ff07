-- ===== the least costs, beyond all lays too =====
noncomputable def dsN (kn s : Nat) : Nat → Nat := fun q => if q < 720 then dst kn s q else FARN
theorem dsN_eq {kn s : Nat} {c : Nat → Nat} (h : IsDist kn s c) (_hs : s < 720) (q : Nat) (hq : q < 720) : c q = dsN kn s q := by
  unfold dsN
  rw [if_pos hq]
  exact dst_eq h q hq
theorem dsN_ok {kn s : Nat} {c : Nat → Nat} (h : IsDist kn s c) (hs : s < 720) : IsDist kn s (dsN kn s) := by
  have e : ∀ q, q < 720 → dsN kn s q = c q := fun q hq => (dsN_eq h hs q hq).symm
  obtain ⟨a1, a2, a3, a4⟩ := h
  refine ⟨by rw [e s hs]; exact a1, fun p hp hf => by rw [e p hp] at hf ⊢; exact a2 p hp hf, fun p hp hf t ht hpr => ?_, fun q hq hf => ?_⟩
  · rw [e p hp] at hf ⊢
    rw [e _ (mv_lt hp ht)]
    exact a3 p hp hf t ht hpr
  · rw [e q hq] at hf ⊢
    rcases a4 q hq hf with h1 | ⟨p, t, b1, b2, b3, b4⟩
    · exact Or.inl h1
    · exact Or.inr ⟨p, t, b1, b2, by rw [e p b1]; exact b3, by rw [e p b1]; exact b4⟩
theorem dsN_le {kn s : Nat} (h : IsDist kn s (dsN kn s)) (q : Nat) : dsN kn s q ≤ FARN := by
  by_cases hq : q < 720
  · by_cases e : dsN kn s q = FARN
    · omega
    · have := h.2.1 q hq e
      unfold FARN; omega
  · unfold dsN
    rw [if_neg hq]
    omega
noncomputable def lsW (kn k t x : Nat) : Nat := by
  classical
  exact if h : ∃ v, IsLeast (dsN kn k) t x v then Classical.choose h else 0
theorem lsW_eq {kn k t x v : Nat} (hD : IsDist kn k (dsN kn k)) (h : IsLeast (dsN kn k) t x v) : v = lsW kn k t x := by
  have he : ∃ v, IsLeast (dsN kn k) t x v := ⟨v, h⟩
  unfold lsW
  rw [dif_pos he]
  exact IsLeast.uniq (fun _ _ => rfl) (fun q _ => dsN_le hD q) h (Classical.choose_spec he)
noncomputable def mxW (kn k : Nat) : Nat := by
  classical
  exact if h : ∃ v, IsMax (dsN kn k) v then Classical.choose h else 0
theorem mxW_eq {kn k v : Nat} (h : IsMax (dsN kn k) v) : v = mxW kn k := by
  have he : ∃ v, IsMax (dsN kn k) v := ⟨v, h⟩
  unfold mxW
  rw [dif_pos he]
  exact IsMax.uniq (fun _ _ => rfl) h (Classical.choose_spec he)
