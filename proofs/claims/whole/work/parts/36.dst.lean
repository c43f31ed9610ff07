theorem Fullh.dst {w : Wd} {kn k : Nat} {c fd : Nat → Nat} {n mo : Nat} (h : Fullh w kn k c fd n mo) (hk : k < 720) : Fullh w kn k (dsN kn k) fd n mo := by
  have hD := h.2.1
  obtain ⟨⟨r1, r2, r3, r4, r5, r6, r7⟩, -, hn, hfd, hex⟩ := h
  have e : ∀ q, q < 720 → dsN kn k q = c q := fun q hq => (dsN_eq hD hk q hq).symm
  refine ⟨⟨r1, r2, fun q hq => by rw [e q hq]; exact r3 q hq, r4, fun q => ?_, r6, r7⟩, dsN_ok hD hk, ?_, fun i hi => ⟨(hfd i hi).1, by rw [e _ (hfd i hi).1]; exact (hfd i hi).2⟩, fun q hq hf => hex q hq (by rw [← e q hq]; exact hf)⟩
  · by_cases hq : q < 720
    · rw [e q hq]; exact r5 q
    · exact Or.inl (by unfold dsN; rw [if_neg hq])
  · rw [hn]
    exact cnt_congr (fun q hq => by unfold fin; rw [e q hq])
theorem am_srchh {w : Wd} {k kn : Nat} {s : Sg} (h : RepC w s) (hk : k < 720) (hkn : KV kn) :
    ∃ w' fd n mo, A_X3h_searchFrom 35 [.ref 6, .int (nI k), .int (nI kn)] w (none, w') ∧ Fr [6, 7, 8] w w' ∧ RepC w' s ∧ Fullh w' kn k (dsN kn k) fd n mo := by
  have hkn := hkn.lt
  obtain ⟨w', c, fd, n, mo, ha, hF, h5, h6, hfull⟩ := am_searchh (w := w) (k := k) (kn := kn) h.1.1 hk (by omega) h.1.2.1
  exact ⟨w', fd, n, mo, ha, hF, h.sph hF hk (by omega) h5 h6 hfull, hfull.dst hk⟩

theorem Fullg.dst {w : Wd} {kn k : Nat} {c fd : Nat → Nat} {n mo : Nat} (h : Fullg w kn k c fd n mo) (hk : k < 720) : Fullg w kn k (dsN kn k) fd n mo := by
  have hD := h.2.1
  obtain ⟨⟨r1, r2, r3, r4, r5, r6, r7⟩, -, hn, hfd, hex⟩ := h
  have e : ∀ q, q < 720 → dsN kn k q = c q := fun q hq => (dsN_eq hD hk q hq).symm
  refine ⟨⟨r1, r2, fun q hq => by rw [e q hq]; exact r3 q hq, r4, fun q => ?_, r6, r7⟩, dsN_ok hD hk, ?_, fun i hi => ⟨(hfd i hi).1, by rw [e _ (hfd i hi).1]; exact (hfd i hi).2⟩, fun q hq hf => hex q hq (by rw [← e q hq]; exact hf)⟩
  · by_cases hq : q < 720
    · rw [e q hq]; exact r5 q
    · exact Or.inl (by unfold dsN; rw [if_neg hq])
  · rw [hn]
    exact cnt_congr (fun q hq => by unfold fin; rw [e q hq])
theorem am_srchg {w : Wd} {k kn : Nat} {s : Sg} (h : RepC w s) (hk : k < 720) (hkn : KV kn) :
    ∃ w' fd n mo, A_X3g_searchFrom 35 [.ref 9, .int (nI k), .int (nI kn)] w (none, w') ∧ Fr [9, 10, 11] w w' ∧ RepC w' s ∧ Fullg w' kn k (dsN kn k) fd n mo := by
  have hkn := hkn.lt
  obtain ⟨w', c, fd, n, mo, ha, hF, h5, h6, hfull⟩ := am_searchg (w := w) (k := k) (kn := kn) h.1.1 hk (by omega) h.1.2.2.1
  exact ⟨w', fd, n, mo, ha, hF, h.spg hF hk (by omega) h5 h6 hfull, hfull.dst hk⟩
