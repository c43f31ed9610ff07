-- ===== Standing (two instances) =====
section STn
variable {w : Wd}
theorem am_forgetSeenn : ∃ w', A_X4n_forgetSeen 35 [.ref 15] w (none, w') ∧ Fr [15, 16] w w' ∧ (∀ f, f ≠ 5 → wI w' 15 f = wI w 15 f) ∧ wI w' 15 5 = 0 ∧ ∀ t, t < 5 → wA w' 16 t = 31 := by
  obtain ⟨g, hfill, hg⟩ := am_fill (w := sI w 15 5 0) (a := 16) (n := 5) (x := 31) rfl (by decide) (by decide)
  refine ⟨_, ai_X4n_forgetSeen (b_X4n_forgetSeen_0 hfill), (Fr.sI (by simp)).trans (Fr.sA (by simp)), fun f hf => ?_, rfl, fun t ht => ?_⟩
  · show (if 15 = 15 ∧ f = 5 then (0 : Int32) else w.1 15 f) = _
    rw [if_neg (fun q => hf q.2)]
  · rw [wA_sA_s]; exact hg t ht
theorem am_startn {x1 x2 x3 : Int32} : ∃ w', A_X4n_start 35 [.ref 15, .int x1, .int x2, .int x3] w (none, w') ∧ Fr [15, 16] w w' ∧ wI w' 15 0 = x1 ∧ wI w' 15 1 = x2 ∧ wI w' 15 2 = x3 ∧ wI w' 15 3 = 0 ∧ wI w' 15 4 = 0 ∧ wI w' 15 5 = 0 ∧ ∀ t, t < 5 → wA w' 16 t = 31 := by
  obtain ⟨w', ha, hF, h1, h2, h3⟩ := am_forgetSeenn (w := sI (sI (sI (sI (sI w 15 0 x1) 15 1 x2) 15 2 x3) 15 3 0) 15 4 0)
  exact ⟨w', ai_X4n_start (b_X4n_start_0 ha), (((((Fr.sI (by simp)).trans (Fr.sI (by simp))).trans (Fr.sI (by simp))).trans (Fr.sI (by simp))).trans (Fr.sI (by simp))).trans hF, h1 0 (by decide), h1 1 (by decide), h1 2 (by decide), h1 3 (by decide), h1 4 (by decide), h2, h3⟩
theorem am_copyn : ∃ w', A_X4n_copy 35 [.ref 15, .ref 17] w (none, w') ∧ Fr [15, 16] w w' ∧ (∀ f, f < 6 → wI w' 15 f = wI w 17 f) ∧ ∀ t, t < 5 → wA w' 16 t = wA w 18 t := by
  obtain ⟨w1, ha, hF, h0, h1, h2, -⟩ := am_startn (w := w) (x1 := wI w 17 0) (x2 := wI w 17 1) (x3 := wI w 17 2)
  have k17 : ∀ f, wI w1 17 f = wI w 17 f := fun f => hF.1 17 f (by decide)
  refine ⟨_, ai_X4n_copy (b_X4n_copy_0 ha), (((hF.trans (Fr.sI (by simp))).trans (Fr.sI (by simp))).trans (Fr.sI (by simp))).trans (Fr.sA (by simp)), fun f hf => ?_, fun t ht => ?_⟩
  · rcases (show f = 0 ∨ f = 1 ∨ f = 2 ∨ f = 3 ∨ f = 4 ∨ f = 5 by omega) with rfl | rfl | rfl | rfl | rfl | rfl
    · exact h0
    · exact h1
    · exact h2
    · exact k17 3
    · exact k17 4
    · exact k17 5
  · rw [wA_sA_s]
    have e5 : (5 : Int32).toNatClampNeg = 5 := by decide
    have e0 : (0 : Int32).toNatClampNeg = 0 := by decide
    rw [e0, e5, pk_cpy_in (by omega) (by omega)]
    have e : 0 + (t - 0) = t := by omega
    rw [e]
    exact congrFun (hF.2.2.2 18 (by decide)) t
end STn

-- ===== Standing (two instances) =====
section STk
variable {w : Wd}
theorem am_forgetSeenk : ∃ w', A_X4k_forgetSeen 35 [.ref 17] w (none, w') ∧ Fr [17, 18] w w' ∧ (∀ f, f ≠ 5 → wI w' 17 f = wI w 17 f) ∧ wI w' 17 5 = 0 ∧ ∀ t, t < 5 → wA w' 18 t = 31 := by
  obtain ⟨g, hfill, hg⟩ := am_fill (w := sI w 17 5 0) (a := 18) (n := 5) (x := 31) rfl (by decide) (by decide)
  refine ⟨_, ai_X4k_forgetSeen (b_X4k_forgetSeen_0 hfill), (Fr.sI (by simp)).trans (Fr.sA (by simp)), fun f hf => ?_, rfl, fun t ht => ?_⟩
  · show (if 17 = 17 ∧ f = 5 then (0 : Int32) else w.1 17 f) = _
    rw [if_neg (fun q => hf q.2)]
  · rw [wA_sA_s]; exact hg t ht
theorem am_startk {x1 x2 x3 : Int32} : ∃ w', A_X4k_start 35 [.ref 17, .int x1, .int x2, .int x3] w (none, w') ∧ Fr [17, 18] w w' ∧ wI w' 17 0 = x1 ∧ wI w' 17 1 = x2 ∧ wI w' 17 2 = x3 ∧ wI w' 17 3 = 0 ∧ wI w' 17 4 = 0 ∧ wI w' 17 5 = 0 ∧ ∀ t, t < 5 → wA w' 18 t = 31 := by
  obtain ⟨w', ha, hF, h1, h2, h3⟩ := am_forgetSeenk (w := sI (sI (sI (sI (sI w 17 0 x1) 17 1 x2) 17 2 x3) 17 3 0) 17 4 0)
  exact ⟨w', ai_X4k_start (b_X4k_start_0 ha), (((((Fr.sI (by simp)).trans (Fr.sI (by simp))).trans (Fr.sI (by simp))).trans (Fr.sI (by simp))).trans (Fr.sI (by simp))).trans hF, h1 0 (by decide), h1 1 (by decide), h1 2 (by decide), h1 3 (by decide), h1 4 (by decide), h2, h3⟩
theorem am_copyk : ∃ w', A_X4k_copy 35 [.ref 17, .ref 15] w (none, w') ∧ Fr [17, 18] w w' ∧ (∀ f, f < 6 → wI w' 17 f = wI w 15 f) ∧ ∀ t, t < 5 → wA w' 18 t = wA w 16 t := by
  obtain ⟨w1, ha, hF, h0, h1, h2, -⟩ := am_startk (w := w) (x1 := wI w 15 0) (x2 := wI w 15 1) (x3 := wI w 15 2)
  have k17 : ∀ f, wI w1 15 f = wI w 15 f := fun f => hF.1 15 f (by decide)
  refine ⟨_, ai_X4k_copy (b_X4k_copy_0 ha), (((hF.trans (Fr.sI (by simp))).trans (Fr.sI (by simp))).trans (Fr.sI (by simp))).trans (Fr.sA (by simp)), fun f hf => ?_, fun t ht => ?_⟩
  · rcases (show f = 0 ∨ f = 1 ∨ f = 2 ∨ f = 3 ∨ f = 4 ∨ f = 5 by omega) with rfl | rfl | rfl | rfl | rfl | rfl
    · exact h0
    · exact h1
    · exact h2
    · exact k17 3
    · exact k17 4
    · exact k17 5
  · rw [wA_sA_s]
    have e5 : (5 : Int32).toNatClampNeg = 5 := by decide
    have e0 : (0 : Int32).toNatClampNeg = 0 := by decide
    rw [e0, e5, pk_cpy_in (by omega) (by omega)]
    have e : 0 + (t - 0) = t := by omega
    rw [e]
    exact congrFun (hF.2.2.2 16 (by decide)) t
end STk
