-- ===== the reference's public methods: letter, blank, fault, tray, see, forget, image, restore, count =====
section MV
variable {w : Wd}
theorem MoR.eq2 {w w' : Wd} {u : CU} (h : MoR w u) (hi : ∀ f, f ∈ [1, 2, 4, 5, 7] → wI w' 22 f = wI w 22 f) (ha : ∀ a, a ∈ [23, 24, 25, 26] → wA w' a = wA w a) : MoR w' u := by
  obtain ⟨a1, a2, a3, a4, a5, a6, a7⟩ := h
  exact ⟨(hi 1 (by decide)).trans a1, (hi 2 (by decide)).trans a2, fun t ht => (congrFun (ha 23 (by decide)) t).trans (a3 t ht), (hi 4 (by decide)).trans a4, (hi 5 (by decide)).trans a5, (hi 7 (by decide)).trans a6, a7.eq (ha 24 (by decide)) (ha 25 (by decide)) (ha 26 (by decide))⟩
theorem NowM.eq2 {w w' : Wd} {n : Nat} {o : Option CU} (h : NowM w n o) (hi : ∀ f, f ∈ [1, 2, 4, 5, 7] → wI w' 22 f = wI w 22 f) (ha : ∀ a, a ∈ [23, 24, 25, 26] → wA w' a = wA w a) : NowM w' n o := by
  cases o with
  | none => exact ⟨h.1, (hi 4 (by decide)).trans h.2.1, (hi 5 (by decide)).trans h.2.2.1, (hi 7 (by decide)).trans h.2.2.2⟩
  | some u => exact ⟨h.1, h.2.1, h.2.2.eq2 hi ha⟩
theorem RepM.eq2 {w w' : Wd} {s : Sg} (h : RepM w s) (hi : ∀ f, f ∈ [0, 1, 2, 4, 5, 6, 7, 11, 18, 19, 20, 21, 22, 23, 24] → wI w' 22 f = wI w 22 f) (ha : ∀ a, a ∈ SL → wA w' a = wA w a) : RepM w' s := by
  obtain ⟨a1, a2, a3, a4, a5, a6⟩ := h
  exact ⟨(hi 0 (by decide)).trans a1, (hi 6 (by decide)).trans a2, a3, a4.eq (hi 11 (by decide)) (ha 27 (by decide)), a5.eq2 (fun f hf => hi f (by revert f; decide)) (fun a h => ha a (by revert a; decide)), a6.eq (fun f hf => hi f (by revert f; decide)) (fun a h => ha a (by revert a; decide))⟩
theorem nar_b : ∀ c, c < 127 → vp_nar .byte (nI c).toInt8.toInt32 = nI c := by decide +kernel
theorem am_m_letter {s : Sg} (h : RepM w s) (x : Int32) : ∃ w', A_X6_letter 35 [.ref 22, .int x] w (some (.int (rLetter s x).1), w') ∧ Fr ML w w' ∧ RepM w' (rLetter s x).2 := by
  unfold rLetter
  have far : bz (decide ((32 : Int32) ≤ x ∧ x ≤ 126)) = 0 → A_X6_letter 35 [.ref 22, .int x] w (some (.int (-102)), w) := fun e => ai_X6_letter (b_X6_letter_0 (am_within _ _ _) (fun q => absurd e q) (fun _ => b_X6_letter_11))
  rcases ix_cases x (n := 127) (by decide) with ⟨e, h1⟩ | ⟨c, hc, rfl, e⟩
  · rw [e]
    refine ⟨w, far ?_, Fr.refl _ _, h⟩
    have : ¬ ((32 : Int32) ≤ x ∧ x ≤ 126) := fun q => h1.elim (fun h1 => Int32.not_lt.mpr (Int32.le_trans (by decide) q.1) h1) (fun h1 => nI_leOf (n := 126) h1 (by decide) q.2)
    simp [bz, this]
  · rw [e]
    dsimp only
    by_cases h32 : c < 32
    · rw [if_pos h32]
      refine ⟨w, far ?_, Fr.refl _ _, h⟩
      have : ¬ ((32 : Int32) ≤ nI c) := fun q => absurd (nle (a := 32) q (by omega) (by omega)) (by omega)
      simp [bz, this]
    · rw [if_neg h32]
      have hin : bz (decide ((32 : Int32) ≤ nI c ∧ nI c ≤ 126)) = 1 := by
        have a : (32 : Int32) ≤ nI c := nI_le (a := 32) (by omega) (by omega)
        have b : nI c ≤ 126 := nI_le (b := 126) (by omega) (by omega)
        simp [bz, a, b]
      have ent : ∀ {r}, Z_X6_letter 35 14 [some (.ref 22), some (.int (nI c))] [] w r → A_X6_letter 35 [.ref 22, .int (nI c)] w r := fun z => ai_X6_letter (b_X6_letter_0 (am_within _ _ _) (fun _ => z) (fun q => absurd (hin.symm.trans q) (by decide)))
      obtain ⟨a1, a2, a3, ⟨q1, q2, q3, q4⟩, a5, a6⟩ := h
      by_cases hl : 22 ≤ (gP s).length
      · rw [if_pos hl]
        exact ⟨w, ent (b_X6_letter_14 (fun e => absurd (by rw [q2, show (gP s).length = 22 by omega]; rfl) e) (fun _ => b_X6_letter_23)), Fr.refl _ _, ⟨a1, a2, a3, ⟨q1, q2, q3, q4⟩, a5, a6⟩⟩
      · rw [if_neg hl]
        have hz := b_X6_letter_26 (w := w) (x1 := nI c) (by rw [q2]; exact vp_in_nI (by omega) (by omega))
        rw [nar_b c hc] at hz
        have e5 : wI w 22 11 + 1 = nI ((gP s).length + 1) := by rw [q2, nI_1]
        have hcl : (wI w 22 11).toNatClampNeg = (gP s).length := by rw [q2, nI_clamp (by omega)]
        rw [hcl, e5] at hz
        have hf : ∀ f, f ≠ 11 → wI (sI (sA w 27 (upd (wA w 27) (gP s).length (nI c))) 22 11 (nI ((gP s).length + 1))) 22 f = wI w 22 f := fun f hf => wI_sI_o (fun q => hf q.2)
        have ha : ∀ a, a ≠ 27 → wA (sI (sA w 27 (upd (wA w 27) (gP s).length (nI c))) 22 11 (nI ((gP s).length + 1))) a = wA w a := fun a ha => wA_sA_n ha
        refine ⟨_, ent (b_X6_letter_14 (fun _ => hz) (fun e => False.elim (by rw [q2] at e; have := neq (b := 22) e (by omega) (by omega); omega))), (Fr.sA (T := ML) (by decide)).trans (Fr.sI (by decide)), (hf 0 (by decide)).trans a1, (hf 6 (by decide)).trans a2, a3, ⟨?_, ?_, ?_, ?_⟩, a5.eq2 (fun f h => hf f (by rintro rfl; revert h; decide)) (fun a h => ha a (by rintro rfl; revert h; decide)), a6.eq (fun f h => hf f (by rintro rfl; revert h; decide)) (fun a h => ha a (by rintro rfl; revert h; decide))⟩
        · show (gP s ++ [c]).length ≤ 22
          rw [List.length_append]; simp; omega
        · show nI ((gP s).length + 1) = nI (gP s ++ [c]).length
          rw [List.length_append]; rfl
        · intro i hi
          show wA (sA w 27 (upd (wA w 27) (gP s).length (nI c))) 27 i = nI (atC (gP s ++ [c]) i)
          rw [wA_sA_s]
          rw [List.length_append] at hi
          by_cases e : i = (gP s).length
          · rw [e, pk_us, atC_last]
          · have hi2 : i < (gP s).length := by simp at hi; omega
            rw [pk_un e, atC_snoc hi2]
            exact q3 i hi2
        · intro i hi
          show 32 ≤ atC (gP s ++ [c]) i ∧ atC (gP s ++ [c]) i ≤ 126
          rw [List.length_append] at hi
          by_cases e : i = (gP s).length
          · rw [e, atC_last]; omega
          · have hi2 : i < (gP s).length := by simp at hi; omega
            rw [atC_snoc hi2]
            exact q4 i hi2
theorem am_m_blank {s : Sg} (h : RepM w s) : ∃ w', A_X6_blank 35 [.ref 22] w (some (.int (rBlank s).1), w') ∧ Fr ML w w' ∧ RepM w' (rBlank s).2 := by
  obtain ⟨a1, a2, a3, ⟨q1, q2, q3, q4⟩, a5, a6⟩ := h
  refine ⟨sI w 22 11 0, ?_, Fr.sI (by decide), a1, a2, a3, ⟨Nat.zero_le _, rfl, fun i hi => absurd hi (Nat.not_lt_zero _), fun i hi => absurd hi (Nat.not_lt_zero _)⟩, a5.eq2 (fun f hf => wI_sI_o (by rintro ⟨-, rfl⟩; revert hf; decide)) (fun _ _ => rfl), a6.eq (fun f hf => wI_sI_o (by rintro ⟨-, rfl⟩; revert hf; decide)) (fun _ _ => rfl)⟩
  show A_X6_blank 35 _ w (some (.int (nI (gP s).length)), _)
  rw [← q2]
  exact ai_X6_blank b_X6_blank_0
theorem RepM.i13 {s : Sg} (h : RepM w s) (v : Int32) : RepM (sI w 22 13 v) s := h.eq2 (fun f hf => wI_sI_o (by rintro ⟨-, rfl⟩; revert hf; decide)) (fun _ _ => rfl)
theorem am_m_fault {s : Sg} (h : RepM w s) : ∃ w', A_X6_fault 35 [.ref 22] w (some (.int (rFault s)), w') ∧ Fr ML w w' ∧ RepM w' s := by
  obtain ⟨v, ha, -⟩ := am_mread h.2.2.2.1
  exact ⟨sI w 22 13 v, ai_X6_fault (b_X6_fault_0 ha), Fr.sI (by decide), h.i13 v⟩
theorem kd_kpN {pg : List Nat} (hk : ∀ i, i < 5 → kLn (atC pg (7 + i)) < 5) {t : Nat} (ht : t < 5) : kd (kpN pg 5) t = kLn (atC pg (7 + t)) := by
  have h := kd_kn5 (hk 0 (by omega)) (hk 1 (by omega)) (hk 2 (by omega)) (hk 3 (by omega)) (hk 4 (by omega))
  rcases (show t = 0 ∨ t = 1 ∨ t = 2 ∨ t = 3 ∨ t = 4 by omega) with rfl | rfl | rfl | rfl | rfl
  · exact h.1
  · exact h.2.1
  · exact h.2.2.1
  · exact h.2.2.2.1
  · exact h.2.2.2.2
theorem am_m_tray {s : Sg} (h : RepM w s) (hb : gT s < 1000000) : ∃ w', A_X6_tray 35 [.ref 22] w (some (.int (rTray s).1), w') ∧ Fr ML w w' ∧ RepM w' (rTray s).2 := by
  obtain ⟨v, hrd, hv⟩ := am_mread h.2.2.2.1
  have h13 : wI (sI w 22 13 v) 22 13 = v := rfl
  have hR1 := h.i13 v
  unfold rTray
  by_cases hw : (gP s).length = 19 ∧ fwN (gP s) = 19
  · rw [if_pos hw]
    obtain ⟨h19, hw⟩ := hw
    have hv1 : ¬ v = 0 := by rw [hv]; unfold whB; rw [hw, h19]; decide
    have hfit := fwF_spec (gP s) 19 0 rfl hw
    have n0 : ∀ c, c < 6 → newA (gP s) 0 (0 + c) = true := fun c hc => by
      have := hfit (0 + c) (by omega) (by omega)
      unfold fitA at this
      rw [if_neg (by omega), if_neg (by omega), if_pos (by omega)] at this
      exact this
    have n13 : ∀ c, c < 6 → newA (gP s) 13 (13 + c) = true := fun c hc => by
      have := hfit (13 + c) (by omega) (by omega)
      unfold fitA at this
      rw [if_neg (by omega), if_pos (by omega)] at this
      exact this
    have nk : ∀ i, i < 5 → kLn (atC (gP s) (7 + i)) < 5 := fun i hi => by
      have := hfit (7 + i) (by omega) (by omega)
      unfold fitA at this
      rw [if_neg (by omega), if_neg (by omega), if_neg (by omega), if_neg (by omega)] at this
      have h5 := kLn_le (atC (gP s) (7 + i))
      have h6 : kLn (atC (gP s) (7 + i)) ≠ 5 := by simpa using this
      omega
    obtain ⟨k1, k2⟩ := layOf_ok n0
    obtain ⟨g1, g2⟩ := layOf_ok n13
    obtain ⟨a1, a2, a3, a4, a5, a6⟩ := hR1
    have hf0 : ∀ x y : Int32, ∀ f, f ≠ 1 → f ≠ 2 → wI (sI (sI (sI w 22 13 v) 22 1 x) 22 2 y) 22 f = wI (sI w 22 13 v) 22 f := fun x y f e1 e2 => by rw [wI_sI_o (fun q => e2 q.2), wI_sI_o (fun q => e1 q.2)]
    have hc1 := am_cellsAt (w := sI w 22 13 v) (a := 0) (j := layOf (gP s) 0) a4 (by omega) k1 k2
    have hc2 := am_cellsAt (w := sI (sI w 22 13 v) 22 1 (nI (tr (layOf (gP s) 0)))) (a := 13) (j := layOf (gP s) 13) (a4.eq (wI_sI_o (by decide)) rfl) (by omega) g1 g2
    obtain ⟨W0, hW0⟩ : ∃ W0, W0 = sI (sI (sI w 22 13 v) 22 1 (nI (tr (layOf (gP s) 0)))) 22 2 (nI (tr (layOf (gP s) 13))) := ⟨_, rfl⟩
    have w01 : wI W0 22 1 = nI (tr (layOf (gP s) 0)) := by rw [hW0]; rfl
    have w02 : wI W0 22 2 = nI (tr (layOf (gP s) 13)) := by rw [hW0]; rfl
    have w0f : ∀ f, f ≠ 1 → f ≠ 2 → wI W0 22 f = wI (sI w 22 13 v) 22 f := fun f e1 e2 => by rw [hW0]; exact hf0 _ _ f e1 e2
    have w0a : ∀ a, wA W0 a = wA (sI w 22 13 v) a := fun a => by rw [hW0]; rfl
    have hFr0 : Fr ML w W0 := by rw [hW0]; exact ((Fr.sI (by decide)).trans (Fr.sI (by decide))).trans (Fr.sI (by decide))
    have hP0 : PgM W0 (gP s) := a4.eq (w0f 11 (by decide) (by decide)) (w0a 27)
    have loop : ∀ d n, n + d = 5 → ∀ Wn, Fr [23] W0 Wn → (∀ t, t < n → wA Wn 23 t = nI (kLn (atC (gP s) (7 + t)))) → ∃ W5, Fr [23] W0 W5 ∧ (∀ t, t < 5 → wA W5 23 t = nI (kLn (atC (gP s) (7 + t)))) ∧ ∀ r, Z_X6_tray 35 65 [some (.ref 22), some (.int 5)] [] W5 r → Z_X6_tray 35 36 [some (.ref 22), some (.int (nI n))] [] Wn r := by
      intro d
      induction d with
      | zero =>
        intro n hn Wn hF hk
        have hn : n = 5 := by omega
        subst hn
        exact ⟨Wn, hF, hk, fun r z => b_X6_tray_36 (fun _ => z) (fun e => absurd (show (5 : Int32) ≤ nI 5 from nI_le (a := 5) (by omega) (by omega)) e)⟩
      | succ d ih =>
        intro n hn Wn hF hk
        have hPn : PgM Wn (gP s) := hP0.eq (hF.1 22 11 (by decide)) (hF.2.2.2 27 (by decide))
        have hx : (7 : Int32) + nI n = nI (7 + n) := by rw [show (7 : Int32) = nI 7 from rfl, nI_add]
        have hval : wA Wn 27 ((7 : Int32) + nI n).toNatClampNeg = nI (atC (gP s) (7 + n)) := by
          rw [hx, nI_clamp (by omega)]; exact hPn.2.2.1 (7 + n) (by omega)
        have hkb := am_kindBy (w := Wn) (c := atC (gP s) (7 + n)) (by have := atC_lt hPn (7 + n); omega)
        have hk5 := nk n (by omega)
        have es : sgnN (kLn (atC (gP s) (7 + n))) = nI (kLn (atC (gP s) (7 + n))) := by unfold sgnN; rw [if_neg (by omega)]
        rw [es] at hkb
        obtain ⟨W5, hF5, hk5', hz⟩ := ih (n + 1) (by omega) (sA Wn 23 (upd (wA Wn 23) n (nI (kLn (atC (gP s) (7 + n)))))) (hF.trans (Fr.sA (by simp))) (fun t ht => by
          rw [wA_sA_s]
          by_cases e : t = n
          · subst e; rw [pk_us]
          · rw [pk_un e]; exact hk t (by omega))
        refine ⟨W5, hF5, hk5', fun r z => b_X6_tray_36 (fun e => absurd (nle (a := 5) e (by omega) (by omega)) (by omega)) (fun _ => b_X6_tray_41 (by rw [hx]; exact vp_in_nI (by omega) (by omega)) (by rw [hval]; exact hkb) (vp_in_nI (by omega) (by omega)) ?_)⟩
        rw [nI_clamp (by omega), nI_1]
        exact hz r z
    obtain ⟨W5, hF5, hk5, hz⟩ := loop 5 0 rfl W0 (Fr.refl _ _) (fun t ht => absurd ht (Nat.not_lt_zero _))
    have f5 : ∀ f, wI W5 22 f = wI W0 22 f := fun f => hF5.1 22 f (by decide)
    have a5' : ∀ a, a ≠ 23 → wA W5 a = wA W0 a := fun a ha => hF5.2.2.2 a (by simpa using ha)
    have t0 : wI W5 22 0 + 1 = nI (gT s + 1) := by rw [f5, w0f 0 (by decide) (by decide), a1, nI_1]
    obtain ⟨W6, hW6⟩ : ∃ W6, W6 = sI (sI (sI (sI (sI W5 22 4 0) 22 5 0) 22 0 ((wI W5 22 0) + 1)) 22 7 0) 22 11 0 := ⟨_, rfl⟩
    have f6 : ∀ f, f ≠ 4 → f ≠ 5 → f ≠ 0 → f ≠ 7 → f ≠ 11 → wI W6 22 f = wI W5 22 f := fun f e4 e5 e0 e7 e11 => by
      rw [hW6, wI_sI_o (fun q => e11 q.2), wI_sI_o (fun q => e7 q.2), wI_sI_o (fun q => e0 q.2), wI_sI_o (fun q => e5 q.2), wI_sI_o (fun q => e4 q.2)]
    have g6 : ∀ a, wA W6 a = wA W5 a := fun a => by rw [hW6]; rfl
    have h61 : wI W6 22 1 = nI (tr (layOf (gP s) 0)) := by rw [f6 1 (by decide) (by decide) (by decide) (by decide) (by decide), f5, w01]
    have hF6 : Fr ML w W6 := by rw [hW6]; exact (((((hFr0.trans (hF5.mono (by decide))).trans (Fr.sI (by decide))).trans (Fr.sI (by decide))).trans (Fr.sI (by decide))).trans (Fr.sI (by decide))).trans (Fr.sI (by decide))
    refine ⟨W6, ?_, hF6, ?_⟩
    · refine ai_X6_tray (b_X6_tray_0 hrd (fun _ => b_X6_tray_15 hc1 hc2 ?_) (fun e => absurd e hv1))
      rw [← hW0]
      refine hz _ (b_X6_tray_65 ?_)
      rw [← hW6, f5, w01]
      exact am_whereIs (s := 5) k1 (by omega)
    · refine ⟨?_, ?_, a3, ⟨Nat.zero_le _, ?_, fun i hi => absurd hi (Nat.not_lt_zero _), fun i hi => absurd hi (Nat.not_lt_zero _)⟩, ⟨Nat.succ_ne_zero _, ⟨k1, g1, kpN_KV nk 5, Nat.zero_le _, Nat.zero_le _, fun e he => by cases he⟩, h61, ?_, ?_, ?_, ?_, ?_, ?_⟩, ?_⟩
      · rw [hW6]; exact t0
      · rw [f6 6 (by decide) (by decide) (by decide) (by decide) (by decide), f5, w0f 6 (by decide) (by decide)]; exact a2
      · rw [hW6]; rfl
      · rw [f6 2 (by decide) (by decide) (by decide) (by decide) (by decide), f5, w02]
      · intro t ht
        show wA W6 23 t = nI (kd (kpN (gP s) 5) t)
        rw [kd_kpN nk ht, g6]
        exact hk5 t ht
      · rw [hW6]; rfl
      · rw [hW6]; rfl
      · rw [hW6]; rfl
      · intro i e he; cases he
      · show wI W6 22 18 = 0 ∨ ∃ j, j < gT s + 1 ∧ wI W6 22 19 = nI j
        have e18 : wI W6 22 18 = wI (sI w 22 13 v) 22 18 := by rw [f6 18 (by decide) (by decide) (by decide) (by decide) (by decide), f5, w0f 18 (by decide) (by decide)]
        have e19 : wI W6 22 19 = wI (sI w 22 13 v) 22 19 := by rw [f6 19 (by decide) (by decide) (by decide) (by decide) (by decide), f5, w0f 19 (by decide) (by decide)]
        rw [e18, e19]
        cases hi : gI s with
        | none =>
          rw [hi] at a6
          rcases a6 with a6 | ⟨j, j1, j2⟩
          · exact Or.inl a6
          · exact Or.inr ⟨j, by omega, j2⟩
        | some u =>
          rw [hi] at a6
          exact Or.inr ⟨gT s, by omega, a6.2.1⟩
  · rw [if_neg hw]
    have hv0 : v = 0 := by
      rw [hv]
      have : whB (gP s) = false := by
        unfold whB
        by_cases e : fwN (gP s) = 19
        · have e2 : ¬ (gP s).length = 19 := fun q => hw ⟨q, e⟩
          have : ((gP s).length == 19) = false := by simpa using e2
          rw [this, Bool.and_false]
        · have : (fwN (gP s) == 19) = false := by simpa using e
          rw [this, Bool.false_and]
      rw [this]; rfl
    exact ⟨sI w 22 13 v, ai_X6_tray (b_X6_tray_0 hrd (fun e => absurd hv0 e) (fun _ => b_X6_tray_12)), Fr.sI (by decide), hR1⟩
theorem am_m_see {s : Sg} (h : RepM w s) (hb : gT s < 1000000) (x y z : Int32) : ∃ w', A_X6_see 35 [.ref 22, .int x, .int y, .int z] w (some (.int (rSee s x y z).1), w') ∧ Fr ML w w' ∧ RepM w' (rSee s x y z).2 := by
  have hT := am_misTile h hb x
  unfold rSee
  cases hc : gC s with
  | none =>
    rw [hc] at hT
    exact ⟨w, ai_X6_see (b_X6_see_0 hT (fun q => absurd rfl q) (fun _ => b_X6_see_8)), Fr.refl _ _, h⟩
  | some u =>
    rw [hc] at hT
    obtain ⟨t1, t2, t3, ⟨u1, u2, u3, u4, u5⟩, m1, m2, m3, m4, m5, m6, m7⟩ := h.ts hb hc
    rcases ix_cases x (n := 5) (by decide) with ⟨e, -⟩ | ⟨t, ht, rfl, e⟩
    · rw [e] at hT ⊢
      exact ⟨w, ai_X6_see (b_X6_see_0 hT (fun q => absurd rfl q) (fun _ => b_X6_see_8)), Fr.refl _ _, h⟩
    · rw [e] at hT ⊢
      rcases ix_cases y (n := 2) (by decide) with ⟨e2, h2⟩ | ⟨a, ha, rfl, e2⟩
      · rw [e2]
        exact ⟨w, ai_X6_see (b_X6_see_0 hT (fun _ => b_X6_see_11 (am_within _ _ _) (fun _ => b_X6_see_29) (fun e => absurd (wi0 (n := 1) h2 (by decide)) e)) (fun q => absurd q b1)), Fr.refl _ _, h⟩
      · rw [e2]
        have w2 := wi1 (n := 1) ha (by decide)
        rcases ix_cases z (n := 4) (by decide) with ⟨e3, h3⟩ | ⟨b, hb, rfl, e3⟩
        · rw [e3]
          exact ⟨w, ai_X6_see (b_X6_see_0 hT (fun _ => b_X6_see_11 (am_within _ _ _) (fun e => absurd (w2.symm.trans e) (by decide)) (fun _ => b_X6_see_20 (am_within _ _ _) (fun e => absurd (wi0 (n := 3) h3 (by decide)) e) (fun _ => b_X6_see_29))) (fun q => absurd q b1)), Fr.refl _ _, h⟩
        · rw [e3]
          have w3 := wi1 (n := 3) hb (by decide)
          have ent : ∀ {r}, Z_X6_see 35 32 [some (.ref 22), some (.int (nI t)), some (.int (nI a)), some (.int (nI b))] [] w r → A_X6_see 35 [.ref 22, .int (nI t), .int (nI a), .int (nI b)] w r := fun z => ai_X6_see (b_X6_see_0 hT (fun _ => b_X6_see_11 (am_within _ _ _) (fun e => absurd (w2.symm.trans e) (by decide)) (fun _ => b_X6_see_20 (am_within _ _ _) (fun _ => z) (fun e => absurd (w3.symm.trans e) (by decide)))) (fun q => absurd q b1))
          dsimp only
          have hl6 := u5.1
          by_cases h6 : 6 ≤ (cS u).length
          · rw [if_pos h6]
            exact ⟨w, ent (b_X6_see_32 (fun e => absurd (by rw [m6, show (cS u).length = 6 by omega]; rfl) e) (fun _ => b_X6_see_41)), Fr.refl _ _, h⟩
          · rw [if_neg h6]
            have hin : vp_in (wI w 22 7) 6 := by rw [m6]; exact vp_in_nI (by omega) (by omega)
            have hz := b_X6_see_44 (w := w) (x1 := nI t) (x2 := nI a) (x3 := nI b) hin hin hin
            have hcl : (wI w 22 7).toNatClampNeg = (cS u).length := by rw [m6, nI_clamp (by omega)]
            have e5 : wI w 22 7 + 1 = nI ((cS u).length + 1) := by rw [m6, nI_1]
            rw [hcl, e5] at hz
            obtain ⟨W, hW⟩ : ∃ W, W = sI (sA (sA (sA w 24 (upd (wA w 24) (cS u).length (nI t))) 25 (upd (wA w 25) (cS u).length (nI a))) 26 (upd (wA w 26) (cS u).length (nI b))) 22 7 (nI ((cS u).length + 1)) := ⟨_, rfl⟩
            have g24 : wA W 24 = upd (wA w 24) (cS u).length (nI t) := by
              rw [hW]; show wA (sA (sA (sA w 24 _) 25 _) 26 _) 24 = _
              rw [wA_sA_n (by decide), wA_sA_n (by decide), wA_sA_s]
            have g25 : wA W 25 = upd (wA w 25) (cS u).length (nI a) := by
              rw [hW]; show wA (sA (sA (sA w 24 _) 25 _) 26 _) 25 = _
              rw [wA_sA_n (by decide), wA_sA_s]
            have g26 : wA W 26 = upd (wA w 26) (cS u).length (nI b) := by
              rw [hW]; show wA (sA (sA (sA w 24 _) 25 _) 26 _) 26 = _
              rw [wA_sA_s]
            have go : ∀ a, a ≠ 24 → a ≠ 25 → a ≠ 26 → wA W a = wA w a := fun a h1 h2 h3 => by
              rw [hW]; show wA (sA (sA (sA w 24 _) 25 _) 26 _) a = _
              rw [wA_sA_n h3, wA_sA_n h2, wA_sA_n h1]
            have gf : ∀ f, f ≠ 7 → wI W 22 f = wI w 22 f := fun f hf => by
              rw [hW]; exact wI_sI_o (fun q => hf q.2)
            have hFW : Fr ML w W := by rw [hW]; exact (((Fr.sA (by decide)).trans (Fr.sA (by decide))).trans (Fr.sA (by decide))).trans (Fr.sI (by decide))
            refine ⟨W, by rw [hW]; exact ent (b_X6_see_32 (fun _ => hz) (fun e => False.elim (by rw [m6] at e; have := neq (b := 6) e (by omega) (by omega); omega))), hFW, h.put (fun f hf => gf f (by rintro rfl; revert hf; decide)) (fun a h => go a (by rintro rfl; revert h; decide) (by rintro rfl; revert h; decide) (by rintro rfl; revert h; decide)) t3 (u := (cK u, cG u, cN u, cP u, cC u, cS u ++ [(t, a, b)])) ⟨u1, u2, u3, u4, ?_, ?_⟩ ⟨(gf 1 (by decide)).trans m1, (gf 2 (by decide)).trans m2, fun i hi => (congrFun (go 23 (by decide) (by decide) (by decide)) i).trans (m3 i hi), (gf 4 (by decide)).trans m4, (gf 5 (by decide)).trans m5, ?_, ?_⟩⟩
            · show (cS u ++ [(t, a, b)]).length ≤ 6
              rw [List.length_append]
              simp; omega
            · intro e he
              rcases List.mem_append.mp he with he | he
              · exact u5.2 e he
              · rw [List.mem_singleton] at he
                subst he
                exact ⟨ht, ha, hb⟩
            · show wI W 22 7 = nI (cS u ++ [(t, a, b)]).length
              rw [List.length_append, hW]
              rfl
            · intro i e he
              have he : (cS u ++ [(t, a, b)])[i]? = some e := he
              rw [g24, g25, g26]
              by_cases hi : i < (cS u).length
              · rw [List.getElem?_append_left hi] at he
                have hne : i ≠ (cS u).length := by omega
                rw [pk_un hne, pk_un hne, pk_un hne]
                exact m7 i e he
              · rw [List.getElem?_append_right (by omega)] at he
                have hi0 : i - (cS u).length = 0 := by
                  rcases Nat.eq_zero_or_pos (i - (cS u).length) with h0 | h0
                  · exact h0
                  · rw [List.getElem?_eq_none (by simp; omega)] at he; cases he
                rw [hi0] at he
                have hie : i = (cS u).length := by omega
                cases he
                rw [hie, pk_us, pk_us, pk_us]
                exact ⟨rfl, rfl, rfl⟩
theorem am_m_forget {s : Sg} (h : RepM w s) (hb : gT s < 1000000) : ∃ w', A_X6_forget 35 [.ref 22] w (some (.int (rForget s).1), w') ∧ Fr ML w w' ∧ RepM w' (rForget s).2 := by
  have gf : ∀ f, f ≠ 7 → wI (sI w 22 7 0) 22 f = wI w 22 f := fun f hf => wI_sI_o (fun q => hf q.2)
  have hz := ai_X6_forget (b_X6_forget_0 (w := w))
  unfold rForget
  cases hc : gC s with
  | none =>
    obtain ⟨a1, a2, a3, a4, a5, a6⟩ := h
    rw [hc] at a5
    rw [a5.2.2.2] at hz
    refine ⟨_, hz, Fr.sI (by decide), a1, a2, a3, a4.eq (gf 11 (by decide)) rfl, ?_, a6.eq (fun f hf => gf f (by rintro rfl; revert hf; decide)) (fun _ _ => rfl)⟩
    rw [hc]
    exact ⟨a5.1, a5.2.1, a5.2.2.1, rfl⟩
  | some u =>
    obtain ⟨t1, t2, t3, ⟨u1, u2, u3, u4, u5⟩, m1, m2, m3, m4, m5, m6, m7⟩ := h.ts hb hc
    rw [m6] at hz
    exact ⟨_, hz, Fr.sI (by decide), h.put (fun f hf => gf f (by rintro rfl; revert hf; decide)) (fun _ _ => rfl) t3 (u := (cK u, cG u, cN u, cP u, cC u, [])) ⟨u1, u2, u3, u4, Nat.zero_le _, fun e he => by cases he⟩ ⟨m1, m2, m3, m4, m5, rfl, fun i e he => by cases he⟩⟩
theorem SnR.len {a b c : Nat} {w : Wd} {sn : List (Nat × Nat × Nat)} (hl : sn.length ≤ 6) {a2 b2 c2 : Nat} {w' : Wd} (h : SnR a b c w sn) (h1 : ∀ i, i < 6 → wA w' a2 i = wA w a i) (h2 : ∀ i, i < 6 → wA w' b2 i = wA w b i) (h3 : ∀ i, i < 6 → wA w' c2 i = wA w c i) : SnR a2 b2 c2 w' sn := by
  intro i e he
  have hi : i < 6 := by have := (List.getElem?_eq_some_iff.mp he).1; omega
  rw [h1 i hi, h2 i hi, h3 i hi]
  exact h i e he
theorem am_m_image {s : Sg} (h : RepM w s) (hb : gT s < 1000000) : ∃ w', A_X6_image 35 [.ref 22] w (some (.int (rImage s).1), w') ∧ Fr ML w w' ∧ RepM w' (rImage s).2 := by
  unfold rImage
  cases hc : gC s with
  | none => exact ⟨w, ai_X6_image (b_X6_image_0 (fun e => absurd (h.tn hc) e) (fun _ => b_X6_image_7)), Fr.refl _ _, h⟩
  | some u =>
    obtain ⟨t1, t2, t3, hu, m1, m2, m3, m4, m5, m6, m7⟩ := h.ts hb hc
    obtain ⟨W0, hW0⟩ : ∃ W0, W0 = sI (sI (sI (sI (sI (sI (sI w 22 18 1) 22 19 (wI w 22 0)) 22 20 (wI w 22 1)) 22 21 (wI w 22 2)) 22 22 (wI w 22 4)) 22 23 (wI w 22 5)) 22 24 (wI w 22 7) := ⟨_, rfl⟩
    have f0 : ∀ f, f < 18 → wI W0 22 f = wI w 22 f := fun f hf => by
      rw [hW0, wI_sI_o (by omega), wI_sI_o (by omega), wI_sI_o (by omega), wI_sI_o (by omega), wI_sI_o (by omega), wI_sI_o (by omega), wI_sI_o (by omega)]
    have a0 : ∀ a, wA W0 a = wA w a := fun a => by rw [hW0]; rfl
    have hF0 : Fr ML w W0 := by rw [hW0]; exact ((((((Fr.sI (by decide)).trans (Fr.sI (by decide))).trans (Fr.sI (by decide))).trans (Fr.sI (by decide))).trans (Fr.sI (by decide))).trans (Fr.sI (by decide))).trans (Fr.sI (by decide))
    have loop1 : ∀ d n, n + d = 5 → ∀ Wn, Fr [31] W0 Wn → (∀ t, t < n → wA Wn 31 t = wA W0 23 t) → ∃ W5, Fr [31] W0 W5 ∧ (∀ t, t < 5 → wA W5 31 t = wA W0 23 t) ∧ ∀ r, Z_X6_image 35 88 [some (.ref 22), some (.int (nI 5))] [] W5 r → Z_X6_image 35 65 [some (.ref 22), some (.int (nI n))] [] Wn r := by
      intro d
      induction d with
      | zero =>
        intro n hn Wn hF hk
        have hn : n = 5 := by omega
        subst hn
        exact ⟨Wn, hF, hk, fun r z => b_X6_image_65 (fun _ => z) (fun e => absurd (show (5 : Int32) ≤ nI 5 from nI_le (a := 5) (by omega) (by omega)) e)⟩
      | succ d ih =>
        intro n hn Wn hF hk
        obtain ⟨W5, hF5, hk5, hz⟩ := ih (n + 1) (by omega) (sA Wn 31 (upd (wA Wn 31) n (wA Wn 23 n))) (hF.trans (Fr.sA (by simp))) (fun t ht => by
          rw [wA_sA_s]
          by_cases e : t = n
          · subst e; rw [pk_us]; exact congrFun (hF.2.2.2 23 (by decide)) t
          · rw [pk_un e]; exact hk t (by omega))
        refine ⟨W5, hF5, hk5, fun r z => b_X6_image_65 (fun e => absurd (nle (a := 5) e (by omega) (by omega)) (by omega)) (fun _ => b_X6_image_70 (vp_in_nI (by omega) (by omega)) (vp_in_nI (by omega) (by omega)) ?_)⟩
        rw [nI_clamp (by omega), nI_1]
        exact hz r z
    obtain ⟨W5, hF5, hk5, hz5⟩ := loop1 5 0 rfl W0 (Fr.refl _ _) (fun t ht => absurd ht (Nat.not_lt_zero _))
    have loop2 : ∀ d n, n + d = 6 → ∀ Wn, Fr [32, 33, 34] W5 Wn → (∀ t, t < n → wA Wn 32 t = wA W5 24 t ∧ wA Wn 33 t = wA W5 25 t ∧ wA Wn 34 t = wA W5 26 t) → ∃ W6, Fr [32, 33, 34] W5 W6 ∧ (∀ t, t < 6 → wA W6 32 t = wA W5 24 t ∧ wA W6 33 t = wA W5 25 t ∧ wA W6 34 t = wA W5 26 t) ∧ ∀ r, Z_X6_image 35 138 [some (.ref 22), some (.int (nI 6))] [] W6 r → Z_X6_image 35 90 [some (.ref 22), some (.int (nI n))] [] Wn r := by
      intro d
      induction d with
      | zero =>
        intro n hn Wn hF hk
        have hn : n = 6 := by omega
        subst hn
        exact ⟨Wn, hF, hk, fun r z => b_X6_image_90 (fun _ => z) (fun e => absurd (show (6 : Int32) ≤ nI 6 from nI_le (a := 6) (by omega) (by omega)) e)⟩
      | succ d ih =>
        intro n hn Wn hF hk
        have hin : vp_in (nI n) 6 := vp_in_nI (by omega) (by omega)
        have c4 : wA Wn 24 = wA W5 24 := hF.2.2.2 24 (by decide)
        have c5 : wA Wn 25 = wA W5 25 := hF.2.2.2 25 (by decide)
        have c6 : wA Wn 26 = wA W5 26 := hF.2.2.2 26 (by decide)
        obtain ⟨W6, hF6, hk6, hz⟩ := ih (n + 1) (by omega) (sA (sA (sA Wn 32 (upd (wA Wn 32) n (wA Wn 24 n))) 33 (upd (wA Wn 33) n (wA Wn 25 n))) 34 (upd (wA Wn 34) n (wA Wn 26 n))) (((hF.trans (Fr.sA (by decide))).trans (Fr.sA (by decide))).trans (Fr.sA (by decide))) (fun t ht => by
          rw [wA_sA_s, wA_sA_n (a := 34) (b := 33) (by decide), wA_sA_s, wA_sA_n (a := 34) (b := 32) (by decide), wA_sA_n (a := 33) (b := 32) (by decide), wA_sA_s]
          by_cases e : t = n
          · subst e; rw [pk_us, pk_us, pk_us, c4, c5, c6]; exact ⟨rfl, rfl, rfl⟩
          · rw [pk_un e, pk_un e, pk_un e]; exact hk t (by omega))
        refine ⟨W6, hF6, hk6, fun r z => b_X6_image_90 (fun e => absurd (nle (a := 6) e (by omega) (by omega)) (by omega)) (fun _ => b_X6_image_96 hin hin hin hin hin hin ?_)⟩
        rw [nI_clamp (by omega), nI_1]
        exact hz r z
    obtain ⟨W6, hF6, hk6, hz6⟩ := loop2 6 0 rfl W5 (Fr.refl _ _) (fun t ht => absurd ht (Nat.not_lt_zero _))
    have f6 : ∀ f, wI W6 22 f = wI W0 22 f := fun f => (hF6.1 22 f (by decide)).trans (hF5.1 22 f (by decide))
    have g6 : ∀ a, a ∈ [23, 24, 25, 26, 27] → wA W6 a = wA w a := fun a ha => ((hF6.2.2.2 a (by revert a; decide)).trans (hF5.2.2.2 a (by revert a; decide))).trans (a0 a)
    obtain ⟨a1, a2, a3, a4, a5, a6⟩ := h
    rw [hc] at a5
    refine ⟨W6, ?_, hF0.trans ((hF5.mono (by decide)).trans (hF6.mono (by decide))), ?_⟩
    · have hz : Z_X6_image 35 138 [some (.ref 22), some (.int (nI 6))] [] W6 (some (.int (nI (cP u))), W6) := by
        have := b_X6_image_138 (w := W6) (x1 := nI 6)
        rw [f6 4, f0 4 (by omega), m4] at this
        exact this
      refine ai_X6_image (b_X6_image_0 (fun _ => b_X6_image_10 ?_) (fun e => absurd e t1))
      rw [← hW0]
      exact hz5 _ (b_X6_image_88 (hz6 _ hz))
    · have hf : ∀ f, f < 18 → wI W6 22 f = wI w 22 f := fun f hf => (f6 f).trans (f0 f hf)
      refine ⟨(hf 0 (by omega)).trans a1, (hf 6 (by omega)).trans a2, a3, a4.eq (hf 11 (by omega)) (g6 27 (by decide)), ?_, ?_⟩
      · show NowM W6 (gT s) (some u)
        exact a5.eq2 (fun f h => hf f (by revert f; decide)) (fun a h => g6 a (by revert a; decide))
      · refine ⟨?_, ?_, hu, ?_, ?_, fun t ht => ?_, ?_, ?_, ?_, ?_⟩
        · rw [f6, hW0]; rfl
        · rw [f6, hW0]; exact a1
        · rw [f6, hW0]; exact m1
        · rw [f6, hW0]; exact m2
        · exact (congrFun (hF6.2.2.2 31 (by decide)) t).trans ((hk5 t ht).trans ((congrFun (a0 23) t).trans (m3 t ht)))
        · rw [f6, hW0]; exact m4
        · rw [f6, hW0]; exact m5
        · rw [f6, hW0]; exact m6
        · have c4 : wA W5 24 = wA w 24 := (hF5.2.2.2 24 (by decide)).trans (a0 24)
          have c5 : wA W5 25 = wA w 25 := (hF5.2.2.2 25 (by decide)).trans (a0 25)
          have c6 : wA W5 26 = wA w 26 := (hF5.2.2.2 26 (by decide)).trans (a0 26)
          exact m7.len hu.2.2.2.2.1 (fun i hi => by rw [(hk6 i hi).1, c4]) (fun i hi => by rw [(hk6 i hi).2.1, c5]) (fun i hi => by rw [(hk6 i hi).2.2, c6])
theorem am_m_restore {s : Sg} (h : RepM w s) (hb : gT s < 1000000) (hn : ∀ u, gI s = some u → gT s ≠ 0) : ∃ w', A_X6_restore 35 [.ref 22] w (some (.int (rRest s).1), w') ∧ Fr ML w w' ∧ RepM w' (rRest s).2 := by
  obtain ⟨a1, a2, a3, a4, a5, a6⟩ := id h
  unfold rRest
  cases hc : gI s with
  | none =>
    rw [hc] at a6
    refine ⟨w, ?_, Fr.refl _ _, h⟩
    by_cases h18 : wI w 22 18 = 0
    · exact ai_X6_restore (b_X6_restore_0 (fun _ => b_X6_restore_18) (fun e => absurd h18 e))
    · rcases a6 with a6 | ⟨j, j1, j2⟩
      · exact absurd a6 h18
      · exact ai_X6_restore (b_X6_restore_0 (fun e => absurd e h18) (fun _ => b_X6_restore_7 (fun e => False.elim (by rw [j2, a1] at e; have := neq e (by omega) (by omega); omega)) (fun _ => b_X6_restore_18)))
  | some u =>
    rw [hc] at a6
    have hn0 := hn u hc
    obtain ⟨k1, k2, hu, k3, k4, k5, k6, k7, k8, k9⟩ := a6
    obtain ⟨W0, hW0⟩ : ∃ W0, W0 = sI (sI (sI (sI (sI w 22 1 (wI w 22 20)) 22 2 (wI w 22 21)) 22 4 (wI w 22 22)) 22 5 (wI w 22 23)) 22 7 (wI w 22 24) := ⟨_, rfl⟩
    have f0 : ∀ f, f ≠ 1 → f ≠ 2 → f ≠ 4 → f ≠ 5 → f ≠ 7 → wI W0 22 f = wI w 22 f := fun f e1 e2 e4 e5 e7 => by
      rw [hW0, wI_sI_o (fun q => e7 q.2), wI_sI_o (fun q => e5 q.2), wI_sI_o (fun q => e4 q.2), wI_sI_o (fun q => e2 q.2), wI_sI_o (fun q => e1 q.2)]
    have a0 : ∀ a, wA W0 a = wA w a := fun a => by rw [hW0]; rfl
    have hF0 : Fr ML w W0 := by rw [hW0]; exact ((((Fr.sI (by decide)).trans (Fr.sI (by decide))).trans (Fr.sI (by decide))).trans (Fr.sI (by decide))).trans (Fr.sI (by decide))
    have loop1 : ∀ d n, n + d = 5 → ∀ Wn, Fr [23] W0 Wn → (∀ t, t < n → wA Wn 23 t = wA W0 31 t) → ∃ W5, Fr [23] W0 W5 ∧ (∀ t, t < 5 → wA W5 23 t = wA W0 31 t) ∧ ∀ r, Z_X6_restore 35 86 [some (.ref 22), some (.int (nI 5))] [] W5 r → Z_X6_restore 35 63 [some (.ref 22), some (.int (nI n))] [] Wn r := by
      intro d
      induction d with
      | zero =>
        intro n hn Wn hF hk
        have hn : n = 5 := by omega
        subst hn
        exact ⟨Wn, hF, hk, fun r z => b_X6_restore_63 (fun _ => z) (fun e => absurd (show (5 : Int32) ≤ nI 5 from nI_le (a := 5) (by omega) (by omega)) e)⟩
      | succ d ih =>
        intro n hn Wn hF hk
        obtain ⟨W5, hF5, hk5, hz⟩ := ih (n + 1) (by omega) (sA Wn 23 (upd (wA Wn 23) n (wA Wn 31 n))) (hF.trans (Fr.sA (by simp))) (fun t ht => by
          rw [wA_sA_s]
          by_cases e : t = n
          · subst e; rw [pk_us]; exact congrFun (hF.2.2.2 31 (by decide)) t
          · rw [pk_un e]; exact hk t (by omega))
        refine ⟨W5, hF5, hk5, fun r z => b_X6_restore_63 (fun e => absurd (nle (a := 5) e (by omega) (by omega)) (by omega)) (fun _ => b_X6_restore_68 (vp_in_nI (by omega) (by omega)) (vp_in_nI (by omega) (by omega)) ?_)⟩
        rw [nI_clamp (by omega), nI_1]
        exact hz r z
    obtain ⟨W5, hF5, hk5, hz5⟩ := loop1 5 0 rfl W0 (Fr.refl _ _) (fun t ht => absurd ht (Nat.not_lt_zero _))
    have loop2 : ∀ d n, n + d = 6 → ∀ Wn, Fr [24, 25, 26] W5 Wn → (∀ t, t < n → wA Wn 24 t = wA W5 32 t ∧ wA Wn 25 t = wA W5 33 t ∧ wA Wn 26 t = wA W5 34 t) → ∃ W6, Fr [24, 25, 26] W5 W6 ∧ (∀ t, t < 6 → wA W6 24 t = wA W5 32 t ∧ wA W6 25 t = wA W5 33 t ∧ wA W6 26 t = wA W5 34 t) ∧ ∀ r, Z_X6_restore 35 136 [some (.ref 22), some (.int (nI 6))] [] W6 r → Z_X6_restore 35 88 [some (.ref 22), some (.int (nI n))] [] Wn r := by
      intro d
      induction d with
      | zero =>
        intro n hn Wn hF hk
        have hn : n = 6 := by omega
        subst hn
        exact ⟨Wn, hF, hk, fun r z => b_X6_restore_88 (fun _ => z) (fun e => absurd (show (6 : Int32) ≤ nI 6 from nI_le (a := 6) (by omega) (by omega)) e)⟩
      | succ d ih =>
        intro n hn Wn hF hk
        have hin : vp_in (nI n) 6 := vp_in_nI (by omega) (by omega)
        have c4 : wA Wn 32 = wA W5 32 := hF.2.2.2 32 (by decide)
        have c5 : wA Wn 33 = wA W5 33 := hF.2.2.2 33 (by decide)
        have c6 : wA Wn 34 = wA W5 34 := hF.2.2.2 34 (by decide)
        obtain ⟨W6, hF6, hk6, hz⟩ := ih (n + 1) (by omega) (sA (sA (sA Wn 24 (upd (wA Wn 24) n (wA Wn 32 n))) 25 (upd (wA Wn 25) n (wA Wn 33 n))) 26 (upd (wA Wn 26) n (wA Wn 34 n))) (((hF.trans (Fr.sA (by decide))).trans (Fr.sA (by decide))).trans (Fr.sA (by decide))) (fun t ht => by
          rw [wA_sA_s, wA_sA_n (a := 26) (b := 25) (by decide), wA_sA_s, wA_sA_n (a := 26) (b := 24) (by decide), wA_sA_n (a := 25) (b := 24) (by decide), wA_sA_s]
          by_cases e : t = n
          · subst e; rw [pk_us, pk_us, pk_us, c4, c5, c6]; exact ⟨rfl, rfl, rfl⟩
          · rw [pk_un e, pk_un e, pk_un e]; exact hk t (by omega))
        refine ⟨W6, hF6, hk6, fun r z => b_X6_restore_88 (fun e => absurd (nle (a := 6) e (by omega) (by omega)) (by omega)) (fun _ => b_X6_restore_94 hin hin hin hin hin hin ?_)⟩
        rw [nI_clamp (by omega), nI_1]
        exact hz r z
    obtain ⟨W6, hF6, hk6, hz6⟩ := loop2 6 0 rfl W5 (Fr.refl _ _) (fun t ht => absurd ht (Nat.not_lt_zero _))
    have f6 : ∀ f, wI W6 22 f = wI W0 22 f := fun f => (hF6.1 22 f (by decide)).trans (hF5.1 22 f (by decide))
    have g6 : ∀ a, a ∈ [27, 31, 32, 33, 34] → wA W6 a = wA w a := fun a ha => ((hF6.2.2.2 a (by revert a; decide)).trans (hF5.2.2.2 a (by revert a; decide))).trans (a0 a)
    have e1 : wI W6 22 1 = nI (tr (cK u)) := by rw [f6, hW0]; exact k3
    have e2 : wI W6 22 2 = nI (tr (cG u)) := by rw [f6, hW0]; exact k4
    have e4 : wI W6 22 4 = nI (cP u) := by rw [f6, hW0]; exact k6
    have e5 : wI W6 22 5 = nI (cC u) := by rw [f6, hW0]; exact k7
    have e7 : wI W6 22 7 = nI (cS u).length := by rw [f6, hW0]; exact k8
    refine ⟨W6, ?_, hF0.trans ((hF5.mono (by decide)).trans (hF6.mono (by decide))), h.put (fun f hf => (f6 f).trans (f0 f (by rintro rfl; revert hf; decide) (by rintro rfl; revert hf; decide) (by rintro rfl; revert hf; decide) (by rintro rfl; revert hf; decide) (by rintro rfl; revert hf; decide))) g6 hn0 hu ⟨e1, e2, fun t ht => ?_, e4, e5, e7, ?_⟩⟩
    · have hz : Z_X6_restore 35 136 [some (.ref 22), some (.int (nI 6))] [] W6 (some (.int (nI (cP u))), W6) := by
        have := b_X6_restore_136 (w := W6) (x1 := nI 6)
        rw [e4] at this
        exact this
      refine ai_X6_restore (b_X6_restore_0 (fun e => absurd (k1.symm.trans e) (by decide)) (fun _ => b_X6_restore_7 (fun _ => b_X6_restore_21 ?_) (fun e => absurd (by rw [k2, a1]) e)))
      rw [← hW0]
      exact hz5 _ (b_X6_restore_86 (hz6 _ hz))
    · exact (congrFun (hF6.2.2.2 23 (by decide)) t).trans ((hk5 t ht).trans ((congrFun (a0 31) t).trans (k5 t ht)))
    · have c4 : wA W5 32 = wA w 32 := (hF5.2.2.2 32 (by decide)).trans (a0 32)
      have c5 : wA W5 33 = wA w 33 := (hF5.2.2.2 33 (by decide)).trans (a0 33)
      have c6 : wA W5 34 = wA w 34 := (hF5.2.2.2 34 (by decide)).trans (a0 34)
      exact k9.len hu.2.2.2.2.1 (fun i hi => by rw [(hk6 i hi).1, c4]) (fun i hi => by rw [(hk6 i hi).2.1, c5]) (fun i hi => by rw [(hk6 i hi).2.2, c6])
end MV
