-- ===== the class's public methods: letter, blank, fault, tray, digest =====
def rLetter (s : Sg) (x : Int32) : Int32 × Sg := match ix 127 x with
  | none => (-102, s)
  | some c => if c < 32 then (-102, s) else if 22 ≤ (gP s).length then (-104, s) else (nI ((gP s).length + 1), (gP s ++ [c], gT s, gH s, gC s, gI s))
def rBlank (s : Sg) : Int32 × Sg := (nI (gP s).length, ([], gT s, gH s, gC s, gI s))
def rFault (s : Sg) : Int32 := nI (fwN (gP s))
def layOf (pg : List Nat) (a : Nat) : Nat := rkl [sLn (atC pg a), sLn (atC pg (a + 1)), sLn (atC pg (a + 2)), sLn (atC pg (a + 3)), sLn (atC pg (a + 4)), sLn (atC pg (a + 5))]
def rTray (s : Sg) : Int32 × Sg := if (gP s).length = 19 ∧ fwN (gP s) = 19 then (nI (pl (layOf (gP s) 0) 5), ([], gT s + 1, gH s, some (layOf (gP s) 0, layOf (gP s) 13, kpN (gP s) 5, 0, 0, []), none)) else (-103, s)
def mx (h : Int64) (v : Int32) : Int64 := 31 * h + v.toInt64
noncomputable def mtI (u : CU) (t : Nat) : Nat → Nat → Int64 → Int64
  | 0, _, h => h
  | d + 1, q, h => mtI u t d (q + 1) (mx h (tN u t q))
noncomputable def mtO (u : CU) : Nat → Nat → Int64 → Int64
  | 0, _, h => h
  | d + 1, t, h => mtO u d (t + 1) (mx (mx (mx (mtI u t 7 0 h) (hoN u t 0)) (odN u 3 t 4 0)) (odN u 3 t 4 1))
def mcI (u : CU) (c : Nat) : Nat → Nat → Int64 → Int64
  | 0, _, h => h
  | d + 1, q, h => mcI u c d (q + 1) (mx h (cNow u c q))
def mcO (u : CU) : Nat → Nat → Int64 → Int64
  | 0, _, h => h
  | d + 1, c, h => mcO u d (c + 1) (mcI u c 3 0 h)
noncomputable def mlI (u : CU) : Nat → Nat → Int64 → Int64
  | 0, _, h => h
  | d + 1, q, h => mlI u d (q + 1) (mx h (lNow u q))
noncomputable def mlA (u : CU) (h : Int64) : Int64 := mx (mx (mx (mlI u 3 0 h) (reN u 0)) (reN u 1)) (swN u)
def mpG (pg : List Nat) : Nat → Nat → Int64 → Int64
  | 0, _, h => h
  | d + 1, i, h => mpG pg d (i + 1) (mx h (nI (atC pg i)))
def mnG (s : Sg) : Nat → Nat → Int64 → Int64
  | 0, _, h => h
  | d + 1, q, h => mnG s d (q + 1) (mx h (ctA s q))
noncomputable def dgT (o : Option CU) : Int64 := match o with
  | none => 1291
  | some u => mlA u (mcO u 6 0 (mtO u 5 0 1291))
noncomputable def rDig (s : Sg) : Int64 := mnG s 10 0 (mpG (gP s) (gP s).length 0 (dgT (gC s)))
theorem atC_snoc {pg : List Nat} {c i : Nat} (h : i < pg.length) : atC (pg ++ [c]) i = atC pg i := by
  unfold atC
  rw [List.getD_eq_getElem?_getD, List.getD_eq_getElem?_getD, List.getElem?_append_left h]
theorem atC_last {pg : List Nat} {c : Nat} : atC (pg ++ [c]) pg.length = c := by
  unfold atC
  rw [List.getD_eq_getElem?_getD, List.getElem?_append_right (Nat.le_refl _)]
  simp
theorem layOf_ok {pg : List Nat} {a : Nat} (h : ∀ c, c < 6 → newA pg a (a + c) = true) : layOf pg a < 720 ∧ ∀ c, c < 6 → sg (layOf pg a) c = sLn (atC pg (a + c)) := by
  obtain ⟨j, h1, h2⟩ := read_lay h
  have e : layOf pg a = j := by
    have hs : sgl j = [sLn (atC pg a), sLn (atC pg (a + 1)), sLn (atC pg (a + 2)), sLn (atC pg (a + 3)), sLn (atC pg (a + 4)), sLn (atC pg (a + 5))] := by
      have hl := (ck1_at h1).1
      apply List.ext_getElem?
      intro i
      by_cases hi : i < 6
      · have h3 := h2 i hi
        unfold sg at h3
        rw [List.getD_eq_getElem?_getD, List.getElem?_eq_getElem (by omega)] at h3
        rw [List.getElem?_eq_getElem (by omega)]
        rcases (show i = 0 ∨ i = 1 ∨ i = 2 ∨ i = 3 ∨ i = 4 ∨ i = 5 by omega) with rfl | rfl | rfl | rfl | rfl | rfl <;> simpa using h3
      · rw [List.getElem?_eq_none (by omega), List.getElem?_eq_none (by simp; omega)]
    unfold layOf
    rw [← hs, rk_sgl h1]
  rw [e]
  exact ⟨h1, h2⟩
section PW
variable {w : Wd}
theorem am_letter {s : Sg} (h : RepC w s) (x : Int32) : ∃ w', A_X5_letter 35 [.ref 19, .int x] w (some (.int (rLetter s x).1), w') ∧ Fr CL w w' ∧ RepC w' (rLetter s x).2 := by
  unfold rLetter
  have far : bz (decide ((32 : Int32) ≤ x ∧ x ≤ 126)) = 0 → A_X5_letter 35 [.ref 19, .int x] w (some (.int (-102)), w) := fun e => ai_X5_letter (b_X5_letter_0 (am_isWithin _ _ _) (fun q => absurd e q) (fun _ => b_X5_letter_11))
  rcases ix_cases x (n := 127) (by decide) with ⟨e, h1⟩ | ⟨c, hc, rfl, e⟩
  · rw [e]
    refine ⟨w, far ?_, Fr.refl _ _, h⟩
    have : ¬ ((32 : Int32) ≤ x ∧ x ≤ 126) := fun q => h1.elim (fun h1 => Int32.not_lt.mpr (Int32.le_trans (by decide) q.1) h1) (fun h1 => nI_leOf (n := 126) h1 (by decide) q.2)
    simp [bz, this]
  · rw [e]
    dsimp only
    by_cases h32 : c < 32
    · rw [if_pos h32]
      refine ⟨w, far ?_, Fr.refl _ _, h⟩
      have : ¬ ((32 : Int32) ≤ nI c) := fun q => absurd (nle (a := 32) q (by omega) (by omega)) (by omega)
      simp [bz, this]
    · rw [if_neg h32]
      have hin : bz (decide ((32 : Int32) ≤ nI c ∧ nI c ≤ 126)) = 1 := by
        have a : (32 : Int32) ≤ nI c := nI_le (a := 32) (by omega) (by omega)
        have b : nI c ≤ 126 := nI_le (b := 126) (by omega) (by omega)
        simp [bz, a, b]
      have ent : ∀ {r}, Z_X5_letter 35 14 [some (.ref 19), some (.int (nI c))] [] w r → A_X5_letter 35 [.ref 19, .int (nI c)] w r := fun z => ai_X5_letter (b_X5_letter_0 (am_isWithin _ _ _) (fun _ => z) (fun q => absurd (hin.symm.trans q) (by decide)))
      obtain ⟨⟨h1, h2, h3, h4⟩, ⟨q1, q2, q3, q4⟩, p6, p7, p8, p9⟩ := h
      by_cases hl : 22 ≤ (gP s).length
      · rw [if_pos hl]
        exact ⟨w, ent (b_X5_letter_14 (fun e => absurd (nlt (b := 22) (by rw [q2] at e; exact e) (by omega) (by omega)) (by omega)) (fun _ => b_X5_letter_23)), Fr.refl _ _, ⟨⟨h1, h2, h3, h4⟩, ⟨q1, q2, q3, q4⟩, p6, p7, p8, p9⟩⟩
      · rw [if_neg hl]
        have hF : Fr [19, 20] w (sI (sA w 20 (upd (wA w 20) (wI w 19 8).toNatClampNeg (nI c))) 19 8 (wI w 19 8 + 1)) := (Fr.sA (by simp)).trans (Fr.sI (by simp))
        have hK : KepR (sI (sA w 20 (upd (wA w 20) (wI w 19 8).toNatClampNeg (nI c))) 19 8 (wI w 19 8 + 1)) (gI s) := by
          cases hi : gI s with
          | none => rw [hi] at p9; exact p9
          | some v => rw [hi] at p9; exact p9
        have hNw : NowR (sI (sA w 20 (upd (wA w 20) (wI w 19 8).toNatClampNeg (nI c))) 19 8 (wI w 19 8 + 1)) (gC s) := p8.fr hF (by decide) (by decide)
        refine ⟨_, ?_, hF.mono (by decide), ⟨h1.fr hF (by decide) (by decide) (by decide) (by decide), h2.fr hF (by decide) (by decide) (by decide), h3.fr hF (by decide) (by decide) (by decide), h4.fr hF (by decide) (by decide) (by decide)⟩, ⟨?_, ?_, ?_, ?_⟩, p6, p7, hNw, hK⟩
        · have e5 : nI ((gP s).length + 1) = wI w 19 8 + 1 := by rw [q2, nI_1]
          rw [e5]
          exact ent (b_X5_letter_14 (fun _ => b_X5_letter_26 (by rw [q2]; exact vp_in_nI (by omega) (by omega))) (fun e => absurd (by rw [q2]; exact nI_lt (b := 22) (by omega) (by omega)) e))
        · show (gP s ++ [c]).length ≤ 22
          rw [List.length_append]; simp; omega
        · show wI w 19 8 + 1 = nI (gP s ++ [c]).length
          rw [q2, nI_1, List.length_append]; rfl
        · intro i hi
          show upd (wA w 20) (wI w 19 8).toNatClampNeg (nI c) i = nI (atC (gP s ++ [c]) i)
          rw [q2, nI_clamp (by omega)]
          rw [List.length_append] at hi
          by_cases e : i = (gP s).length
          · rw [e, pk_us, atC_last]
          · have hi2 : i < (gP s).length := by simp at hi; omega
            rw [pk_un e, atC_snoc hi2]
            exact q3 i hi2
        · intro i hi
          show 32 ≤ atC (gP s ++ [c]) i ∧ atC (gP s ++ [c]) i ≤ 126
          rw [List.length_append] at hi
          by_cases e : i = (gP s).length
          · rw [e, atC_last]; omega
          · have hi2 : i < (gP s).length := by simp at hi; omega
            rw [atC_snoc hi2]
            exact q4 i hi2
theorem am_blank {s : Sg} (h : RepC w s) : ∃ w', A_X5_blank 35 [.ref 19] w (some (.int (rBlank s).1), w') ∧ Fr CL w w' ∧ RepC w' (rBlank s).2 := by
  obtain ⟨⟨h1, h2, h3, h4⟩, ⟨q1, q2, q3, q4⟩, p6, p7, p8, p9⟩ := h
  have hF : Fr [19] w (sI w 19 8 0) := Fr.sI (by simp)
  have hK : KepR (sI w 19 8 0) (gI s) := by
    cases hi : gI s with
    | none => rw [hi] at p9; exact p9
    | some v => rw [hi] at p9; exact p9
  refine ⟨_, ?_, hF.mono (by decide), ⟨h1, h2.fr hF (by decide) (by decide) (by decide), h3.fr hF (by decide) (by decide) (by decide), h4.fr hF (by decide) (by decide) (by decide)⟩, ⟨Nat.zero_le _, rfl, fun i hi => absurd hi (Nat.not_lt_zero _), fun i hi => absurd hi (Nat.not_lt_zero _)⟩, p6, p7, p8.fr hF (by decide) (by decide), hK⟩
  show A_X5_blank 35 _ w (some (.int (nI (gP s).length)), _)
  rw [← q2]
  exact ai_X5_blank b_X5_blank_0
theorem am_fault {s : Sg} (h : RepC w s) : A_X5_fault 35 [.ref 19] w (some (.int (rFault s)), w) := ai_X5_fault (b_X5_fault_0 (am_firstWrongPlace h.2.1))
theorem am_tray {s : Sg} (h : RepC w s) : ∃ w', A_X5_tray 35 [.ref 19] w (some (.int (rTray s).1), w') ∧ Fr CL w w' ∧ RepC w' (rTray s).2 := by
  have hPg := h.2.1
  have hl := hPg.1
  have hle := fwN_le (gP s)
  unfold rTray
  by_cases h19 : (gP s).length = 19
  · by_cases hw : fwN (gP s) = 19
    · rw [if_pos ⟨h19, hw⟩]
      have hfit := fwF_spec (gP s) 19 0 rfl hw
      have n0 : ∀ c, c < 6 → newA (gP s) 0 (0 + c) = true := fun c hc => by
        have := hfit (0 + c) (by omega) (by omega)
        unfold fitA at this
        rw [if_neg (by omega), if_neg (by omega), if_pos (by omega)] at this
        exact this
      have n13 : ∀ c, c < 6 → newA (gP s) 13 (13 + c) = true := fun c hc => by
        have := hfit (13 + c) (by omega) (by omega)
        unfold fitA at this
        rw [if_neg (by omega), if_pos (by omega)] at this
        exact this
      have nk : ∀ i, i < 5 → kLn (atC (gP s) (7 + i)) < 5 := fun i hi => by
        have := hfit (7 + i) (by omega) (by omega)
        unfold fitA at this
        rw [if_neg (by omega), if_neg (by omega), if_neg (by omega), if_neg (by omega)] at this
        have h5 := kLn_le (atC (gP s) (7 + i))
        have h6 : kLn (atC (gP s) (7 + i)) ≠ 5 := by simpa using this
        omega
      obtain ⟨k1, k2⟩ := layOf_ok n0
      obtain ⟨g1, g2⟩ := layOf_ok n13
      obtain ⟨wa, ha, hFa⟩ := am_readLay (w := w) (a := 0) (j := layOf (gP s) 0) hPg (by omega) k1 k2
      obtain ⟨wb, hb, hFb⟩ := am_readLay (w := wa) (a := 13) (j := layOf (gP s) 13) (hPg.fr hFa (by decide) (by decide)) (by omega) g1 g2
      have hFab := hFa.trans hFb
      have hc := am_readKinds (w := wb) (hPg.fr hFab (by decide) (by decide)) (by omega) nk
      obtain ⟨wc, hd, hFc, c0, c1, c2, c3, c4, c5, c6⟩ := am_startn (w := wb) (x1 := nI (layOf (gP s) 0)) (x2 := nI (layOf (gP s) 13)) (x3 := nI (kpN (gP s) 5))
      obtain ⟨⟨h1, h2, h3, h4⟩, ⟨q1, q2, q3, q4⟩, p6, p7, p8, p9⟩ := h
      have hF : Fr [15, 16, 19, 21] w (sI (sI (sI wc 19 11 0) 19 8 0) 19 9 (wI wc 19 9 + 1)) := ((((hFab.mono (by decide)).trans (hFc.mono (by decide))).trans (Fr.sI (by simp))).trans (Fr.sI (by simp))).trans (Fr.sI (by simp))
      have hT := h1.fr hF (by decide) (by decide) (by decide) (by decide)
      have t9 : wI wc 19 9 = nI (gT s) := ((hFc.1 19 9 (by decide)).trans (hFab.1 19 9 (by decide))).trans p6
      have t10 : wI wc 19 10 = nI (gH s) := ((hFc.1 19 10 (by decide)).trans (hFab.1 19 10 (by decide))).trans p7
      refine ⟨_, ?_, hF.mono (by decide), ⟨hT, h2.fr hF (by decide) (by decide) (by decide), h3.fr hF (by decide) (by decide) (by decide), h4.fr hF (by decide) (by decide) (by decide)⟩, ⟨Nat.zero_le _, rfl, fun i hi => absurd hi (Nat.not_lt_zero _), fun i hi => absurd hi (Nat.not_lt_zero _)⟩, ?_, t10, ⟨⟨k1, g1, kpN_KV nk 5, Nat.zero_le _, Nat.zero_le _, fun e he => by cases he⟩, c0, c1, c2, c3, c4, c5, c6⟩, rfl⟩
      · refine ai_X5_tray (b_X5_tray_0 (fun e => absurd (by rw [q2, h19]; rfl) e) (fun _ => b_X5_tray_9 (am_firstWrongPlace ⟨q1, q2, q3, q4⟩) (fun _ => b_X5_tray_21 ha hb hc hd ?_) (fun e => absurd (by rw [hw]; rfl) e)))
        rw [c0]
        exact am_place (s := 5) hT.2.1 (by omega) k1 (by omega)
      · show wI wc 19 9 + 1 = nI (gT s + 1)
        rw [t9, nI_1]
    · rw [if_neg (fun q => hw q.2)]
      exact ⟨w, ai_X5_tray (b_X5_tray_0 (fun e => absurd (by rw [hPg.2.1, h19]; rfl) e) (fun _ => b_X5_tray_9 (am_firstWrongPlace hPg) (fun e => absurd (neq (b := 19) e (by omega) (by omega)) hw) (fun _ => b_X5_tray_18))), Fr.refl _ _, h⟩
  · rw [if_neg (fun q => h19 q.1)]
    exact ⟨w, ai_X5_tray (b_X5_tray_0 (fun _ => b_X5_tray_18) (fun e => absurd (neq (b := 19) (by rw [hPg.2.1] at e; exact e) (by omega) (by omega)) h19)), Fr.refl _ _, h⟩
theorem am_mix (h : Int64) (v : Int32) : A_X5_mix 35 [.long h, .long v.toInt64] w (some (.long (mx h v)), w) := ai_X5_mix b_X5_mix_0
theorem am_mixTiles {s : Sg} {u : CU} (h : RepC w s) (hc : gC s = some u) (h0 : Int64) : ∃ w', A_X5_mixTiles 35 [.ref 19, .long h0] w (some (.long (mtO u 5 0 h0)), w') ∧ Fr CL w w' ∧ RepC w' s := by
  have loop : ∀ d t, t + d = 5 → ∀ (hh : Int64) (l6 : Option Value) (w1 : Wd), Fr CL w w1 → RepC w1 s → ∃ w', Z_X5_mixTiles 35 5 [some (.ref 19), some (.long h0), none, some (.long hh), none, some (.int (nI t)), l6] [] w1 (some (.long (mtO u d t hh)), w') ∧ Fr CL w w' ∧ RepC w' s := by
    intro d
    induction d with
    | zero =>
      intro t ht hh l6 w1 hF hR
      have ht : t = 5 := by omega
      subst ht
      exact ⟨w1, b_X5_mixTiles_5 (fun _ => b_X5_mixTiles_90) (fun e => absurd (show (5 : Int32) ≤ nI 5 from nI_le (a := 5) (by omega) (by omega)) e), hF, hR⟩
    | succ d ih =>
      intro t ht hh l6 w1 hF hR
      have inner : ∀ e q, q + e = 7 → ∀ (hh : Int64) (w1 : Wd), Fr CL w w1 → RepC w1 s → ∃ w', Z_X5_mixTiles 35 14 [some (.ref 19), some (.long h0), none, some (.long hh), none, some (.int (nI t)), some (.int (nI q))] [] w1 (some (.long (mtO u d (t + 1) (mx (mx (mx (mtI u t e q hh) (hoN u t 0)) (odN u 3 t 4 0)) (odN u 3 t 4 1)))), w') ∧ Fr CL w w' ∧ RepC w' s := by
        intro e
        induction e with
        | zero =>
          intro q hq hh w1 hF hR
          have hq : q = 7 := by omega
          subst hq
          have hN := hR.now
          have hT := am_isTile hN (nI t)
          have hT0 := am_isCell hN (nI 0)
          have hT4 := am_isCell hN (nI 4)
          rw [hc, ix_n (show t < 5 by omega) (by decide)] at hT
          rw [hc, ix_n (show 0 < 6 by omega) (by decide)] at hT0
          rw [hc] at hN
          obtain ⟨w2, ha2, hF2, hR2⟩ := am_home_in hR hN.1 hN.2 (show t < 5 by omega) (show 0 < 6 by omega) hT hT0
          have od : ∀ (w2 : Wd), RepC w2 s → ∀ q, q < 2 → ∃ w', A_X5_odds 35 [.ref 19, .int (nI t), .int (nI 4), .int (nI 3), .int (nI q)] w2 (some (.int (odN u 3 t 4 q)), w') ∧ Fr CL w2 w' ∧ RepC w' s := by
            intro w2 hR2 q hq
            have hN := hR2.now
            have hT := am_isTile hN (nI t)
            have hT4 := am_isCell hN (nI 4)
            rw [hc, ix_n (show t < 5 by omega) (by decide)] at hT
            rw [hc, ix_n (show 4 < 6 by omega) (by decide)] at hT4
            rw [hc] at hN
            exact am_odds_in hR2 hN.1 hN.2 (by omega) (by omega) (by omega) (by omega) hq hT hT4
          obtain ⟨w3, ha3, hF3, hR3⟩ := od w2 hR2 0 (by omega)
          obtain ⟨w4, ha4, hF4, hR4⟩ := od w3 hR3 1 (by omega)
          obtain ⟨w', hz, hF', hR'⟩ := ih (t + 1) (by omega) (mx (mx (mx hh (hoN u t 0)) (odN u 3 t 4 0)) (odN u 3 t 4 1)) (some (.int (nI 7))) w4 (((hF.trans hF2).trans hF3).trans hF4) hR4
          refine ⟨w', b_X5_mixTiles_14 (fun _ => b_X5_mixTiles_41 ha2 (am_mix _ _) ha3 (am_mix _ _) ha4 (am_mix _ _) ?_) (fun e => absurd (show (6 : Int32) < nI 7 from nI_lt (a := 6) (by omega) (by omega)) e), hF', hR'⟩
          rw [nI_1]; exact hz
        | succ e ih2 =>
          intro q hq hh w1 hF hR
          have hN := hR.now
          have hT := am_isTile hN (nI t)
          rw [hc, ix_n (show t < 5 by omega) (by decide)] at hT
          rw [hc] at hN
          obtain ⟨w2, ha2, hF2, hR2⟩ := am_tile_in hR hN.1 hN.2 (show t < 5 by omega) (show q < 7 by omega) hT
          obtain ⟨w', hz, hF', hR'⟩ := ih2 (q + 1) (by omega) (mx hh (tN u t q)) w2 (hF.trans hF2) hR2
          refine ⟨w', b_X5_mixTiles_14 (fun e => absurd (nlt (a := 6) e (by omega) (by omega)) (by omega)) (fun _ => b_X5_mixTiles_21 ha2 (am_mix _ _) ?_), hF', hR'⟩
          rw [nI_1]; exact hz
      obtain ⟨w', hz, hF', hR'⟩ := inner 7 0 rfl hh w1 hF hR
      exact ⟨w', b_X5_mixTiles_5 (fun e => absurd (nle (a := 5) e (by omega) (by omega)) (by omega)) (fun _ => b_X5_mixTiles_11 hz), hF', hR'⟩
  obtain ⟨w', hz, hF', hR'⟩ := loop 5 0 rfl h0 none w (Fr.refl _ _) h
  exact ⟨w', ai_X5_mixTiles (b_X5_mixTiles_0 hz), hF', hR'⟩
theorem am_mixCells {s : Sg} {u : CU} (h : RepC w s) (hc : gC s = some u) (h0 : Int64) : A_X5_mixCells 35 [.ref 19, .long h0] w (some (.long (mcO u 6 0 h0)), w) := by
  have loop : ∀ d t, t + d = 6 → ∀ (hh : Int64) (l6 : Option Value), Z_X5_mixCells 35 5 [some (.ref 19), some (.long h0), none, some (.long hh), none, some (.int (nI t)), l6] [] w (some (.long (mcO u d t hh)), w) := by
    intro d
    induction d with
    | zero =>
      intro t ht hh l6
      have ht : t = 6 := by omega
      subst ht
      exact b_X5_mixCells_5 (fun _ => b_X5_mixCells_47) (fun e => absurd (show (6 : Int32) ≤ nI 6 from nI_le (a := 6) (by omega) (by omega)) e)
    | succ d ih =>
      intro t ht hh l6
      have inner : ∀ e q, q + e = 3 → ∀ (hh : Int64), Z_X5_mixCells 35 15 [some (.ref 19), some (.long h0), none, some (.long hh), none, some (.int (nI t)), some (.int (nI q))] [] w (some (.long (mcO u d (t + 1) (mcI u t e q hh))), w) := by
        intro e
        induction e with
        | zero =>
          intro q hq hh
          have hq : q = 3 := by omega
          subst hq
          refine b_X5_mixCells_15 (fun _ => b_X5_mixCells_41 ?_) (fun e => absurd (show (2 : Int32) < nI 3 from nI_lt (a := 2) (by omega) (by omega)) e)
          rw [nI_1]; exact ih (t + 1) (by omega) _ _
        | succ e ih2 =>
          intro q hq hh
          have hN := h.now
          have hT := am_isCell hN (nI t)
          rw [hc, ix_n (show t < 6 by omega) (by decide)] at hT
          rw [hc] at hN
          refine b_X5_mixCells_15 (fun e => absurd (nlt (a := 2) e (by omega) (by omega)) (by omega)) (fun _ => b_X5_mixCells_21 (am_cell_in h hN.1 hN.2 (show t < 6 by omega) (show q < 3 by omega) hT) (am_mix _ _) ?_)
          rw [nI_1]; exact ih2 (q + 1) (by omega) _
      exact b_X5_mixCells_5 (fun e => absurd (nle (a := 6) e (by omega) (by omega)) (by omega)) (fun _ => b_X5_mixCells_12 (inner 3 0 rfl hh))
  exact ai_X5_mixCells (b_X5_mixCells_0 (loop 6 0 rfl h0 none))
theorem am_mixCosts {s : Sg} {u : CU} (h : RepC w s) (hc : gC s = some u) (h0 : Int64) : ∃ w', A_X5_mixCosts 35 [.ref 19, .long h0] w (some (.long (mlA u h0)), w') ∧ Fr CL w w' ∧ RepC w' s := by
  have rc : ∀ (w1 : Wd), RepC w1 s → ∀ q, q < 2 → ∃ w', A_X5_reach 35 [.ref 19, .int (nI q)] w1 (some (.int (reN u q)), w') ∧ Fr CL w1 w' ∧ RepC w' s := by
    intro w1 hR q hq
    have hN := hR.now
    have hT := am_hasTray hN
    rw [hc] at hT hN
    exact am_reach_in hR hN.1 hN.2 hq hT
  have loop : ∀ d t, t + d = 3 → ∀ (hh : Int64) (w1 : Wd), Fr CL w w1 → RepC w1 s → ∃ w', Z_X5_mixCosts 35 5 [some (.ref 19), some (.long h0), none, some (.long hh), none, some (.int (nI t))] [] w1 (some (.long (mx (mx (mx (mlI u d t hh) (reN u 0)) (reN u 1)) (swN u))), w') ∧ Fr CL w w' ∧ RepC w' s := by
    intro d
    induction d with
    | zero =>
      intro t ht hh w1 hF hR
      have ht : t = 3 := by omega
      subst ht
      obtain ⟨w2, ha2, hF2, hR2⟩ := rc w1 hR 0 (by omega)
      obtain ⟨w3, ha3, hF3, hR3⟩ := rc w2 hR2 1 (by omega)
      have hsw := am_swaps hR3
      unfold rSwaps at hsw
      rw [hc] at hsw
      exact ⟨w3, b_X5_mixCosts_5 (fun _ => b_X5_mixCosts_29 ha2 (am_mix _ _) ha3 (am_mix _ _) hsw (am_mix _ _)) (fun e => absurd (show (2 : Int32) < nI 3 from nI_lt (a := 2) (by omega) (by omega)) e), (hF.trans hF2).trans hF3, hR3⟩
    | succ d ih =>
      intro t ht hh w1 hF hR
      have hN := hR.now
      have hT := am_hasTray hN
      rw [hc] at hT hN
      obtain ⟨w2, ha2, hF2, hR2⟩ := am_least_in hR hN.1 hN.2 (show t < 3 by omega) hT
      obtain ⟨w', hz, hF', hR'⟩ := ih (t + 1) (by omega) (mx hh (lNow u t)) w2 (hF.trans hF2) hR2
      refine ⟨w', b_X5_mixCosts_5 (fun e => absurd (nlt (a := 2) e (by omega) (by omega)) (by omega)) (fun _ => b_X5_mixCosts_11 ha2 (am_mix _ _) ?_), hF', hR'⟩
      rw [nI_1]; exact hz
  obtain ⟨w', hz, hF', hR'⟩ := loop 3 0 rfl h0 w (Fr.refl _ _) h
  exact ⟨w', ai_X5_mixCosts (b_X5_mixCosts_0 hz), hF', hR'⟩
theorem am_digest {s : Sg} (h : RepC w s) : ∃ w', A_X5_digest 35 [.ref 19] w (some (.long (rDig s)), w') ∧ Fr CL w w' ∧ RepC w' s := by
  have tail : ∀ (w1 : Wd), Fr CL w w1 → RepC w1 s → Z_X5_digest 35 29 [some (.ref 19), some (.long (dgT (gC s))), none, none] [] w1 (some (.long (rDig s)), w1) := by
    intro w1 hF hR
    obtain ⟨q1, q2, q3, q4⟩ := hR.2.1
    have cnts : ∀ d q, q + d = 10 → ∀ (hh : Int64), Z_X5_digest 35 65 [some (.ref 19), some (.long hh), none, some (.int (nI q))] [] w1 (some (.long (mnG s d q hh)), w1) := by
      intro d
      induction d with
      | zero =>
        intro q hq hh
        have hq : q = 10 := by omega
        subst hq
        exact b_X5_digest_65 (fun _ => b_X5_digest_88) (fun e => absurd (show (9 : Int32) < nI 10 from nI_lt (a := 9) (by omega) (by omega)) e)
      | succ d ih =>
        intro q hq hh
        refine b_X5_digest_65 (fun e => absurd (nlt (a := 9) e (by omega) (by omega)) (by omega)) (fun _ => b_X5_digest_71 (am_count_in hR (show q < 10 by omega)) (am_mix _ _) ?_)
        rw [nI_1]; exact ih (q + 1) (by omega) _
    have lets : ∀ d i, i + d = (gP s).length → ∀ (hh : Int64), Z_X5_digest 35 31 [some (.ref 19), some (.long hh), none, some (.int (nI i))] [] w1 (some (.long (mnG s 10 0 (mpG (gP s) d i hh))), w1) := by
      intro d
      induction d with
      | zero =>
        intro i hi hh
        have hi : i = (gP s).length := by omega
        subst hi
        exact b_X5_digest_31 (fun _ => b_X5_digest_63 (cnts 10 0 rfl hh)) (fun e => absurd (by rw [q2]; exact nI_le (Nat.le_refl _) (by omega)) e)
      | succ d ih =>
        intro i hi hh
        refine b_X5_digest_31 (fun e => absurd (nle (by rw [q2] at e; exact e) (by omega) (by omega)) (by omega)) (fun _ => b_X5_digest_39 (fun e => absurd (nle (a := 22) e (by omega) (by omega)) (by omega)) (fun _ => b_X5_digest_45 (vp_in_nI (by omega) (by omega)) (am_mix _ _) ?_))
        rw [nI_1, nI_clamp (by omega), q3 i (by omega)]
        exact ih (i + 1) (by omega) _
    exact b_X5_digest_29 (lets _ 0 (by omega) _)
  have hN := h.now
  have hT := am_hasTray hN
  cases hc : gC s with
  | none =>
    have ht := tail w (Fr.refl _ _) h
    rw [hc] at hT ht
    exact ⟨w, ai_X5_digest (b_X5_digest_0 hT (fun _ => ht) (fun e => absurd rfl e)), Fr.refl _ _, h⟩
  | some u =>
    obtain ⟨w2, ha2, hF2, hR2⟩ := am_mixTiles h hc 1291
    have ha3 := am_mixCells hR2 hc (mtO u 5 0 1291)
    obtain ⟨w4, ha4, hF4, hR4⟩ := am_mixCosts hR2 hc (mcO u 6 0 (mtO u 5 0 1291))
    have ht := tail w4 (hF2.trans hF4) hR4
    rw [hc] at hT ht
    exact ⟨w4, ai_X5_digest (b_X5_digest_0 hT (fun e => absurd e b1) (fun _ => b_X5_digest_11 ha2 ha3 ha4 ht)), hF2.trans hF4, hR4⟩
end PW
