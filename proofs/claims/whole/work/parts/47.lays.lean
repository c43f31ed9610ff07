-- ===== the tables are made =====
def ordN (c : Nat) : Nat := [120, 24, 6, 2, 1, 1].getD c 0
def lsF (left o : Nat) : Nat → Nat → Nat → Nat
  | 0, _, _ => 5
  | f + 1, ah, s => bif Nat.beq (left / 2 ^ s % 2) 1 then (bif Nat.beq ah o then s else lsF left o f (ah + 1) (s + 1)) else lsF left o f ah (s + 1)
def spS (k : Nat) : Nat → Nat × Nat
  | 0 => (63, k)
  | c + 1 => let q := spS k c; (q.1 &&& (63 ^^^ 2 ^ lsF q.1 (q.2 / ordN c) 6 0 0), q.2 % ordN c)
def ck10 (k : Nat) : Bool := allN (fun c => let q := spS k c; Nat.blt q.1 64 && Nat.blt q.2 1000 && Nat.beq (lsF q.1 (q.2 / ordN c) 6 0 0) (sg k c)) 6
set_option maxRecDepth 100000 in
theorem ck10_p0 : allN (fun i => ck10 (i + 0)) 90 = true := by decide +kernel
set_option maxRecDepth 100000 in
theorem ck10_p1 : allN (fun i => ck10 (i + 90)) 90 = true := by decide +kernel
set_option maxRecDepth 100000 in
theorem ck10_p2 : allN (fun i => ck10 (i + 180)) 90 = true := by decide +kernel
set_option maxRecDepth 100000 in
theorem ck10_p3 : allN (fun i => ck10 (i + 270)) 90 = true := by decide +kernel
set_option maxRecDepth 100000 in
theorem ck10_p4 : allN (fun i => ck10 (i + 360)) 90 = true := by decide +kernel
set_option maxRecDepth 100000 in
theorem ck10_p5 : allN (fun i => ck10 (i + 450)) 90 = true := by decide +kernel
set_option maxRecDepth 100000 in
theorem ck10_p6 : allN (fun i => ck10 (i + 540)) 90 = true := by decide +kernel
set_option maxRecDepth 100000 in
theorem ck10_p7 : allN (fun i => ck10 (i + 630)) 90 = true := by decide +kernel
theorem ck10_all : allN ck10 720 = true := (allN_add (p := ck10) (a := 630) (allN_add (p := ck10) (a := 540) (allN_add (p := ck10) (a := 450) (allN_add (p := ck10) (a := 360) (allN_add (p := ck10) (a := 270) (allN_add (p := ck10) (a := 180) (allN_add (p := ck10) (a := 90) ck10_p0 90 ck10_p1) 90 ck10_p2) 90 ck10_p3) 90 ck10_p4) 90 ck10_p5) 90 ck10_p6) 90 ck10_p7)
theorem ordv_N : ∀ c, c < 6 → ordv c = nI (ordN c) := by decide
theorem ordN_pos : ∀ c, c < 6 → 0 < ordN c ∧ ordN c < 200 := by decide
theorem nx_ne : ∀ c, c < 6 → ∀ d, d < 6 → nx c d = true → c ≠ d := by decide
section LY
variable {w : Wd} {mm : Nat}
theorem am_leftSign {left o : Nat} (hl : left < 64) (ho : o < 1000) : A_X2_leftSign mm [.int (nI left), .int (nI o)] w (some (.int (nI (lsF left o 6 0 0))), w) := by
  have loop : ∀ f s ah, s + f = 6 → ah ≤ s → Z_X2_leftSign mm 4 [some (.int (nI left)), some (.int (nI o)), some (.int (nI ah)), some (.int (nI s))] [] w (some (.int (nI (lsF left o f ah s))), w) := by
    intro f
    induction f with
    | zero =>
      intro s ah hs hah
      have hs : s = 6 := by omega
      subst hs
      exact b_X2_leftSign_4 (fun _ => b_X2_leftSign_35) (fun h => absurd (show (6 : Int32) ≤ nI 6 from nI_le (a := 6) (by omega) (by omega)) h)
    | succ f ih =>
      intro s ah hs hah
      have e : (nI left >>> (nI s &&& 31)) &&& 1 = nI (left / 2 ^ s % 2) := by rw [n_shr (by omega) (by omega), n_and1 (Nat.lt_of_le_of_lt (Nat.div_le_self _ _) (by omega))]
      refine b_X2_leftSign_4 (fun h => absurd (nle (a := 6) h (by omega) (by omega)) (by omega)) (fun _ => ?_)
      by_cases hb : left / 2 ^ s % 2 = 1
      · have eq1 : (nI left >>> (nI s &&& 31)) &&& 1 = 1 := by rw [e, hb]; rfl
        by_cases h0 : ah = o
        · have e2 : lsF left o (f + 1) ah s = s := by
            show (bif Nat.beq (left / 2 ^ s % 2) 1 then (bif Nat.beq ah o then s else _) else _) = s
            rw [hb, h0]; simp
          rw [e2]
          exact b_X2_leftSign_10 (fun q => absurd eq1 q) (fun _ => b_X2_leftSign_19 (fun q => absurd (by rw [h0]) q) (fun _ => b_X2_leftSign_24))
        · have e2 : lsF left o (f + 1) ah s = lsF left o f (ah + 1) (s + 1) := by
            show (bif Nat.beq (left / 2 ^ s % 2) 1 then (bif Nat.beq ah o then s else lsF left o f (ah + 1) (s + 1)) else _) = _
            rw [hb, nbf h0]; rfl
          rw [e2]
          refine b_X2_leftSign_10 (fun q => absurd eq1 q) (fun _ => b_X2_leftSign_19 (fun _ => b_X2_leftSign_26 (b_X2_leftSign_29 ?_)) (fun q => absurd (neq q (by omega) (by omega)) h0))
          rw [nI_1, nI_1]
          exact ih (s + 1) (ah + 1) (by omega) (by omega)
      · have e2 : lsF left o (f + 1) ah s = lsF left o f ah (s + 1) := by
          show (bif Nat.beq (left / 2 ^ s % 2) 1 then _ else lsF left o f ah (s + 1)) = _
          rw [nbf hb]; rfl
        have hm := Nat.mod_lt (left / 2 ^ s) (show 0 < 2 by omega)
        rw [e2]
        refine b_X2_leftSign_10 (fun _ => b_X2_leftSign_29 ?_) (fun q => absurd (neq (b := 1) (e.symm.trans q) (by omega) (by omega)) hb)
        rw [nI_1]
        exact ih (s + 1) ah (by omega) (by omega)
  exact ai_X2_leftSign (b_X2_leftSign_0 (loop 6 0 0 rfl (Nat.le_refl _)))
theorem sgq_inj {k i j : Nat} (hk : k < 720) (hi : i < 6) (hj : j < 6) (h : sg k i = sg k j) : i = j := by
  rw [← pl_sg hk hi, h, pl_sg hk hj]
theorem am_spell {k : Nat} (hk : k < 720) (h5 : 5 < mm) : ∃ w', A_X2_spell mm [.ref 0, .int (nI k)] w (none, w') ∧ Fr [1, 2] w w' ∧ (∀ c, c < 6 → wA w' 1 (k * 6 + c) = nI (sg k c)) ∧ (∀ c, c < 6 → wA w' 2 (k * 6 + c) = nI (pl k c)) ∧ ∀ i, (i < k * 6 ∨ k * 6 + 6 ≤ i) → wA w' 1 i = wA w 1 i ∧ wA w' 2 i = wA w 2 i := by
  have hck := allN_spec ck10_all k hk
  unfold ck10 at hck
  have loop : ∀ d c, c + d = 6 → ∀ (w1 : Wd) (l5 : Option Value), Fr [1, 2] w w1 → (∀ i, i < c → wA w1 1 (k * 6 + i) = nI (sg k i)) → (∀ i, i < c → wA w1 2 (k * 6 + sg k i) = nI i) → (∀ i, (i < k * 6 ∨ k * 6 + 6 ≤ i) → wA w1 1 i = wA w 1 i ∧ wA w1 2 i = wA w 2 i) →
      ∃ w', Z_X2_spell mm 8 [some (.ref 0), some (.int (nI k)), some (.int (nI (spS k c).1)), some (.int (nI (spS k c).2)), some (.int (nI c)), l5] [] w1 (none, w') ∧ Fr [1, 2] w w' ∧ (∀ c, c < 6 → wA w' 1 (k * 6 + c) = nI (sg k c)) ∧ (∀ c, c < 6 → wA w' 2 (k * 6 + c) = nI (pl k c)) ∧ ∀ i, (i < k * 6 ∨ k * 6 + 6 ≤ i) → wA w' 1 i = wA w 1 i ∧ wA w' 2 i = wA w 2 i := by
    intro d
    induction d with
    | zero =>
      intro c hc w1 l5 hF h1 h2 h3
      have hc : c = 6 := by omega
      subst hc
      refine ⟨w1, b_X2_spell_8 (fun _ => b_X2_spell_81) (fun h => absurd (show (6 : Int32) ≤ nI 6 from nI_le (a := 6) (by omega) (by omega)) h), hF, h1, fun s hs => ?_, h3⟩
      have := h2 (pl k s) (pl_lt hk hs)
      rw [sg_pl hk hs] at this
      exact this
    | succ d ih =>
      intro c hc w1 l5 hF h1 h2 h3
      have h := allN_spec hck c (by omega)
      simp only [Bool.and_eq_true] at h
      obtain ⟨⟨a1, a2⟩, a3⟩ := h
      have a1 := Nat.le_of_ble_eq_true a1
      have a2 := Nat.le_of_ble_eq_true a2
      have a3 := Nat.eq_of_beq_eq_true a3
      obtain ⟨o1, o2⟩ := ordN_pos c (by omega)
      have hsg := sg_lt hk (show c < 6 by omega)
      have e : spS k (c + 1) = ((spS k c).1 &&& (63 ^^^ 2 ^ lsF (spS k c).1 ((spS k c).2 / ordN c) 6 0 0), (spS k c).2 % ordN c) := rfl
      have hn := ih (c + 1) (by omega) (sA (sA w1 1 (upd (wA w1 1) (k * 6 + c) (nI (sg k c)))) 2 (upd (wA w1 2) (k * 6 + sg k c) (nI c))) (some (.int (nI (sg k c)))) ((hF.trans (Fr.sA (by simp))).trans (Fr.sA (by simp)))
        (fun i hi => by
          rw [wA_sA_n (by decide), wA_sA_s]
          by_cases g : i = c
          · subst g; rw [pk_us]
          · rw [pk_un (by omega)]; exact h1 i (by omega))
        (fun i hi => by
          rw [wA_sA_s]
          by_cases g : i = c
          · subst g; rw [pk_us]
          · have hne : k * 6 + sg k i ≠ k * 6 + sg k c := fun q => g (sgq_inj hk (by omega) (by omega) (by omega))
            rw [pk_un hne]; exact h2 i (by omega))
        (fun i hi => by
          rw [wA_sA_n (by decide), wA_sA_s, wA_sA_s, pk_un (by omega), pk_un (by omega)]
          exact h3 i hi)
      rw [e, a3] at hn
      obtain ⟨w', hz, hrest⟩ := hn
      refine ⟨w', ?_, hrest⟩
      have q0 : (nI c).toNatClampNeg = c := nI_clamp (by omega)
      have q1 : ordv (nI c).toNatClampNeg = nI (ordN c) := by rw [q0]; exact ordv_N c (by omega)
      have hin : vp_in (nI c) 6 := vp_in_nI (by omega) (by omega)
      have hne : ¬ ordv (nI c).toNatClampNeg = 0 := by rw [q1]; exact nI_ne0 o1 (by omega)
      have hdl : (spS k c).2 / ordN c ≤ (spS k c).2 := Nat.div_le_self _ _
      have hls := am_leftSign (w := w1) (mm := mm) (left := (spS k c).1) (o := (spS k c).2 / ordN c) a1 (by omega)
      rw [a3] at hls
      have e6 : nI k * 6 + nI c = nI (k * 6 + c) := by rw [show (6 : Int32) = nI 6 from rfl, pk_mul, nI_add]
      have e7 : nI k * 6 + nI (sg k c) = nI (k * 6 + sg k c) := by rw [show (6 : Int32) = nI 6 from rfl, pk_mul, nI_add]
      refine b_X2_spell_8 (fun h => absurd (nle (a := 6) h (by omega) (by omega)) (by omega)) (fun _ => b_X2_spell_15 (r1 := nI (sg k c)) hin hne (by rw [q1, pk_div (by omega) o1 (by omega)]; exact hls) hin hne h5 (by rw [e6]; exact vp_in_nI (by omega) (by omega)) (by rw [e7]; exact vp_in_nI (by omega) (by omega)) ?_)
      rw [q1, pk_rem (by omega) o1 (by omega), clr_eq _ a1 _ hsg, e6, e7, nI_clamp (by omega), nI_clamp (by omega), nI_1]
      exact hz
  obtain ⟨w', hz, hrest⟩ := loop 6 0 rfl w none (Fr.refl _ _) (fun i hi => absurd hi (Nat.not_lt_zero _)) (fun i hi => absurd hi (Nat.not_lt_zero _)) (fun i _ => ⟨rfl, rfl⟩)
  exact ⟨w', ai_X2_spell (b_X2_spell_0 hz), hrest⟩
def mvT (k c : Nat) : Int32 := if go k c then nI (mv k c) else -1
def wyT (k c : Nat) : Int32 := if go k c then nI (wy k c) else -1
theorem am_link {k : Nat} (hk : k < 720) (h5 : 5 < mm) (hS : TabS w) (hP : TabP w) : ∃ w', A_X2_link mm [.ref 0, .int (nI k)] w (none, w') ∧ Fr [3, 4, 5] w w' ∧ (∀ c, c < 6 → wA w' 3 (k * 6 + c) = mvT k c) ∧ (∀ c, c < 6 → wA w' 4 (k * 6 + c) = wyT k c) ∧ ∀ i, (i < k * 6 ∨ k * 6 + 6 ≤ i) → wA w' 3 i = wA w 3 i ∧ wA w' 4 i = wA w 4 i := by
  have hp5 := pl_lt hk (show 5 < 6 by omega)
  have loop : ∀ d c, c + d = 6 → ∀ (w1 : Wd) (l4 l5 : Option Value), Fr [3, 4, 5] w w1 → (∀ i, i < c → wA w1 3 (k * 6 + i) = mvT k i) → (∀ i, i < c → wA w1 4 (k * 6 + i) = wyT k i) → (∀ i, (i < k * 6 ∨ k * 6 + 6 ≤ i) → wA w1 3 i = wA w 3 i ∧ wA w1 4 i = wA w 4 i) →
      ∃ w', Z_X2_link mm 9 [some (.ref 0), some (.int (nI k)), some (.int (nI (pl k 5))), some (.int (nI c)), l4, l5] [] w1 (none, w') ∧ Fr [3, 4, 5] w w' ∧ (∀ c, c < 6 → wA w' 3 (k * 6 + c) = mvT k c) ∧ (∀ c, c < 6 → wA w' 4 (k * 6 + c) = wyT k c) ∧ ∀ i, (i < k * 6 ∨ k * 6 + 6 ≤ i) → wA w' 3 i = wA w 3 i ∧ wA w' 4 i = wA w 4 i := by
    intro d
    induction d with
    | zero =>
      intro c hc w1 l4 l5 hF h1 h2 h3
      have hc : c = 6 := by omega
      subst hc
      exact ⟨w1, b_X2_link_9 (fun _ => b_X2_link_99) (fun h => absurd (show (6 : Int32) ≤ nI 6 from nI_le (a := 6) (by omega) (by omega)) h), hF, h1, h2, h3⟩
    | succ d ih =>
      intro c hc w1 l4 l5 hF h1 h2 h3
      have hpc := pl_lt hk (show c < 6 by omega)
      have hS1 : TabS w1 := fun k hk c hc => by
        show w1.2.2.2 1 _ = _
        rw [hF.2.2.2 1 (by decide)]; exact hS k hk c hc
      have hP1 : TabP w1 := fun k hk c hc => by
        show w1.2.2.2 2 _ = _
        rw [hF.2.2.2 2 (by decide)]; exact hP k hk c hc
      have e6 : nI k * 6 + nI c = nI (k * 6 + c) := by rw [show (6 : Int32) = nI 6 from rfl, pk_mul, nI_add]
      have hin : vp_in (nI (k * 6 + c)) 4320 := vp_in_nI (by omega) (by omega)
      have q6 : (nI (k * 6 + c)).toNatClampNeg = k * 6 + c := nI_clamp (by omega)
      -- behind both writes
      have fin : ∀ (w2 : Wd) (l4 l5 : Int32), Fr [5] w1 w2 → ∃ w', Z_X2_link mm 9 [some (.ref 0), some (.int (nI k)), some (.int (nI (pl k 5))), some (.int (nI (c + 1))), some (.int l4), some (.int l5)] [] (sA (sA w2 3 (upd (wA w2 3) (k * 6 + c) (mvT k c))) 4 (upd (wA (sA w2 3 (upd (wA w2 3) (k * 6 + c) (mvT k c))) 4) (k * 6 + c) (wyT k c))) (none, w') ∧ Fr [3, 4, 5] w w' ∧ (∀ c, c < 6 → wA w' 3 (k * 6 + c) = mvT k c) ∧ (∀ c, c < 6 → wA w' 4 (k * 6 + c) = wyT k c) ∧ ∀ i, (i < k * 6 ∨ k * 6 + 6 ≤ i) → wA w' 3 i = wA w 3 i ∧ wA w' 4 i = wA w 4 i := by
        intro w2 l4 l5 hF2
        have g3 : wA w2 3 = wA w1 3 := hF2.2.2.2 3 (by decide)
        have g4 : wA w2 4 = wA w1 4 := hF2.2.2.2 4 (by decide)
        refine ih (c + 1) (by omega) _ _ _ (((hF.trans (hF2.mono (by decide))).trans (Fr.sA (by simp))).trans (Fr.sA (by simp))) (fun i hi => ?_) (fun i hi => ?_) (fun i hi => ?_)
        · rw [wA_sA_n (by decide), wA_sA_s]
          by_cases g : i = c
          · subst g; rw [pk_us]
          · rw [pk_un (by omega), g3]; exact h1 i (by omega)
        · rw [wA_sA_s]
          by_cases g : i = c
          · subst g; rw [pk_us]
          · rw [pk_un (by omega), wA_sA_n (by decide), g4]; exact h2 i (by omega)
        · rw [wA_sA_n (a := 4) (b := 3) (by decide), wA_sA_s, wA_sA_s, pk_un (by omega), pk_un (by omega), wA_sA_n (a := 3) (b := 4) (by decide), g3, g4]
          exact h3 i hi
      have hpl1 := am_place (w := w1) (mm := mm) (k := k) (s := c) hP1 h5 hk (by omega)
      have han := am_areNext (w := w1) (mm := mm) hpc hp5
      by_cases hg : go k c = true
      · have hnx : nx (pl k c) (pl k 5) = true := hg
        have hne := nx_ne _ hpc _ hp5 hnx
        rw [hnx] at han
        obtain ⟨w2, hex, hF2⟩ := am_exchanged (w := w1) (mm := mm) (k := k) (a := pl k c) (b := pl k 5) hS1 h5 hk hpc hp5 hne
        obtain ⟨w', hz, hrest⟩ := fin w2 (nI (pl k c)) (bz true) hF2
        have em : mvT k c = nI (mv k c) := by unfold mvT; rw [if_pos hg]
        have ew : wyT k c = nI (wy k c) := by unfold wyT; rw [if_pos hg]
        rw [em, ew] at hz
        refine ⟨w', b_X2_link_9 (fun h => absurd (nle (a := 6) h (by omega) (by omega)) (by omega)) (fun _ => b_X2_link_15 hpl1 h5 han (fun q => absurd q b1) (fun _ => b_X2_link_46 hex h5 ?_)), hrest⟩
        refine b_X2_link_58 h5 (by rw [e6]; exact hin) (fun _ => ?_) (fun q => absurd q b1)
        rw [e6, q6]
        have hmv : nI (ex k (pl k c) (pl k 5)) = nI (mv k c) := rfl
        rw [hmv]
        have hrow := am_isOneRow (w := sA w2 3 (upd (wA w2 3) (k * 6 + c) (nI (mv k c)))) (mm := mm) hpc hp5
        refine b_X2_link_78 hrow (fun q => ?_) (fun q => ?_)
        · have hr := bz_0.mp q
          have h1w : wy k c = 1 := by unfold wy; rw [if_neg (fun e => by rw [e] at hr; simp at hr)]
          rw [h1w] at hz
          refine b_X2_link_91 (b_X2_link_92 h5 hin ?_)
          rw [q6, nI_1]
          exact hz
        · have hr : pl k c / 3 = pl k 5 / 3 := by
            cases g : (pl k c / 3 == pl k 5 / 3) with
            | true => simpa using g
            | false => exact absurd (bz_0.mpr g) q
          have h0w : wy k c = 0 := by unfold wy; rw [if_pos hr]
          rw [h0w] at hz
          refine b_X2_link_87 (b_X2_link_92 h5 hin ?_)
          rw [q6, nI_1]
          exact hz
      · have hnx : nx (pl k c) (pl k 5) = false := by
          cases g : nx (pl k c) (pl k 5) with
          | false => rfl
          | true => exact absurd g hg
        rw [hnx] at han
        obtain ⟨w', hz, hrest⟩ := fin w1 (nI (pl k c)) (bz false) (Fr.refl _ _)
        have em : mvT k c = -1 := by unfold mvT; rw [if_neg hg]
        have ew : wyT k c = -1 := by unfold wyT; rw [if_neg hg]
        rw [em, ew] at hz
        refine ⟨w', b_X2_link_9 (fun h => absurd (nle (a := 6) h (by omega) (by omega)) (by omega)) (fun _ => b_X2_link_15 hpl1 h5 han (fun _ => b_X2_link_57 ?_) (fun q => absurd rfl q)), hrest⟩
        refine b_X2_link_58 h5 (by rw [e6]; exact hin) (fun q => absurd rfl q) (fun _ => ?_)
        rw [e6, q6]
        refine b_X2_link_74 (b_X2_link_92 h5 hin ?_)
        rw [q6, nI_1]
        exact hz
  have hpl5 := am_place (w := w) (mm := mm) (k := k) (s := 5) hP h5 hk (by omega)
  obtain ⟨w', hz, hrest⟩ := loop 6 0 rfl w none none (Fr.refl _ _) (fun i hi => absurd hi (Nat.not_lt_zero _)) (fun i hi => absurd hi (Nat.not_lt_zero _)) (fun i _ => ⟨rfl, rfl⟩)
  exact ⟨w', ai_X2_link (b_X2_link_0 hpl5 h5 hz), hrest⟩
end LY
