-- ===== Chances, and the greatest divisors =====
def okP (w : Wd) : Prop := (wP w 1 = 13 ∧ wP w 2 = 14) ∨ (wP w 1 = 14 ∧ wP w 2 = 13)
theorem okP.sh1 {w : Wd} (h : okP w) : SH[wP w 1]? = some (.inr (0, 720)) ∧ wP w 1 < 35 ∧ wP w 1 ∈ [12, 13, 14] := by
  rcases h with ⟨a, b⟩ | ⟨a, b⟩ <;> rw [a] <;> exact ⟨rfl, by decide, by decide⟩
theorem okP.sh2 {w : Wd} (h : okP w) : SH[wP w 2]? = some (.inr (0, 720)) ∧ wP w 2 < 35 ∧ wP w 2 ∈ [13, 14] ∧ wP w 1 ≠ wP w 2 := by
  rcases h with ⟨a, b⟩ | ⟨a, b⟩ <;> rw [a, b] <;> exact ⟨rfl, by decide, by decide, by decide⟩
section CH
variable {w : Wd}
theorem am_give {q : Nat} {x : Int32} (hP : okP w) (hq : q < 720) : A_X0_give 35 [.ref 12, .int (nI q), .int x] w (none, sA w (wP w 2) (upd (wA w (wP w 2)) q (wA w (wP w 2) q + x))) := by
  have hin : vp_in (nI q) 720 := vp_in_nI hq (by omega)
  refine ai_X0_give (b_X0_give_0 (am_isWithin _ _ _) (fun h => absurd ((in719 hq).symm.trans h) (by decide)) (fun _ => b_X0_give_11 hP.sh2.2.1 hP.sh2.1 hin hin ?_))
  rw [nI_clamp (by omega)]
  exact b_X0_give_21
theorem am_share {k kn x : Nat} {f : Nat → Nat} (hT : Tab w) (hP : okP w) (hk : k < 720) (hkn : kn < 2 ^ 31) (hK : wI w 12 4 = nI kn) (hx : x < 2 ^ 31) (hf : ∀ q, q < 720 → wA w (wP w 2) q = nI (f q)) :
    ∃ w', A_X0_share 35 [.ref 12, .int (nI k), .int (nI x), .int (nI (chc kn k 5))] w (none, w') ∧ Fr [13, 14] w w' ∧ wA w' (wP w 1) = wA w (wP w 1) ∧ ∀ q, q < 720 → wA w' (wP w 2) q = nI (shC kn k x f q) := by
  have h3 := chc_3 (kn := kn) hk
  by_cases h0 : chc kn k 5 = 0
  · refine ⟨_, ai_X0_share (b_X0_share_0 (fun h => absurd (by rw [h0]; rfl) h) (fun _ => b_X0_share_4 (am_give hP hk))), Fr.sA hP.sh2.2.2.1, wA_sA_n hP.sh2.2.2.2, fun q hq => ?_⟩
    rw [wA_sA_s]
    unfold shC gv
    rw [if_pos h0]
    by_cases e : q = k
    · subst e; rw [pk_us, uN_s, hf q hq, nI_add]
    · rw [pk_un e, uN_n e]; exact hf q hq
  · have hdv : nI x / nI (chc kn k 5) = nI (x / chc kn k 5) := pk_div hx (by omega) (by omega)
    have loop : ∀ d t, t + d = 5 → ∀ w1, Fr [13, 14] w w1 → wA w1 (wP w 1) = wA w (wP w 1) → (∀ q, q < 720 → wA w1 (wP w 2) q = nI (shT kn k (x / chc kn k 5) t f q)) →
        ∃ w', Z_X0_share 35 14 [some (.ref 12), some (.int (nI k)), some (.int (nI x)), some (.int (nI (chc kn k 5))), some (.int (nI t))] [] w1 (none, w') ∧ Fr [13, 14] w w' ∧ wA w' (wP w 1) = wA w (wP w 1) ∧ ∀ q, q < 720 → wA w' (wP w 2) q = nI (shT kn k (x / chc kn k 5) 5 f q) := by
      intro d
      induction d with
      | zero =>
        intro t ht w1 hF hA hq
        have ht : t = 5 := by omega
        subst ht
        exact ⟨w1, b_X0_share_14 (fun _ => b_X0_share_61) (fun h => absurd (show (5 : Int32) ≤ nI 5 from nI_le (a := 5) (by omega) (by omega)) h), hF, hA, hq⟩
      | succ d ih =>
        intro t ht w1 hF hA hq
        have hT1 : Tab w1 := hT.fr hF (by decide) (by decide) (by decide) (by decide)
        have ep : w1.2.2.1 = w.2.2.1 := hF.2.2.1 (by decide)
        have e1 : wP w1 1 = wP w 1 := congrFun ep 1
        have e2 : wP w1 2 = wP w 2 := congrFun ep 2
        have hP1 : okP w1 := by unfold okP; rw [e1, e2]; exact hP
        have hK1 : wI w1 12 4 = nI kn := (hF.1 12 4 (by decide)).trans hK
        have hpr := am_price (k := k) (t := t) (kn := kn) hT1.2.2.2 hk (by omega) hkn
        by_cases hz0 : prc kn k t = 0
        · obtain ⟨w', hz, rest⟩ := ih (t + 1) (by omega) w1 hF hA (fun q hq2 => by unfold shT; rw [if_pos hz0]; exact hq q hq2)
          refine ⟨w', b_X0_share_14 (fun h => absurd (nle (a := 5) h (by omega) (by omega)) (by omega)) (fun _ => b_X0_share_20 (by rw [hK1]; exact hpr) (fun _ => b_X0_share_55 ?_) (fun h => absurd ((np_m1 (prc_le _ _ _)).mpr hz0) h)), rest⟩
          rw [nI_1]; exact hz
        · have hgo : go k t = true := by
            cases hg : go k t with
            | true => rfl
            | false => exact absurd (by unfold prc; simp [hg]) hz0
          have hq7 := mv_lt hk (show t < 5 by omega)
          have hgv := am_give (w := w1) (q := mv k t) (x := nI (x / chc kn k 5)) hP1 hq7
          rw [e2] at hgv
          obtain ⟨w', hz, rest⟩ := ih (t + 1) (by omega) (sA w1 (wP w 2) (upd (wA w1 (wP w 2)) (mv k t) (wA w1 (wP w 2) (mv k t) + nI (x / chc kn k 5)))) (hF.trans (Fr.sA hP.sh2.2.2.1)) ((wA_sA_n hP.sh2.2.2.2).trans hA) (fun q hq2 => by
            rw [wA_sA_s]
            unfold shT
            rw [if_neg hz0]
            unfold gv
            by_cases e : q = mv k t
            · subst e; rw [pk_us, uN_s, hq _ hq2, nI_add]
            · rw [pk_un e, uN_n e]; exact hq q hq2)
          refine ⟨w', b_X0_share_14 (fun h => absurd (nle (a := 5) h (by omega) (by omega)) (by omega)) (fun _ => b_X0_share_20 (by rw [hK1]; exact hpr) (fun h => absurd ((np_m1 (prc_le _ _ _)).mp h) hz0) (fun _ => b_X0_share_38 (am_pushed hT1.2.2.1 hk (by omega) hgo) (nI_ne0 (by omega) (by omega)) (by rw [hdv]; exact hgv) (b_X0_share_55 ?_))), rest⟩
          rw [nI_1]; exact hz
    obtain ⟨w', hz, hF', hA', hq'⟩ := loop 5 0 rfl w (Fr.refl _ _) rfl hf
    refine ⟨w', ai_X0_share (b_X0_share_0 (fun _ => b_X0_share_11 hz) (fun h => absurd (neq (b := 0) h (by omega) (by omega)) h0)), hF', hA', fun q hq => ?_⟩
    unfold shC
    rw [if_neg h0]
    exact hq' q hq
def ChOK (w : Wd) : Prop := okP w ∧ (wI w 12 3 = -1 ∨ ∃ k kn m, k < 720 ∧ kn < 2 ^ 31 ∧ m ≤ 6 ∧ wI w 12 3 = nI k ∧ wI w 12 4 = nI kn ∧ wI w 12 5 = nI m ∧ ∀ q, q < 720 → wA w (wP w 1) q = nI (cp kn k m q))
theorem ChOK.fr {T : List Nat} {w w' : Wd} (h : ChOK w) (f : Fr T w w') (n2 : 12 ∉ T) (n3 : 13 ∉ T) (n4 : 14 ∉ T) : ChOK w' := by
  obtain ⟨hP, h⟩ := h
  have ep : w'.2.2.1 = w.2.2.1 := f.2.2.1 n2
  have e1 : wP w' 1 = wP w 1 := congrFun ep 1
  have e2 : wP w' 2 = wP w 2 := congrFun ep 2
  have ei : ∀ g, wI w' 12 g = wI w 12 g := fun g => f.1 12 g n2
  refine ⟨by unfold okP; rw [e1, e2]; exact hP, ?_⟩
  rcases h with h | ⟨k, kn, m, a1, a2, a3, a4, a5, a6, a7⟩
  · exact Or.inl (by rw [ei]; exact h)
  · refine Or.inr ⟨k, kn, m, a1, a2, a3, by rw [ei]; exact a4, by rw [ei]; exact a5, by rw [ei]; exact a6, fun q hq => ?_⟩
    rw [e1, ← a7 q hq]
    have h3 : wP w 1 ∉ T := by rcases hP with ⟨a, b⟩ | ⟨a, b⟩ <;> rw [a] <;> assumption
    exact congrFun (f.2.2.2 (wP w 1) h3) q
theorem am_drawFrom {k kn m : Nat} (hT : Tab w) (hO : ChOK w) (hk : k < 720) (hkn : kn < 2 ^ 31) (hm : m ≤ 6) :
    ∃ w', A_X0_drawFrom 35 [.ref 12, .int (nI k), .int (nI kn), .int (nI m)] w (none, w') ∧ Fr [12, 13, 14] w w' ∧ okP w' ∧ wI w' 12 3 = nI k ∧ wI w' 12 4 = nI kn ∧ wI w' 12 5 = nI m ∧ ∀ q, q < 720 → wA w' (wP w' 1) q = nI (cp kn k m q) := by
  obtain ⟨hP, hO⟩ := hO
  have anew : ∃ w', Z_X0_drawFrom 35 25 [some (.ref 12), some (.int (nI k)), some (.int (nI kn)), some (.int (nI m)), none, none] [] w (none, w') ∧ Fr [12, 13, 14] w w' ∧ okP w' ∧ wI w' 12 3 = nI k ∧ wI w' 12 4 = nI kn ∧ wI w' 12 5 = nI m ∧ ∀ q, q < 720 → wA w' (wP w' 1) q = nI (cp kn k m q) := by
    obtain ⟨g, hfill, hg⟩ := am_fill (w := sI (sI (sI w 12 3 (nI k)) 12 4 (nI kn)) 12 5 (nI m)) (a := wP w 1) (n := 720) (x := 0) hP.sh1.1 hP.sh1.2.1 (by decide)
    obtain ⟨w0, hw0⟩ : ∃ w0, w0 = sA (sI (sI (sI w 12 3 (nI k)) 12 4 (nI kn)) 12 5 (nI m)) (wP w 1) g := ⟨_, rfl⟩
    have hF0 : Fr [12, 13, 14] w w0 := by
      rw [hw0]
      exact (((Fr.sI (by simp)).trans (Fr.sI (by simp))).trans (Fr.sI (by simp))).trans (Fr.sA hP.sh1.2.2)
    have ep0 : ∀ f, wP w0 f = wP w f := fun f => by rw [hw0]; rfl
    have hP0 : okP w0 := by unfold okP; rw [ep0, ep0]; exact hP
    have h3 : wI w0 12 3 = nI k := by rw [hw0]; rfl
    have h4 : wI w0 12 4 = nI kn := by rw [hw0]; rfl
    have h5 : wI w0 12 5 = nI m := by rw [hw0]; rfl
    obtain ⟨w1, hw1⟩ : ∃ w1, w1 = sA w0 (wP w0 1) (upd (wA w0 (wP w0 1)) k 46656) := ⟨_, rfl⟩
    have hF1 : Fr [12, 13, 14] w w1 := by rw [hw1]; exact hF0.trans (Fr.sA hP0.sh1.2.2)
    have ep1 : ∀ f, wP w1 f = wP w f := fun f => by rw [hw1]; exact ep0 f
    have hP1 : okP w1 := by unfold okP; rw [ep1, ep1]; exact hP
    have hv1 : ∀ q, q < 720 → wA w1 (wP w1 1) q = nI (cp kn k 0 q) := by
      intro q hq
      have e9 : wP w1 1 = wP w0 1 := by rw [hw1]; rfl
      rw [e9, hw1, wA_sA_s]
      show _ = nI (uN (fun _ => 0) k 46656 q)
      by_cases e : q = k
      · subst e; rw [pk_us, uN_s]; rfl
      · rw [pk_un e, uN_n e, ep0, hw0, wA_sA_s, hg q hq]; rfl
    have loop : ∀ d j, j + d = m → ∀ (w2 : Wd) (l5 : Option Value), Fr [12, 13, 14] w w2 → okP w2 → wI w2 12 3 = nI k → wI w2 12 4 = nI kn → wI w2 12 5 = nI m → (∀ q, q < 720 → wA w2 (wP w2 1) q = nI (cp kn k j q)) →
        ∃ w', Z_X0_drawFrom 35 70 [some (.ref 12), some (.int (nI k)), some (.int (nI kn)), some (.int (nI m)), some (.int (nI j)), l5] [] w2 (none, w') ∧ Fr [12, 13, 14] w w' ∧ okP w' ∧ wI w' 12 3 = nI k ∧ wI w' 12 4 = nI kn ∧ wI w' 12 5 = nI m ∧ ∀ q, q < 720 → wA w' (wP w' 1) q = nI (cp kn k m q) := by
      intro d
      induction d with
      | zero =>
        intro j hj w2 l5 hF2 hP2 g3 g4 g5 hv
        have hj : j = m := by omega
        subst hj
        exact ⟨w2, b_X0_drawFrom_70 (fun _ => b_X0_drawFrom_160) (fun h => absurd (nI_le (Nat.le_refl j) (by omega)) h), hF2, hP2, g3, g4, g5, hv⟩
      | succ d ih =>
        intro j hj w2 l5 hF2 hP2 g3 g4 g5 hv
        obtain ⟨gz, hfz, hgz⟩ := am_fill (w := w2) (a := wP w2 2) (n := 720) (x := 0) hP2.sh2.1 hP2.sh2.2.1 (by decide)
        have inner : ∀ e i, i + e = 720 → ∀ (w3 : Wd), Fr [12, 13, 14] w w3 → (∀ f, wP w3 f = wP w2 f) → (∀ f, wI w3 12 f = wI w2 12 f) → wA w3 (wP w2 1) = wA w2 (wP w2 1) → (∀ q, q < 720 → wA w3 (wP w2 2) q = nI (stC kn (cp kn k j) i q)) →
            ∃ w', Z_X0_drawFrom 35 87 [some (.ref 12), some (.int (nI k)), some (.int (nI kn)), some (.int (nI m)), some (.int (nI j)), some (.int (nI i))] [] w3 (none, w') ∧ Fr [12, 13, 14] w w' ∧ okP w' ∧ wI w' 12 3 = nI k ∧ wI w' 12 4 = nI kn ∧ wI w' 12 5 = nI m ∧ ∀ q, q < 720 → wA w' (wP w' 1) q = nI (cp kn k m q) := by
          intro e
          induction e with
          | zero =>
            intro i hi w3 hF3 ep ei hA hq
            have hi : i = 720 := by omega
            subst hi
            have hP4 : okP (sP (sP w3 1 (wP w3 2)) 2 (wP w3 1)) := by
              have q1 : wP (sP (sP w3 1 (wP w3 2)) 2 (wP w3 1)) 1 = wP w3 2 := rfl
              have q2 : wP (sP (sP w3 1 (wP w3 2)) 2 (wP w3 1)) 2 = wP w3 1 := rfl
              unfold okP
              rw [q1, q2, ep, ep]
              rcases hP2 with ⟨a, b⟩ | ⟨a, b⟩
              · exact Or.inr ⟨b, a⟩
              · exact Or.inl ⟨b, a⟩
            obtain ⟨w', hz, rest⟩ := ih (j + 1) (by omega) (sP (sP w3 1 (wP w3 2)) 2 (wP w3 1)) (some (.ref (wP w3 1))) ((hF3.trans (Fr.sP (by simp))).trans (Fr.sP (by simp))) hP4 ((ei 3).trans g3) ((ei 4).trans g4) ((ei 5).trans g5) (fun q hq2 => by
              have q1 : wP (sP (sP w3 1 (wP w3 2)) 2 (wP w3 1)) 1 = wP w3 2 := rfl
              rw [q1, ep]
              exact hq q hq2)
            refine ⟨w', b_X0_drawFrom_87 (fun _ => b_X0_drawFrom_134 ?_) (fun h => absurd (show (720 : Int32) ≤ nI 720 from nI_le (a := 720) (by omega) (by omega)) h), rest⟩
            rw [nI_1]; exact hz
          | succ e ih2 =>
            intro i hi w3 hF3 ep ei hA hq
            have hT3 : Tab w3 := hT.fr hF3 (by decide) (by decide) (by decide) (by decide)
            have hP3 : okP w3 := by unfold okP; rw [ep, ep]; exact hP2
            have hin : vp_in (nI i) 720 := vp_in_nI (by omega) (by omega)
            have hle := cp_le (kn := kn) (m := j) hk (by omega) (show i < 720 by omega)
            have hval : wA w3 (wP w3 1) (nI i).toNatClampNeg = nI (cp kn k j i) := by
              rw [nI_clamp (by omega), ep, hA]
              exact hv i (by omega)
            have hno : ¬ (720 : Int32) ≤ nI i := fun h => absurd (nle (a := 720) h (by omega) (by omega)) (by omega)
            by_cases h0 : cp kn k j i = 0
            · obtain ⟨w', hz, rest⟩ := ih2 (i + 1) (by omega) w3 hF3 ep ei hA (fun q hq2 => by unfold stC; rw [if_pos h0]; exact hq q hq2)
              refine ⟨w', b_X0_drawFrom_87 (fun h => absurd h hno) (fun _ => b_X0_drawFrom_95 hP3.sh1.2.1 hP3.sh1.1 hin (fun _ => b_X0_drawFrom_128 ?_) (fun h => absurd (by rw [hval, h0]; decide) h)), rest⟩
              rw [nI_1]; exact hz
            · obtain ⟨w4, hsh, hF4, hA4, hq4⟩ := am_share (x := cp kn k j i) (f := stC kn (cp kn k j) i) hT3 hP3 (show i < 720 by omega) hkn ((ei 4).trans g4) (by omega) (by rw [ep]; exact hq)
              obtain ⟨w', hz, rest⟩ := ih2 (i + 1) (by omega) w4 (hF3.trans (hF4.mono (by simp))) (fun f => (congrFun (hF4.2.2.1 (by decide)) f).trans (ep f)) (fun f => (hF4.1 12 f (by decide)).trans (ei f)) (by rw [ep] at hA4; exact hA4.trans hA) (fun q hq2 => by
                unfold stC
                rw [if_neg h0]
                rw [ep] at hq4
                exact hq4 q hq2)
              refine ⟨w', b_X0_drawFrom_87 (fun h => absurd h hno) (fun _ => b_X0_drawFrom_95 hP3.sh1.2.1 hP3.sh1.1 hin (fun h => absurd (nle (b := 0) (by rw [hval] at h; exact h) (by omega) (by omega)) (by omega)) (fun _ => b_X0_drawFrom_105 hP3.sh1.2.1 hP3.sh1.1 hin (am_choices hT3.2.2.2 (by omega) hkn) (by rw [hval]; exact hsh) (b_X0_drawFrom_128 ?_))), rest⟩
              rw [nI_1]; exact hz
        obtain ⟨w', hz, rest⟩ := inner 720 0 (by omega) (sA w2 (wP w2 2) gz) (hF2.trans (Fr.sA (by have := hP2.sh2.2.2.1; simp at this ⊢; omega))) (fun _ => rfl) (fun _ => rfl) (wA_sA_n hP2.sh2.2.2.2) (fun q hq => by rw [wA_sA_s, hgz q hq]; rfl)
        exact ⟨w', b_X0_drawFrom_70 (fun h => absurd (nle h (by omega) (by omega)) (by omega)) (fun _ => b_X0_drawFrom_76 hfz hz), rest⟩
    obtain ⟨w', hz, rest⟩ := loop m 0 (by omega) w1 none hF1 hP1 (by rw [hw1]; exact h3) (by rw [hw1]; exact h4) (by rw [hw1]; exact h5) hv1
    refine ⟨w', b_X0_drawFrom_25 hfill (am_isWithin _ _ _) (fun h => absurd ((in719 hk).symm.trans h) (by decide)) (fun _ => ?_), rest⟩
    rw [← hw0]
    refine b_X0_drawFrom_59 hP0.sh1.2.1 hP0.sh1.1 (vp_in_nI hk (by omega)) ?_
    rw [nI_clamp (by omega), ← hw1]
    exact b_X0_drawFrom_67 hz
  obtain ⟨w', hz, rest⟩ := anew
  by_cases e1 : nI k = wI w 12 3
  · by_cases e2 : nI kn = wI w 12 4
    · by_cases e3 : nI m = wI w 12 5
      · rcases hO with h | ⟨k', kn', m', a1, a2, a3, a4, a5, a6, a7⟩
        · exact absurd (e1.trans h) (nI_m1 (by omega))
        · have q1 : k = k' := neq (e1.trans a4) (by omega) (by omega)
          have q2 : kn = kn' := neq (e2.trans a5) hkn a2
          have q3 : m = m' := neq (e3.trans a6) (by omega) (by omega)
          subst q1; subst q2; subst q3
          exact ⟨w, ai_X0_drawFrom (b_X0_drawFrom_0 (fun h => absurd e1 h) (fun _ => b_X0_drawFrom_8 (fun h => absurd e2 h) (fun _ => b_X0_drawFrom_16 (fun h => absurd e3 h) (fun _ => b_X0_drawFrom_24)))), Fr.refl _ _, hP, a4, a5, a6, a7⟩
      · exact ⟨w', ai_X0_drawFrom (b_X0_drawFrom_0 (fun h => absurd e1 h) (fun _ => b_X0_drawFrom_8 (fun h => absurd e2 h) (fun _ => b_X0_drawFrom_16 (fun _ => hz) (fun h => absurd h e3)))), rest⟩
    · exact ⟨w', ai_X0_drawFrom (b_X0_drawFrom_0 (fun h => absurd e1 h) (fun _ => b_X0_drawFrom_8 (fun _ => hz) (fun h => absurd h e2))), rest⟩
  · exact ⟨w', ai_X0_drawFrom (b_X0_drawFrom_0 (fun _ => hz) (fun h => absurd h e1)), rest⟩
theorem am_partsWith {kn k m t x : Nat} (hT : TabP w) (hP : okP w) (hk : k < 720) (hm : m ≤ 6) (ht : t < 5) (hx : x < 6) (hv : ∀ q, q < 720 → wA w (wP w 1) q = nI (cp kn k m q)) : A_X0_partsWith 35 [.ref 12, .int (nI t), .int (nI x)] w (some (.int (nI (swp1 (cp kn k m) t x 720))), w) := by
  have loop : ∀ d i, i + d = 720 → Z_X0_partsWith 35 5 [some (.ref 12), some (.int (nI t)), some (.int (nI x)), some (.int (nI (swp1 (cp kn k m) t x i))), some (.int (nI i))] [] w (some (.int (nI (swp1 (cp kn k m) t x 720))), w) := by
    intro d
    induction d with
    | zero =>
      intro i hi
      have hi : i = 720 := by omega
      subst hi
      exact b_X0_partsWith_5 (fun _ => b_X0_partsWith_53) (fun h => absurd (show (720 : Int32) ≤ nI 720 from nI_le (a := 720) (by omega) (by omega)) h)
    | succ d ih =>
      intro i hi
      have hin : vp_in (nI i) 720 := vp_in_nI (by omega) (by omega)
      have hle := cp_le (kn := kn) (m := m) hk hm (show i < 720 by omega)
      have hval : wA w (wP w 1) (nI i).toNatClampNeg = nI (cp kn k m i) := by rw [nI_clamp (by omega)]; exact hv i (by omega)
      have hpl := pl_lt (show i < 720 by omega) (show t < 6 by omega)
      have go : ∀ s, s = swp1 (cp kn k m) t x (i + 1) → Z_X0_partsWith 35 47 [some (.ref 12), some (.int (nI t)), some (.int (nI x)), some (.int (nI s)), some (.int (nI i))] [] w (some (.int (nI (swp1 (cp kn k m) t x 720))), w) := by
        intro s hs
        subst hs
        refine b_X0_partsWith_47 ?_
        rw [nI_1]
        exact ih (i + 1) (by omega)
      refine b_X0_partsWith_5 (fun h => absurd (nle (a := 720) h (by omega) (by omega)) (by omega)) (fun _ => b_X0_partsWith_13 hP.sh1.2.1 hP.sh1.1 hin (fun h => ?_) (fun h => b_X0_partsWith_23 (am_place hT (by omega) (by omega) (by omega)) (fun h2 => ?_) (fun h2 => b_X0_partsWith_37 hP.sh1.2.1 hP.sh1.1 hin ?_)))
      · have h0 : cp kn k m i = 0 := by
          have := nle (b := 0) (by rw [hval] at h; exact h) (by omega) (by omega)
          omega
        refine go _ ?_
        show _ = swp1 (cp kn k m) t x i + if pl i t = x then cp kn k m i else 0
        split <;> omega
      · refine go _ ?_
        have h3 : ¬ pl i t = x := fun e => h2 (by rw [e])
        show _ = swp1 (cp kn k m) t x i + if pl i t = x then cp kn k m i else 0
        rw [if_neg h3]; rfl
      · have h3 : pl i t = x := neq h2 (by omega) (by omega)
        rw [hval, nI_add]
        refine go _ ?_
        show _ = swp1 (cp kn k m) t x i + if pl i t = x then cp kn k m i else 0
        rw [if_pos h3]
  exact ai_X0_partsWith (b_X0_partsWith_0 (loop 720 0 rfl))
-- greatest divisors
theorem gd_fuel : ∀ (f more less turn : Nat), less < 2 ^ f → less ≤ more → more < 2 ^ 31 → turn + 2 * f + 1 ≤ 40 → ∀ (x0 x1 : Int32) (l5 : Option Value), Z_X5_greatestDivisor 35 7 [some (.int x0), some (.int x1), some (.int (nI more)), some (.int (nI less)), some (.int (nI turn)), l5] [] w (some (.int (nI (Nat.gcd more less))), w) := by
  intro f
  induction f with
  | zero =>
    intro more less turn hl hlm hm ht x0 x1 l5
    have : less = 0 := by simp at hl; exact hl
    subst this
    rw [Nat.gcd_zero_right]
    exact b_X5_greatestDivisor_7 (fun h => absurd (nle (a := 40) h (by omega) (by omega)) (by omega)) (fun _ => b_X5_greatestDivisor_14 (fun _ => b_X5_greatestDivisor_34) (fun h => absurd rfl h))
  | succ f ih =>
    intro more less turn hl hlm hm ht x0 x1 l5
    by_cases h0 : less = 0
    · subst h0
      rw [Nat.gcd_zero_right]
      exact b_X5_greatestDivisor_7 (fun h => absurd (nle (a := 40) h (by omega) (by omega)) (by omega)) (fun _ => b_X5_greatestDivisor_14 (fun _ => b_X5_greatestDivisor_34) (fun h => absurd rfl h))
    · have hp : 0 < less := by omega
      have hr : nI more - nI more / nI less * nI less = nI (more % less) := pk_rem hm hp (by omega)
      have hml := Nat.mod_lt more hp
      refine b_X5_greatestDivisor_7 (fun h => absurd (nle (a := 40) h (by omega) (by omega)) (by omega)) (fun _ => b_X5_greatestDivisor_14 (fun h => absurd (neq (b := 0) h (by omega) (by omega)) h0) (fun h => b_X5_greatestDivisor_18 h ?_))
      rw [hr, nI_1]
      have hg : Nat.gcd more less = Nat.gcd less (more % less) := by
        rw [Nat.gcd_comm more less, Nat.gcd_rec less more, Nat.gcd_comm]
      rw [hg]
      generalize more % less = r at hml
      by_cases h1 : r = 0
      · subst h1
        rw [Nat.gcd_zero_right]
        exact b_X5_greatestDivisor_7 (fun h => absurd (nle (a := 40) h (by omega) (by omega)) (by omega)) (fun _ => b_X5_greatestDivisor_14 (fun _ => b_X5_greatestDivisor_34) (fun h => absurd rfl h))
      · have hp1 : 0 < r := by omega
        have hr1 : nI less - nI less / nI r * nI r = nI (less % r) := pk_rem (by omega) hp1 (by omega)
        have hml1 := Nat.mod_lt less hp1
        have hhalf : 2 * (less % r) < less := by
          have h5 := Nat.mod_add_div less r
          have h6 : 1 ≤ less / r := (Nat.le_div_iff_mul_le hp1).mpr (by omega)
          have h7 : r * 1 ≤ r * (less / r) := Nat.mul_le_mul_left r h6
          omega
        refine b_X5_greatestDivisor_7 (fun h => absurd (nle (a := 40) h (by omega) (by omega)) (by omega)) (fun _ => b_X5_greatestDivisor_14 (fun h => absurd (neq (b := 0) h (by omega) (by omega)) h1) (fun h => b_X5_greatestDivisor_18 h ?_))
        rw [hr1, nI_1]
        have hg1 : Nat.gcd less r = Nat.gcd r (less % r) := by
          rw [Nat.gcd_comm less r, Nat.gcd_rec r less, Nat.gcd_comm]
        rw [hg1]
        exact ih r (less % r) (turn + 1 + 1) (by rw [Nat.pow_succ] at hl; omega) (by omega) (by omega) (by omega) _ _ _
theorem am_gd {b : Nat} (hb : b ≤ 46656) : A_X5_greatestDivisor 35 [.int 46656, .int (nI b)] w (some (.int (nI (Nat.gcd 46656 b))), w) :=
  ai_X5_greatestDivisor (b_X5_greatestDivisor_0 (gd_fuel 16 46656 b 0 (by omega) hb (by omega) (by omega) _ _ _))
theorem dv_run : ∀ (b a : Nat), a < 2 ^ 31 → b < 2 ^ 31 → ∀ (x0 x1 : Int32) (l4 : Option Value), Z_X6_divisor 35 4 [some (.int x0), some (.int x1), some (.int (nI a)), some (.int (nI b)), l4] [] w (some (.int (nI (Nat.gcd a b))), w) := by
  intro b
  induction b using Nat.strongRecOn with
  | ind b ih =>
    intro a ha hb x0 x1 l4
    by_cases h0 : b = 0
    · subst h0
      rw [Nat.gcd_zero_right]
      exact b_X6_divisor_4 (fun _ => b_X6_divisor_21) (fun h => absurd rfl h)
    · have hp : 0 < b := by omega
      refine b_X6_divisor_4 (fun h => absurd (neq (b := 0) h hb (by omega)) h0) (fun h => b_X6_divisor_8 h ?_)
      rw [pk_rem ha hp hb]
      have hg : Nat.gcd a b = Nat.gcd b (a % b) := by
        rw [Nat.gcd_comm a b, Nat.gcd_rec b a, Nat.gcd_comm]
      rw [hg]
      have := Nat.mod_lt a hp
      exact ih (a % b) this b hb (by omega) _ _ _
theorem am_divisor {a b : Nat} (ha : a < 2 ^ 31) (hb : b < 2 ^ 31) : A_X6_divisor 35 [.int (nI a), .int (nI b)] w (some (.int (nI (Nat.gcd a b))), w) := ai_X6_divisor (b_X6_divisor_0 (dv_run b a ha hb _ _ _))
end CH
