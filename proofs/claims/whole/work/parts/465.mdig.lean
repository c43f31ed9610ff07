-- ===== the reference: count, digest =====
section MX
variable {w : Wd}
theorem am_howMany {s : Sg} (h : RepM w s) (hb : gT s < 1000000) {q : Nat} (hq : q < 10) : A_X6_howMany 35 [.ref 22, .int (nI q)] w (some (.int (ctA s q)), w) := by
  obtain ⟨a1, a2, a3, a4, a5, a6⟩ := id h
  have fin : ∀ {q : Nat} {v : Int32} {o : Int32}, v = o → Z_X6_howMany 35 q [some (.ref 22), some (.int (nI q))] [] w (some (.int v), w) → Z_X6_howMany 35 q [some (.ref 22), some (.int (nI q))] [] w (some (.int o), w) := fun e z => by rw [← e]; exact z
  rcases (show q = 0 ∨ q = 1 ∨ q = 2 ∨ q = 3 ∨ q = 4 ∨ q = 5 ∨ q = 6 ∨ q = 7 ∨ q = 8 ∨ q = 9 by omega) with rfl | rfl | rfl | rfl | rfl | rfl | rfl | rfl | rfl | rfl
  · refine ai_X6_howMany (b_X6_howMany_0_c0 rfl (b_X6_howMany_56 ?_))
    show A_X6_ofTray _ _ _ (some (.int (oN (gC s) _ _)), _)
    cases hc : gC s with
    | none => exact ai_X6_ofTray (b_X6_ofTray_0_c0 rfl (b_X6_ofTray_36 (fun e => absurd (h.tn hc) e) (fun _ => b_X6_ofTray_43 b_X6_ofTray_55)))
    | some u =>
      obtain ⟨t1, t2, t3, hu, hm⟩ := h.ts hb hc
      exact ai_X6_ofTray (b_X6_ofTray_0_c0 rfl (b_X6_ofTray_36 (fun _ => b_X6_ofTray_47 (by rw [hm.1]; exact am_whereIs (s := 5) hu.1 (by omega)) b_X6_ofTray_55) (fun e => absurd e t1)))
  · refine ai_X6_howMany (b_X6_howMany_0_c1 rfl (b_X6_howMany_56 ?_))
    show A_X6_ofTray _ _ _ (some (.int (oN (gC s) _ _)), _)
    cases hc : gC s with
    | none => exact ai_X6_ofTray (b_X6_ofTray_0_c1 rfl (b_X6_ofTray_56 (fun e => absurd (h.tn hc) e) (fun _ => b_X6_ofTray_63 b_X6_ofTray_75)))
    | some u =>
      obtain ⟨t1, t2, t3, hu, hm⟩ := h.ts hb hc
      exact ai_X6_ofTray (b_X6_ofTray_0_c1 rfl (b_X6_ofTray_56 (fun _ => b_X6_ofTray_67 (by rw [hm.2.1]; exact am_whereIs (s := 5) hu.2.1 (by omega)) b_X6_ofTray_75) (fun e => absurd e t1)))
  · refine ai_X6_howMany (b_X6_howMany_0_c2 rfl ?_)
    have e : wI w 22 4 = ctA s 2 := by
      show _ = oN (gC s) _ _
      cases hc : gC s with
      | none => rw [hc] at a5; exact a5.2.1
      | some u => obtain ⟨t1, t2, t3, hu, hm⟩ := h.ts hb hc; exact hm.2.2.2.1
    rw [← e]; exact b_X6_howMany_62
  · refine ai_X6_howMany (b_X6_howMany_0_c3 rfl ?_)
    have e : wI w 22 5 = ctA s 3 := by
      show _ = oN (gC s) _ _
      cases hc : gC s with
      | none => rw [hc] at a5; exact a5.2.2.1
      | some u => obtain ⟨t1, t2, t3, hu, hm⟩ := h.ts hb hc; exact hm.2.2.2.2.1
    rw [← e]; exact b_X6_howMany_67
  · refine ai_X6_howMany (b_X6_howMany_0_c4 rfl (b_X6_howMany_56 ?_))
    show A_X6_ofTray _ _ _ (some (.int (oN (gC s) _ _)), _)
    cases hc : gC s with
    | none => exact ai_X6_ofTray (b_X6_ofTray_0_c4 rfl (b_X6_ofTray_76 (fun e => absurd (h.tn hc) e) (fun _ => b_X6_ofTray_83 b_X6_ofTray_98)))
    | some u =>
      obtain ⟨t1, t2, t3, hu, hm⟩ := h.ts hb hc
      have hms := am_msize (w := w) (b := mbN (cN u) (cK u)) (by have := mbN_lt (cN u) (cK u); omega)
      rw [szN_mb] at hms
      exact ai_X6_ofTray (b_X6_ofTray_0_c4 rfl (b_X6_ofTray_76 (fun _ => b_X6_ofTray_87 (by rw [hm.1]; exact am_mayBe hm.2.2.1 hu.1) hms b_X6_ofTray_98) (fun e => absurd e t1)))
  · refine ai_X6_howMany (b_X6_howMany_0_c5 rfl (b_X6_howMany_56 ?_))
    show A_X6_ofTray _ _ _ (some (.int (oN (gC s) _ _)), _)
    cases hc : gC s with
    | none => exact ai_X6_ofTray (b_X6_ofTray_0_d (Or.inr (by decide)) (b_X6_ofTray_99 (fun e => absurd (h.tn hc) e) (fun _ => b_X6_ofTray_106 b_X6_ofTray_118)))
    | some u =>
      obtain ⟨t1, t2, t3, hu, hm⟩ := h.ts hb hc
      exact ai_X6_ofTray (b_X6_ofTray_0_d (Or.inr (by decide)) (b_X6_ofTray_99 (fun _ => b_X6_ofTray_110 (by rw [hm.1]; exact am_alikeIn hm.2.1 hu.1 hu.2.1) b_X6_ofTray_118) (fun e => absurd e t1)))
  · refine ai_X6_howMany (b_X6_howMany_0_c6 rfl ?_)
    have e : wI w 22 7 = ctA s 6 := by
      show _ = oN (gC s) _ _
      cases hc : gC s with
      | none => rw [hc] at a5; exact a5.2.2.2
      | some u => obtain ⟨t1, t2, t3, hu, hm⟩ := h.ts hb hc; exact hm.2.2.2.2.2.1
    rw [← e]; exact b_X6_howMany_72
  · refine ai_X6_howMany (b_X6_howMany_0_c7 rfl ?_)
    have e : wI w 22 11 = ctA s 7 := a4.2.1
    rw [← e]; exact b_X6_howMany_77
  · refine ai_X6_howMany (b_X6_howMany_0_c8 rfl ?_)
    have e : wI w 22 0 = ctA s 8 := a1
    rw [← e]; exact b_X6_howMany_82
  · refine ai_X6_howMany (b_X6_howMany_0_c9 rfl ?_)
    have e : wI w 22 6 = ctA s 9 := a2
    rw [← e]; exact b_X6_howMany_87
theorem am_m_count {s : Sg} (h : RepM w s) (hb : gT s < 1000000) (x : Int32) : A_X6_count 35 [.ref 22, .int x] w (some (.int (rCount s x)), w) := by
  unfold rCount
  rcases ix_cases x (n := 10) (by decide) with ⟨e, h1⟩ | ⟨q, hq, rfl, e⟩
  · rw [e]
    exact ai_X6_count (b_X6_count_0 (ai_X6_howMany (b_X6_howMany_0_d (sw_d (n := 9) h1 (by decide)) b_X6_howMany_92)))
  · rw [e]
    exact ai_X6_count (b_X6_count_0 (am_howMany h hb hq))
theorem am_mmix {h : Int64} (hw : wJ w 22 29 = h) (v : Int32) : A_X6_mix 35 [.ref 22, .long v.toInt64] w (none, sJ w 22 29 (mx h v)) := by
  have := ai_X6_mix (b_X6_mix_0 (w := w) (x1 := v.toInt64))
  rw [hw] at this
  exact this
/-- underway in a digest -/
def DgP (w : Wd) (s : Sg) (h : Int64) (w1 : Wd) : Prop := Fr ML w w1 ∧ RepM w1 s ∧ wJ w1 22 29 = h
theorem DgP.mix {s : Sg} {h : Int64} {w1 w2 : Wd} {T : List Nat} (hp : DgP w s h w1) (hF : Fr T w1 w2) (hT : ∀ i, i ∈ T → i ∈ ML ∧ i ∉ 22 :: SL) (v : Int32) : A_X6_mix 35 [.ref 22, .long v.toInt64] w2 (none, sJ w2 22 29 (mx h v)) ∧ DgP w s (mx h v) (sJ w2 22 29 (mx h v)) := by
  obtain ⟨p1, p2, p3⟩ := hp
  have h22 : 22 ∉ T := fun q => (hT 22 q).2 List.mem_cons_self
  refine ⟨am_mmix ((hF.2.1 22 29 h22).trans p3) v, (p1.trans (hF.mono (fun i hi => (hT i hi).1))).trans (Fr.sJ (by decide)), (p2.fr hF (fun i hi => (hT i hi).2)).J, wJ_sJ_s⟩
theorem am_mixTray {s : Sg} {u : CU} (h : RepM w s) (hb : gT s < 1000000) (hc : gC s = some u) {h0 : Int64} (hw : wJ w 22 29 = h0) : ∃ w', A_X6_mixTray 35 [.ref 22] w (none, w') ∧ DgP w s (mlA u (mcO u 6 0 (mtO u 5 0 h0))) w' := by
  have tiles : ∀ d t, t + d = 5 → ∀ (hh : Int64) (l2 : Option Value) (w1 : Wd), DgP w s hh w1 → ∃ (w' : Wd) (l2' : Option Value), DgP w s (mtO u d t hh) w' ∧ ∀ r, Z_X6_mixTray 35 75 [some (.ref 22), some (.int (nI 5)), l2'] [] w' r → Z_X6_mixTray 35 2 [some (.ref 22), some (.int (nI t)), l2] [] w1 r := by
    intro d
    induction d with
    | zero =>
      intro t ht hh l2 w1 hp
      have ht : t = 5 := by omega
      subst ht
      exact ⟨w1, l2, hp, fun r z => b_X6_mixTray_2 (fun _ => z) (fun e => absurd (show (5 : Int32) ≤ nI 5 from nI_le (a := 5) (by omega) (by omega)) e)⟩
    | succ d ih =>
      intro t ht hh l2 w1 hp
      have inner : ∀ e q, q + e = 7 → ∀ (hh : Int64) (w1 : Wd), DgP w s hh w1 → ∃ w', DgP w s (mtI u t e q hh) w' ∧ ∀ r, Z_X6_mixTray 35 32 [some (.ref 22), some (.int (nI t)), some (.int (nI 7))] [] w' r → Z_X6_mixTray 35 9 [some (.ref 22), some (.int (nI t)), some (.int (nI q))] [] w1 r := by
        intro e
        induction e with
        | zero =>
          intro q hq hh w1 hp
          have hq : q = 7 := by omega
          subst hq
          exact ⟨w1, hp, fun r z => b_X6_mixTray_9 (fun _ => z) (fun e => absurd (show (7 : Int32) ≤ nI 7 from nI_le (a := 7) (by omega) (by omega)) e)⟩
        | succ e ih2 =>
          intro q hq hh w1 hp
          obtain ⟨t1, t2, t3, hu, hm⟩ := hp.2.1.ts hb hc
          obtain ⟨w2, ha, hF⟩ := am_tileNow (w := w1) hu hm (show t < 5 by omega) (show q < 7 by omega)
          obtain ⟨hx, hp2⟩ := hp.mix hF (by decide) (tN u t q)
          obtain ⟨w', hp', hz⟩ := ih2 (q + 1) (by omega) _ _ hp2
          refine ⟨w', hp', fun r z => b_X6_mixTray_9 (fun e => absurd (nle (a := 7) e (by omega) (by omega)) (by omega)) (fun _ => b_X6_mixTray_15 ha hx ?_)⟩
          rw [nI_1]; exact hz r z
      obtain ⟨w2, hp2, hz2⟩ := inner 7 0 rfl hh w1 hp
      obtain ⟨t1, t2, t3, hu, hm⟩ := hp2.2.1.ts hb hc
      obtain ⟨w3, ha3, hF3⟩ := am_homeNow (w := w2) (t := t) (x := 0) hu hm.2.2.1 hm.1 (by omega) (by omega)
      obtain ⟨hx3, hp3⟩ := hp2.mix hF3 (by decide) (hoN u t 0)
      obtain ⟨-, -, -, hu4, hm4⟩ := hp3.2.1.ts hb hc
      obtain ⟨w4, ha4, hF4⟩ := am_oddsNow (t := t) (x := 4) (m := 3) (q := 0) hu4 hm4.2.2.1 hm4.1 (by omega) (by omega) (by omega) (by omega)
      obtain ⟨hx4, hp4⟩ := hp3.mix hF4 (by decide) (odN u 3 t 4 0)
      obtain ⟨-, -, -, hu5, hm5⟩ := hp4.2.1.ts hb hc
      obtain ⟨w5, ha5, hF5⟩ := am_oddsNow (t := t) (x := 4) (m := 3) (q := 1) hu5 hm5.2.2.1 hm5.1 (by omega) (by omega) (by omega) (by omega)
      obtain ⟨hx5, hp5⟩ := hp4.mix hF5 (by decide) (odN u 3 t 4 1)
      obtain ⟨w', l2', hp', hz⟩ := ih (t + 1) (by omega) _ (some (.int (nI 7))) _ hp5
      refine ⟨w', l2', hp', fun r z => b_X6_mixTray_2 (fun e => absurd (nle (a := 5) e (by omega) (by omega)) (by omega)) (fun _ => b_X6_mixTray_7 (hz2 r (b_X6_mixTray_32 ha3 hx3 ha4 hx4 ha5 hx5 ?_)))⟩
      rw [nI_1]; exact hz r z
  have cellsL : ∀ d c, c + d = 6 → ∀ (hh : Int64) (l2 : Option Value) (w1 : Wd), DgP w s hh w1 → ∃ (w' : Wd) (l2' : Option Value), DgP w s (mcO u d c hh) w' ∧ ∀ r, Z_X6_mixTray 35 113 [some (.ref 22), some (.int (nI 6)), l2'] [] w' r → Z_X6_mixTray 35 77 [some (.ref 22), some (.int (nI c)), l2] [] w1 r := by
    intro d
    induction d with
    | zero =>
      intro c hcc hh l2 w1 hp
      have hcc : c = 6 := by omega
      subst hcc
      exact ⟨w1, l2, hp, fun r z => b_X6_mixTray_77 (fun _ => z) (fun e => absurd (show (6 : Int32) ≤ nI 6 from nI_le (a := 6) (by omega) (by omega)) e)⟩
    | succ d ih =>
      intro c hcc hh l2 w1 hp
      have inner : ∀ e q, q + e = 3 → ∀ (hh : Int64) (w1 : Wd), DgP w s hh w1 → ∃ w', DgP w s (mcI u c e q hh) w' ∧ ∀ r, Z_X6_mixTray 35 107 [some (.ref 22), some (.int (nI c)), some (.int (nI 3))] [] w' r → Z_X6_mixTray 35 85 [some (.ref 22), some (.int (nI c)), some (.int (nI q))] [] w1 r := by
        intro e
        induction e with
        | zero =>
          intro q hq hh w1 hp
          have hq : q = 3 := by omega
          subst hq
          exact ⟨w1, hp, fun r z => b_X6_mixTray_85 (fun _ => z) (fun e => absurd (show (3 : Int32) ≤ nI 3 from nI_le (a := 3) (by omega) (by omega)) e)⟩
        | succ e ih2 =>
          intro q hq hh w1 hp
          obtain ⟨t1, t2, t3, hu, hm⟩ := hp.2.1.ts hb hc
          have ha := am_cellNow (w := w1) hu hm (show c < 6 by omega) (show q < 3 by omega)
          obtain ⟨hx, hp2⟩ := hp.mix (Fr.refl [28] w1) (by decide) (cNow u c q)
          obtain ⟨w', hp', hz⟩ := ih2 (q + 1) (by omega) _ _ hp2
          refine ⟨w', hp', fun r z => b_X6_mixTray_85 (fun e => absurd (nle (a := 3) e (by omega) (by omega)) (by omega)) (fun _ => b_X6_mixTray_90 ha hx ?_)⟩
          rw [nI_1]; exact hz r z
      obtain ⟨w2, hp2, hz2⟩ := inner 3 0 rfl hh w1 hp
      obtain ⟨w', l2', hp', hz⟩ := ih (c + 1) (by omega) _ (some (.int (nI 3))) _ hp2
      refine ⟨w', l2', hp', fun r z => b_X6_mixTray_77 (fun e => absurd (nle (a := 6) e (by omega) (by omega)) (by omega)) (fun _ => b_X6_mixTray_83 (hz2 r (b_X6_mixTray_107 ?_)))⟩
      rw [nI_1]; exact hz r z
  have leasts : ∀ d q, q + d = 3 → ∀ (hh : Int64) (l2 : Option Value) (w1 : Wd), DgP w s hh w1 → ∃ (w' : Wd), DgP w s (mlI u d q hh) w' ∧ ∀ r, Z_X6_mixTray 35 136 [some (.ref 22), some (.int (nI 3)), l2] [] w' r → Z_X6_mixTray 35 115 [some (.ref 22), some (.int (nI q)), l2] [] w1 r := by
    intro d
    induction d with
    | zero =>
      intro q hq hh l2 w1 hp
      have hq : q = 3 := by omega
      subst hq
      exact ⟨w1, hp, fun r z => b_X6_mixTray_115 (fun _ => z) (fun e => absurd (show (3 : Int32) ≤ nI 3 from nI_le (a := 3) (by omega) (by omega)) e)⟩
    | succ d ih =>
      intro q hq hh l2 w1 hp
      obtain ⟨t1, t2, t3, hu, hm⟩ := hp.2.1.ts hb hc
      obtain ⟨w2, ha, hF⟩ := am_leastNow (w := w1) hu hm.2.2.1 hm.1 hm.2.1 (show q < 3 by omega)
      obtain ⟨hx, hp2⟩ := hp.mix hF (by decide) (lNow u q)
      obtain ⟨w', hp', hz⟩ := ih (q + 1) (by omega) _ l2 _ hp2
      refine ⟨w', hp', fun r z => b_X6_mixTray_115 (fun e => absurd (nle (a := 3) e (by omega) (by omega)) (by omega)) (fun _ => b_X6_mixTray_120 ha hx ?_)⟩
      rw [nI_1]; exact hz r z
  obtain ⟨w1, l1, hp1, hz1⟩ := tiles 5 0 rfl h0 none w ⟨Fr.refl _ _, h, hw⟩
  obtain ⟨w2, l2, hp2, hz2⟩ := cellsL 6 0 rfl _ l1 w1 hp1
  obtain ⟨w3, hp3, hz3⟩ := leasts 3 0 rfl _ l2 w2 hp2
  obtain ⟨-, -, -, hu, hm⟩ := hp3.2.1.ts hb hc
  obtain ⟨w4, ha4, hF4⟩ := am_reachNow (w := w3) (q := 0) hu hm.2.2.1 hm.1 (by omega)
  obtain ⟨hx4, hp4⟩ := hp3.mix hF4 (by decide) (reN u 0)
  obtain ⟨-, -, -, hu5, hm5⟩ := hp4.2.1.ts hb hc
  obtain ⟨w5, ha5, hF5⟩ := am_reachNow (q := 1) hu5 hm5.2.2.1 hm5.1 (by omega)
  obtain ⟨hx5, hp5⟩ := hp4.mix hF5 (by decide) (reN u 1)
  obtain ⟨-, -, -, hu6, hm6⟩ := hp5.2.1.ts hb hc
  have ha6 := am_swapsNow hu6 hm6.1 hm6.2.1
  obtain ⟨hx6, hp6⟩ := hp5.mix (Fr.refl [28] _) (by decide) (swN u)
  exact ⟨_, ai_X6_mixTray (b_X6_mixTray_0 (hz1 _ (b_X6_mixTray_75 (hz2 _ (b_X6_mixTray_113 (hz3 _ (b_X6_mixTray_136 ha4 hx4 ha5 hx5 ha6 hx6))))))), hp6⟩
theorem am_m_digest {s : Sg} (h : RepM w s) (hb : gT s < 1000000) : ∃ w', A_X6_digest 35 [.ref 22] w (some (.long (rDig s)), w') ∧ Fr ML w w' ∧ RepM w' s := by
  have pages : ∀ d i, i + d = (gP s).length → ∀ (hh : Int64) (w1 : Wd), DgP w s hh w1 → ∃ w', DgP w s (mpG (gP s) d i hh) w' ∧ ∀ r, Z_X6_digest 35 45 [some (.ref 22), some (.int (nI (gP s).length))] [] w' r → Z_X6_digest 35 20 [some (.ref 22), some (.int (nI i))] [] w1 r := by
    intro d
    induction d with
    | zero =>
      intro i hi hh w1 hp
      have hi : i = (gP s).length := by omega
      subst hi
      have q2 := hp.2.1.2.2.2.1.2.1
      refine ⟨w1, hp, fun r z => b_X6_digest_20 (fun _ => z) (fun e => absurd ?_ e)⟩
      rw [q2]; exact Int32.le_refl _
    | succ d ih =>
      intro i hi hh w1 hp
      obtain ⟨q1, q2, q3, q4⟩ := hp.2.1.2.2.2.1
      obtain ⟨hx, hp2⟩ := hp.mix (Fr.refl [28] w1) (by decide) (nI (atC (gP s) i))
      obtain ⟨w', hp', hz⟩ := ih (i + 1) (by omega) _ _ hp2
      refine ⟨w', hp', fun r z => b_X6_digest_20 (fun e => absurd (nle (by rw [q2] at e; exact e) (by omega) (by omega)) (by omega)) (fun _ => b_X6_digest_28 (vp_in_nI (by omega) (by omega)) (by rw [nI_clamp (by omega), q3 i (by omega)]; exact hx) ?_)⟩
      rw [nI_1]; exact hz r z
  have counts : ∀ d q, q + d = 10 → ∀ (hh : Int64) (w1 : Wd), DgP w s hh w1 → ∃ w', DgP w s (mnG s d q hh) w' ∧ ∀ r, Z_X6_digest 35 69 [some (.ref 22), some (.int (nI 10))] [] w' r → Z_X6_digest 35 47 [some (.ref 22), some (.int (nI q))] [] w1 r := by
    intro d
    induction d with
    | zero =>
      intro q hq hh w1 hp
      have hq : q = 10 := by omega
      subst hq
      exact ⟨w1, hp, fun r z => b_X6_digest_47 (fun _ => z) (fun e => absurd (show (10 : Int32) ≤ nI 10 from nI_le (a := 10) (by omega) (by omega)) e)⟩
    | succ d ih =>
      intro q hq hh w1 hp
      have ha := am_howMany hp.2.1 hb (show q < 10 by omega)
      obtain ⟨hx, hp2⟩ := hp.mix (Fr.refl [28] w1) (by decide) (ctA s q)
      obtain ⟨w', hp', hz⟩ := ih (q + 1) (by omega) _ _ hp2
      refine ⟨w', hp', fun r z => b_X6_digest_47 (fun e => absurd (nle (a := 10) e (by omega) (by omega)) (by omega)) (fun _ => b_X6_digest_53 ha hx ?_)⟩
      rw [nI_1]; exact hz r z
  have tail : ∀ w1, DgP w s (dgT (gC s)) w1 → ∃ w', Z_X6_digest 35 18 [some (.ref 22), none] [] w1 (some (.long (rDig s)), w') ∧ Fr ML w w' ∧ RepM w' s := by
    intro w1 hp
    obtain ⟨w2, hp2, hz2⟩ := pages _ 0 (Nat.zero_add _) _ _ hp
    obtain ⟨w3, hp3, hz3⟩ := counts 10 0 rfl _ _ hp2
    refine ⟨w3, b_X6_digest_18 (hz2 _ (b_X6_digest_45 (hz3 _ ?_))), hp3.1, hp3.2.1⟩
    have := b_X6_digest_69 (w := w3) (x1 := nI 10)
    rw [hp3.2.2] at this
    exact this
  have hst : DgP w s 1291 (sJ w 22 29 1291) := ⟨Fr.sJ (by decide), h.J, wJ_sJ_s⟩
  cases hc : gC s with
  | none =>
    have e0 := h.tn hc
    rw [hc] at tail
    obtain ⟨w', hz, hr⟩ := tail _ hst
    exact ⟨w', ai_X6_digest (b_X6_digest_0 (fun _ => hz) (fun e => absurd (by rw [e0]; exact Int32.le_refl _) e)), hr⟩
  | some u =>
    obtain ⟨t1, t2, -⟩ := h.ts hb hc
    obtain ⟨w1, ha, hp⟩ := am_mixTray (w := sJ w 22 29 1291) h.J hb hc wJ_sJ_s
    rw [hc] at tail
    obtain ⟨w', hz, hr⟩ := tail w1 ⟨(Fr.sJ (by decide)).trans hp.1, hp.2⟩
    exact ⟨w', ai_X6_digest (b_X6_digest_0 (fun e => absurd e t2) (fun _ => b_X6_digest_14 ha hz)), hr⟩
end MX
