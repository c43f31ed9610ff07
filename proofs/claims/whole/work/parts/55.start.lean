-- ===== what is given at the start =====
theorem nwm_0 : (Jvm.Cond.fieldLinkNest "PushTray$Lays" (34 : Nat) "PushTray" "ORDERS" "[I" "PushTray") ∈ lw_tbl := List.mem_append_right _ (List.mem_append_left _ (by rw [xt_1]; exact List.mem_append_right _ (List.mem_append_left _ (List.mem_of_getElem? (i := 13) rfl))))
theorem nwm_1 : (Jvm.Cond.methodLinkNest "PushTray$Lays" (50 : Nat) ({ cls := "PushTray", name := "areNext", desc := "(II)Z" } : Jvm.MethodName) "PushTray") ∈ lw_tbl := List.mem_append_right _ (List.mem_append_left _ (by rw [xt_1]; exact List.mem_append_right _ (List.mem_append_right _ (List.mem_append_left _ (List.mem_of_getElem? (i := 13) rfl)))))
theorem nwm_2 : (Jvm.Cond.methodLinkNest "PushTray$Lays" (58 : Nat) ({ cls := "PushTray", name := "isOneRow", desc := "(II)Z" } : Jvm.MethodName) "PushTray") ∈ lw_tbl := List.mem_append_right _ (List.mem_append_left _ (by rw [xt_1]; exact List.mem_append_right _ (List.mem_append_right _ (List.mem_append_right _ (List.mem_append_right _ (List.mem_append_left _ (List.mem_of_getElem? (i := 7) rfl)))))))
theorem nwm_3 : (Jvm.Cond.methodLinkNest "PushTray" (37 : Nat) ({ cls := "PushTray$Standing", name := "<init>", desc := "()V" } : Jvm.MethodName) "PushTray") ∈ lw_tbl := List.mem_append_right _ (List.mem_append_left _ (by rw [xt_1]; exact List.mem_append_right _ (List.mem_append_right _ (List.mem_append_right _ (List.mem_append_right _ (List.mem_append_right _ (List.mem_append_right _ (List.mem_append_right _ (List.mem_append_right _ (List.mem_append_right _ (List.mem_append_left _ (List.mem_of_getElem? (i := 0) rfl))))))))))))
theorem nwm_4 : (Jvm.Cond.fieldLinkNest "PushTray" (82 : Nat) "PushTray$Standing" "lay" "I" "PushTray") ∈ lw_tbl := List.mem_append_right _ (List.mem_append_left _ (by rw [xt_1]; exact List.mem_append_right _ (List.mem_append_right _ (List.mem_append_right _ (List.mem_append_right _ (List.mem_append_right _ (List.mem_append_right _ (List.mem_append_right _ (List.mem_append_right _ (List.mem_append_right _ (List.mem_append_left _ (List.mem_of_getElem? (i := 5) rfl))))))))))))
theorem nwm_5 : (Jvm.Cond.fieldLinkNest "PushTray" (99 : Nat) "PushTray$Standing" "goal" "I" "PushTray") ∈ lw_tbl := List.mem_append_right _ (List.mem_append_left _ (by rw [xt_1]; exact List.mem_append_right _ (List.mem_append_right _ (List.mem_append_right _ (List.mem_append_right _ (List.mem_append_right _ (List.mem_append_right _ (List.mem_append_right _ (List.mem_append_right _ (List.mem_append_right _ (List.mem_append_left _ (List.mem_of_getElem? (i := 7) rfl))))))))))))
theorem nwm_6 : (Jvm.Cond.fieldLinkNest "PushTray" (93 : Nat) "PushTray$Standing" "kinds" "I" "PushTray") ∈ lw_tbl := List.mem_append_right _ (List.mem_append_left _ (by rw [xt_1]; exact List.mem_append_right _ (List.mem_append_right _ (List.mem_append_right _ (List.mem_append_right _ (List.mem_append_right _ (List.mem_append_right _ (List.mem_append_right _ (List.mem_append_right _ (List.mem_append_right _ (List.mem_append_left _ (List.mem_of_getElem? (i := 9) rfl))))))))))))
theorem nwm_7 : (Jvm.Cond.fieldLinkNest "PushTray" (144 : Nat) "PushTray$Standing" "pushes" "I" "PushTray") ∈ lw_tbl := List.mem_append_right _ (List.mem_append_left _ (by rw [xt_1]; exact List.mem_append_right _ (List.mem_append_right _ (List.mem_append_right _ (List.mem_append_right _ (List.mem_append_right _ (List.mem_append_right _ (List.mem_append_right _ (List.mem_append_right _ (List.mem_append_right _ (List.mem_append_left _ (List.mem_of_getElem? (i := 11) rfl))))))))))))
theorem nwm_8 : (Jvm.Cond.fieldLinkNest "PushTray" (150 : Nat) "PushTray$Standing" "costs" "I" "PushTray") ∈ lw_tbl := List.mem_append_right _ (List.mem_append_left _ (by rw [xt_1]; exact List.mem_append_right _ (List.mem_append_right _ (List.mem_append_right _ (List.mem_append_right _ (List.mem_append_right _ (List.mem_append_right _ (List.mem_append_right _ (List.mem_append_right _ (List.mem_append_right _ (List.mem_append_left _ (List.mem_of_getElem? (i := 13) rfl))))))))))))
theorem nwm_9 : (Jvm.Cond.fieldLinkNest "PushTray" (199 : Nat) "PushTray$Standing" "seen" "I" "PushTray") ∈ lw_tbl := List.mem_append_right _ (List.mem_append_left _ (by rw [xt_1]; exact List.mem_append_right _ (List.mem_append_right _ (List.mem_append_right _ (List.mem_append_right _ (List.mem_append_right _ (List.mem_append_right _ (List.mem_append_right _ (List.mem_append_right _ (List.mem_append_right _ (List.mem_append_left _ (List.mem_of_getElem? (i := 15) rfl))))))))))))
theorem nwm_10 : (Jvm.Cond.fieldLinkNest "PushTray$Lays" (72 : Nat) "PushTray" "KINDS" "[LPushTray$Kind;" "PushTray") ∈ lw_tbl := List.mem_append_right _ (List.mem_append_right _ (List.mem_append_left _ (by rw [xt_2]; exact List.mem_append_right _ (List.mem_append_right _ (List.mem_append_right _ (List.mem_append_left _ (List.mem_of_getElem? (i := 11) rfl)))))))
theorem nwm_11 : (Jvm.Cond.methodLinkNest "PushTray$Lays" (76 : Nat) ({ cls := "PushTray", name := "kindOf", desc := "(II)I" } : Jvm.MethodName) "PushTray") ∈ lw_tbl := List.mem_append_right _ (List.mem_append_right _ (List.mem_append_left _ (by rw [xt_2]; exact List.mem_append_right _ (List.mem_append_right _ (List.mem_append_right _ (List.mem_append_left _ (List.mem_of_getElem? (i := 12) rfl)))))))
theorem nwm_12 : (Jvm.Cond.methodLinkNest "PushTray$Standing" (43 : Nat) ({ cls := "PushTray", name := "isWithin", desc := "(III)Z" } : Jvm.MethodName) "PushTray") ∈ lw_tbl := List.mem_append_right _ (List.mem_append_right _ (List.mem_append_left _ (by rw [xt_2]; exact List.mem_append_right _ (List.mem_append_right _ (List.mem_append_right _ (List.mem_append_right _ (List.mem_append_left _ (List.mem_of_getElem? (i := 5) rfl))))))))
theorem nwm_13 : (Jvm.Cond.methodLinkNest "PushTray$Spread" (62 : Nat) ({ cls := "PushTray", name := "isWithin", desc := "(III)Z" } : Jvm.MethodName) "PushTray") ∈ lw_tbl := List.mem_append_right _ (List.mem_append_right _ (List.mem_append_left _ (by rw [xt_2]; exact List.mem_append_right _ (List.mem_append_right _ (List.mem_append_right _ (List.mem_append_right _ (List.mem_append_right _ (List.mem_append_left _ (List.mem_of_getElem? (i := 13) rfl)))))))))
theorem nwm_14 : (Jvm.Cond.methodLinkNest "PushTray$Chances" (38 : Nat) ({ cls := "PushTray", name := "isWithin", desc := "(III)Z" } : Jvm.MethodName) "PushTray") ∈ lw_tbl := List.mem_append_right _ (List.mem_append_right _ (List.mem_append_left _ (by rw [xt_2]; exact List.mem_append_right _ (List.mem_append_right _ (List.mem_append_right _ (List.mem_append_right _ (List.mem_append_right _ (List.mem_append_right _ (List.mem_append_right _ (List.mem_append_right _ (List.mem_append_right _ (List.mem_append_right _ (List.mem_append_right _ (List.mem_append_right _ (List.mem_append_left _ (List.mem_of_getElem? (i := 13) rfl))))))))))))))))
theorem nwm_15 : (Jvm.Cond.fieldLinkNest "PushTray" (277 : Nat) "PushTray$Kind" "letter" "I" "PushTray") ∈ lw_tbl := List.mem_append_right _ (List.mem_append_right _ (List.mem_append_right _ (List.mem_append_right _ ((by rw [xt_4]; exact List.mem_append_right _ (List.mem_append_right _ (List.mem_append_right _ (List.mem_append_right _ (List.mem_append_right _ (List.mem_append_right _ (List.mem_append_right _ (List.mem_append_right _ (List.mem_append_right _ (List.mem_append_right _ (List.mem_append_right _ (List.mem_append_right _ (List.mem_append_right _ ((List.mem_of_getElem? (i := 2) rfl)))))))))))))))))))
theorem nestW_in : ∀ w ∈ nestW, w ∈ lw_tbl := by
  intro w hw
  simp only [nestW, List.mem_cons, List.not_mem_nil, or_false] at hw
  rcases hw with rfl | rfl | rfl | rfl | rfl | rfl | rfl | rfl | rfl | rfl | rfl | rfl | rfl | rfl | rfl | rfl
  · exact nwm_0
  · exact nwm_1
  · exact nwm_2
  · exact nwm_3
  · exact nwm_4
  · exact nwm_5
  · exact nwm_6
  · exact nwm_7
  · exact nwm_8
  · exact nwm_9
  · exact nwm_10
  · exact nwm_11
  · exact nwm_12
  · exact nwm_13
  · exact nwm_14
  · exact nwm_15
theorem nestW_tab : ∀ w ∈ nestW, w.onTables = true := by decide +kernel
theorem lsm_ORDERS : (Jvm.Cond.laysStatic "PushTray" "ORDERS" "[I") ∈ lw_tbl := List.mem_append_right _ (List.mem_append_left _ (by rw [xt_1]; exact List.mem_append_right _ (List.mem_append_left _ (List.mem_of_getElem? (i := 14) rfl))))
theorem lsm_KINDS : (Jvm.Cond.laysStatic "PushTray" "KINDS" "[LPushTray$Kind;") ∈ lw_tbl := List.mem_append_right _ (List.mem_append_right _ (List.mem_append_left _ (by rw [xt_2]; exact List.mem_append_left _ (List.mem_of_getElem? (i := 11) rfl))))
def kNm : List String := ["TILE", "HEAVY", "NAILED", "SHY", "STONE"]
theorem sk_start {s : State} {b : Nat} (hts : ∀ w ∈ lw_tbl, w.before #[Value.ref b] s = true) (hgv : (Jvm.Cond.and given_1 narrow_1).before #[Value.ref b] s = true) : ∃ ad : Nat → Nat, SK ad (fun q => s.heap.size ≤ q) s s.heap := by
  have hs := flat_of_before _ hgv
  have hA : ∀ a : Nat, a < s.heap.size → ¬ s.heap.size ≤ a := fun a h => Nat.not_le.mpr h
  have five : ∀ i, i < 5 → i = 0 ∨ i = 1 ∨ i = 2 ∨ i = 3 ∨ i = 4 := fun i h => by omega
  have ex : ∀ i, i < 5 → (Cond.exactly (.static "PushTray$Kind" (kNm.getD i "") "LPushTray$Kind;") "PushTray$Kind").before #[Value.ref b] s = true := by
    intro i hi
    rcases five i hi with rfl | rfl | rfl | rfl | rfl <;> exact hs _ (by decide +kernel)
  have h0 : ∀ i : Nat, ∃ t : Nat, i < 5 → (Term.static "PushTray$Kind" (kNm.getD i "") "LPushTray$Kind;").eval #[Value.ref b] s none [] s = some (.ref t) ∧ va_O "PushTray$Kind" t (fun q => s.heap.size ≤ q) s s.heap := by
    intro i
    by_cases hi : i < 5
    · obtain ⟨a, c, cell, k, q1, q2, q3, q4, q5, q6, -⟩ := Cond.exactly_spec (ex i hi)
      exact ⟨a, fun _ => ⟨q1, cell, q3, q5, by rw [q6]; exact q2, hA a (Array.getElem?_eq_some_iff.mp q3).1⟩⟩
    · exact ⟨0, fun h => absurd h hi⟩
  obtain ⟨ak, hak⟩ := Classical.axiomOfChoice h0
  obtain ⟨tK, eK, hK⟩ := va_Tof (ty := .object "PushTray$Kind") (N := 5) (tm := .static "PushTray" "KINDS" "[LPushTray$Kind;") (f := fun j => .ref (ak j)) (A := fun q => s.heap.size ≤ q) (by decide) (hs _ (by decide +kernel)) (va_eqt (z := Int32.ofNat 5) (hs _ (by decide +kernel))) (fun j hj => by
    rcases five j hj with rfl | rfl | rfl | rfl | rfl
    · exact va_eqv (u := .static "PushTray$Kind" "TILE" "LPushTray$Kind;") (hs _ (by decide +kernel)) (hak 0 (by omega)).1
    · exact va_eqv (u := .static "PushTray$Kind" "HEAVY" "LPushTray$Kind;") (hs _ (by decide +kernel)) (hak 1 (by omega)).1
    · exact va_eqv (u := .static "PushTray$Kind" "NAILED" "LPushTray$Kind;") (hs _ (by decide +kernel)) (hak 2 (by omega)).1
    · exact va_eqv (u := .static "PushTray$Kind" "SHY" "LPushTray$Kind;") (hs _ (by decide +kernel)) (hak 3 (by omega)).1
    · exact va_eqv (u := .static "PushTray$Kind" "STONE" "LPushTray$Kind;") (hs _ (by decide +kernel)) (hak 4 (by omega)).1) hA
  obtain ⟨tO, eO, hO⟩ := va_Tof (ty := .int) (N := 6) (tm := .static "PushTray" "ORDERS" "[I") (f := fun j => .int (ordv j)) (A := fun q => s.heap.size ≤ q) (by decide) (hs _ (by decide +kernel)) (va_eqt (z := Int32.ofNat 6) (hs _ (by decide +kernel))) (fun j hj => by
    rcases (show j = 0 ∨ j = 1 ∨ j = 2 ∨ j = 3 ∨ j = 4 ∨ j = 5 by omega) with rfl | rfl | rfl | rfl | rfl | rfl <;> exact va_eqt (hs _ (by decide +kernel))) hA
  have hini : (Cond.initialized "PushTray").before #[Value.ref b] s = true := hts _ (XW_in _ xw_1_1)
  obtain ⟨ad, had⟩ : ∃ ad : Nat → Nat, ad = fun i => if i = 1000 then tO else if i = 1001 then tK else ak (i - 2000) := ⟨_, rfl⟩
  have a0 : ad 1000 = tO := by rw [had]; rfl
  have a1 : ad 1001 = tK := by rw [had]; rfl
  have a2 : ∀ j, ad (2000 + j) = ak j := fun j => by
    rw [had]
    show (if 2000 + j = 1000 then tO else if 2000 + j = 1001 then tK else ak (2000 + j - 2000)) = ak j
    rw [if_neg (by omega), if_neg (by omega), show 2000 + j - 2000 = j by omega]
  have a3 : (fun k => ad (2000 + k)) = ak := funext a2
  refine ⟨ad, fun w hw => va_Nw.of (nestW_tab w hw) (hts w (nestW_in w hw)), ?_, ?_, ?_, ?_, fun k hk => ?_, ?_, ?_, ?_, ?_⟩
  · rw [a0]; exact va_Zref (hts _ lsm_ORDERS) hini eO hA
  · rw [a0]; exact hO
  · rw [a1]; exact va_Zref (hts _ lsm_KINDS) hini eK hA
  · rw [a1]
    have e : (fun j => Value.ref (ad (2000 + j))) = fun j => Value.ref (ak j) := funext fun j => by rw [a2]
    rw [e]; exact hK
  · rw [a2]; exact (hak k hk).2
  · rw [a3]
    exact va_Efof (nm := kNm) (d0 := "LPushTray$Kind;") (E := "PushTray$Kind") (tm := fun i => .int (kLet i)) (fun i hi => (hak i hi).1) (fun i hi => by rcases five i hi with rfl | rfl | rfl | rfl | rfl <;> exact hs _ (by decide +kernel)) (fun i hi => rfl) hA
  · rw [a3]
    exact va_Efof (nm := kNm) (d0 := "LPushTray$Kind;") (E := "PushTray$Kind") (tm := fun i => .int (kIn i)) (fun i hi => (hak i hi).1) (fun i hi => by rcases five i hi with rfl | rfl | rfl | rfl | rfl <;> exact hs _ (by decide +kernel)) (fun i hi => rfl) hA
  · rw [a3]
    exact va_Efof (nm := kNm) (d0 := "LPushTray$Kind;") (E := "PushTray$Kind") (tm := fun i => .int (kBet i)) (fun i hi => (hak i hi).1) (fun i hi => by rcases five i hi with rfl | rfl | rfl | rfl | rfl <;> exact hs _ (by decide +kernel)) (fun i hi => rfl) hA
  · rw [a3]
    exact va_Efof (nm := kNm) (d0 := "LPushTray$Kind;") (E := "PushTray$Kind") (tm := fun i => .int (kBits i)) (fun i hi => (hak i hi).1) (fun i hi => by rcases five i hi with rfl | rfl | rfl | rfl | rfl <;> exact hs _ (by decide +kernel)) (fun i hi => rfl) hA

theorem va_K_start {s : State} {args : Array Value} (hts : ∀ w ∈ XW, w.before args s = true) : ∃ (D : va_G) (cid : Nat → ClassId), va_K D vwCl (xTy cid) s := by
  obtain ⟨c0, i0, h0⟩ := u_known (C := RX0) (T := TX0) (N := 6) (n := 6) hts inC_X0 (hts _ xw_1_118)
  obtain ⟨c1, i1, h1⟩ := u_known (C := RX2) (T := TX2) (N := 5) (n := 5) hts inC_X2 (hts _ xw_1_20)
  obtain ⟨c2, i2, h2⟩ := u_known (C := RX3) (T := TX3) (N := 7) (n := 7) hts inC_X3 (hts _ xw_1_90)
  obtain ⟨c3, i3, h3⟩ := u_known (C := RX4) (T := TX4) (N := 7) (n := 7) hts inC_X4 (hts _ xw_1_143)
  obtain ⟨c4, i4, h4⟩ := u_known (C := RX5) (T := TX5) (N := 12) (n := 12) hts inC_X5 (hts _ xw_1_12)
  obtain ⟨c5, i5, h5⟩ := u_known (C := RX6) (T := TX6) (N := 30) (n := 30) hts inC_X6 (hts _ xw_3_74)
  obtain ⟨cI, kI, mI, fI, gI0, tI⟩ := Cond.arrayClass_spec (hts _ xw_1_88)
  obtain ⟨cB, kB, mB, fB, gB, tB⟩ := Cond.arrayClass_spec (hts _ xw_3_170)
  refine ⟨(fun k => [c0, c1, c2, c3, c4, c5].getD k c0, fun k => [i0, i1, i2, i3, i4, i5].getD k i0), fun i => if i = 0 then cI else cB, fun k q hq => ?_, fun k q hq => ?_⟩
  · match k, hq with
    | 0, hq => cases hq; exact h0
    | 1, hq => cases hq; exact h1
    | 2, hq => cases hq; exact h2
    | 3, hq => cases hq; exact h3
    | 4, hq => cases hq; exact h4
    | 5, hq => cases hq; exact h5
    | k + 6, hq => simp [vwCl] at hq
  · match k, hq with
    | 0, hq => cases hq; exact ⟨fun n z => ⟨fun k h => (by cases h), kI, gI0, mI, tI⟩, fI⟩
    | 1, hq => cases hq; exact ⟨fun n z => ⟨fun k h => (by cases h), kB, gB, mB, tB⟩, fB⟩
    | k + 2, hq => simp [xTy] at hq
