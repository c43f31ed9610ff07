/-! THE CLAIM OUT OF ONE WALK OF THE LAW'S BODY. Your part is whole_start (and what it stands on); all else here is the same for every law, but numbers. -/
def R_law : String := "PushTrayLaw"
def lw_P (b : Addr) (xs : List Int32) (args : Array Value) (s : State) : Prop := args = #[.ref b] ∧ s.IntsAt b xs ∧ xs.length ≤ 2560 ∧ (Jvm.Cond.and given_1 narrow_1).before args s = true
def lw_Q (_ : Array Value) (s : State) (o : Outcome) (t : State) : Prop := o = .returned (some (.int 1)) ∧ Framed s o t [] 35 23953
def lw_Z (below : List Frame) (a : Array Value) (s : State) : State → Prop := fun t => ∃ o, t.status = .running ∧ Ended t below o ∧ lw_Q a s o t
/-- the law's own end, with 1 on the stack, nothing written that was there before, its room as the claim has it -/
theorem lw_ret {p : Program} {l : Launch} {e : Env} {s : State} {m : MethodId} {below : List Frame} {meth : Method} {c : Code} {b : Nat} (hx : p.tables.exec = Jvm.exec) (hb : c.code = code) (hr : meth.sig.returnType = ret) (hlocks : meth.locks = false) {pc : Nat} {H : Heap} {ls : Array Slot} (hdg : decode code pc = .ok (.ireturn, 1)) : W p l e room_1 s m #[Value.ref b] below meth c H [] 35 23953 (lw_Z below #[Value.ref b] s) (F0 m pc ls [.int 1]) := by
  intro T hT X
  obtain ⟨fs, hret, hrun, hended, hW, hframe⟩ := X.leave (v := some (.int 1)) (hlocks := hlocks) (fun h => by rw [hr] at h; cases h)
  have hmeth' : T.vm.method? m = some meth := X.method'
  refine ⟨T.setFrames fs, ?_, .returned (some (.int 1)), hrun, hended, rfl, ⟨_, rfl⟩, hW, hframe⟩
  jvm_step X.here [X.here.top, hx, hb, hdg, hmeth', hr, ret, narrow_b1]
  (try refine ⟨rfl, ?_⟩); (try refine ⟨rfl, ?_⟩)
  first | (intro acts; rw [hret _ acts rfl rfl rfl]) | rw [hret _ _ rfl rfl rfl]
  exact Steps.refl _
/-- what holds at the law's entry: the machine, the code, the tables' words (any of lw_tbl by 'hts w (by decide +kernel)'), the script of L ints xs at the cell b, what the Statement gives of the start (any of its parts by flat_of_before) -/
def lw_At (p : Program) (s : State) (m : MethodId) (meth : Method) (c : Code) (b L : Nat) (xs : Nat → Int32) : Prop :=
  p.tables.exec = Jvm.exec ∧ c.code = code ∧ meth.sig.returnType = ret ∧ c.maxLocals = 4 ∧ s.vm.findClass R_law = some m.cls ∧ (∀ w ∈ lw_tbl, w.before #[Value.ref b] s = true) ∧ va_X b L xs s s.heap ∧ b < s.heap.size ∧ meth.locks = false ∧ (Jvm.Cond.and given_1 narrow_1).before #[Value.ref b] s = true
-- ===== YOUR PART BEGINS =====
set_option maxRecDepth 100000 in
set_option maxHeartbeats 4000000 in
theorem law_loop {p : Program} {l : Launch} {e : Env} {s : State} {m : MethodId} {below : List Frame} {meth : Method} {c : Code} {D : va_G} {ad : Nat → Nat} {cid : Nat → ClassId} {b N : Nat} {xs : Nat → Int32} (C : NX yL_law 4 ret code p s m #[Value.ref b] meth c D ad cid (fun q => s.heap.size ≤ q)) (X : LX s (fun q => s.heap.size ≤ q) b N xs) : ∀ (d i n : Nat) (w : Wd) (g : Sg), N - i ≤ d → i ≤ N → n ≤ i → RR w g n → Kr 4 room_1 p l e s m #[Value.ref b] below meth c D (fun q => s.heap.size ≤ q) (lw_Z below #[Value.ref b] s) 18 [some (.ref b), some (.ref (ad 19)), some (.ref (ad 22)), some (.int (nI i))] [] (cells ad cid 35 w) 35 23953 := by
  have hN := X.2.2.2
  have ex : ∀ (L : List (Option Value)) (ws : va_W), Kr 4 room_1 p l e s m #[Value.ref b] below meth c D (fun q => s.heap.size ≤ q) (lw_Z below #[Value.ref b] s) 763 L [] ws 35 23953 := by
    intro L ws
    refine k_iconst (v := 1) C dL_law_763 (by decide) ?_
    intro H ls locs hL hP hD hS
    exact va_forget (fun q hq => hS.2.2 q hq) (lw_ret C.1 C.2.1 C.2.2.2.1 C.2.2.2.2.2.2.1 dL_law_764)
  have key : ∀ (i n : Nat) (w : Wd) (g : Sg), i ≤ N → n ≤ i → RR w g n → (i + 5 ≤ N → ∀ (n2 : Nat) (w2 : Wd) (g2 : Sg), n2 ≤ i + 5 → RR w2 g2 n2 → Kr 4 room_1 p l e s m #[Value.ref b] below meth c D (fun q => s.heap.size ≤ q) (lw_Z below #[Value.ref b] s) 18 [some (.ref b), some (.ref (ad 19)), some (.ref (ad 22)), some (.int (nI (i + 5)))] [] (cells ad cid 35 w2) 35 23953) → Kr 4 room_1 p l e s m #[Value.ref b] below meth c D (fun q => s.heap.size ≤ q) (lw_Z below #[Value.ref b] s) 18 [some (.ref b), some (.ref (ad 19)), some (.ref (ad 22)), some (.int (nI i))] [] (cells ad cid 35 w) 35 23953 := by
    intro i n w g hi hni hR hk
    refine k_iload_n C dL_law_18 rfl rfl ?_
    refine k_aload_n C dL_law_19 rfl rfl ?_
    refine k_slen C X dL_law_20 ?_
    refine k_iconst (v := 5) C dL_law_21 (by decide) ?_
    refine k_isub C dL_law_22 ?_
    refine k_icmp_gt (tgt := 763) C dL_law_23 (by decide) (fun _ => ex _ _) (fun hle => ?_)
    have h5 : i + 5 ≤ N := by
      apply Nat.le_of_not_lt
      intro hlt
      apply hle
      by_cases h : 5 ≤ N
      · have e1 : Int32.ofNat N - 5 = nI (N - 5) := by rw [show (5 : Int32) = nI 5 from rfl]; exact pk_sub h
        rw [e1]; exact nI_lt (by omega) (by omega)
      · have hp : (0 : Int32) ≤ nI i := nI_pos' (by omega)
        refine Int32.lt_of_lt_of_le ?_ hp
        rcases (show N = 0 ∨ N = 1 ∨ N = 2 ∨ N = 3 ∨ N = 4 by omega) with rfl | rfl | rfl | rfl | rfl <;> decide
    have hk := hk h5
    have hn : n < 1000000 := by omega
    have tail : ∀ (n2 : Nat) (w2 : Wd) (g2 : Sg), n2 ≤ i + 5 → RR w2 g2 n2 → Kr 4 room_1 p l e s m #[Value.ref b] below meth c D (fun q => s.heap.size ≤ q) (lw_Z below #[Value.ref b] s) 757 [some (.ref b), some (.ref (ad 19)), some (.ref (ad 22)), some (.int (nI i))] [] (cells ad cid 35 w2) 35 23953 := by
      intro n2 w2 g2 h1 h2
      refine k_iinc (v := nI (i + 5)) C dL_law_757 rfl (by rw [show Int32.ofInt 5 = nI 5 from rfl, nI_add]) (by decide) rfl rfl ?_
      refine k_goto (tgt := 18) C dL_law_760 (by decide) ?_
      exact hk n2 w2 g2 h1 h2
    have tl := fun (w2 : Wd) (g2 : Sg) (h2 : RR w2 g2 (n + 1)) => tail (n + 1) w2 g2 (by omega) h2
    refine k_aload_n C dL_law_26 rfl rfl ?_
    refine k_iload_n C dL_law_27 rfl rfl ?_
    refine k_sld C X (vp_in_nI (by omega) (by omega)) dL_law_28 ?_
    refine k_bipush (v := 31) C dL_law_29 (by decide) ?_
    refine k_iand C dL_law_31 ?_
    obtain ⟨j, hj, ej⟩ := and31 (xs (nI i).toNatClampNeg)
    rw [ej]
    rcases (show j = 0 ∨ j = 1 ∨ j = 2 ∨ j = 3 ∨ j = 4 ∨ j = 5 ∨ j = 6 ∨ j = 7 ∨ j = 8 ∨ j = 9 ∨ j = 10 ∨ j = 11 ∨ j = 12 ∨ j = 13 ∨ j = 14 ∨ j = 15 ∨ j = 16 ∨ j = 17 ∨ j = 18 ∨ j = 19 ∨ j = 20 ∨ j = 21 ∨ j = 22 ∨ j = 23 ∨ j = 24 ∨ j = 25 ∨ j = 26 ∨ j = 27 ∨ j = 28 ∨ j = 29 ∨ j = 30 ∨ j = 31 by omega) with rfl | rfl | rfl | rfl | rfl | rfl | rfl | rfl | rfl | rfl | rfl | rfl | rfl | rfl | rfl | rfl | rfl | rfl | rfl | rfl | rfl | rfl | rfl | rfl | rfl | rfl | rfl | rfl | rfl | rfl | rfl | rfl
    · exact k_tableIn (off := 112) (tgt := 144) C dL_law_32 (by decide +kernel) (by decide +kernel) rfl (by decide) (lc_letter C X h5 hR hn tl)
    · exact k_tableIn (off := 135) (tgt := 167) C dL_law_32 (by decide +kernel) (by decide +kernel) rfl (by decide) (lc_blank C X h5 hR hn tl)
    · exact k_tableIn (off := 148) (tgt := 180) C dL_law_32 (by decide +kernel) (by decide +kernel) rfl (by decide) (lc_fault C X h5 hR hn tl)
    · exact k_tableIn (off := 161) (tgt := 193) C dL_law_32 (by decide +kernel) (by decide +kernel) rfl (by decide) (lc_tray C X h5 hR hn tl)
    · exact k_tableIn (off := 174) (tgt := 206) C dL_law_32 (by decide +kernel) (by decide +kernel) rfl (by decide) (lc_tile C X h5 hR hn tl)
    · exact k_tableIn (off := 207) (tgt := 239) C dL_law_32 (by decide +kernel) (by decide +kernel) rfl (by decide) (lc_as C X h5 hR hn tl)
    · exact k_tableIn (off := 240) (tgt := 272) C dL_law_32 (by decide +kernel) (by decide +kernel) rfl (by decide) (lc_cell C X h5 hR hn tl)
    · exact k_tableIn (off := 273) (tgt := 305) C dL_law_32 (by decide +kernel) (by decide +kernel) rfl (by decide) (lc_push C X h5 hR hn tl)
    · exact k_tableIn (off := 296) (tgt := 328) C dL_law_32 (by decide +kernel) (by decide +kernel) rfl (by decide) (lc_exchange C X h5 hR hn tl)
    · exact k_tableIn (off := 329) (tgt := 361) C dL_law_32 (by decide +kernel) (by decide +kernel) rfl (by decide) (lc_aim C X h5 hR hn tl)
    · exact k_tableIn (off := 362) (tgt := 394) C dL_law_32 (by decide +kernel) (by decide +kernel) rfl (by decide) (lc_recast C X h5 hR hn tl)
    · exact k_tableIn (off := 395) (tgt := 427) C dL_law_32 (by decide +kernel) (by decide +kernel) rfl (by decide) (lc_least C X h5 hR hn tl)
    · exact k_tableIn (off := 418) (tgt := 450) C dL_law_32 (by decide +kernel) (by decide +kernel) rfl (by decide) (lc_reach C X h5 hR hn tl)
    · exact k_tableIn (off := 441) (tgt := 473) C dL_law_32 (by decide +kernel) (by decide +kernel) rfl (by decide) (lc_home C X h5 hR hn tl)
    · exact k_tableIn (off := 474) (tgt := 506) C dL_law_32 (by decide +kernel) (by decide +kernel) rfl (by decide) (lc_swaps C X h5 hR hn tl)
    · exact k_tableIn (off := 487) (tgt := 519) C dL_law_32 (by decide +kernel) (by decide +kernel) rfl (by decide) (lc_cheap C X h5 hR hn tl)
    · exact k_tableIn (off := 510) (tgt := 542) C dL_law_32 (by decide +kernel) (by decide +kernel) rfl (by decide) (lc_odds C X h5 hR hn tl)
    · exact k_tableIn (off := 563) (tgt := 595) C dL_law_32 (by decide +kernel) (by decide +kernel) rfl (by decide) (lc_see C X h5 hR hn tl)
    · exact k_tableIn (off := 606) (tgt := 638) C dL_law_32 (by decide +kernel) (by decide +kernel) rfl (by decide) (lc_forget C X h5 hR hn tl)
    · exact k_tableIn (off := 619) (tgt := 651) C dL_law_32 (by decide +kernel) (by decide +kernel) rfl (by decide) (lc_runs C X h5 hR hn tl)
    · exact k_tableIn (off := 662) (tgt := 694) C dL_law_32 (by decide +kernel) (by decide +kernel) rfl (by decide) (lc_image C X h5 hR hn tl)
    · exact k_tableIn (off := 675) (tgt := 707) C dL_law_32 (by decide +kernel) (by decide +kernel) rfl (by decide) (lc_restore C X h5 hR hn tl)
    · exact k_tableIn (off := 688) (tgt := 720) C dL_law_32 (by decide +kernel) (by decide +kernel) rfl (by decide) (lc_count C X h5 hR hn tl)
    · exact k_tableIn (off := 711) (tgt := 743) C dL_law_32 (by decide +kernel) (by decide +kernel) rfl (by decide) (lc_digest C X h5 hR hn tl)
    · exact k_tableOut (tgt := 757) C dL_law_32 (Or.inr (by decide +kernel)) (by decide) (tail n w g (by omega) hR)
    · exact k_tableOut (tgt := 757) C dL_law_32 (Or.inr (by decide +kernel)) (by decide) (tail n w g (by omega) hR)
    · exact k_tableOut (tgt := 757) C dL_law_32 (Or.inr (by decide +kernel)) (by decide) (tail n w g (by omega) hR)
    · exact k_tableOut (tgt := 757) C dL_law_32 (Or.inr (by decide +kernel)) (by decide) (tail n w g (by omega) hR)
    · exact k_tableOut (tgt := 757) C dL_law_32 (Or.inr (by decide +kernel)) (by decide) (tail n w g (by omega) hR)
    · exact k_tableOut (tgt := 757) C dL_law_32 (Or.inr (by decide +kernel)) (by decide) (tail n w g (by omega) hR)
    · exact k_tableOut (tgt := 757) C dL_law_32 (Or.inr (by decide +kernel)) (by decide) (tail n w g (by omega) hR)
    · exact k_tableOut (tgt := 757) C dL_law_32 (Or.inr (by decide +kernel)) (by decide) (tail n w g (by omega) hR)
  intro d
  induction d with
  | zero =>
    intro i n w g h1 h2 h3 hR
    exact key i n w g h2 h3 hR (fun h5 => by omega)
  | succ d ih =>
    intro i n w g h1 h2 h3 hR
    exact key i n w g h2 h3 hR (fun h5 n2 w2 g2 h6 h7 => ih (i + 5) n2 w2 g2 (by omega) (by omega) (by omega) h7)
set_option maxRecDepth 100000 in
set_option maxHeartbeats 4000000 in
/-- YOUR PART: from the entry, for every script of at most 2560 ints, the law comes to its end with true ('hflags': the launch's flags, for a law that throws: no stack traces) -/
theorem whole_start {p : Program} {e : Env} {s : State} {m : MethodId} {below : List Frame} {meth : Method} {c : Code} (l : Launch) (hflags : l.flags = flags0) {b L : Nat} {xs : Nat → Int32} (hL : L ≤ 2560) (C0 : lw_At p s m meth c b L xs) : W p l e room_1 s m #[Value.ref b] below meth c s.heap [] 0 0 (lw_Z below #[Value.ref b] s) (entryFrame m ([Value.ref b] : List Value).toArray 4) := by
  obtain ⟨hx, hb, hr, hml, hown, hts, hX, hbl, hlocks, hgv⟩ := id C0
  have hXW : ∀ w ∈ XW, w.before #[Value.ref b] s = true := fun w hw => hts w (XW_in w hw)
  obtain ⟨D, cid, hK⟩ := va_K_start hXW
  obtain ⟨ad, hSK⟩ := sk_start hts hgv
  have C : NX yL_law 4 ret code p s m #[Value.ref b] meth c D ad cid (fun q => s.heap.size ≤ q) := ⟨hx, hb, hml, hr, hXW, hown, hlocks, hK, hSK, fun _ h => h⟩
  have X : LX s (fun q => s.heap.size ≤ q) b L xs := ⟨hX, hbl, Nat.not_le.mpr hbl, hL⟩
  have hl := lv_entry ([.ref b]) (n := 4) (Nat.le_of_ble_eq_true rfl)
  rw [lg_entry_eq]
  have main : Kr 4 room_1 p l e s m #[Value.ref b] below meth c D (fun q => s.heap.size ≤ q) (lw_Z below #[Value.ref b] s) 0 [some (.ref b), none, none, none] [] [] 0 0 := by
    refine k_new (ci := 4) (T := TX5) (fs := [.null, .null, .null, .null, .null, .null, .null, .null, .int 0, .int 0, .int 0, .int 0]) tyX5 C dL_law_0 inC_X5 tyX5_ok xw_1_11 xw_1_12 xw_1_1 rfl (fun j hj => by rcases (show j = 0 ∨ j = 1 ∨ j = 2 ∨ j = 3 ∨ j = 4 ∨ j = 5 ∨ j = 6 ∨ j = 7 ∨ j = 8 ∨ j = 9 ∨ j = 10 ∨ j = 11 by omega) with rfl | rfl | rfl | rfl | rfl | rfl | rfl | rfl | rfl | rfl | rfl | rfl <;> rfl) (Nat.le_of_ble_eq_true rfl) (Nat.le_of_ble_eq_true rfl) (fun p19 => ?_)
    show Kr 4 room_1 p l e s m #[Value.ref b] below meth c D (fun q => s.heap.size ≤ q) (lw_Z below #[Value.ref b] s) 3 [some (.ref b), none, none, none] [.ref p19] [(p19, .inr (4, [.null, .null, .null, .null, .null, .null, .null, .null, .int 0, .int 0, .int 0, .int 0]))] 1 12
    refine k_dup C dL_law_3 rfl ?_
    refine k_callI (n := 0) (isC := [0]) (isR := []) (wc := [(p19, .inr (4, [.null, .null, .null, .null, .null, .null, .null, .null, .int 0, .int 0, .int 0, .int 0]))]) (wr := []) (as := []) (S := [.ref p19]) C dL_law_4 (nm_X5 p19) rfl rfl rfl rfl rfl (by decide) xw_1_15 xw_1_13 xw_1_14 xw_1_1 rfl (by decide +kernel) rfl rfl rfl ⟨Nat.le_of_ble_eq_true rfl, Nat.le_of_ble_eq_true rfl⟩ (Nat.le_of_ble_eq_true rfl) ⟨Nat.le_of_ble_eq_true rfl, Nat.le_of_ble_eq_true rfl⟩ (fun w1 hw1 => ?_)
    obtain ⟨p0, p1, p2, p3, p4, p5, p6, p7, p8, p9, p10, p11, p12, p13, p14, p15, p16, p17, p18, p20, p21, g1, g2, g3, g4, g5, rfl, hTB⟩ := hw1
    show Kr 4 room_1 p l e s m #[Value.ref b] below meth c D (fun q => s.heap.size ≤ q) (lw_Z below #[Value.ref b] s) 7 [some (.ref b), none, none, none] [.ref p19] [(p19, .inr (4, [.ref p0, .ref p6, .ref p9, .ref p12, .ref p15, .ref p17, .ref p20, .ref p21, .int 0, .int 0, .int 0, .int 0])), (p0, .inr (1, [.ref p1, .ref p2, .ref p3, .ref p4, .ref p5])), (p1, .inl (cid 0, 4320, .inl g1)), (p2, .inl (cid 0, 4320, .inl g2)), (p3, .inl (cid 0, 4320, .inl g3)), (p4, .inl (cid 0, 4320, .inl g4)), (p5, .inl (cid 0, 6, .inl g5)), (p6, .inr (2, [.ref p0, .ref p7, .ref p8, .int 0, .int 0, .int (-1), .int (-1)])), (p7, .inl (cid 0, 720, .inl (fun _ => 0))), (p8, .inl (cid 0, 720, .inl (fun _ => 0))), (p9, .inr (2, [.ref p0, .ref p10, .ref p11, .int 0, .int 0, .int (-1), .int (-1)])), (p10, .inl (cid 0, 720, .inl (fun _ => 0))), (p11, .inl (cid 0, 720, .inl (fun _ => 0))), (p12, .inr (0, [.ref p0, .ref p13, .ref p14, .int (-1), .int (-1), .int 0])), (p13, .inl (cid 0, 720, .inl (fun _ => 0))), (p14, .inl (cid 0, 720, .inl (fun _ => 0))), (p15, .inr (3, [.int (-1), .int (-1), .int 0, .int 0, .int 0, .int 0, .ref p16])), (p16, .inl (cid 0, 5, .inl (fun _ => 0))), (p17, .inr (3, [.int (-1), .int (-1), .int 0, .int 0, .int 0, .int 0, .ref p18])), (p18, .inl (cid 0, 5, .inl (fun _ => 0))), (p20, .inl (cid 0, 22, .inl (fun _ => 0))), (p21, .inl (cid 0, 6, .inl (fun _ => 0)))] 22 21695
    refine k_astore_n C dL_law_7 rfl (by decide) rfl rfl ?_
    refine k_new (ci := 5) (T := TX6) (fs := [.int 0, .int 0, .int 0, .null, .int 0, .int 0, .int 0, .int 0, .null, .null, .null, .int 0, .null, .int 0, .null, .null, .null, .long 0, .int 0, .int 0, .int 0, .int 0, .int 0, .int 0, .int 0, .null, .null, .null, .null, .long 0]) tyX6 C dL_law_8 inC_X6 tyX6_ok xw_3_73 xw_3_74 xw_1_8 rfl (fun j hj => by rcases (show j = 0 ∨ j = 1 ∨ j = 2 ∨ j = 3 ∨ j = 4 ∨ j = 5 ∨ j = 6 ∨ j = 7 ∨ j = 8 ∨ j = 9 ∨ j = 10 ∨ j = 11 ∨ j = 12 ∨ j = 13 ∨ j = 14 ∨ j = 15 ∨ j = 16 ∨ j = 17 ∨ j = 18 ∨ j = 19 ∨ j = 20 ∨ j = 21 ∨ j = 22 ∨ j = 23 ∨ j = 24 ∨ j = 25 ∨ j = 26 ∨ j = 27 ∨ j = 28 ∨ j = 29 by omega) with rfl | rfl | rfl | rfl | rfl | rfl | rfl | rfl | rfl | rfl | rfl | rfl | rfl | rfl | rfl | rfl | rfl | rfl | rfl | rfl | rfl | rfl | rfl | rfl | rfl | rfl | rfl | rfl | rfl | rfl <;> rfl) (Nat.le_of_ble_eq_true rfl) (Nat.le_of_ble_eq_true rfl) (fun p22 => ?_)
    show Kr 4 room_1 p l e s m #[Value.ref b] below meth c D (fun q => s.heap.size ≤ q) (lw_Z below #[Value.ref b] s) 11 [some (.ref b), some (.ref p19), none, none] [.ref p22] [(p19, .inr (4, [.ref p0, .ref p6, .ref p9, .ref p12, .ref p15, .ref p17, .ref p20, .ref p21, .int 0, .int 0, .int 0, .int 0])), (p0, .inr (1, [.ref p1, .ref p2, .ref p3, .ref p4, .ref p5])), (p1, .inl (cid 0, 4320, .inl g1)), (p2, .inl (cid 0, 4320, .inl g2)), (p3, .inl (cid 0, 4320, .inl g3)), (p4, .inl (cid 0, 4320, .inl g4)), (p5, .inl (cid 0, 6, .inl g5)), (p6, .inr (2, [.ref p0, .ref p7, .ref p8, .int 0, .int 0, .int (-1), .int (-1)])), (p7, .inl (cid 0, 720, .inl (fun _ => 0))), (p8, .inl (cid 0, 720, .inl (fun _ => 0))), (p9, .inr (2, [.ref p0, .ref p10, .ref p11, .int 0, .int 0, .int (-1), .int (-1)])), (p10, .inl (cid 0, 720, .inl (fun _ => 0))), (p11, .inl (cid 0, 720, .inl (fun _ => 0))), (p12, .inr (0, [.ref p0, .ref p13, .ref p14, .int (-1), .int (-1), .int 0])), (p13, .inl (cid 0, 720, .inl (fun _ => 0))), (p14, .inl (cid 0, 720, .inl (fun _ => 0))), (p15, .inr (3, [.int (-1), .int (-1), .int 0, .int 0, .int 0, .int 0, .ref p16])), (p16, .inl (cid 0, 5, .inl (fun _ => 0))), (p17, .inr (3, [.int (-1), .int (-1), .int 0, .int 0, .int 0, .int 0, .ref p18])), (p18, .inl (cid 0, 5, .inl (fun _ => 0))), (p20, .inl (cid 0, 22, .inl (fun _ => 0))), (p21, .inl (cid 0, 6, .inl (fun _ => 0))), (p22, .inr (5, [.int 0, .int 0, .int 0, .null, .int 0, .int 0, .int 0, .int 0, .null, .null, .null, .int 0, .null, .int 0, .null, .null, .null, .long 0, .int 0, .int 0, .int 0, .int 0, .int 0, .int 0, .int 0, .null, .null, .null, .null, .long 0]))] 23 21725
    refine k_dup C dL_law_11 rfl ?_
    refine k_callI (n := 0) (isC := [22]) (isR := [0, 1, 2, 3, 4, 5, 6, 7, 8, 9, 10, 11, 12, 13, 14, 15, 16, 17, 18, 19, 20, 21]) (wc := [(p22, .inr (5, [.int 0, .int 0, .int 0, .null, .int 0, .int 0, .int 0, .int 0, .null, .null, .null, .int 0, .null, .int 0, .null, .null, .null, .long 0, .int 0, .int 0, .int 0, .int 0, .int 0, .int 0, .int 0, .null, .null, .null, .null, .long 0]))]) (wr := [(p19, .inr (4, [.ref p0, .ref p6, .ref p9, .ref p12, .ref p15, .ref p17, .ref p20, .ref p21, .int 0, .int 0, .int 0, .int 0])), (p0, .inr (1, [.ref p1, .ref p2, .ref p3, .ref p4, .ref p5])), (p1, .inl (cid 0, 4320, .inl g1)), (p2, .inl (cid 0, 4320, .inl g2)), (p3, .inl (cid 0, 4320, .inl g3)), (p4, .inl (cid 0, 4320, .inl g4)), (p5, .inl (cid 0, 6, .inl g5)), (p6, .inr (2, [.ref p0, .ref p7, .ref p8, .int 0, .int 0, .int (-1), .int (-1)])), (p7, .inl (cid 0, 720, .inl (fun _ => 0))), (p8, .inl (cid 0, 720, .inl (fun _ => 0))), (p9, .inr (2, [.ref p0, .ref p10, .ref p11, .int 0, .int 0, .int (-1), .int (-1)])), (p10, .inl (cid 0, 720, .inl (fun _ => 0))), (p11, .inl (cid 0, 720, .inl (fun _ => 0))), (p12, .inr (0, [.ref p0, .ref p13, .ref p14, .int (-1), .int (-1), .int 0])), (p13, .inl (cid 0, 720, .inl (fun _ => 0))), (p14, .inl (cid 0, 720, .inl (fun _ => 0))), (p15, .inr (3, [.int (-1), .int (-1), .int 0, .int 0, .int 0, .int 0, .ref p16])), (p16, .inl (cid 0, 5, .inl (fun _ => 0))), (p17, .inr (3, [.int (-1), .int (-1), .int 0, .int 0, .int 0, .int 0, .ref p18])), (p18, .inl (cid 0, 5, .inl (fun _ => 0))), (p20, .inl (cid 0, 22, .inl (fun _ => 0))), (p21, .inl (cid 0, 6, .inl (fun _ => 0)))]) (as := []) (S := [.ref p22]) C dL_law_12 (nm_X6 p22) rfl rfl rfl rfl rfl (by decide) xw_3_77 xw_3_75 xw_3_76 xw_1_8 rfl (by decide +kernel) rfl rfl rfl ⟨Nat.le_of_ble_eq_true rfl, Nat.le_of_ble_eq_true rfl⟩ (Nat.le_of_ble_eq_true rfl) ⟨Nat.le_of_ble_eq_true rfl, Nat.le_of_ble_eq_true rfl⟩ (fun w1 hw1 => ?_)
    obtain ⟨p23, p24, p25, p26, p27, p28, p29, p30, p31, p32, p33, p34, rfl⟩ := hw1
    show Kr 4 room_1 p l e s m #[Value.ref b] below meth c D (fun q => s.heap.size ≤ q) (lw_Z below #[Value.ref b] s) 15 [some (.ref b), some (.ref p19), none, none] [.ref p22] [(p19, .inr (4, [.ref p0, .ref p6, .ref p9, .ref p12, .ref p15, .ref p17, .ref p20, .ref p21, .int 0, .int 0, .int 0, .int 0])), (p0, .inr (1, [.ref p1, .ref p2, .ref p3, .ref p4, .ref p5])), (p1, .inl (cid 0, 4320, .inl g1)), (p2, .inl (cid 0, 4320, .inl g2)), (p3, .inl (cid 0, 4320, .inl g3)), (p4, .inl (cid 0, 4320, .inl g4)), (p5, .inl (cid 0, 6, .inl g5)), (p6, .inr (2, [.ref p0, .ref p7, .ref p8, .int 0, .int 0, .int (-1), .int (-1)])), (p7, .inl (cid 0, 720, .inl (fun _ => 0))), (p8, .inl (cid 0, 720, .inl (fun _ => 0))), (p9, .inr (2, [.ref p0, .ref p10, .ref p11, .int 0, .int 0, .int (-1), .int (-1)])), (p10, .inl (cid 0, 720, .inl (fun _ => 0))), (p11, .inl (cid 0, 720, .inl (fun _ => 0))), (p12, .inr (0, [.ref p0, .ref p13, .ref p14, .int (-1), .int (-1), .int 0])), (p13, .inl (cid 0, 720, .inl (fun _ => 0))), (p14, .inl (cid 0, 720, .inl (fun _ => 0))), (p15, .inr (3, [.int (-1), .int (-1), .int 0, .int 0, .int 0, .int 0, .ref p16])), (p16, .inl (cid 0, 5, .inl (fun _ => 0))), (p17, .inr (3, [.int (-1), .int (-1), .int 0, .int 0, .int 0, .int 0, .ref p18])), (p18, .inl (cid 0, 5, .inl (fun _ => 0))), (p20, .inl (cid 0, 22, .inl (fun _ => 0))), (p21, .inl (cid 0, 6, .inl (fun _ => 0))), (p22, .inr (5, [.int 0, .int 0, .int 0, .ref p23, .int 0, .int 0, .int 0, .int 0, .ref p24, .ref p25, .ref p26, .int 0, .ref p27, .int 0, .ref p28, .ref p29, .ref p30, .long 0, .int 0, .int 0, .int 0, .int 0, .int 0, .int 0, .int 0, .ref p31, .ref p32, .ref p33, .ref p34, .long 0])), (p23, .inl (cid 0, 5, .inl (fun _ => 0))), (p24, .inl (cid 0, 6, .inl (fun _ => 0))), (p25, .inl (cid 0, 6, .inl (fun _ => 0))), (p26, .inl (cid 0, 6, .inl (fun _ => 0))), (p27, .inl (cid 1, 22, .inl (fun _ => 0))), (p28, .inl (cid 0, 720, .inl (fun _ => 0))), (p29, .inl (cid 0, 720, .inl (fun _ => 0))), (p30, .inl (cid 0, 720, .inl (fun _ => 0))), (p31, .inl (cid 0, 5, .inl (fun _ => 0))), (p32, .inl (cid 0, 6, .inl (fun _ => 0))), (p33, .inl (cid 0, 6, .inl (fun _ => 0))), (p34, .inl (cid 0, 6, .inl (fun _ => 0)))] 35 23953
    refine k_astore_n C dL_law_15 rfl (by decide) rfl rfl ?_
    refine k_iconst (v := 0) C dL_law_16 (by decide) ?_
    refine k_istore_n C dL_law_17 rfl (by decide) rfl rfl ?_
    refine k_perm (ws2 := cells (adW [p0, p1, p2, p3, p4, p5, p6, p7, p8, p9, p10, p11, p12, p13, p14, p15, p16, p17, p18, p19, p20, p21, p22, p23, p24, p25, p26, p27, p28, p29, p30, p31, p32, p33, p34] ad) cid 35 (w00 g1 g2 g3 g4 g5)) [1, 2, 3, 4, 5, 6, 7, 8, 9, 10, 11, 12, 13, 14, 15, 16, 17, 18, 19, 0, 20, 21, 22, 23, 24, 25, 26, 27, 28, 29, 30, 31, 32, 33, 34] (by decide) (by rw [cells35]; rfl) ?_
    have C2 : NX yL_law 4 ret code p s m #[Value.ref b] meth c D (adW [p0, p1, p2, p3, p4, p5, p6, p7, p8, p9, p10, p11, p12, p13, p14, p15, p16, p17, p18, p19, p20, p21, p22, p23, p24, p25, p26, p27, p28, p29, p30, p31, p32, p33, p34] ad) cid (fun q => s.heap.size ≤ q) := ⟨hx, hb, hml, hr, hXW, hown, hlocks, hK, adW_SK hSK, fun _ h => h⟩
    exact law_loop C2 X L 0 0 (w00 g1 g2 g3 g4 g5) g00 (by omega) (Nat.zero_le _) (Nat.le_refl _) (rr0 hTB)
  refine main s.heap _ [] ⟨_, hl, rfl, fun i v hi => ?_⟩ (fun k q h => by simp at h) ⟨fun i j p q h => by simp at h, fun k q h => by simp at h⟩ va_S.rf
  match i, hi with
  | 0, hi => cases hi; exact List.mem_cons_self
  | 1, hi => cases hi
  | 2, hi => cases hi
  | 3, hi => cases hi
  | k + 4, hi => simp at hi
-- ===== YOUR PART ENDS =====
set_option maxHeartbeats 4000000 in
theorem lw_walk (l : Launch) (hflags : l.flags = flags0) (b : Addr) (xs : List Int32) : MetFree l x (headSpec (Jvm.Cond.code x code maxLocals ret :: tables_1) room_1) (lw_P b xs) (fun _ _ _ _ _ => True) lw_Q := by
  refine MetFree.of_bodyS (code := code) (maxLocals := maxLocals) (ret := ret) (by decide) ?_ ?_
  · intro args s m h hn
    obtain ⟨meth, c, h1, h2, h3, h4, h5, h6, -, -⟩ := Cond.code_spec hn (atoms_spec (ws := Jvm.Cond.code x code maxLocals ret :: tables_1) h _ List.mem_cons_self)
    exact ⟨meth, c, h1, h2, h3, h4, h5, h6⟩
  · intro p e s m args below meth c s₁ B hml0 hP _
    obtain ⟨rfl, hx, hbd, hgv⟩ := hP
    obtain ⟨scr, harrAt, hlist, hof, hsmall⟩ := hx
    obtain ⟨hcb, hkn, -, -⟩ := State.arrayAt?_spec harrAt
    have hown : s.vm.findClass R_law = some m.cls := findClass_of_methodNamed B.named
    have hts0 : ∀ c ∈ (Jvm.Cond.code x code maxLocals ret :: tables_1), c.before #[Value.ref b] s = true := atoms_spec (ws := Jvm.Cond.code x code maxLocals ret :: tables_1) B.pre
    have hts : ∀ w ∈ lw_tbl, w.before #[Value.ref b] s = true := k2_hts_sels lw_privs (fun w hw => hts0 w (List.mem_cons_of_mem _ hw)) lw_privs_ok
    have hml : c.maxLocals = 4 := B.maxLocals_eq (hts0 _ List.mem_cons_self)
    have X₀ : Stand p l e room_1 s m #[Value.ref b] below meth c s₁ [] 0 0 := Stand.of_body B
    have hh0 : s₁.heap = s.heap := by rw [B.state]; rfl
    have hsz : scr.slots.size = xs.length := by rw [← Array.length_toList, hlist, List.length_map]
    have hval : ∀ j : Nat, j < xs.length → scr.slots[j]? = some (.int (xs.getD j 0)) := fun j hj => by
      rw [← Array.getElem?_toList, hlist]
      simp [hj]
    have hbl : b < s.heap.size := (Array.getElem?_eq_some_iff.mp hcb).1
    have hX : va_X b xs.length (fun j => xs.getD j 0) s s.heap := ⟨scr, hcb, hof, hkn, hsz, hval⟩
    have K : W p l e room_1 s m #[Value.ref b] below meth c s₁.heap [] 0 0 (lw_Z below #[Value.ref b] s) (entryFrame m ([Value.ref b] : List Value).toArray 4) := by
      rw [hh0]
      exact whole_start l hflags hbd ⟨B.exec, B.bytes, B.returns, hml, hown, hts, hX, hbl, B.notSynchronized, hgv⟩
    obtain ⟨t, a1, o, b1, b2, b3⟩ := K s₁ rfl X₀
    exact ⟨t, o, a1, b1, b2, b3⟩
theorem lw_pre_spec {args : Array Value} {s : State} (h : (Jvm.Cond.and given_1 narrow_1).before args s = true) (hr : rest_1_c.before args s = true) : ∃ (b : Addr) (xs : List Int32), lw_P b xs args s := by
  have hs := flat_of_before _ h
  have hq := flat_of_before _ hr
  have hc : (Cond.count 1).before args s = true := hs _ (by decide +kernel)
  have harr : (Cond.arrayOf (.arg 0) .int).before args s = true := hs _ (by decide +kernel)
  have hle : (Cond.le (.length (.arg 0)) (.int 2560)).before args s = true := hs _ (by decide +kernel)
  have hlen : (Cond.isInt (.length (.arg 0))).before args s = true := hq _ (by decide +kernel)
  have hall : (Cond.all (.arg 0) (.isInt (.elem (.arg 0) (.index 0)))).before args s = true := hq _ (by decide +kernel)
  obtain ⟨b, xs, hb, hx⟩ := State.ints_of_pre rfl harr hlen hall
  have hsm : xs.length < 2 ^ 31 := hx.choose_spec.2.2.2
  have hev : (Term.length (.arg 0)).eval args s none [] s = some (.int xs.length.toInt32) := hx.length_eval hb
  have hv := Cond.le_ints hev (show (Term.int 2560).eval args s none [] s = some (.int 2560) from rfl)
  have hd : xs.length.toInt32 ≤ 2560 := by
    simpa [Cond.before, Cond.holds, hv] using hle
  have hN : xs.length ≤ 2560 := (Int32.ofNat_le_ofNat hsm (by decide)).mp (show Int32.ofNat xs.length ≤ Int32.ofNat 2560 from hd)
  exact ⟨b, xs, Cond.one_arg hc (show args[0]? = some (.ref b) from hb), hx, hN, h⟩
theorem lw_comes (l : Launch) (hflags : l.flags = flags0) : Comes l x (Jvm.Cond.code x code maxLocals ret :: tables_1) room_1 (fun tb e args s => Calls_1 tb e args s ∧ rest_1 tb e args s ∧ Pre_1 tb e args s)
    (fun _ _ args s o t => lw_Q args s o t) := by
  intro p e ha hc hk s m args below hf hfit hheap happ hpre
  obtain ⟨b, xs, hP⟩ := lw_pre_spec hpre.2.2 hpre.2.1
  obtain ⟨k, o, h1, h2, h3, hQ⟩ := lw_walk l hflags b xs p e ha hc hk s m args below hf ((Spec.applies_iff_loose hf).mp happ).1 hP trivial
  exact ⟨k, o, h1, h2, h3, hQ⟩
theorem lw_frame {s t : State} {o : Outcome} {args : Array Value} (h : Framed s o t [] 35 23953) :
    Framed s o t (fieldLocs frame_1_writes args s ++ arrayLocs frame_1_arrays args s ++ staticLocs frame_1_statics s) 35 23953 := h
theorem lw_limb (L : Cond) (hL : ∀ (args : Array Value) (s t : State), L.after args s (.returned (some (.int 1))) t = true) :
    ArmFor flags0 classFile x code maxLocals ret World_1 tables_1 room_1 Calls_1 rest_1 Pre_1
      (fun tb e a s o t => postC L tb e a s o t ∧ Framed s o t (fieldLocs frame_1_writes a s ++ arrayLocs frame_1_arrays a s ++ staticLocs frame_1_statics s) 35 23953) := by
  intro l hflags _ _ p e ha hc hk s m args below hf hfit hheap happ hpre
  obtain ⟨k, o, h1, h2, h3, rfl, hF⟩ := lw_comes l hflags p e ha hc hk s m args below hf hfit hheap happ hpre
  exact ⟨k, _, h1, h2, h3, hL args s _, lw_frame hF⟩
theorem i_vc : Claimed_1_1 ∧ Claimed_1_2 := ⟨lw_limb limb_1_1 (fun args s t => by simp [limb_1_1, Cond.after, Cond.holds, Cond.value]), lw_limb limb_1_2 (fun args s t => Cond.after_iff.mpr (by
  first | (rw [show limb_1_2 = Cond.eq .result (.int 1) from rfl, Cond.eq_ints (x := 1) (y := 1) rfl rfl]; simp; done) | (simp [limb_1_2, Cond.value, Term.eval]; done)))⟩
