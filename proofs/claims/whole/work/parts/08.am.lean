-- ===== the abstract machine: 35 cells by number, ints by field, arrays by content; its judgement Zr is W over all concrete states =====
abbrev Wd : Type := (Nat → Nat → Int32) × (Nat → Nat → Int64) × (Nat → Nat) × (Nat → Nat → Int32)
abbrev wI (w : Wd) (i f : Nat) : Int32 := w.1 i f
abbrev wJ (w : Wd) (i f : Nat) : Int64 := w.2.1 i f
abbrev wP (w : Wd) (f : Nat) : Nat := w.2.2.1 f
abbrev wA (w : Wd) (a : Nat) : Nat → Int32 := w.2.2.2 a
def sI (w : Wd) (i f : Nat) (v : Int32) : Wd := (fun a b => if a = i ∧ b = f then v else w.1 a b, w.2)
def sJ (w : Wd) (i f : Nat) (v : Int64) : Wd := (w.1, fun a b => if a = i ∧ b = f then v else w.2.1 a b, w.2.2)
def sP (w : Wd) (f r : Nat) : Wd := (w.1, w.2.1, fun b => if b = f then r else w.2.2.1 b, w.2.2.2)
def sA (w : Wd) (a : Nat) (g : Nat → Int32) : Wd := (w.1, w.2.1, w.2.2.1, fun b => if b = a then g else w.2.2.2 b)
abbrev xSh : Type := (Nat × List Nat) ⊕ (Nat × Nat)
/-- the cells: an object with its class and fields (0 int, 1 long, 2 one of the two arrays of parts, else a fixed cell and 10), or an array with its kind (0 int, 1 byte) and length -/
def SH : List xSh := [.inl (1, [11, 12, 13, 14, 15]), .inr (0, 4320), .inr (0, 4320), .inr (0, 4320), .inr (0, 4320), .inr (0, 6), .inl (2, [10, 17, 18, 0, 0, 0, 0]), .inr (0, 720), .inr (0, 720), .inl (2, [10, 20, 21, 0, 0, 0, 0]), .inr (0, 720), .inr (0, 720), .inl (0, [10, 2, 2, 0, 0, 0]), .inr (0, 720), .inr (0, 720), .inl (3, [0, 0, 0, 0, 0, 0, 26]), .inr (0, 5), .inl (3, [0, 0, 0, 0, 0, 0, 28]), .inr (0, 5), .inl (4, [10, 16, 19, 22, 25, 27, 30, 31, 0, 0, 0, 0]), .inr (0, 22), .inr (0, 6), .inl (5, [0, 0, 0, 33, 0, 0, 0, 0, 34, 35, 36, 0, 37, 0, 38, 39, 40, 1, 0, 0, 0, 0, 0, 0, 0, 41, 42, 43, 44, 1]), .inr (0, 5), .inr (0, 6), .inr (0, 6), .inr (0, 6), .inr (1, 22), .inr (0, 720), .inr (0, 720), .inr (0, 720), .inr (0, 5), .inr (0, 6), .inr (0, 6), .inr (0, 6)]
def cv (ad : Nat → Nat) : Value → Value := fun v => match v with
  | .ref r => .ref (ad r)
  | z => z
theorem cv_cat (ad : Nat → Nat) (v : Value) : (cv ad v).category = v.category := by cases v <;> rfl
def fldv (ad : Nat → Nat) (w : Wd) (i f d : Nat) : Value := if d = 0 then .int (w.1 i f) else if d = 1 then .long (w.2.1 i f) else if d = 2 then .ref (ad (w.2.2.1 f)) else .ref (ad (d - 10))
def flds (ad : Nat → Nat) (w : Wd) (i : Nat) (ds : List Nat) : List Value := ds.mapIdx (fun f d => fldv ad w i f d)
def cel (ad : Nat → Nat) (cid : Nat → ClassId) (w : Wd) (i : Nat) (e : xSh) : va_E := match e with
  | .inl (ci, ds) => .inr (ci, flds ad w i ds)
  | .inr (b, n) => .inl (cid b, n, .inl (w.2.2.2 i))
def cells (ad : Nat → Nat) (cid : Nat → ClassId) (mm : Nat) (w : Wd) : va_W := (SH.take mm).mapIdx (fun i e => (ad i, cel ad cid w i e))
theorem cells_at {ad : Nat → Nat} {cid : Nat → ClassId} {mm : Nat} {w : Wd} {i : Nat} {e : xSh} (h : SH[i]? = some e) (hm : i < mm) : (cells ad cid mm w)[i]? = some (ad i, cel ad cid w i e) := by
  unfold cells
  rw [List.getElem?_mapIdx, List.getElem?_take, if_pos hm, h]
  rfl
theorem cells_of {ad : Nat → Nat} {cid : Nat → ClassId} {mm : Nat} {w : Wd} {i : Nat} {q : Nat × va_E} (h : (cells ad cid mm w)[i]? = some q) : ∃ e, SH[i]? = some e ∧ i < mm ∧ q = (ad i, cel ad cid w i e) := by
  unfold cells at h
  rw [List.getElem?_mapIdx, List.getElem?_take] at h
  by_cases hm : i < mm
  · rw [if_pos hm] at h
    cases hs : SH[i]? with
    | none => rw [hs] at h; cases h
    | some e => rw [hs] at h; exact ⟨e, rfl, hm, (Option.some.inj h).symm⟩
  · rw [if_neg hm] at h; cases h
theorem cells_set {ad : Nat → Nat} {cid : Nat → ClassId} {mm : Nat} {w w' : Wd} {i : Nat} {e : xSh} (h : SH[i]? = some e) (ho : ∀ j e', SH[j]? = some e' → j ≠ i → cel ad cid w' j e' = cel ad cid w j e') : (cells ad cid mm w).set i (ad i, cel ad cid w' i e) = cells ad cid mm w' := by
  apply List.ext_getElem?
  intro j
  by_cases hj : j = i
  · subst hj
    by_cases hm : j < mm
    · have h1 := cells_at (ad := ad) (cid := cid) (w := w) h hm
      rw [List.getElem?_set_self (List.getElem?_eq_some_iff.mp h1).1]
      exact (cells_at h hm).symm
    · have n1 : (cells ad cid mm w)[j]? = none := by
        cases hq : (cells ad cid mm w)[j]? with
        | none => rfl
        | some q => obtain ⟨_, _, h2, _⟩ := cells_of hq; exact absurd h2 hm
      have n2 : (cells ad cid mm w')[j]? = none := by
        cases hq : (cells ad cid mm w')[j]? with
        | none => rfl
        | some q => obtain ⟨_, _, h2, _⟩ := cells_of hq; exact absurd h2 hm
      rw [n2]
      apply List.getElem?_eq_none
      have := List.getElem?_eq_none_iff.mp n1
      simpa using this
  · rw [List.getElem?_set_ne (Ne.symm hj)]
    unfold cells
    rw [List.getElem?_mapIdx, List.getElem?_mapIdx]
    cases hq : (SH.take mm)[j]? with
    | none => rfl
    | some e' =>
      have h2 : SH[j]? = some e' := by
        rw [List.getElem?_take] at hq
        split at hq
        · exact hq
        · cases hq
      show some (ad j, cel ad cid w j e') = some (ad j, cel ad cid w' j e')
      rw [ho j e' h2 hj]
theorem flds_at {ad : Nat → Nat} {w : Wd} {i f d : Nat} {ds : List Nat} (h : ds[f]? = some d) : (flds ad w i ds)[f]? = some (fldv ad w i f d) := by
  unfold flds
  rw [List.getElem?_mapIdx, h]
  rfl
theorem flds_set {ad : Nat → Nat} {w w' : Wd} {i f d : Nat} {ds : List Nat} {v : Value} (h : ds[f]? = some d) (hv : fldv ad w' i f d = v) (ho : ∀ g d', g ≠ f → fldv ad w' i g d' = fldv ad w i g d') : (flds ad w i ds).set f v = flds ad w' i ds := by
  apply List.ext_getElem?
  intro j
  by_cases hj : j = f
  · subst hj
    rw [List.getElem?_set_self (List.getElem?_eq_some_iff.mp (flds_at (ad := ad) (w := w) (i := i) h)).1, flds_at h, hv]
  · rw [List.getElem?_set_ne (Ne.symm hj)]
    unfold flds
    rw [List.getElem?_mapIdx, List.getElem?_mapIdx]
    cases ds[j]? with
    | none => rfl
    | some d' => show some (fldv ad w i j d') = some (fldv ad w' i j d'); rw [ho j d' hj]
theorem cel_sI {ad : Nat → Nat} {cid : Nat → ClassId} {w : Wd} {i f : Nat} {v : Int32} : ∀ j e', SH[j]? = some e' → j ≠ i → cel ad cid (sI w i f v) j e' = cel ad cid w j e' := by
  intro j e' _ hj
  cases e' with
  | inl o =>
    show Sum.inr (o.1, flds ad (sI w i f v) j o.2) = Sum.inr (o.1, flds ad w j o.2)
    have : flds ad (sI w i f v) j o.2 = flds ad w j o.2 := by
      unfold flds
      congr 1
      funext g d
      simp [fldv, sI, hj]
    rw [this]
  | inr a => rfl
theorem cel_sJ {ad : Nat → Nat} {cid : Nat → ClassId} {w : Wd} {i f : Nat} {v : Int64} : ∀ j e', SH[j]? = some e' → j ≠ i → cel ad cid (sJ w i f v) j e' = cel ad cid w j e' := by
  intro j e' _ hj
  cases e' with
  | inl o =>
    show Sum.inr (o.1, flds ad (sJ w i f v) j o.2) = Sum.inr (o.1, flds ad w j o.2)
    have : flds ad (sJ w i f v) j o.2 = flds ad w j o.2 := by
      unfold flds
      congr 1
      funext g d
      simp [fldv, sJ, hj]
    rw [this]
  | inr a => rfl
theorem cel_sA {ad : Nat → Nat} {cid : Nat → ClassId} {w : Wd} {a : Nat} {g : Nat → Int32} : ∀ j e', SH[j]? = some e' → j ≠ a → cel ad cid (sA w a g) j e' = cel ad cid w j e' := by
  intro j e' _ hj
  cases e' with
  | inl o => rfl
  | inr b =>
    show Sum.inl (cid b.1, b.2, Sum.inl (if j = a then g else w.2.2.2 j)) = Sum.inl (cid b.1, b.2, Sum.inl (w.2.2.2 j))
    rw [if_neg hj]
/-- only cell 12 has fields of kind 2 -/
def noP (e : xSh) : Prop := match e with
  | .inl o => ∀ d ∈ o.2, d ≠ 2
  | .inr _ => True
theorem SH_noP : ∀ j e, SH[j]? = some e → j ≠ 12 → noP e := by
  have h : ∀ j, j < 35 → j ≠ 12 → ∀ e, SH[j]? = some e → (match e with | .inl o => o.2.all (fun d => d != 2) | .inr _ => true) = true := by
    intro j hj hn e he
    have hd : (List.range 35).all (fun j => j == 12 || (match SH[j]? with | some (.inl o) => o.2.all (fun d => d != 2) | _ => true)) = true := by decide +kernel
    have h1 := List.all_eq_true.mp hd j (List.mem_range.mpr hj)
    rw [he] at h1
    have h2 : (j == 12) = false := by simpa using hn
    rw [h2] at h1
    cases e with
    | inl o => simpa using h1
    | inr b => rfl
  intro j e he hj
  have hl : j < 35 := (List.getElem?_eq_some_iff.mp he).1
  have h1 := h j hl hj e he
  cases e with
  | inl o =>
    intro d hd
    have := List.all_eq_true.mp h1 d hd
    simpa using this
  | inr b => trivial
theorem cel_sP {ad : Nat → Nat} {cid : Nat → ClassId} {w : Wd} {f r : Nat} : ∀ j e', SH[j]? = some e' → j ≠ 12 → cel ad cid (sP w f r) j e' = cel ad cid w j e' := by
  intro j e' he hj
  have hn := SH_noP j e' he hj
  cases e' with
  | inl o =>
    show Sum.inr (o.1, flds ad (sP w f r) j o.2) = Sum.inr (o.1, flds ad w j o.2)
    have : flds ad (sP w f r) j o.2 = flds ad w j o.2 := by
      apply List.ext_getElem?
      intro g
      unfold flds
      rw [List.getElem?_mapIdx, List.getElem?_mapIdx]
      cases hg : o.2[g]? with
      | none => rfl
      | some d =>
        have hd : d ≠ 2 := hn d (List.mem_of_getElem? hg)
        show some (fldv ad (sP w f r) j g d) = some (fldv ad w j g d)
        simp [fldv, sP, hd]
    rw [this]
  | inr a => rfl
/-- what is known of the constants -/
abbrev nestW : List Cond := [(Jvm.Cond.fieldLinkNest "PushTray$Lays" (34 : Nat) "PushTray" "ORDERS" "[I" "PushTray"), (Jvm.Cond.methodLinkNest "PushTray$Lays" (50 : Nat) ({ cls := "PushTray", name := "areNext", desc := "(II)Z" } : Jvm.MethodName) "PushTray"), (Jvm.Cond.methodLinkNest "PushTray$Lays" (58 : Nat) ({ cls := "PushTray", name := "isOneRow", desc := "(II)Z" } : Jvm.MethodName) "PushTray"), (Jvm.Cond.methodLinkNest "PushTray" (37 : Nat) ({ cls := "PushTray$Standing", name := "<init>", desc := "()V" } : Jvm.MethodName) "PushTray"), (Jvm.Cond.fieldLinkNest "PushTray" (82 : Nat) "PushTray$Standing" "lay" "I" "PushTray"), (Jvm.Cond.fieldLinkNest "PushTray" (99 : Nat) "PushTray$Standing" "goal" "I" "PushTray"), (Jvm.Cond.fieldLinkNest "PushTray" (93 : Nat) "PushTray$Standing" "kinds" "I" "PushTray"), (Jvm.Cond.fieldLinkNest "PushTray" (144 : Nat) "PushTray$Standing" "pushes" "I" "PushTray"), (Jvm.Cond.fieldLinkNest "PushTray" (150 : Nat) "PushTray$Standing" "costs" "I" "PushTray"), (Jvm.Cond.fieldLinkNest "PushTray" (199 : Nat) "PushTray$Standing" "seen" "I" "PushTray"), (Jvm.Cond.fieldLinkNest "PushTray$Lays" (72 : Nat) "PushTray" "KINDS" "[LPushTray$Kind;" "PushTray"), (Jvm.Cond.methodLinkNest "PushTray$Lays" (76 : Nat) ({ cls := "PushTray", name := "kindOf", desc := "(II)I" } : Jvm.MethodName) "PushTray"), (Jvm.Cond.methodLinkNest "PushTray$Standing" (43 : Nat) ({ cls := "PushTray", name := "isWithin", desc := "(III)Z" } : Jvm.MethodName) "PushTray"), (Jvm.Cond.methodLinkNest "PushTray$Spread" (62 : Nat) ({ cls := "PushTray", name := "isWithin", desc := "(III)Z" } : Jvm.MethodName) "PushTray"), (Jvm.Cond.methodLinkNest "PushTray$Chances" (38 : Nat) ({ cls := "PushTray", name := "isWithin", desc := "(III)Z" } : Jvm.MethodName) "PushTray"), (Jvm.Cond.fieldLinkNest "PushTray" (277 : Nat) "PushTray$Kind" "letter" "I" "PushTray")]
def kLet (k : Nat) : Int32 := [116, 104, 110, 115, 111].getD k 0
def kIn (k : Nat) : Int32 := [1, 2, 0, 1, 3].getD k 0
def kBet (k : Nat) : Int32 := [1, 2, 0, 0, 3].getD k 0
def kBits (k : Nat) : Int32 := [1, 3, 5, 9, 19].getD k 0
def ordv (j : Nat) : Int32 := [120, 24, 6, 2, 1, 1].getD j 0
def SK (ad : Nat → Nat) (A : Nat → Prop) (U : State) (H : Heap) : Prop :=
  (∀ w ∈ nestW, va_Nw w U) ∧ va_Z "PushTray" "ORDERS" "[I" (.ref (ad 1000)) A U H ∧ va_T .int (ad 1000) 6 (fun j => .int (ordv j)) A U H ∧
  va_Z "PushTray" "KINDS" "[LPushTray$Kind;" (.ref (ad 1001)) A U H ∧ va_T (.object "PushTray$Kind") (ad 1001) 5 (fun j => .ref (ad (2000 + j))) A U H ∧
  (∀ k, k < 5 → va_O "PushTray$Kind" (ad (2000 + k)) A U H) ∧
  va_Ef 5 "PushTray$Kind" "letter" "I" (fun k => .int (kLet k)) (fun k => ad (2000 + k)) A U H ∧
  va_Ef 5 "PushTray$Kind" "priceWithinRow" "I" (fun k => .int (kIn k)) (fun k => ad (2000 + k)) A U H ∧
  va_Ef 5 "PushTray$Kind" "priceBetweenRows" "I" (fun k => .int (kBet k)) (fun k => ad (2000 + k)) A U H ∧
  va_Ef 5 "PushTray$Kind" "kinds" "I" (fun k => .int (kBits k)) (fun k => ad (2000 + k)) A U H
theorem nestW_ok : ∀ w ∈ nestW, (∃ a i b n d h, w = .fieldLinkNest a i b n d h) ∨ (∃ a i x h, w = .methodLinkNest a i x h) := by
  intro w hw
  simp only [nestW, List.mem_cons, List.not_mem_nil, or_false] at hw
  rcases hw with rfl | rfl | rfl | rfl | rfl | rfl | rfl | rfl | rfl | rfl | rfl | rfl | rfl | rfl | rfl | rfl
  all_goals first | exact Or.inl ⟨_, _, _, _, _, _, rfl⟩ | exact Or.inr ⟨_, _, _, _, rfl⟩
theorem SK.same {ad : Nat → Nat} {A : Nat → Prop} {u U : State} {H : Heap} (h : SK ad A u H) (hvm : u.vm = U.vm) : SK ad A U H := by
  have hal : u.vm.Alike U.vm := by rw [hvm]; exact Vm.Alike.refl _
  obtain ⟨h0, h1, h2, h3, h4, h5, h6, h7, h8, h9⟩ := h
  refine ⟨fun w hw => ?_, h1.moved hal, h2.moved hal, h3.moved hal, h4.moved hal, fun k hk => (h5 k hk).moved hal, h6.moved hal, h7.moved hal, h8.moved hal, h9.moved hal⟩
  rcases nestW_ok w hw with ⟨_, _, _, _, _, _, rfl⟩ | ⟨_, _, _, _, rfl⟩
  · exact va_Nw.same rfl hvm (h0 _ hw)
  · exact va_Nw.same rfl hvm (h0 _ hw)
theorem SK.warm {ad : Nat → Nat} {A B : Nat → Prop} {s U : State} {H : Heap} (h : SK ad A s s.heap) (hW : s.WarmedH U.vm) (hq : ∀ a : Nat, a < s.heap.size → ¬ A a → H[a]? = s.heap[a]?) (hAB : ∀ q, B q → A q) : SK ad B U H := by
  have hal : s.vm.Alike U.vm := hW.alike
  obtain ⟨h0, h1, h2, h3, h4, h5, h6, h7, h8, h9⟩ := h
  refine ⟨fun w hw => ?_, ((h1.kept hq).moved hal).narrow hAB, ((h2.kept hq).moved hal).narrow hAB, ((h3.kept hq).moved hal).narrow hAB, ((h4.kept hq).moved hal).narrow hAB, fun k hk => (((h5 k hk).kept hq).moved hal).narrow hAB, ((h6.kept hq).moved hal).narrow hAB, ((h7.kept hq).moved hal).narrow hAB, ((h8.kept hq).moved hal).narrow hAB, ((h9.kept hq).moved hal).narrow hAB⟩
  rcases nestW_ok w hw with ⟨_, _, _, _, _, _, rfl⟩ | ⟨_, _, _, _, rfl⟩
  · exact va_Nw.warmF hW (h0 _ hw)
  · exact va_Nw.warmM hW (h0 _ hw)
def XA (ad : Nat → Nat) (mm sz : Nat) : Nat → Prop := fun q => (∃ i, i < mm ∧ i < 35 ∧ q = ad i) ∨ sz ≤ q
theorem cells_D {ad : Nat → Nat} {cid : Nat → ClassId} {mm sz : Nat} {w : Wd} {A : Nat → Prop} (h : va_D A (cells ad cid mm w)) : va_D (XA ad mm sz) (cells ad cid mm w) := by
  refine ⟨h.1, fun k q hk => ?_⟩
  obtain ⟨e, h1, h2, rfl⟩ := cells_of hk
  exact Or.inl ⟨k, h2, (List.getElem?_eq_some_iff.mp h1).1, rfl⟩
abbrev xTy (cid : Nat → ClassId) : List (ClassId × FieldType) := [(cid 0, .int), (cid 1, .byte)]
abbrev xws (y : MethodName) (maxL : Nat) (ret : Option FieldType) (cc : ByteArray) : List Cond := .code y cc maxL ret :: XW
def Qx (ad : Nat → Nat) (cid : Nat → ClassId) (mm : Nat) (D : va_G) (A : Nat → Prop) (res : Option Value × Wd) : Array Value → State → Outcome → State → Prop := fun _ st oc t =>
  (oc = .returned (res.1.map (cv ad)) ∧ va_P D vwCl (cells ad cid mm res.2) t.heap ∧ va_D A (cells ad cid mm res.2)) ∧ va_F A st t
/-- a method's contract at given arguments and world -/
def AM (y : MethodName) (maxL : Nat) (ret : Option FieldType) (cc : ByteArray) (rm : Room) (mm : Nat) (as : List Value) (w : Wd) (res : Option Value × Wd) : Prop :=
  ∀ (l : Launch) (D : va_G) (ad : Nat → Nat) (cid : Nat → ClassId) (sz : Nat), Met l y (xws y maxL ret cc) rm (va_Pc (as.map (cv ad)) (fun U => U.heap.size = sz ∧ va_P D vwCl (cells ad cid mm w) U.heap ∧ va_K D vwCl (xTy cid) U ∧ va_D (fun _ => True) (cells ad cid mm w) ∧ SK ad (XA ad mm sz) U U.heap)) (Qx ad cid mm D (XA ad mm sz) res) 0 0 (XA ad mm sz)
def LR (ad : Nat → Nat) (ls : Array Slot) (nL : Nat) (L : List (Option Value)) : Prop := ∃ lv, lv_has ls nL lv ∧ L.length = nL ∧ ∀ (i : Nat) (v : Value), L[i]? = some (some v) → (i, cv ad v) ∈ lv
def Cx (y : MethodName) (maxL : Nat) (ret : Option FieldType) (cc : ByteArray) (mm : Nat) (p : Program) (s : State) (m : MethodId) (args : Array Value) (meth : Method) (c : Code) (D : va_G) (ad : Nat → Nat) (cid : Nat → ClassId) (A : Nat → Prop) : Prop :=
  p.tables.exec = Jvm.exec ∧ c.code = cc ∧ c.maxLocals = maxL ∧ meth.sig.returnType = ret ∧ (∀ w ∈ XW, w.before args s = true) ∧ s.vm.findClass y.cls = some m.cls ∧ meth.locks = false ∧ va_K D vwCl (xTy cid) s ∧ SK ad A s s.heap ∧ A = XA ad mm s.heap.size ∧ meth.name = y.name
/-- from instruction pc with locals L, stack S and world w the method comes to its end with res -/
def Zr (y : MethodName) (maxL : Nat) (ret : Option FieldType) (cc : ByteArray) (rm : Room) (mm pc : Nat) (L : List (Option Value)) (S : List Value) (w : Wd) (res : Option Value × Wd) : Prop :=
  ∀ (p : Program) (l : Launch) (e : Env) (s : State) (m : MethodId) (args : Array Value) (below : List Frame) (meth : Method) (c : Code) (D : va_G) (ad : Nat → Nat) (cid : Nat → ClassId) (A : Nat → Prop), Cx y maxL ret cc mm p s m args meth c D ad cid A →
  ∀ (H : Heap) (ls : Array Slot) (locs : List Loc), LR ad ls maxL L → va_P D vwCl (cells ad cid mm w) H → va_D A (cells ad cid mm w) → va_S A s.heap H locs →
  W p l e rm s m args below meth c H locs 0 0 (MQ below (Qx ad cid mm D A res) args s 0 0 A) (F0 m pc ls (S.map (cv ad)))
section ZR
variable {y : MethodName} {maxL : Nat} {ret : Option FieldType} {cc : ByteArray} {rm : Room} {mm pc : Nat} {L : List (Option Value)} {S : List Value} {w : Wd} {res : Option Value × Wd}
theorem LR.get {ad : Nat → Nat} {ls : Array Slot} {nL : Nat} {L : List (Option Value)} (h : LR ad ls nL L) {i : Nat} {v : Value} (hi : L[i]? = some (some v)) : ls[i]? = some (.val (cv ad v)) := by
  obtain ⟨lv, h1, -, h2⟩ := h
  exact h1.2.2 _ (h2 i v hi)
/-- storing a value of one slot: a long just below is given up -/
def lset (L : List (Option Value)) (i : Nat) (v : Value) : List (Option Value) := L.set i (some v)
def lok (L : List (Option Value)) (i : Nat) : Bool := match i with
  | 0 => true
  | j + 1 => match L[j]? with
    | some (some v) => v.category == 1
    | _ => true
theorem lok_spec {L : List (Option Value)} {i : Nat} (h : lok L i = true) {j : Nat} {v : Value} (hj : L[j]? = some (some v)) (hi : j + 1 = i) : v.category = 1 := by
  subst hi
  simp only [lok, hj] at h
  simpa using h
theorem LR.put1 {ad : Nat → Nat} {nL : Nat} {L L' : List (Option Value)} {i : Nat} {v : Value} {lv : List (Nat × Value)} {ls : Array Slot} (hn : L.length = nL) (h : ∀ (i : Nat) (v : Value), L[i]? = some (some v) → (i, cv ad v) ∈ lv) (hok : lok L i = true) (hL : lset L i v = L') (h1 : lv_has ls nL ((i, cv ad v) :: lv.filter (fun q => !(q.1 == i) && !(q.1 + 1 == i && q.2.category == 2)))) : LR ad ls nL L' := by
  refine ⟨_, h1, by rw [← hL]; simpa [lset] using hn, fun j u hj => ?_⟩
  rw [← hL] at hj
  by_cases hji : j = i
  · subst hji
    have hlt : j < L.length := by
      have := (List.getElem?_eq_some_iff.mp hj).1
      simpa [lset] using this
    rw [lset, List.getElem?_set_self hlt] at hj
    cases hj
    exact List.mem_cons_self
  · rw [lset, List.getElem?_set_ne (Ne.symm hji)] at hj
    refine List.mem_cons_of_mem _ (List.mem_filter.mpr ⟨h j u hj, ?_⟩)
    by_cases h3 : j + 1 = i
    · have := lok_spec hok hj h3
      simp [hji, h3, cv_cat, this]
    · simp [hji, h3]
def lset2 (L : List (Option Value)) (i : Nat) (v : Value) : List (Option Value) := (L.set i (some v)).set (i + 1) none
theorem LR.put2 {ad : Nat → Nat} {nL : Nat} {L L' : List (Option Value)} {i : Nat} {v : Value} {lv : List (Nat × Value)} {ls : Array Slot} (hn : L.length = nL) (h : ∀ (i : Nat) (v : Value), L[i]? = some (some v) → (i, cv ad v) ∈ lv) (hok : lok L i = true) (hL : lset2 L i v = L') (h1 : lv_has ls nL ((i, cv ad v) :: lv.filter (fun q => !(q.1 == i) && (!(q.1 == i + 1) && !(q.1 + 1 == i && q.2.category == 2))))) : LR ad ls nL L' := by
  refine ⟨_, h1, by rw [← hL]; simpa [lset2] using hn, fun j u hj => ?_⟩
  rw [← hL] at hj
  by_cases hj1 : j = i + 1
  · subst hj1
    have hlt : i + 1 < L.length := by
      have := (List.getElem?_eq_some_iff.mp hj).1
      simpa [lset2] using this
    rw [lset2, List.getElem?_set_self (by simpa using hlt)] at hj
    cases hj
  · rw [lset2, List.getElem?_set_ne (Ne.symm hj1)] at hj
    by_cases hji : j = i
    · subst hji
      have hlt : j < L.length := by
        have := (List.getElem?_eq_some_iff.mp hj).1
        simpa using this
      rw [List.getElem?_set_self hlt] at hj
      cases hj
      exact List.mem_cons_self
    · rw [List.getElem?_set_ne (Ne.symm hji)] at hj
      refine List.mem_cons_of_mem _ (List.mem_filter.mpr ⟨h j u hj, ?_⟩)
      by_cases h3 : j + 1 = i
      · have := lok_spec hok hj h3
        simp [hji, hj1, h3, cv_cat, this]
      · simp [hji, hj1, h3]
theorem z_iconst {n : Int} {v : Int32} (hd : decode cc pc = .ok (.iconst n, 1)) (hv : Int32.ofInt n = v) (k : Zr y maxL ret cc rm mm (pc + 1) L (.int v :: S) w res) : Zr y maxL ret cc rm mm pc L S w res := by
  intro p l e s m args below meth c D ad cid A C H ls locs hL hP hD hS
  exact lv_iconst C.1 C.2.1 hd hv (k p l e s m args below meth c D ad cid A C H ls locs hL hP hD hS)
theorem z_bipush {n : Int} {v : Int32} (hd : decode cc pc = .ok (.bipush n, 2)) (hv : (Int8.ofInt n).toInt32 = v) (k : Zr y maxL ret cc rm mm (pc + 2) L (.int v :: S) w res) : Zr y maxL ret cc rm mm pc L S w res := by
  intro p l e s m args below meth c D ad cid A C H ls locs hL hP hD hS
  exact lv_bipush C.1 C.2.1 hd hv (k p l e s m args below meth c D ad cid A C H ls locs hL hP hD hS)
theorem z_sipush {n : Int} {v : Int32} (hd : decode cc pc = .ok (.sipush n, 3)) (hv : (Int16.ofInt n).toInt32 = v) (k : Zr y maxL ret cc rm mm (pc + 3) L (.int v :: S) w res) : Zr y maxL ret cc rm mm pc L S w res := by
  intro p l e s m args below meth c D ad cid A C H ls locs hL hP hD hS
  exact lv_sipush C.1 C.2.1 hd hv (k p l e s m args below meth c D ad cid A C H ls locs hL hP hD hS)
theorem z_iload_n {n : Fin 4} {i : Nat} {x : Int32} (hd : decode cc pc = .ok (.iload_n n, 1)) (hi : (n : Nat) = i) (hl : L[i]? = some (some (.int x))) (k : Zr y maxL ret cc rm mm (pc + 1) L (.int x :: S) w res) : Zr y maxL ret cc rm mm pc L S w res := by
  intro p l e s m args below meth c D ad cid A C H ls locs hL hP hD hS
  exact lv_iload_n C.1 C.2.1 hd hi (hL.get hl) (k p l e s m args below meth c D ad cid A C H ls locs hL hP hD hS)
theorem z_iload {i : Nat} {x : Int32} (hd : decode cc pc = .ok (.iload i, 2)) (hl : L[i]? = some (some (.int x))) (k : Zr y maxL ret cc rm mm (pc + 2) L (.int x :: S) w res) : Zr y maxL ret cc rm mm pc L S w res := by
  intro p l e s m args below meth c D ad cid A C H ls locs hL hP hD hS
  exact lv_iload C.1 C.2.1 hd (hL.get hl) (k p l e s m args below meth c D ad cid A C H ls locs hL hP hD hS)
theorem z_lload_n {n : Fin 4} {i : Nat} {x : Int64} (hd : decode cc pc = .ok (.lload_n n, 1)) (hi : (n : Nat) = i) (hl : L[i]? = some (some (.long x))) (k : Zr y maxL ret cc rm mm (pc + 1) L (.long x :: S) w res) : Zr y maxL ret cc rm mm pc L S w res := by
  intro p l e s m args below meth c D ad cid A C H ls locs hL hP hD hS
  exact lv_lload_n C.1 C.2.1 hd hi (hL.get hl) (k p l e s m args below meth c D ad cid A C H ls locs hL hP hD hS)
theorem z_aload_n {n : Fin 4} {i r : Nat} (hd : decode cc pc = .ok (.aload_n n, 1)) (hi : (n : Nat) = i) (hl : L[i]? = some (some (.ref r))) (k : Zr y maxL ret cc rm mm (pc + 1) L (.ref r :: S) w res) : Zr y maxL ret cc rm mm pc L S w res := by
  intro p l e s m args below meth c D ad cid A C H ls locs hL hP hD hS
  exact lv_aload_n C.1 C.2.1 hd hi (hL.get hl) (k p l e s m args below meth c D ad cid A C H ls locs hL hP hD hS)
theorem z_aload {i r : Nat} (hd : decode cc pc = .ok (.aload i, 2)) (hl : L[i]? = some (some (.ref r))) (k : Zr y maxL ret cc rm mm (pc + 2) L (.ref r :: S) w res) : Zr y maxL ret cc rm mm pc L S w res := by
  intro p l e s m args below meth c D ad cid A C H ls locs hL hP hD hS
  exact lv_aload C.1 C.2.1 hd (hL.get hl) (k p l e s m args below meth c D ad cid A C H ls locs hL hP hD hS)
theorem z_istore_n {n : Fin 4} {i : Nat} {x : Int32} {L' : List (Option Value)} (hd : decode cc pc = .ok (.istore_n n, 1)) (hi : (n : Nat) = i) (hn : i < maxL) (hok : lok L i = true) (hl : lset L i (.int x) = L') (k : Zr y maxL ret cc rm mm (pc + 1) L' S w res) : Zr y maxL ret cc rm mm pc L (.int x :: S) w res := by
  intro p l e s m args below meth c D ad cid A C H ls locs hL hP hD hS
  obtain ⟨lv, h1, h2, h3⟩ := hL
  exact lv_istore_n C.1 C.2.1 hd hi h1 hn rfl (fun ls' h => k p l e s m args below meth c D ad cid A C H ls' locs (LR.put1 (v := .int x) h2 h3 hok hl h) hP hD hS)
theorem z_istore {i : Nat} {x : Int32} {L' : List (Option Value)} (hd : decode cc pc = .ok (.istore i, 2)) (hn : i < maxL) (hok : lok L i = true) (hl : lset L i (.int x) = L') (k : Zr y maxL ret cc rm mm (pc + 2) L' S w res) : Zr y maxL ret cc rm mm pc L (.int x :: S) w res := by
  intro p l e s m args below meth c D ad cid A C H ls locs hL hP hD hS
  obtain ⟨lv, h1, h2, h3⟩ := hL
  exact lv_istore C.1 C.2.1 hd h1 hn rfl (fun ls' h => k p l e s m args below meth c D ad cid A C H ls' locs (LR.put1 (v := .int x) h2 h3 hok hl h) hP hD hS)
theorem z_astore_n {n : Fin 4} {i r : Nat} {L' : List (Option Value)} (hd : decode cc pc = .ok (.astore_n n, 1)) (hi : (n : Nat) = i) (hn : i < maxL) (hok : lok L i = true) (hl : lset L i (.ref r) = L') (k : Zr y maxL ret cc rm mm (pc + 1) L' S w res) : Zr y maxL ret cc rm mm pc L (.ref r :: S) w res := by
  intro p l e s m args below meth c D ad cid A C H ls locs hL hP hD hS
  obtain ⟨lv, h1, h2, h3⟩ := hL
  exact lv_astore_n C.1 C.2.1 hd hi h1 hn rfl (fun ls' h => k p l e s m args below meth c D ad cid A C H ls' locs (LR.put1 (v := .ref r) h2 h3 hok hl h) hP hD hS)
theorem z_astore {i r : Nat} {L' : List (Option Value)} (hd : decode cc pc = .ok (.astore i, 2)) (hn : i < maxL) (hok : lok L i = true) (hl : lset L i (.ref r) = L') (k : Zr y maxL ret cc rm mm (pc + 2) L' S w res) : Zr y maxL ret cc rm mm pc L (.ref r :: S) w res := by
  intro p l e s m args below meth c D ad cid A C H ls locs hL hP hD hS
  obtain ⟨lv, h1, h2, h3⟩ := hL
  exact lv_astore C.1 C.2.1 hd h1 hn rfl (fun ls' h => k p l e s m args below meth c D ad cid A C H ls' locs (LR.put1 (v := .ref r) h2 h3 hok hl h) hP hD hS)
theorem z_lstore_n {n : Fin 4} {i : Nat} {x : Int64} {L' : List (Option Value)} (hd : decode cc pc = .ok (.lstore_n n, 1)) (hi : (n : Nat) = i) (hn : i + 1 < maxL) (hok : lok L i = true) (hl : lset2 L i (.long x) = L') (k : Zr y maxL ret cc rm mm (pc + 1) L' S w res) : Zr y maxL ret cc rm mm pc L (.long x :: S) w res := by
  intro p l e s m args below meth c D ad cid A C H ls locs hL hP hD hS
  obtain ⟨lv, h1, h2, h3⟩ := hL
  exact lv_lstore_n C.1 C.2.1 hd hi h1 hn rfl (fun ls' h => k p l e s m args below meth c D ad cid A C H ls' locs (LR.put2 (v := .long x) h2 h3 hok hl h) hP hD hS)
theorem z_iinc {i : Nat} {n : Int} {x v : Int32} {L' : List (Option Value)} (hd : decode cc pc = .ok (.iinc i n, 3)) (hg : L[i]? = some (some (.int x))) (hv : x + Int32.ofInt n = v) (hn : i < maxL) (hok : lok L i = true) (hl : lset L i (.int v) = L') (k : Zr y maxL ret cc rm mm (pc + 3) L' S w res) : Zr y maxL ret cc rm mm pc L S w res := by
  intro p l e s m args below meth c D ad cid A C H ls locs hL hP hD hS
  obtain ⟨lv, h1, h2, h3⟩ := hL
  obtain ⟨kk, hk⟩ := List.getElem?_of_mem (h3 i _ hg)
  exact lv_iinc (k := kk) C.1 C.2.1 hd h1 hk hv hn rfl (fun ls' h => k p l e s m args below meth c D ad cid A C H ls' locs (LR.put1 (v := .int v) h2 h3 hok hl h) hP hD hS)
theorem z_iadd {x z : Int32} (hd : decode cc pc = .ok (.iadd, 1)) (k : Zr y maxL ret cc rm mm (pc + 1) L (.int (x + z) :: S) w res) : Zr y maxL ret cc rm mm pc L (.int z :: .int x :: S) w res := by
  intro p l e s m args below meth c D ad cid A C H ls locs hL hP hD hS
  exact lv_iadd C.1 C.2.1 hd (k p l e s m args below meth c D ad cid A C H ls locs hL hP hD hS)
theorem z_isub {x z : Int32} (hd : decode cc pc = .ok (.isub, 1)) (k : Zr y maxL ret cc rm mm (pc + 1) L (.int (x - z) :: S) w res) : Zr y maxL ret cc rm mm pc L (.int z :: .int x :: S) w res := by
  intro p l e s m args below meth c D ad cid A C H ls locs hL hP hD hS
  exact lv_isub C.1 C.2.1 hd (k p l e s m args below meth c D ad cid A C H ls locs hL hP hD hS)
theorem z_imul {x z : Int32} (hd : decode cc pc = .ok (.imul, 1)) (k : Zr y maxL ret cc rm mm (pc + 1) L (.int (x * z) :: S) w res) : Zr y maxL ret cc rm mm pc L (.int z :: .int x :: S) w res := by
  intro p l e s m args below meth c D ad cid A C H ls locs hL hP hD hS
  exact lv_imul C.1 C.2.1 hd (k p l e s m args below meth c D ad cid A C H ls locs hL hP hD hS)
theorem z_iand {x z : Int32} (hd : decode cc pc = .ok (.iand, 1)) (k : Zr y maxL ret cc rm mm (pc + 1) L (.int (x &&& z) :: S) w res) : Zr y maxL ret cc rm mm pc L (.int z :: .int x :: S) w res := by
  intro p l e s m args below meth c D ad cid A C H ls locs hL hP hD hS
  exact lv_iand C.1 C.2.1 hd (k p l e s m args below meth c D ad cid A C H ls locs hL hP hD hS)
theorem z_ior {x z : Int32} (hd : decode cc pc = .ok (.ior, 1)) (k : Zr y maxL ret cc rm mm (pc + 1) L (.int (x ||| z) :: S) w res) : Zr y maxL ret cc rm mm pc L (.int z :: .int x :: S) w res := by
  intro p l e s m args below meth c D ad cid A C H ls locs hL hP hD hS
  exact lv_ior C.1 C.2.1 hd (k p l e s m args below meth c D ad cid A C H ls locs hL hP hD hS)
theorem z_ixor {x z : Int32} (hd : decode cc pc = .ok (.ixor, 1)) (k : Zr y maxL ret cc rm mm (pc + 1) L (.int (x ^^^ z) :: S) w res) : Zr y maxL ret cc rm mm pc L (.int z :: .int x :: S) w res := by
  intro p l e s m args below meth c D ad cid A C H ls locs hL hP hD hS
  exact lv_ixor C.1 C.2.1 hd (k p l e s m args below meth c D ad cid A C H ls locs hL hP hD hS)
theorem z_ishl {x z : Int32} (hd : decode cc pc = .ok (.ishl, 1)) (k : Zr y maxL ret cc rm mm (pc + 1) L (.int (x <<< (z &&& 31)) :: S) w res) : Zr y maxL ret cc rm mm pc L (.int z :: .int x :: S) w res := by
  intro p l e s m args below meth c D ad cid A C H ls locs hL hP hD hS
  exact lv_ishl C.1 C.2.1 hd (k p l e s m args below meth c D ad cid A C H ls locs hL hP hD hS)
theorem z_ishr {x z : Int32} (hd : decode cc pc = .ok (.ishr, 1)) (k : Zr y maxL ret cc rm mm (pc + 1) L (.int (x >>> (z &&& 31)) :: S) w res) : Zr y maxL ret cc rm mm pc L (.int z :: .int x :: S) w res := by
  intro p l e s m args below meth c D ad cid A C H ls locs hL hP hD hS
  exact lv_ishr C.1 C.2.1 hd (k p l e s m args below meth c D ad cid A C H ls locs hL hP hD hS)
theorem z_ladd {x z : Int64} (hd : decode cc pc = .ok (.ladd, 1)) (k : Zr y maxL ret cc rm mm (pc + 1) L (.long (x + z) :: S) w res) : Zr y maxL ret cc rm mm pc L (.long z :: .long x :: S) w res := by
  intro p l e s m args below meth c D ad cid A C H ls locs hL hP hD hS
  exact lv_ladd C.1 C.2.1 hd (k p l e s m args below meth c D ad cid A C H ls locs hL hP hD hS)
theorem z_lmul {x z : Int64} (hd : decode cc pc = .ok (.lmul, 1)) (k : Zr y maxL ret cc rm mm (pc + 1) L (.long (x * z) :: S) w res) : Zr y maxL ret cc rm mm pc L (.long z :: .long x :: S) w res := by
  intro p l e s m args below meth c D ad cid A C H ls locs hL hP hD hS
  exact lv_lmul C.1 C.2.1 hd (k p l e s m args below meth c D ad cid A C H ls locs hL hP hD hS)
theorem z_land {x z : Int64} (hd : decode cc pc = .ok (.land, 1)) (k : Zr y maxL ret cc rm mm (pc + 1) L (.long (x &&& z) :: S) w res) : Zr y maxL ret cc rm mm pc L (.long z :: .long x :: S) w res := by
  intro p l e s m args below meth c D ad cid A C H ls locs hL hP hD hS
  exact lv_land C.1 C.2.1 hd (k p l e s m args below meth c D ad cid A C H ls locs hL hP hD hS)
theorem z_idiv {x z : Int32} (hd : decode cc pc = .ok (.idiv, 1)) (hne : ¬ z = 0) (k : Zr y maxL ret cc rm mm (pc + 1) L (.int (x / z) :: S) w res) : Zr y maxL ret cc rm mm pc L (.int z :: .int x :: S) w res := by
  intro p l e s m args below meth c D ad cid A C H ls locs hL hP hD hS
  exact lv_idiv C.1 C.2.1 hd hne (k p l e s m args below meth c D ad cid A C H ls locs hL hP hD hS)
theorem z_irem {x z : Int32} (hd : decode cc pc = .ok (.irem, 1)) (hne : ¬ z = 0) (k : Zr y maxL ret cc rm mm (pc + 1) L (.int (x - x / z * z) :: S) w res) : Zr y maxL ret cc rm mm pc L (.int z :: .int x :: S) w res := by
  intro p l e s m args below meth c D ad cid A C H ls locs hL hP hD hS
  exact lv_irem C.1 C.2.1 hd hne (k p l e s m args below meth c D ad cid A C H ls locs hL hP hD hS)
theorem z_ldiv {x z : Int64} (hd : decode cc pc = .ok (.ldiv, 1)) (hne : ¬ z = 0) (k : Zr y maxL ret cc rm mm (pc + 1) L (.long (x / z) :: S) w res) : Zr y maxL ret cc rm mm pc L (.long z :: .long x :: S) w res := by
  intro p l e s m args below meth c D ad cid A C H ls locs hL hP hD hS
  exact lv_ldiv C.1 C.2.1 hd hne (k p l e s m args below meth c D ad cid A C H ls locs hL hP hD hS)
theorem z_lrem {x z : Int64} (hd : decode cc pc = .ok (.lrem, 1)) (hne : ¬ z = 0) (k : Zr y maxL ret cc rm mm (pc + 1) L (.long (x - x / z * z) :: S) w res) : Zr y maxL ret cc rm mm pc L (.long z :: .long x :: S) w res := by
  intro p l e s m args below meth c D ad cid A C H ls locs hL hP hD hS
  exact lv_lrem C.1 C.2.1 hd hne (k p l e s m args below meth c D ad cid A C H ls locs hL hP hD hS)
theorem z_i2l {x : Int32} (hd : decode cc pc = .ok (.i2l, 1)) (k : Zr y maxL ret cc rm mm (pc + 1) L (.long x.toInt64 :: S) w res) : Zr y maxL ret cc rm mm pc L (.int x :: S) w res := by
  intro p l e s m args below meth c D ad cid A C H ls locs hL hP hD hS
  exact lv_i2l C.1 C.2.1 hd rfl (k p l e s m args below meth c D ad cid A C H ls locs hL hP hD hS)
theorem z_l2i {x : Int64} (hd : decode cc pc = .ok (.l2i, 1)) (k : Zr y maxL ret cc rm mm (pc + 1) L (.int x.toInt32 :: S) w res) : Zr y maxL ret cc rm mm pc L (.long x :: S) w res := by
  intro p l e s m args below meth c D ad cid A C H ls locs hL hP hD hS
  exact lv_l2i C.1 C.2.1 hd rfl (k p l e s m args below meth c D ad cid A C H ls locs hL hP hD hS)
theorem z_i2b {x : Int32} (hd : decode cc pc = .ok (.i2b, 1)) (k : Zr y maxL ret cc rm mm (pc + 1) L (.int x.toInt8.toInt32 :: S) w res) : Zr y maxL ret cc rm mm pc L (.int x :: S) w res := by
  intro p l e s m args below meth c D ad cid A C H ls locs hL hP hD hS
  exact lv_i2b C.1 C.2.1 hd rfl (k p l e s m args below meth c D ad cid A C H ls locs hL hP hD hS)
theorem z_ineg {x : Int32} (hd : decode cc pc = .ok (.ineg, 1)) (k : Zr y maxL ret cc rm mm (pc + 1) L (.int (-x) :: S) w res) : Zr y maxL ret cc rm mm pc L (.int x :: S) w res := by
  intro p l e s m args below meth c D ad cid A C H ls locs hL hP hD hS
  exact lv_ineg C.1 C.2.1 hd (k p l e s m args below meth c D ad cid A C H ls locs hL hP hD hS)
theorem z_iushr {x z : Int32} (hd : decode cc pc = .ok (.iushr, 1)) (k : Zr y maxL ret cc rm mm (pc + 1) L (.int (x.toUInt32 >>> (z.toUInt32 &&& Int32.toUInt32 31)).toInt32 :: S) w res) : Zr y maxL ret cc rm mm pc L (.int z :: .int x :: S) w res := by
  intro p l e s m args below meth c D ad cid A C H ls locs hL hP hD hS
  exact lv_iushr C.1 C.2.1 hd rfl (k p l e s m args below meth c D ad cid A C H ls locs hL hP hD hS)
theorem z_pop {v : Value} (hd : decode cc pc = .ok (.pop, 1)) (hv : v.category = 1) (k : Zr y maxL ret cc rm mm (pc + 1) L S w res) : Zr y maxL ret cc rm mm pc L (v :: S) w res := by
  intro p l e s m args below meth c D ad cid A C H ls locs hL hP hD hS
  exact lv_pop C.1 C.2.1 hd (by rw [cv_cat]; exact hv) (k p l e s m args below meth c D ad cid A C H ls locs hL hP hD hS)
theorem z_dup {v : Value} (hd : decode cc pc = .ok (.dup, 1)) (hv : v.category = 1) (k : Zr y maxL ret cc rm mm (pc + 1) L (v :: v :: S) w res) : Zr y maxL ret cc rm mm pc L (v :: S) w res := by
  intro p l e s m args below meth c D ad cid A C H ls locs hL hP hD hS
  exact lv_dup C.1 C.2.1 hd (by rw [cv_cat]; exact hv) (k p l e s m args below meth c D ad cid A C H ls locs hL hP hD hS)
theorem z_dup2 {v u : Value} (hd : decode cc pc = .ok (.dup2, 1)) (hv : v.category = 1) (hu : u.category = 1) (k : Zr y maxL ret cc rm mm (pc + 1) L (v :: u :: v :: u :: S) w res) : Zr y maxL ret cc rm mm pc L (v :: u :: S) w res := by
  intro p l e s m args below meth c D ad cid A C H ls locs hL hP hD hS
  exact lv_dup2_11 C.1 C.2.1 hd (by rw [cv_cat]; exact hv) (by rw [cv_cat]; exact hu) (k p l e s m args below meth c D ad cid A C H ls locs hL hP hD hS)
theorem z_lcmp {x z : Int64} (hd : decode cc pc = .ok (.lcmp, 1)) (k : Zr y maxL ret cc rm mm (pc + 1) L (.int (lg_cmp x z) :: S) w res) : Zr y maxL ret cc rm mm pc L (.long z :: .long x :: S) w res := by
  intro p l e s m args below meth c D ad cid A C H ls locs hL hP hD hS
  exact W.lcmp C.1 C.2.1 hd (k p l e s m args below meth c D ad cid A C H ls locs hL hP hD hS)
theorem z_goto {off : Int} {tgt : Nat} (hd : decode cc pc = .ok (.goto off, 3)) (ht : (pc : Int) + off = (tgt : Int)) (k : Zr y maxL ret cc rm mm tgt L S w res) : Zr y maxL ret cc rm mm pc L S w res := by
  intro p l e s m args below meth c D ad cid A C H ls locs hL hP hD hS
  exact lv_goto C.1 C.2.1 hd ht (k p l e s m args below meth c D ad cid A C H ls locs hL hP hD hS)
theorem z_if_eq {x : Int32} {off : Int} {tgt : Nat} (hd : decode cc pc = .ok (.ifCond .eq off, 3)) (ht : (pc : Int) + off = (tgt : Int)) (kt : x = 0 → Zr y maxL ret cc rm mm tgt L S w res) (kf : ¬ x = 0 → Zr y maxL ret cc rm mm (pc + 3) L S w res) : Zr y maxL ret cc rm mm pc L (.int x :: S) w res := by
  intro p l e s m args below meth c D ad cid A C H ls locs hL hP hD hS
  exact lv_if_eq C.1 C.2.1 hd ht (fun h => kt h p l e s m args below meth c D ad cid A C H ls locs hL hP hD hS) (fun h => kf h p l e s m args below meth c D ad cid A C H ls locs hL hP hD hS)
theorem z_icmp_eq {x z : Int32} {off : Int} {tgt : Nat} (hd : decode cc pc = .ok (.if_icmp .eq off, 3)) (ht : (pc : Int) + off = (tgt : Int)) (kt : x = z → Zr y maxL ret cc rm mm tgt L S w res) (kf : ¬ x = z → Zr y maxL ret cc rm mm (pc + 3) L S w res) : Zr y maxL ret cc rm mm pc L (.int z :: .int x :: S) w res := by
  intro p l e s m args below meth c D ad cid A C H ls locs hL hP hD hS
  exact lv_icmp_eq C.1 C.2.1 hd ht (fun h => kt h p l e s m args below meth c D ad cid A C H ls locs hL hP hD hS) (fun h => kf h p l e s m args below meth c D ad cid A C H ls locs hL hP hD hS)
theorem z_if_ne {x : Int32} {off : Int} {tgt : Nat} (hd : decode cc pc = .ok (.ifCond .ne off, 3)) (ht : (pc : Int) + off = (tgt : Int)) (kt : ¬ x = 0 → Zr y maxL ret cc rm mm tgt L S w res) (kf : x = 0 → Zr y maxL ret cc rm mm (pc + 3) L S w res) : Zr y maxL ret cc rm mm pc L (.int x :: S) w res := by
  intro p l e s m args below meth c D ad cid A C H ls locs hL hP hD hS
  exact lv_if_ne C.1 C.2.1 hd ht (fun h => kt h p l e s m args below meth c D ad cid A C H ls locs hL hP hD hS) (fun h => kf h p l e s m args below meth c D ad cid A C H ls locs hL hP hD hS)
theorem z_icmp_ne {x z : Int32} {off : Int} {tgt : Nat} (hd : decode cc pc = .ok (.if_icmp .ne off, 3)) (ht : (pc : Int) + off = (tgt : Int)) (kt : ¬ x = z → Zr y maxL ret cc rm mm tgt L S w res) (kf : x = z → Zr y maxL ret cc rm mm (pc + 3) L S w res) : Zr y maxL ret cc rm mm pc L (.int z :: .int x :: S) w res := by
  intro p l e s m args below meth c D ad cid A C H ls locs hL hP hD hS
  exact lv_icmp_ne C.1 C.2.1 hd ht (fun h => kt h p l e s m args below meth c D ad cid A C H ls locs hL hP hD hS) (fun h => kf h p l e s m args below meth c D ad cid A C H ls locs hL hP hD hS)
theorem z_if_lt {x : Int32} {off : Int} {tgt : Nat} (hd : decode cc pc = .ok (.ifCond .lt off, 3)) (ht : (pc : Int) + off = (tgt : Int)) (kt : x < 0 → Zr y maxL ret cc rm mm tgt L S w res) (kf : ¬ x < 0 → Zr y maxL ret cc rm mm (pc + 3) L S w res) : Zr y maxL ret cc rm mm pc L (.int x :: S) w res := by
  intro p l e s m args below meth c D ad cid A C H ls locs hL hP hD hS
  exact lv_if_lt C.1 C.2.1 hd ht (fun h => kt h p l e s m args below meth c D ad cid A C H ls locs hL hP hD hS) (fun h => kf h p l e s m args below meth c D ad cid A C H ls locs hL hP hD hS)
theorem z_icmp_lt {x z : Int32} {off : Int} {tgt : Nat} (hd : decode cc pc = .ok (.if_icmp .lt off, 3)) (ht : (pc : Int) + off = (tgt : Int)) (kt : x < z → Zr y maxL ret cc rm mm tgt L S w res) (kf : ¬ x < z → Zr y maxL ret cc rm mm (pc + 3) L S w res) : Zr y maxL ret cc rm mm pc L (.int z :: .int x :: S) w res := by
  intro p l e s m args below meth c D ad cid A C H ls locs hL hP hD hS
  exact lv_icmp_lt C.1 C.2.1 hd ht (fun h => kt h p l e s m args below meth c D ad cid A C H ls locs hL hP hD hS) (fun h => kf h p l e s m args below meth c D ad cid A C H ls locs hL hP hD hS)
theorem z_if_ge {x : Int32} {off : Int} {tgt : Nat} (hd : decode cc pc = .ok (.ifCond .ge off, 3)) (ht : (pc : Int) + off = (tgt : Int)) (kt : 0 ≤ x → Zr y maxL ret cc rm mm tgt L S w res) (kf : ¬ 0 ≤ x → Zr y maxL ret cc rm mm (pc + 3) L S w res) : Zr y maxL ret cc rm mm pc L (.int x :: S) w res := by
  intro p l e s m args below meth c D ad cid A C H ls locs hL hP hD hS
  exact lv_if_ge C.1 C.2.1 hd ht (fun h => kt h p l e s m args below meth c D ad cid A C H ls locs hL hP hD hS) (fun h => kf h p l e s m args below meth c D ad cid A C H ls locs hL hP hD hS)
theorem z_icmp_ge {x z : Int32} {off : Int} {tgt : Nat} (hd : decode cc pc = .ok (.if_icmp .ge off, 3)) (ht : (pc : Int) + off = (tgt : Int)) (kt : z ≤ x → Zr y maxL ret cc rm mm tgt L S w res) (kf : ¬ z ≤ x → Zr y maxL ret cc rm mm (pc + 3) L S w res) : Zr y maxL ret cc rm mm pc L (.int z :: .int x :: S) w res := by
  intro p l e s m args below meth c D ad cid A C H ls locs hL hP hD hS
  exact lv_icmp_ge C.1 C.2.1 hd ht (fun h => kt h p l e s m args below meth c D ad cid A C H ls locs hL hP hD hS) (fun h => kf h p l e s m args below meth c D ad cid A C H ls locs hL hP hD hS)
theorem z_if_gt {x : Int32} {off : Int} {tgt : Nat} (hd : decode cc pc = .ok (.ifCond .gt off, 3)) (ht : (pc : Int) + off = (tgt : Int)) (kt : 0 < x → Zr y maxL ret cc rm mm tgt L S w res) (kf : ¬ 0 < x → Zr y maxL ret cc rm mm (pc + 3) L S w res) : Zr y maxL ret cc rm mm pc L (.int x :: S) w res := by
  intro p l e s m args below meth c D ad cid A C H ls locs hL hP hD hS
  exact lv_if_gt C.1 C.2.1 hd ht (fun h => kt h p l e s m args below meth c D ad cid A C H ls locs hL hP hD hS) (fun h => kf h p l e s m args below meth c D ad cid A C H ls locs hL hP hD hS)
theorem z_icmp_gt {x z : Int32} {off : Int} {tgt : Nat} (hd : decode cc pc = .ok (.if_icmp .gt off, 3)) (ht : (pc : Int) + off = (tgt : Int)) (kt : z < x → Zr y maxL ret cc rm mm tgt L S w res) (kf : ¬ z < x → Zr y maxL ret cc rm mm (pc + 3) L S w res) : Zr y maxL ret cc rm mm pc L (.int z :: .int x :: S) w res := by
  intro p l e s m args below meth c D ad cid A C H ls locs hL hP hD hS
  exact lv_icmp_gt C.1 C.2.1 hd ht (fun h => kt h p l e s m args below meth c D ad cid A C H ls locs hL hP hD hS) (fun h => kf h p l e s m args below meth c D ad cid A C H ls locs hL hP hD hS)
theorem z_if_le {x : Int32} {off : Int} {tgt : Nat} (hd : decode cc pc = .ok (.ifCond .le off, 3)) (ht : (pc : Int) + off = (tgt : Int)) (kt : x ≤ 0 → Zr y maxL ret cc rm mm tgt L S w res) (kf : ¬ x ≤ 0 → Zr y maxL ret cc rm mm (pc + 3) L S w res) : Zr y maxL ret cc rm mm pc L (.int x :: S) w res := by
  intro p l e s m args below meth c D ad cid A C H ls locs hL hP hD hS
  exact lv_if_le C.1 C.2.1 hd ht (fun h => kt h p l e s m args below meth c D ad cid A C H ls locs hL hP hD hS) (fun h => kf h p l e s m args below meth c D ad cid A C H ls locs hL hP hD hS)
theorem z_icmp_le {x z : Int32} {off : Int} {tgt : Nat} (hd : decode cc pc = .ok (.if_icmp .le off, 3)) (ht : (pc : Int) + off = (tgt : Int)) (kt : x ≤ z → Zr y maxL ret cc rm mm tgt L S w res) (kf : ¬ x ≤ z → Zr y maxL ret cc rm mm (pc + 3) L S w res) : Zr y maxL ret cc rm mm pc L (.int z :: .int x :: S) w res := by
  intro p l e s m args below meth c D ad cid A C H ls locs hL hP hD hS
  exact lv_icmp_le C.1 C.2.1 hd ht (fun h => kt h p l e s m args below meth c D ad cid A C H ls locs hL hP hD hS) (fun h => kf h p l e s m args below meth c D ad cid A C H ls locs hL hP hD hS)
theorem z_tableIn {dflt lo hi : Int} {offs : Array Int} {len : Nat} {x : Int32} {off : Int} {tgt : Nat} (hd : decode cc pc = .ok (.tableswitch dflt lo hi offs, len)) (h1 : ¬ x.toInt < lo) (h2 : ¬ hi < x.toInt) (ho : offs[(x.toInt - lo).toNat]? = some off) (ht : (pc : Int) + off = (tgt : Int)) (k : Zr y maxL ret cc rm mm tgt L S w res) : Zr y maxL ret cc rm mm pc L (.int x :: S) w res := by
  intro p l e s m args below meth c D ad cid A C H ls locs hL hP hD hS
  exact lv_tableIn C.1 C.2.1 hd h1 h2 ho ht (k p l e s m args below meth c D ad cid A C H ls locs hL hP hD hS)
theorem z_tableOut {dflt lo hi : Int} {offs : Array Int} {len : Nat} {x : Int32} {tgt : Nat} (hd : decode cc pc = .ok (.tableswitch dflt lo hi offs, len)) (h : x.toInt < lo ∨ hi < x.toInt) (ht : (pc : Int) + dflt = (tgt : Int)) (k : Zr y maxL ret cc rm mm tgt L S w res) : Zr y maxL ret cc rm mm pc L (.int x :: S) w res := by
  intro p l e s m args below meth c D ad cid A C H ls locs hL hP hD hS
  exact lv_tableOut C.1 C.2.1 hd h ht (k p l e s m args below meth c D ad cid A C H ls locs hL hP hD hS)
theorem z_lookup {dflt : Int} {ps : Array (Int × Int)} {len : Nat} {x : Int32} {off : Int} {tgt : Nat} (hd : decode cc pc = .ok (.lookupswitch dflt ps, len)) (hp : (ps.toList.zip (ps.toList.drop 1)).all (fun (a, next) => a.1 < next.1) = true) (ho : Op.lookupswitch.offset ps.toList dflt x.toInt = off) (ht : (pc : Int) + off = (tgt : Int)) (k : Zr y maxL ret cc rm mm tgt L S w res) : Zr y maxL ret cc rm mm pc L (.int x :: S) w res := by
  intro p l e s m args below meth c D ad cid A C H ls locs hL hP hD hS
  exact lv_lookup C.1 C.2.1 hd hp ho ht (k p l e s m args below meth c D ad cid A C H ls locs hL hP hD hS)
theorem z_ldc {index : Nat} {v : Int32} (hd : decode cc pc = .ok (.ldc index, 2)) (hw : Jvm.Cond.constant y.cls index v ∈ XW) (k : Zr y maxL ret cc rm mm (pc + 2) L (.int v :: S) w res) : Zr y maxL ret cc rm mm pc L S w res := by
  intro p l e s m args below meth c D ad cid A C H ls locs hL hP hD hS
  exact lv_ldc C.1 C.2.1 C.2.2.2.2.2.1 (C.2.2.2.2.1 _ hw) hd (k p l e s m args below meth c D ad cid A C H ls locs hL hP hD hS)
theorem z_ldc2 {index : Nat} {v : Int64} (hd : decode cc pc = .ok (.ldc2_w index, 3)) (hw : Jvm.Cond.constantLong y.cls index v ∈ XW) (k : Zr y maxL ret cc rm mm (pc + 3) L (.long v :: S) w res) : Zr y maxL ret cc rm mm pc L S w res := by
  intro p l e s m args below meth c D ad cid A C H ls locs hL hP hD hS
  exact lv_ldc2 C.1 C.2.1 C.2.2.2.2.2.1 (C.2.2.2.2.1 _ hw) hd (k p l e s m args below meth c D ad cid A C H ls locs hL hP hD hS)
-- fields
theorem z_lconst {n : Fin 2} {v : Int64} (hd : decode cc pc = .ok (.lconst n, 1)) (hv : Int64.ofNat (n : Nat) = v) (k : Zr y maxL ret cc rm mm (pc + 1) L (.long v :: S) w res) : Zr y maxL ret cc rm mm pc L S w res := by
  intro p l e s m args below meth c D ad cid A C H ls locs hL hP hD hS
  exact lv_lconst C.1 C.2.1 hd hv (k p l e s m args below meth c D ad cid A C H ls locs hL hP hD hS)
theorem z_ldc_w {index : Nat} {v : Int32} (hd : decode cc pc = .ok (.ldc_w index, 3)) (hw : Jvm.Cond.constant y.cls index v ∈ XW) (k : Zr y maxL ret cc rm mm (pc + 3) L (.int v :: S) w res) : Zr y maxL ret cc rm mm pc L S w res := by
  intro p l e s m args below meth c D ad cid A C H ls locs hL hP hD hS
  exact lv_ldcw C.1 C.2.1 C.2.2.2.2.2.1 (C.2.2.2.2.1 _ hw) hd (k p l e s m args below meth c D ad cid A C H ls locs hL hP hD hS)
theorem z_getL {i f d ci N index : Nat} {ds : List Nat} {T : u_T} {C0 : String} {v : Value} (hd : decode cc pc = .ok (.getfield index, 3)) (hi : SH[i]? = some (.inl (ci, ds))) (hm : i < mm) (hf : ds[f]? = some d) (hc : vwCl[ci]? = some (C0, T, N)) (hN : f < N) (hin : ∀ w ∈ u_ws C0 T N, w ∈ XW) (hlink : Cond.fieldLink y.cls index (T f).1 (T f).2.1 (T f).2.2.1 ∈ XW) (hv : ∀ ad, fldv ad w i f d = cv ad v) (k : Zr y maxL ret cc rm mm (pc + 3) L (v :: S) w res) : Zr y maxL ret cc rm mm pc L (.ref i :: S) w res := by
  intro p l e s m args below meth c D ad cid A C H ls locs hL hP hD hS
  exact va_get (v := cv ad v) C.1 C.2.1 C.2.2.2.2.1 hin C.2.2.2.2.2.1 C.2.2.2.2.2.2.2.1 hP i (cells_at hi hm) hc f hN (C.2.2.2.2.1 _ hlink) (fun _ h => h) (by rw [← hv]; exact flds_at hf) hd (k p l e s m args below meth c D ad cid A C H ls locs hL hP hD hS)
theorem z_getN {i f d ci N index : Nat} {ds : List Nat} {T : u_T} {C0 host : String} {v : Value} (hd : decode cc pc = .ok (.getfield index, 3)) (hi : SH[i]? = some (.inl (ci, ds))) (hm : i < mm) (hf : ds[f]? = some d) (hc : vwCl[ci]? = some (C0, T, N)) (hN : f < N) (hin : ∀ w ∈ u_ws C0 T N, w ∈ XW) (hlink : Cond.fieldLinkNest y.cls index (T f).1 (T f).2.1 (T f).2.2.1 host ∈ nestW) (hv : ∀ ad, fldv ad w i f d = cv ad v) (k : Zr y maxL ret cc rm mm (pc + 3) L (v :: S) w res) : Zr y maxL ret cc rm mm pc L (.ref i :: S) w res := by
  intro p l e s m args below meth c D ad cid A C H ls locs hL hP hD hS
  exact va_getN (v := cv ad v) C.1 C.2.1 C.2.2.2.2.1 hin C.2.2.2.2.2.1 C.2.2.2.2.2.2.2.1 hP i (cells_at hi hm) hc f hN (va_Nw.use rfl (C.2.2.2.2.2.2.2.2.1.1 _ hlink)) (fun _ h => h) (by rw [← hv]; exact flds_at hf) hd (k p l e s m args below meth c D ad cid A C H ls locs hL hP hD hS)
theorem z_putG {i f d ci N index : Nat} {ds : List Nat} {T : u_T} {C0 : String} {v : Value} {w' : Wd} {ty : FieldType} (ty0 : Nat → FieldType) (hd : decode cc pc = .ok (.putfield index, 3)) (hi : SH[i]? = some (.inl (ci, ds))) (hm : i < mm) (hf : ds[f]? = some d) (hc : vwCl[ci]? = some (C0, T, N)) (hN : f < N) (hin : ∀ w ∈ u_ws C0 T N, w ∈ XW) (hty : ∀ k, k < N → parseFieldDescriptor (T k).2.2.1 = some (ty0 k)) (hnm : ∀ a, a < N → ∀ b, b < N → a ≠ b → (T a).2.1 ≠ (T b).2.1) (hlink : Cond.fieldLink y.cls index (T f).1 (T f).2.1 (T f).2.2.1 ∈ XW) (hfin : (T f).2.2.2 = false) (hpd : parseFieldDescriptor (T f).2.2.1 = some ty)
    (hn : ∀ ad, narrow ty (cv ad v) = cv ad v) (hfit : ∀ ad, fits ty (cv ad v) = true) (hv : ∀ ad, fldv ad w' i f d = cv ad v) (ho : ∀ ad g d', g ≠ f → fldv ad w' i g d' = fldv ad w i g d') (ho2 : ∀ (ad : Nat → Nat) (cid : Nat → ClassId) j e', SH[j]? = some e' → j ≠ i → cel ad cid w' j e' = cel ad cid w j e') (k : Zr y maxL ret cc rm mm (pc + 3) L S w' res) : Zr y maxL ret cc rm mm pc L (v :: .ref i :: S) w res := by
  intro p l e s m args below meth c D ad cid A C H ls locs hL hP hD hS
  have e0 : (cells ad cid mm w).set i (ad i, .inr (ci, (flds ad w i ds).set f (cv ad v))) = cells ad cid mm w' := by
    rw [flds_set (w' := w') hf (hv ad) (ho ad)]
    exact cells_set hi (ho2 ad cid)
  have hl : f < (flds ad w i ds).length := (List.getElem?_eq_some_iff.mp (flds_at (ad := ad) (w := w) (i := i) hf)).1
  exact va_put (v := cv ad v) (ty := ty) C.1 C.2.1 C.2.2.2.2.1 hin ty0 hty hnm C.2.2.2.2.2.1 C.2.2.2.2.2.2.2.1 hP hD hS i (cells_at hi hm) hc f hN (C.2.2.2.2.1 _ hlink) (fun _ h => h) hfin hpd (hn ad) (hfit ad) hl hd (fun H1 locs1 hP1 hD1 hS1 => k p l e s m args below meth c D ad cid A C H1 ls locs1 hL (by rw [← e0]; exact hP1) (by rw [← e0]; exact hD1) hS1)
theorem z_putN {i f d ci N index : Nat} {ds : List Nat} {T : u_T} {C0 host : String} {v : Value} {w' : Wd} {ty : FieldType} (ty0 : Nat → FieldType) (hd : decode cc pc = .ok (.putfield index, 3)) (hi : SH[i]? = some (.inl (ci, ds))) (hm : i < mm) (hf : ds[f]? = some d) (hc : vwCl[ci]? = some (C0, T, N)) (hN : f < N) (hin : ∀ w ∈ u_ws C0 T N, w ∈ XW) (hty : ∀ k, k < N → parseFieldDescriptor (T k).2.2.1 = some (ty0 k)) (hnm : ∀ a, a < N → ∀ b, b < N → a ≠ b → (T a).2.1 ≠ (T b).2.1) (hlink : Cond.fieldLinkNest y.cls index (T f).1 (T f).2.1 (T f).2.2.1 host ∈ nestW) (hfin : (T f).2.2.2 = false) (hpd : parseFieldDescriptor (T f).2.2.1 = some ty)
    (hn : ∀ ad, narrow ty (cv ad v) = cv ad v) (hfit : ∀ ad, fits ty (cv ad v) = true) (hv : ∀ ad, fldv ad w' i f d = cv ad v) (ho : ∀ ad g d', g ≠ f → fldv ad w' i g d' = fldv ad w i g d') (ho2 : ∀ (ad : Nat → Nat) (cid : Nat → ClassId) j e', SH[j]? = some e' → j ≠ i → cel ad cid w' j e' = cel ad cid w j e') (k : Zr y maxL ret cc rm mm (pc + 3) L S w' res) : Zr y maxL ret cc rm mm pc L (v :: .ref i :: S) w res := by
  intro p l e s m args below meth c D ad cid A C H ls locs hL hP hD hS
  have e0 : (cells ad cid mm w).set i (ad i, .inr (ci, (flds ad w i ds).set f (cv ad v))) = cells ad cid mm w' := by
    rw [flds_set (w' := w') hf (hv ad) (ho ad)]
    exact cells_set hi (ho2 ad cid)
  have hl : f < (flds ad w i ds).length := (List.getElem?_eq_some_iff.mp (flds_at (ad := ad) (w := w) (i := i) hf)).1
  exact va_putN (v := cv ad v) (ty := ty) C.1 C.2.1 C.2.2.2.2.1 hin ty0 hty hnm C.2.2.2.2.2.1 C.2.2.2.2.2.2.2.1 hP hD hS i (cells_at hi hm) hc f hN (va_Nw.use rfl (C.2.2.2.2.2.2.2.2.1.1 _ hlink)) (fun _ h => h) hfin hpd (hn ad) (hfit ad) hl hd (fun H1 locs1 hP1 hD1 hS1 => k p l e s m args below meth c D ad cid A C H1 ls locs1 hL (by rw [← e0]; exact hP1) (by rw [← e0]; exact hD1) hS1)
theorem fldI {ad : Nat → Nat} {w : Wd} {i f : Nat} {v : Int32} : fldv ad (sI w i f v) i f 0 = .int v := by simp [fldv, sI]
theorem fldI' {ad : Nat → Nat} {w : Wd} {i f : Nat} {v : Int32} : ∀ g d', g ≠ f → fldv ad (sI w i f v) i g d' = fldv ad w i g d' := fun g d' hg => by simp [fldv, sI, hg]
theorem fldJ {ad : Nat → Nat} {w : Wd} {i f : Nat} {v : Int64} : fldv ad (sJ w i f v) i f 1 = .long v := by simp [fldv, sJ]
theorem fldJ' {ad : Nat → Nat} {w : Wd} {i f : Nat} {v : Int64} : ∀ g d', g ≠ f → fldv ad (sJ w i f v) i g d' = fldv ad w i g d' := fun g d' hg => by simp [fldv, sJ, hg]
theorem fldP {ad : Nat → Nat} {w : Wd} {f r : Nat} {i : Nat} : fldv ad (sP w f r) i f 2 = .ref (ad r) := by simp [fldv, sP]
theorem fldP' {ad : Nat → Nat} {w : Wd} {i f r : Nat} : ∀ g d', g ≠ f → fldv ad (sP w f r) i g d' = fldv ad w i g d' := fun g d' hg => by simp [fldv, sP, hg]
-- arrays
theorem z_iald {a n : Nat} {i : Int32} (hd : decode cc pc = .ok (.iaload, 1)) (ha : SH[a]? = some (.inr (0, n))) (hm : a < mm) (hin : vp_in i n) (k : Zr y maxL ret cc rm mm (pc + 1) L (.int (wA w a i.toNatClampNeg) :: S) w res) : Zr y maxL ret cc rm mm pc L (.int i :: .ref a :: S) w res := by
  intro p l e s m args below meth c D ad cid A C H ls locs hL hP hD hS
  exact va_iald C.1 C.2.1 C.2.2.2.2.2.2.2.1 hP a 0 (cells_at ha hm) rfl hin hd (k p l e s m args below meth c D ad cid A C H ls locs hL hP hD hS)
theorem z_bald {a n : Nat} {i : Int32} (hd : decode cc pc = .ok (.baload, 1)) (ha : SH[a]? = some (.inr (1, n))) (hm : a < mm) (hin : vp_in i n) (k : Zr y maxL ret cc rm mm (pc + 1) L (.int (wA w a i.toNatClampNeg) :: S) w res) : Zr y maxL ret cc rm mm pc L (.int i :: .ref a :: S) w res := by
  intro p l e s m args below meth c D ad cid A C H ls locs hL hP hD hS
  exact va_bald C.1 C.2.1 C.2.2.2.2.2.2.2.1 hP a 1 (cells_at ha hm) rfl hin hd (k p l e s m args below meth c D ad cid A C H ls locs hL hP hD hS)
theorem cells_sA {ad : Nat → Nat} {cid : Nat → ClassId} {w : Wd} {a b n : Nat} {g : Nat → Int32} (ha : SH[a]? = some (.inr (b, n))) : (cells ad cid mm w).set a (ad a, .inl (cid b, n, .inl g)) = cells ad cid mm (sA w a g) := by
  have h := cells_set (mm := mm) (w := w) (w' := sA w a g) (ad := ad) (cid := cid) ha (cel_sA (a := a) (g := g))
  rw [← h]
  show _ = (cells ad cid mm w).set a (ad a, Sum.inl (cid b, n, Sum.inl (if a = a then g else w.2.2.2 a)))
  rw [if_pos rfl]
theorem z_iast {a n : Nat} {i x : Int32} (hd : decode cc pc = .ok (.iastore, 1)) (ha : SH[a]? = some (.inr (0, n))) (hm : a < mm) (hin : vp_in i n) (k : Zr y maxL ret cc rm mm (pc + 1) L S (sA w a (upd (wA w a) i.toNatClampNeg x)) res) : Zr y maxL ret cc rm mm pc L (.int x :: .int i :: .ref a :: S) w res := by
  intro p l e s m args below meth c D ad cid A C H ls locs hL hP hD hS
  exact va_iast C.1 C.2.1 C.2.2.2.2.2.2.2.1 hP hD hS a 0 (cells_at ha hm) rfl hin hd (fun H1 locs1 hP1 hD1 hS1 => k p l e s m args below meth c D ad cid A C H1 ls locs1 hL (by rw [← cells_sA ha]; exact hP1) (by rw [← cells_sA ha]; exact hD1) hS1)
theorem z_bast {a n : Nat} {i x : Int32} (hd : decode cc pc = .ok (.bastore, 1)) (ha : SH[a]? = some (.inr (1, n))) (hm : a < mm) (hin : vp_in i n) (k : Zr y maxL ret cc rm mm (pc + 1) L S (sA w a (upd (wA w a) i.toNatClampNeg (vp_nar .byte x))) res) : Zr y maxL ret cc rm mm pc L (.int x :: .int i :: .ref a :: S) w res := by
  intro p l e s m args below meth c D ad cid A C H ls locs hL hP hD hS
  exact va_bast C.1 C.2.1 C.2.2.2.2.2.2.2.1 hP hD hS a 1 (cells_at ha hm) rfl hin hd (fun H1 locs1 hP1 hD1 hS1 => k p l e s m args below meth c D ad cid A C H1 ls locs1 hL (by rw [← cells_sA ha]; exact hP1) (by rw [← cells_sA ha]; exact hD1) hS1)
theorem z_alen {a n : Nat} (hd : decode cc pc = .ok (.arraylength, 1)) (ha : SH[a]? = some (.inr (0, n))) (hm : a < mm) (k : Zr y maxL ret cc rm mm (pc + 1) L (.int (Int32.ofNat n) :: S) w res) : Zr y maxL ret cc rm mm pc L (.ref a :: S) w res := by
  intro p l e s m args below meth c D ad cid A C H ls locs hL hP hD hS
  exact va_alen C.1 C.2.1 C.2.2.2.2.2.2.2.1 hP a 0 (cells_at ha hm) (ty := .int) rfl rfl hd (k p l e s m args below meth c D ad cid A C H ls locs hL hP hD hS)
-- constants
theorem z_ordN {index : Nat} {host : String} (hd : decode cc pc = .ok (.getstatic index, 3)) (hlink : Cond.fieldLinkNest y.cls index "PushTray" "ORDERS" "[I" host ∈ nestW) (k : Zr y maxL ret cc rm mm (pc + 3) L (.ref 1000 :: S) w res) : Zr y maxL ret cc rm mm pc L S w res := by
  intro p l e s m args below meth c D ad cid A C H ls locs hL hP hD hS
  exact va_getsN C.1 C.2.1 C.2.2.2.2.2.2.2.2.1.2.1 hS C.2.2.2.2.2.1 (va_Nw.use rfl (C.2.2.2.2.2.2.2.2.1.1 _ hlink)) (fun _ h => h) hd (k p l e s m args below meth c D ad cid A C H ls locs hL hP hD hS)
theorem z_ordI {i : Int32} (hd : decode cc pc = .ok (.iaload, 1)) (hin : vp_in i 6) (k : Zr y maxL ret cc rm mm (pc + 1) L (.int (ordv i.toNatClampNeg) :: S) w res) : Zr y maxL ret cc rm mm pc L (.int i :: .ref 1000 :: S) w res := by
  intro p l e s m args below meth c D ad cid A C H ls locs hL hP hD hS
  exact va_ti C.1 C.2.1 C.2.2.2.2.2.2.2.2.1.2.2.1 hS hin rfl hd (k p l e s m args below meth c D ad cid A C H ls locs hL hP hD hS)
theorem z_kndN {index : Nat} {host : String} (hd : decode cc pc = .ok (.getstatic index, 3)) (hlink : Cond.fieldLinkNest y.cls index "PushTray" "KINDS" "[LPushTray$Kind;" host ∈ nestW) (k : Zr y maxL ret cc rm mm (pc + 3) L (.ref 1001 :: S) w res) : Zr y maxL ret cc rm mm pc L S w res := by
  intro p l e s m args below meth c D ad cid A C H ls locs hL hP hD hS
  exact va_getsN C.1 C.2.1 C.2.2.2.2.2.2.2.2.1.2.2.2.1 hS C.2.2.2.2.2.1 (va_Nw.use rfl (C.2.2.2.2.2.2.2.2.1.1 _ hlink)) (fun _ h => h) hd (k p l e s m args below meth c D ad cid A C H ls locs hL hP hD hS)
theorem z_knd {index : Nat} (hd : decode cc pc = .ok (.getstatic index, 3)) (hlink : Cond.fieldLink y.cls index "PushTray" "KINDS" "[LPushTray$Kind;" ∈ XW) (k : Zr y maxL ret cc rm mm (pc + 3) L (.ref 1001 :: S) w res) : Zr y maxL ret cc rm mm pc L S w res := by
  intro p l e s m args below meth c D ad cid A C H ls locs hL hP hD hS
  exact va_gets C.1 C.2.1 C.2.2.2.2.2.2.2.2.1.2.2.2.1 hS C.2.2.2.2.2.1 (C.2.2.2.2.1 _ hlink) (fun _ h => h) hd (k p l e s m args below meth c D ad cid A C H ls locs hL hP hD hS)
theorem z_kndL (hd : decode cc pc = .ok (.arraylength, 1)) (k : Zr y maxL ret cc rm mm (pc + 1) L (.int 5 :: S) w res) : Zr y maxL ret cc rm mm pc L (.ref 1001 :: S) w res := by
  intro p l e s m args below meth c D ad cid A C H ls locs hL hP hD hS
  exact va_tlen C.1 C.2.1 C.2.2.2.2.2.2.2.2.1.2.2.2.2.1 hS rfl hd (k p l e s m args below meth c D ad cid A C H ls locs hL hP hD hS)
theorem z_kndA {i : Int32} {j : Nat} (hd : decode cc pc = .ok (.aaload, 1)) (hi : i = nI j) (hj : j < 5) (k : Zr y maxL ret cc rm mm (pc + 1) L (.ref (2000 + j) :: S) w res) : Zr y maxL ret cc rm mm pc L (.int i :: .ref 1001 :: S) w res := by
  intro p l e s m args below meth c D ad cid A C H ls locs hL hP hD hS
  refine vb_tq (v := .ref (ad (2000 + j))) C.1 C.2.1 C.2.2.2.2.2.2.2.2.1.2.2.2.2.1 hS ?_ ?_ hd (k p l e s m args below meth c D ad cid A C H ls locs hL hP hD hS)
  · rw [hi]; exact vp_in_nI hj (by omega)
  · rw [hi, nI_clamp (by omega)]
end ZR
section ZC
variable {y : MethodName} {maxL : Nat} {ret : Option FieldType} {cc : ByteArray} {rm : Room} {mm pc : Nat} {L : List (Option Value)} {S S0 : List Value} {w : Wd} {res : Option Value × Wd}
variable {y' : MethodName} {maxL' : Nat} {ret' : Option FieldType} {cc' : ByteArray} {rm' : Room} {as : List Value} {b index : Nat} {w' : Wd} {rv : Option Value}
theorem xws_good (hcode : Cond.code y' cc' maxL' ret' ∈ XW) : GoodIn XW (xws y' maxL' ret' cc') := by
  intro w hw
  rcases List.mem_cons.mp hw with rfl | h
  · exact ⟨hcode, Or.inl rfl⟩
  · exact ⟨h, XW_good _ h⟩
theorem good_app {big a b : List Cond} (ha : GoodIn big a) (hb : GoodIn big b) : GoodIn big (a ++ b) := fun w h => (List.mem_append.mp h).elim (ha w) (hb w)
theorem good_sub {ws : List Cond} (h : ∀ w ∈ ws, w ∈ XW) : GoodIn XW ws := fun w hw => ⟨h w hw, XW_good _ (h w hw)⟩
theorem XA_le {ad : Nat → Nat} {mm a b : Nat} (h : a ≤ b) : ∀ q, XA ad mm b q → XA ad mm a q := fun q hq => by
  rcases hq with h1 | h1
  · exact Or.inl h1
  · exact Or.inr (Nat.le_trans h h1)
theorem cv_cats (ad : Nat → Nat) (S : List Value) : ((S.map (cv ad)).map fun v => v.category) = S.map fun v => v.category := by
  rw [List.map_map]
  congr 1
  funext v
  exact cv_cat ad v
theorem blind_x {ad : Nat → Nat} {cid : Nat → ClassId} {D : va_G} {sz : Nat} : FrameBlind (va_Pc (as.map (cv ad)) (fun U => U.heap.size = sz ∧ va_P D vwCl (cells ad cid mm w) U.heap ∧ va_K D vwCl (xTy cid) U ∧ va_D (fun _ => True) (cells ad cid mm w) ∧ SK ad (XA ad mm sz) U U.heap)) := by
  intro a U g mk q
  obtain ⟨q0, q1, qP, qK, qD, qS⟩ := q
  exact ⟨q0, q1, qP, va_K.moved (u := U) (U := U.calling g mk a) (Vm.Alike.refl U.vm) qK, qD, qS.same rfl⟩
/-- behind any call: what the callee's contract says -/
theorem z_back {p : Program} {l : Launch} {e : Env} {s : State} {m : MethodId} {args a : Array Value} {below : List Frame} {meth : Method} {c : Code} {D : va_G} {ad : Nat → Nat} {cid : Nat → ClassId} {A : Nat → Prop} (C : Cx y maxL ret cc mm p s m args meth c D ad cid A)
    {H : Heap} {ls : Array Slot} {locs : List Loc} {st0 : List Value} (hL : LR ad ls maxL L) (hS : va_S A s.heap H locs) (run : va_Run p l e rm s m args below meth c H locs 0 0 0 0 (F0 m pc ls st0) (S.map (cv ad)) (Qx ad cid mm D (XA ad mm H.size) (rv, w') a) (XA ad mm H.size))
    (k : Zr y maxL ret cc rm mm (pc + 3) L (rv.toList ++ S) w' res) : W p l e rm s m args below meth c H locs 0 0 (MQ below (Qx ad cid mm D A res) args s 0 0 A) (F0 m pc ls st0) := by
  intro T hT X
  obtain ⟨v, st₀, t, T', L', h0, X', hL', e1, e2, ⟨⟨hv, hP1, hD1⟩, hz, hk⟩, st⟩ := run T hT X
  have hv' : v = rv.map (cv ad) := by cases hv; rfl
  subst hv'
  rw [h0] at hz hk
  have hAB : ∀ q, XA ad mm H.size q → A q := by
    have hA := C.2.2.2.2.2.2.2.2.2.1
    intro q hq
    rw [hA]
    exact XA_le hS.1 q hq
  obtain ⟨t2, a1, b1⟩ := k p l e s m args below meth c D ad cid A C T'.heap ls (locs ++ L') hL (by rw [e1]; exact hP1) (hD1.weaken (fun _ _ _ h => hAB _ h))
    ⟨Nat.le_trans hS.1 (by rw [e1]; exact hz), fun q h1 h2 => by rw [e1, hk q (Nat.lt_of_lt_of_le h1 hS.1) (fun z => h2 (hAB q z))]; exact hS.2.1 q h1 h2, fun q hq => by
      rcases List.mem_append.mp hq with h | h
      · exact hS.2.2 q h
      · exact hAB _ (hL' q h)⟩ T' rfl X'
  refine ⟨t2, st t2 ?_, b1⟩
  have e3 : ((rv.toList ++ S).map (cv ad)) = (rv.map (cv ad)).toList ++ S.map (cv ad) := by cases rv <;> simp
  rw [e3] at a1
  exact a1
theorem z_pre {s : State} {D : va_G} {ad : Nat → Nat} {cid : Nat → ClassId} {A : Nat → Prop} {p : Program} {m : MethodId} {args : Array Value} {meth : Method} {c : Code} (C : Cx y maxL ret cc mm p s m args meth c D ad cid A) {H : Heap} {locs : List Loc} (hP : va_P D vwCl (cells ad cid mm w) H) (hD : va_D A (cells ad cid mm w)) (hS : va_S A s.heap H locs) :
    ∀ U : State, U.heap = H → s.WarmedH U.vm → va_Pc (as.map (cv ad)) (fun U => U.heap.size = H.size ∧ va_P D vwCl (cells ad cid mm w) U.heap ∧ va_K D vwCl (xTy cid) U ∧ va_D (fun _ => True) (cells ad cid mm w) ∧ SK ad (XA ad mm H.size) U U.heap) (as.map (cv ad)).toArray U := by
  intro U hU hW
  have hA := C.2.2.2.2.2.2.2.2.2.1
  refine ⟨rfl, by rw [hU], by rw [hU]; exact hP, va_K.moved hW.alike C.2.2.2.2.2.2.2.1, hD.weaken (fun _ _ _ _ => trivial), ?_⟩
  rw [hU]
  refine C.2.2.2.2.2.2.2.2.1.warm hW hS.2.1 (fun q hq => ?_)
  rw [hA]
  exact XA_le hS.1 q hq
theorem z_callV {n ci N : Nat} {ds : List Nat} {T : u_T} (hd : decode cc pc = .ok (.invokevirtual index, 3)) (hM : AM y' maxL' ret' cc' rm' mm (.ref b :: as) w (rv, w')) (hS0 : S0 = as.reverse ++ .ref b :: S) (hcode : Cond.code y' cc' maxL' ret' ∈ XW) (hlink : Cond.methodLink y.cls index y' ∈ XW) (hinst : Cond.instanceMethod y' ∈ XW) (hsel : Cond.selects y'.cls y' y' ∈ XW) (hini : Cond.initialized y'.cls ∈ XW)
    (hdesc : y'.cls = y'.cls ∧ y'.cls ≠ "java/lang/invoke/MethodHandle" ∧ y'.cls ≠ "java/lang/invoke/VarHandle" ∧ (parseMethodDescriptor y'.desc).map (fun d => d.parameters.length) = some n) (hln : as.length = n) (hroom : rm'.cells = 0 ∧ rm'.slots = 0 ∧ rm'.frames + 1 ≤ rm.frames ∧ 8 + (maxL' + 11) + rm'.locals ≤ rm.locals) (hcat : (S.map fun v => v.category).sum ≤ 8)
    (hobj : SH[b]? = some (.inl (ci, ds))) (hm : b < mm) (hc : vwCl[ci]? = some (y'.cls, T, N)) (k : Zr y maxL ret cc rm mm (pc + 3) L (rv.toList ++ S) w' res) : Zr y maxL ret cc rm mm pc L S0 w res := by
  subst hln
  subst hS0
  intro p l e s m args below meth c D ad cid A C H ls locs hL hP hD hS
  have hts : ∀ w ∈ XW, w.before args s = true := C.2.2.2.2.1
  have hK := C.2.2.2.2.2.2.2.1
  have hg : GoodIn XW (wsV y.cls index y'.cls y' (xws y' maxL' ret' cc')) := good_app (good_sub (fun w hw => by
    simp only [List.mem_cons, List.not_mem_nil, or_false] at hw
    rcases hw with rfl | rfl | rfl | rfl
    · exact hlink
    · exact hinst
    · exact hsel
    · exact hini)) (xws_good hcode)
  refine z_back C hL hS (va_runV (C := y'.cls) (As := as.map (cv ad)) (rest := S.map (cv ad)) ⟨C.1, C.2.1, C.2.2.1, C.2.2.2.2.2.1, hts⟩ (hM l D ad cid H.size) (cwV as.length hts hg rfl hroom.1 hroom.2.1 hdesc hroom.2.2) ⟨blind_x, va_recv hK hP hc (cells_at hobj hm), z_pre C hP hD hS⟩ rfl (by simp) hL.choose_spec.1.1 (by simp [cv]) (lv_room (by rw [cv_cats]; exact hcat)) hd ⟨Nat.zero_le _, Nat.zero_le _⟩) k
theorem z_callS {n : Nat} (hd : decode cc pc = .ok (.invokestatic index, 3)) (hM : AM y' maxL' ret' cc' rm' mm as w (rv, w')) (hS0 : S0 = as.reverse ++ S) (hcode : Cond.code y' cc' maxL' ret' ∈ XW) (hlink : Cond.methodLink y.cls index y' ∈ XW) (hst : Cond.static y' ∈ XW) (hini : Cond.initialized y'.cls ∈ XW)
    (hdesc : y'.cls ≠ "java/lang/invoke/MethodHandle" ∧ y'.cls ≠ "java/lang/invoke/VarHandle" ∧ (parseMethodDescriptor y'.desc).map (fun d => d.parameters.length) = some n) (hln : as.length = n) (hroom : rm'.cells = 0 ∧ rm'.slots = 0 ∧ rm'.frames + 1 ≤ rm.frames ∧ 8 + (maxL' + 11) + rm'.locals ≤ rm.locals) (hcat : (S.map fun v => v.category).sum ≤ 8)
    (k : Zr y maxL ret cc rm mm (pc + 3) L (rv.toList ++ S) w' res) : Zr y maxL ret cc rm mm pc L S0 w res := by
  subst hln
  subst hS0
  intro p l e s m args below meth c D ad cid A C H ls locs hL hP hD hS
  have hts : ∀ w ∈ XW, w.before args s = true := C.2.2.2.2.1
  have hg : GoodIn XW (va_wsS y.cls index y' (xws y' maxL' ret' cc')) := good_app (good_sub (fun w hw => by
    simp only [List.mem_cons, List.not_mem_nil, or_false] at hw
    rcases hw with rfl | rfl | rfl
    · exact hlink
    · exact hst
    · exact hini)) (xws_good hcode)
  refine z_back C hL hS (va_runS (As := as.map (cv ad)) (rest := S.map (cv ad)) ⟨C.1, C.2.1, C.2.2.1, C.2.2.2.2.2.1, hts⟩ (hM l D ad cid H.size) (va_cwS as.length hts hg rfl hroom.1 hroom.2.1 hdesc hroom.2.2) ⟨blind_x, z_pre C hP hD hS⟩ rfl (by simp) hL.choose_spec.1.1 (by simp) (lv_room (by rw [cv_cats]; exact hcat)) hd ⟨Nat.zero_le _, Nat.zero_le _⟩) k
theorem z_callSN {n : Nat} {host : String} (hd : decode cc pc = .ok (.invokestatic index, 3)) (hM : AM y' maxL' ret' cc' rm' mm as w (rv, w')) (hS0 : S0 = as.reverse ++ S) (hcode : Cond.code y' cc' maxL' ret' ∈ XW) (hlink : Cond.methodLinkNest y.cls index y' host ∈ nestW) (hst : Cond.static y' ∈ XW) (hini : Cond.initialized y'.cls ∈ XW)
    (hdesc : y'.cls ≠ "java/lang/invoke/MethodHandle" ∧ y'.cls ≠ "java/lang/invoke/VarHandle" ∧ (parseMethodDescriptor y'.desc).map (fun d => d.parameters.length) = some n) (hln : as.length = n) (hroom : rm'.cells = 0 ∧ rm'.slots = 0 ∧ rm'.frames + 1 ≤ rm.frames ∧ 8 + (maxL' + 11) + rm'.locals ≤ rm.locals) (hcat : (S.map fun v => v.category).sum ≤ 8)
    (k : Zr y maxL ret cc rm mm (pc + 3) L (rv.toList ++ S) w' res) : Zr y maxL ret cc rm mm pc L S0 w res := by
  subst hln
  subst hS0
  intro p l e s m args below meth c D ad cid A C H ls locs hL hP hD hS
  have hts : ∀ w ∈ XW, w.before args s = true := C.2.2.2.2.1
  refine z_back C hL hS (va_runSN (As := as.map (cv ad)) (rest := S.map (cv ad)) ⟨C.1, C.2.1, C.2.2.1, C.2.2.2.2.2.1, hts⟩ (hM l D ad cid H.size) ⟨va_cnB (host := host) as.length hts (xws_good hcode) rfl hroom.1 hroom.2.1 (C.2.2.2.2.2.2.2.2.1.1 _ hlink) (hts _ hini) hdesc hroom.2.2, hts _ hst, trivial⟩ ⟨blind_x, z_pre C hP hD hS⟩ rfl (by simp) hL.choose_spec.1.1 (by simp) (lv_room (by rw [cv_cats]; exact hcat)) hd ⟨Nat.zero_le _, Nat.zero_le _⟩) k
-- Math.max, Math.abs, System.arraycopy
theorem z_mmax {x z : Int32} (hd : decode cc pc = .ok (.invokestatic index, 3)) (hlink : Cond.methodLink y.cls index Lib.Math.max.name ∈ XW) (hst : Cond.static Lib.Math.max.name ∈ XW) (hini : Cond.initialized "java/lang/Math" ∈ XW) (hcode : Cond.code Lib.Math.max.name Lib.Math.max.code 2 (some .int) ∈ XW) (hroom : 1 ≤ rm.frames ∧ 30 ≤ rm.locals) (hcat : (S.map fun v => v.category).sum ≤ 8)
    (k : Zr y maxL ret cc rm mm (pc + 3) L (.int (if x < z then z else x) :: S) w res) : Zr y maxL ret cc rm mm pc L (.int z :: .int x :: S) w res := by
  intro p l e s m args below meth c D ad cid A C H ls locs hL hP hD hS
  have hts : ∀ w ∈ XW, w.before args s = true := C.2.2.2.2.1
  exact va_mmax C.1 C.2.1 (by rw [C.2.2.1]; exact hL.choose_spec.1.1.symm) C.2.2.2.2.2.1 (hts _ hlink) (hts _ hst) (hts _ hini) (hts _ hcode) hroom.1 (by have h1 := cv_cats ad S; have h2 := hroom.2; rw [h1]; show _ + 13 ≤ rm.locals; omega) (Nat.zero_le _) (Nat.zero_le _) hd (k p l e s m args below meth c D ad cid A C H ls locs hL hP hD hS)
theorem z_mabs {x : Int32} (hd : decode cc pc = .ok (.invokestatic index, 3)) (hlink : Cond.methodLink y.cls index Lib.Math.abs.name ∈ XW) (hst : Cond.static Lib.Math.abs.name ∈ XW) (hini : Cond.initialized "java/lang/Math" ∈ XW) (hcode : Cond.code Lib.Math.abs.name Lib.Math.abs.code 1 (some .int) ∈ XW) (hroom : 1 ≤ rm.frames ∧ 30 ≤ rm.locals) (hcat : (S.map fun v => v.category).sum ≤ 8)
    (k : Zr y maxL ret cc rm mm (pc + 3) L (.int (if 0 ≤ x then x else 0 - x) :: S) w res) : Zr y maxL ret cc rm mm pc L (.int x :: S) w res := by
  intro p l e s m args below meth c D ad cid A C H ls locs hL hP hD hS
  have hts : ∀ w ∈ XW, w.before args s = true := C.2.2.2.2.1
  exact va_mabs C.1 C.2.1 (by rw [C.2.2.1]; exact hL.choose_spec.1.1.symm) C.2.2.2.2.2.1 (hts _ hlink) (hts _ hst) (hts _ hini) (hts _ hcode) hroom.1 (by have h1 := cv_cats ad S; have h2 := hroom.2; rw [h1]; show _ + 13 ≤ rm.locals; omega) (Nat.zero_le _) (Nat.zero_le _) hd (k p l e s m args below meth c D ad cid A C H ls locs hL hP hD hS)
theorem z_acopy {a0 a1 n0 n1 : Nat} {sp dp n : Int32} (hd : decode cc pc = .ok (.invokestatic index, 3)) (hlink : Cond.methodLink y.cls index arraycopyName ∈ XW) (hnat : Cond.native arraycopyName ∈ XW) (hst : Cond.static arraycopyName ∈ XW) (hini : Cond.initialized "java/lang/System" ∈ XW)
    (ha0 : SH[a0]? = some (.inr (0, n0))) (hm0 : a0 < mm) (ha1 : SH[a1]? = some (.inr (0, n1))) (hm1 : a1 < mm) (h1 : ¬ sp < 0) (h2 : ¬ dp < 0) (h3 : ¬ n < 0) (h4 : sp.toNatClampNeg + n.toNatClampNeg ≤ n0) (h5 : dp.toNatClampNeg + n.toNatClampNeg ≤ n1) (hroom : 1 ≤ rm.frames ∧ nativeFrameWords "java/lang/System" "arraycopy" 5 + 19 ≤ rm.locals) (hcat : (S.map fun v => v.category).sum ≤ 8)
    (k : Zr y maxL ret cc rm mm (pc + 3) L S (sA w a1 (va_cpy (wA w a0) (wA w a1) sp.toNatClampNeg dp.toNatClampNeg n.toNatClampNeg)) res) : Zr y maxL ret cc rm mm pc L (.int n :: .int dp :: .ref a1 :: .int sp :: .ref a0 :: S) w res := by
  intro p l e s m args below meth c D ad cid A C H ls locs hL hP hD hS
  have hts : ∀ w ∈ XW, w.before args s = true := C.2.2.2.2.1
  exact va_copyi (ty := .int) C.1 C.2.1 (by rw [C.2.2.1]; exact hL.choose_spec.1.1.symm) C.2.2.2.2.2.1 (hts _ hlink) (hts _ hnat) (hts _ hst) (hts _ hini) C.2.2.2.2.2.2.2.1 hP hD hS a0 a1 0 0 (cells_at ha0 hm0) (cells_at ha1 hm1) rfl rfl rfl h1 h2 h3 h4 h5 (fun _ _ => rfl) hroom.1 (by have h1 := cv_cats ad S; have h2 := hroom.2; rw [h1]; omega) hd
    (fun H1 locs1 hP1 hD1 hS1 => k p l e s m args below meth c D ad cid A C H1 ls locs1 hL (by rw [← cells_sA ha1]; exact hP1) (by rw [← cells_sA ha1]; exact hD1) hS1)
-- the constants' fields
theorem z_kf {j index : Nat} {n : String} {v : Nat → Int32} (hd : decode cc pc = .ok (.getfield index, 3)) (hj : j < 5) (hE : ∀ ad A U H, SK ad A U H → va_Ef 5 "PushTray$Kind" n "I" (fun k => .int (v k)) (fun k => ad (2000 + k)) A U H) (hlink : Cond.fieldLink y.cls index "PushTray$Kind" n "I" ∈ XW) (k : Zr y maxL ret cc rm mm (pc + 3) L (.int (v j) :: S) w res) : Zr y maxL ret cc rm mm pc L (.ref (2000 + j) :: S) w res := by
  intro p l e s m args below meth c D ad cid A C H ls locs hL hP hD hS
  exact va_getX (i := j) (v := fun k => .int (v k)) C.1 C.2.1 (hE _ _ _ _ C.2.2.2.2.2.2.2.2.1) hj hS C.2.2.2.2.2.1 (C.2.2.2.2.1 _ hlink) (fun _ h => h) hd (k p l e s m args below meth c D ad cid A C H ls locs hL hP hD hS)
theorem z_kfN {j index : Nat} {n host : String} {v : Nat → Int32} (hd : decode cc pc = .ok (.getfield index, 3)) (hj : j < 5) (hE : ∀ ad A U H, SK ad A U H → va_Ef 5 "PushTray$Kind" n "I" (fun k => .int (v k)) (fun k => ad (2000 + k)) A U H) (hlink : Cond.fieldLinkNest y.cls index "PushTray$Kind" n "I" host ∈ nestW) (k : Zr y maxL ret cc rm mm (pc + 3) L (.int (v j) :: S) w res) : Zr y maxL ret cc rm mm pc L (.ref (2000 + j) :: S) w res := by
  intro p l e s m args below meth c D ad cid A C H ls locs hL hP hD hS
  obtain ⟨cf, kf, fi, f, cell, h1, h2, h3, h4, h5, h6⟩ := (hE _ _ _ _ C.2.2.2.2.2.2.2.2.1 j hj).kept hS.2.1
  exact va_Wgetf C.1 C.2.1 C.2.2.2.2.2.1 (va_Nw.use rfl (C.2.2.2.2.2.2.2.2.1.1 _ hlink)) h1 h2 h3 h4 (v := .int (v j)) h5 rfl rfl hd (k p l e s m args below meth c D ad cid A C H ls locs hL hP hD hS)
-- ends
theorem z_iret {x : Int32} {ty : FieldType} (hr : ret = some ty) (hn : narrow ty (.int x) = .int x) (hd : decode cc pc = .ok (.ireturn, 1)) : Zr y maxL ret cc rm mm pc L [.int x] w (some (.int x), w) := by
  subst hr
  intro p l e s m args below meth c D ad cid A C H ls locs hL hP hD hS
  exact W.zret C.1 C.2.1 C.2.2.2.1 hn (fun t ht hW => ⟨⟨rfl, by rw [ht]; exact hP, hD⟩, hS.F ht⟩) hS.2.2 hd C.2.2.2.2.2.2.1
theorem z_lret {x : Int64} (hr : ret = some .long) (hd : decode cc pc = .ok (.lreturn, 1)) : Zr y maxL ret cc rm mm pc L [.long x] w (some (.long x), w) := by
  subst hr
  intro p l e s m args below meth c D ad cid A C H ls locs hL hP hD hS
  exact W.lret C.1 C.2.1 C.2.2.2.1 (fun t ht hW => ⟨⟨rfl, by rw [ht]; exact hP, hD⟩, hS.F ht⟩) hS.2.2 hd C.2.2.2.2.2.2.1
theorem z_vret (hr : ret = none) (hd : decode cc pc = .ok (.return_, 1)) : Zr y maxL ret cc rm mm pc L [] w (none, w) := by
  subst hr
  intro p l e s m args below meth c D ad cid A C H ls locs hL hP hD hS
  exact W.vret C.1 C.2.1 C.2.2.2.1 (fun t ht hW => ⟨⟨rfl, by rw [ht]; exact hP, hD⟩, hS.F ht⟩) hS.2.2 hd C.2.2.2.2.2.2.1
/-- the locals at the entry -/
def al0 : List Value → List (Option Value)
  | [] => []
  | v :: vs => if v.category = 2 then some v :: none :: al0 vs else some v :: al0 vs
theorem al0_len (ad : Nat → Nat) : ∀ as : List Value, (lg_sl (as.map (cv ad))).length = (al0 as).length
  | [] => rfl
  | v :: vs => by
    have ih := al0_len ad vs
    unfold lg_sl at ih
    rcases lv_cat v with h | h
    · simp [lg_sl, al0, cv_cat, h, ih]
    · simp [lg_sl, al0, cv_cat, h, ih]
theorem al0_spec (ad : Nat → Nat) : ∀ (as : List Value) (n i : Nat) (v : Value), (al0 as)[i]? = some (some v) → (n + i, cv ad v) ∈ lv_args n (as.map (cv ad))
  | [], _, i, v, h => by simp [al0] at h
  | u :: us, n, i, v, h => by
    rcases lv_cat u with hc | hc
    · have hc2 : ¬ u.category = 2 := by omega
      rw [al0, if_neg hc2] at h
      show _ ∈ (n, cv ad u) :: lv_args (if (cv ad u).category = 2 then n + 2 else n + 1) (us.map (cv ad))
      rw [cv_cat, if_neg hc2]
      cases i with
      | zero => cases h; exact List.mem_cons_self
      | succ i =>
        have := al0_spec ad us (n + 1) i v (by simpa using h)
        rw [show n + 1 + i = n + (i + 1) by omega] at this
        exact List.mem_cons_of_mem _ this
    · rw [al0, if_pos hc] at h
      show _ ∈ (n, cv ad u) :: lv_args (if (cv ad u).category = 2 then n + 2 else n + 1) (us.map (cv ad))
      rw [cv_cat, if_pos hc]
      match i, h with
      | 0, h => cases h; exact List.mem_cons_self
      | 1, h => simp at h
      | i + 2, h =>
        have := al0_spec ad us (n + 2) i v (by simpa using h)
        rw [show n + 2 + i = n + (i + 2) by omega] at this
        exact List.mem_cons_of_mem _ this
def AK (y : MethodName) (maxL : Nat) (ret : Option FieldType) (cc : ByteArray) (rm : Room) (mm : Nat) (as : List Value) (w : Wd) (res : Option Value × Wd) : Prop :=
  (al0 as).length ≤ maxL ∧ Zr y maxL ret cc rm mm 0 (al0 as ++ List.replicate (maxL - (al0 as).length) none) [] w res
theorem st_weaken {tb : Tables} {e : Env} {mid below : List Frame} {a b : State} (h : Steps tb e (mid ++ below) a b) : Steps tb e below a b := by
  obtain ⟨n, hn, w⟩ := h
  exact ⟨n, hn, fun k hk => (w k hk).weaken⟩
/-- a callee of a class of which the statement doesn't say that it is initialised (the machine doesn't ask it of an instance method): its walk, and back -/
theorem backZ {l : Launch} {R : Room} {p : Program} {e : Env} {below : List Frame} {s : State} {sargs : Array Value} {D : va_G} {ad : Nat → Nat} {cid : Nat → ClassId} {sz : Nat} (hexec : p.tables.exec = Jvm.exec) (hy : plainName y'.cls = true) (hZ : AK y' maxL' ret' cc' rm' mm as w (rv, w')) (hrc : rm'.cells = 0) (hrs : rm'.slots = 0) (hfr : rm'.frames + 1 ≤ R.frames) (hlo : 8 + (maxL' + 11) + rm'.locals ≤ R.locals)
    (hws : ∀ w ∈ XW, ∀ (a' : Array Value) (U : State), s.WarmedH U.vm → w.before a' U = true) (hcode : Cond.code y' cc' maxL' ret' ∈ XW) : Back l R p e below s sargs y' 3 8 (PreOf R 0 0 (va_Pc (as.map (cv ad)) (fun U => U.heap.size = sz ∧ va_P D vwCl (cells ad cid mm w) U.heap ∧ va_K D vwCl (xTy cid) U ∧ va_D (fun _ => True) (cells ad cid mm w) ∧ SK ad (XA ad mm sz) U U.heap))) (PostOf (Qx ad cid mm D (XA ad mm sz) (rv, w')) 0 0 (XA ad mm sz)) := by
  intro m meth c A g ig mk a X hg hsize hdg hW hn hp
  obtain ⟨U, Ls, c0, s0⟩ := A
  obtain ⟨hc1, hs1, rfl, hsz, hP, hK, hD, hSK⟩ := hp
  dsimp only [Pt.U, Pt.locs, Pt.cells, Pt.slots] at X hn hc1 hs1 hsz hP hK hD hSK ⊢
  have hcd := hws _ hcode (as.map (cv ad)).toArray U X.warmed
  obtain ⟨mY, cY, hmY, hcY, hbY, hlY, hrY, hkY, -, -⟩ := Cond.code_spec hn hcd
  have h : At U g.method c below := by rw [hg]; exact X.here
  obtain ⟨mid, hmid⟩ := h.above
  have hfr1 : (U.setTop g).frames = (.java g :: mid) ++ below := by rw [State.frames_setTop' g h.top, hmid]; rfl
  have hroom : (U.calling g mk (as.map (cv ad)).toArray).hasRoom e.platform rm' = true := X.room_calling (g := g) (R' := rm') hsize hmY hcY hfr (by rw [hlY]; omega) (by rw [hrc]; exact hc1) (by rw [hrs]; exact hs1)
  generalize hav : (as.map (cv ad)).toArray = av at hroom ⊢
  have hfS : (U.calling g mk av).frames = .invoking mk av :: (U.setTop g).frames := by rw [State.frames_calling h.top, State.frames_setTop' g h.top]
  have hcurS := State.cur_lt_of_frames hfS
  have hnS : (U.calling g mk av).methodNamed? y' = some mk := hn
  have hmS : (U.calling g mk av).vm.method? mk = some mY := hmY
  obtain ⟨T1, hT1⟩ : ∃ T1, T1 = (U.calling g mk av).setFrames (.java (entryFrame mk av maxL') :: (U.setTop g).frames) := ⟨_, rfl⟩
  have hf1 : T1.frames = .java (entryFrame mk av maxL') :: (U.setTop g).frames := by rw [hT1]; exact State.frames_setFrames _ hcurS
  have ht1 := State.topJava?_of_frames hf1
  have hplain : T1.plainMethod mk := by
    refine State.plainMethod.of_name ?_
    intro k hk
    obtain ⟨k', hk', hnm⟩ := className_of_methodNamed hnS
    rw [hT1] at hk
    cases (show (U.calling g mk av).vm.classes[mk.cls]? = some k from hk).symm.trans hk'
    rw [hnm]; exact hy
  have hAt : At T1 mk cY (U.setTop g).frames :=
    ⟨by rw [ht1]; rfl, ⟨[], by rw [hf1]; rfl⟩, by rw [hT1]; exact h.running, by rw [hT1]; simpa [State.calling] using h.runnable, by rw [hT1]; simpa [State.calling] using h.alone,
      by rw [hT1, State.code?_eq]; simp [State.setFrames, hmS, hcY], hplain⟩
  have hhears : (U.calling g mk av).hears mk (U.setTop g).frames = true := by
    have hcode' : (U.calling g mk av).code? g.method = some c := by
      have := h.code
      rw [State.code?_eq] at this ⊢
      simpa [State.calling, State.pushFrame, State.setFrames] using this
    rw [hfr1]
    simp [State.hears, hcode', hdg, Except.toOption]
  have hwk : (U.calling g mk av).vm = U.vm := rfl
  have hhp : (U.calling g mk av).heap = U.heap := rfl
  have hSt : Stand p l e rm' (U.calling g mk av) mk av (U.setTop g).frames mY cY T1 [] 0 0 := by
    obtain ⟨tt, htt, -⟩ := State.frames_cons hfS
    refine ⟨X.admits, X.cas, X.clock, hfS, hroom, hhears, hmS, hcY, hAt, by rw [hf1]; rfl, by rw [hT1]; exact State.WarmedH.refl _, by rw [hT1, State.stackLimits_setFrames], by rw [hT1, State.stackBytes_setFrames], ?_⟩
    have h9 := (State.sameButNew.refl (U.calling g mk av) htt).setFrames (.java (entryFrame mk av maxL') :: (U.setTop g).frames) hcurS
    rw [hT1]
    exact h9
  subst hsz
  have hlen' : (lg_sl (as.map (cv ad))).length ≤ maxL' := by rw [al0_len]; exact hZ.1
  have hl := lv_entry (as.map (cv ad)) (n := maxL') hlen'
  have hz1 := hZ.1
  obtain ⟨t, hst, o, hrun, hend, ⟨⟨ho, hP1, hD1⟩, hF⟩, L9, hFE, hfree⟩ := hZ.2 p l e (U.calling g mk av) mk av (U.setTop g).frames mY cY D ad cid (XA ad mm U.heap.size) ⟨hexec, hbY, hlY, hrY, fun w hw => hws w hw av _ X.warmed, findClass_of_methodNamed hnS, hkY, hK.moved (U := U.calling g mk av) (Vm.Alike.refl U.vm), hSK.same rfl, rfl, (name_of_methodNamed hnS hmS).1⟩ U.heap _ [] ⟨_, hl, by simp; omega, fun i v hi => by
    by_cases h : i < (al0 as).length
    · rw [List.getElem?_append_left h] at hi
      have := al0_spec ad as 0 i v hi
      simpa using this
    · rw [List.getElem?_append_right (by omega)] at hi
      have h2 := List.mem_of_getElem? hi
      rw [List.mem_replicate] at h2
      cases h2.2⟩ hP (cells_D hD) va_S.rf T1 (by rw [hT1]; rfl) hSt
  have hdo : (doInvoke e (U.setTop g) [] mk av).1 = T1.setTop (entryFrame mk av maxL') := by
    have hfull : e.platform.stackFull (U.setTop g).me (U.setTop g).frames cY.maxLocals = false := by
      obtain ⟨-, h1, -, h2⟩ := State.hasRoom_stack hroom
      rw [hfS, List.length_cons] at h1
      rw [State.localsInUse_invoking hfS hmS hcY] at h2
      have hw := stackUse_le_stackWeight (U.setTop g).frames
      have hlim : e.platform.stackLimits (U.calling g mk av).me = e.platform.stackLimits (U.setTop g).me := by
        rw [State.calling, State.pushFrame, State.stackLimits_setFrames]
      rw [hlim] at h1 h2
      exact Platform.stackFull_eq_false (by omega) (by omega)
    rw [(doInvoke_java (s := U.setTop g) (e := e) (meth := mY) (code := cY) hmY hcY hkY hfull).1, State.setTop_self ht1, hT1]
    simp only [State.calling, State.pushFrame, State.setFrames_setFrames, hlY, entryFrame]
  have hsteps : Steps p.tables e below (doInvoke e (U.setTop g) [] mk av).1 t := by
    rw [hdo]
    rw [hfr1] at hst
    have h9 := st_weaken hst
    rw [← hav, lg_entry_eq]
    exact h9
  obtain ⟨⟨v, hv⟩, hW₂, e2, q2, q3, q4, q5, q6⟩ := id hFE
  subst hv
  have e3 : t = ({ (U.calling g mk av).setFrames t.frames with heap := t.heap, slotsUsed := t.slotsUsed } : State).setVm t.vm := by
    have : t = ({ t with vm := (U.calling g mk av).vm } : State).setVm t.vm := rfl
    rw [e2] at this
    exact this
  rw [hfr1] at hend
  obtain ⟨c₂, i₂, len₂, hc₂, hd₂, hf₂⟩ := hend
  have hW' : U.WarmedH t.vm := hW₂
  have hcc : c₂ = c := by
    have h1 : t.code? g.method = U.code? g.method := by
      rw [State.code?_eq, State.code?_eq, hW'.alike.method?]
    exact Option.some.inj (hc₂.symm.trans (h1.trans h.code))
  subst hcc
  have hlen2 : len₂ = 3 := by rw [hdg] at hd₂; cases hd₂; rfl
  subst hlen2
  obtain ⟨g₀, hg0⟩ := Option.isSome_iff_exists.mp h.top
  obtain ⟨r, hr⟩ := State.topJava?_eq_some.mp hg0
  have hs₂ : t = (({ U with heap := t.heap, slotsUsed := t.slotsUsed } : State).setVm t.vm).setTop { g with pc := g.pc + 3, stack := v.toList ++ g.stack } := by
    have hr' : (({ U with heap := t.heap, slotsUsed := t.slotsUsed } : State).setVm t.vm).frames = .java g₀ :: r := hr
    refine e3.trans ?_
    have hmr : List.append mid below = r := by
      have h8 := hfr1
      rw [State.frames_setTop' g h.top, hr] at h8
      exact (List.cons.inj h8).2.symm
    rw [hf₂, State.calling_eq h.top, State.setFrames_setFrames, State.setTop_of_frames _ hr', hmr]
    rfl
  have hsame : U.sameButNew ({ U with heap := t.heap, slotsUsed := t.slotsUsed } : State) L9 0 0 := by
    refine ⟨?_, q2, q3, q4, q5, q6⟩
    obtain ⟨tt, htt, -⟩ := State.frames_cons hr
    show ({ U with heap := t.heap, slotsUsed := t.slotsUsed } : State) = { U.setFrames U.frames with heap := t.heap, slotsUsed := t.slotsUsed }
    rw [State.setFrames_self htt]
  subst hg
  refine ⟨v, ⟨(({ U with heap := t.heap, slotsUsed := t.slotsUsed } : State).setVm t.vm), Ls ++ L9, c0 + 0, s0 + 0⟩,
    ⟨X.admits, X.cas, X.clock, X.frames, X.room, X.hears, X.method, X.code, (X.here.setHeapUsed t.heap t.slotsUsed).setVm hW'.alike, X.tail, State.WarmedH.trans X.warmed hW', X.limits, X.bytes, X.same.trans (hsame.setVm s.vm)⟩,
    ⟨g, mk, t, L9, rfl, rfl, ⟨⟨ho, hP1, hD1⟩, hF⟩, rfl, hfree, rfl, rfl⟩, ?_⟩
  show Steps p.tables e below _ ((({ U with heap := t.heap, slotsUsed := t.slotsUsed } : State).setVm t.vm).setTop { g with pc := g.pc + 3, stack := v.toList ++ g.stack })
  rw [← hs₂]
  exact hsteps
theorem z_callK {n j : Nat} (hd : decode cc pc = .ok (.invokevirtual index, 3)) (hj : j < 5) (hM : AK y' maxL' ret' cc' rm' mm (.ref (2000 + j) :: as) w (rv, w')) (hS0 : S0 = as.reverse ++ .ref (2000 + j) :: S) (hcode : Cond.code y' cc' maxL' ret' ∈ XW) (hlink : Cond.methodLink y.cls index y' ∈ XW) (hinst : Cond.instanceMethod y' ∈ XW) (hsel : Cond.selects y'.cls y' y' ∈ XW) (hcls : y'.cls = "PushTray$Kind") (hpl : plainName y'.cls = true)
    (hdesc : y'.cls = y'.cls ∧ y'.cls ≠ "java/lang/invoke/MethodHandle" ∧ y'.cls ≠ "java/lang/invoke/VarHandle" ∧ (parseMethodDescriptor y'.desc).map (fun d => d.parameters.length) = some n) (hln : as.length = n) (hroom : rm'.cells = 0 ∧ rm'.slots = 0 ∧ rm'.frames + 1 ≤ rm.frames ∧ 8 + (maxL' + 11) + rm'.locals ≤ rm.locals) (hcat : (S.map fun v => v.category).sum ≤ 8)
    (k : Zr y maxL ret cc rm mm (pc + 3) L (rv.toList ++ S) w' res) : Zr y maxL ret cc rm mm pc L S0 w res := by
  subst hln
  subst hS0
  intro p l e s m args below meth c D ad cid A C H ls locs hL hP hD hS
  have hts : ∀ w ∈ XW, w.before args s = true := C.2.2.2.2.1
  have hw2 : ∀ w ∈ XW, ∀ (a' : Array Value) (U : State), s.WarmedH U.vm → w.before a' U = true := fun w hw a' U hW => word_at hW (XW_good w hw) (hts w hw)
  have hB := backZ (R := rm) (l := l) (below := below) (sargs := args) (e := e) (D := D) (ad := ad) (cid := cid) (sz := H.size) C.1 hpl hM hroom.1 hroom.2.1 hroom.2.2.1 hroom.2.2.2 hw2 hcode
  refine z_back C hL hS (rv := rv) (w' := w') (S := S) (a := (Value.ref (ad (2000 + j)) :: as.map (cv ad)).toArray) ?_ k
  intro T hT X
  obtain ⟨cellB, hcB, hoB, hclB⟩ := va_Orecv (C.2.2.2.2.2.2.2.2.1.2.2.2.2.2.1 j hj) hS
  have hdl : ∀ sig, parseMethodDescriptor y'.desc = some sig → (as.map (cv ad)).length = sig.parameters.length := fun sig hsg => by
    have h2 := hdesc.2.2.2
    rw [hsg] at h2
    simpa using (Option.some.inj h2).symm
  obtain ⟨v, vm₁, ⟨U', l2, c2, s2⟩, hW₁, X', ⟨g', mk, t, L', e1, e2, hq, h1, hL', h2, h3⟩, st⟩ := callV X C.1 (C := y'.cls) (bytes := cc') (maxL := maxL') (ret := ret') C.2.2.2.2.2.1 (hts _ hlink) (hts _ hinst) (hts _ hsel) (hts _ hcode) ⟨hdesc.2.1, hdesc.2.2.1⟩ hB (b := ad (2000 + j)) (cellB := cellB) (by rw [hT]; exact hcB) hoB (by rw [hcls]; exact hclB) (g := F0 m pc ls ((as.reverse ++ .ref (2000 + j) :: S).map (cv ad))) rfl (by rw [C.2.2.1]; exact hL.choose_spec.1.1) (argsL := as.map (cv ad)) (rest := S.map (cv ad)) hdl (by simp [cv]) (lv_room (by rw [cv_cats]; exact hcat)) (by rw [C.2.1]; exact hd)
    (fun vm₁ hW₁ => ⟨Nat.zero_le _, Nat.zero_le _, z_pre (as := .ref (2000 + j) :: as) C hP hD hS (T.setVm vm₁) hT hW₁⟩)
  dsimp only [Pt.U, Pt.locs, Pt.cells, Pt.slots] at X' e1 e2 h1 h2 h3 st
  subst h1; subst h2; subst h3
  exact ⟨v, (T.setVm vm₁).calling g' mk (Value.ref (ad (2000 + j)) :: as.map (cv ad)).toArray, t, U', L', hT, X', hL', e1, e2, hq, st⟩
theorem am_intro {L : List (Option Value)} (hy : plainName y.cls = true) (hlen : (al0 as).length ≤ maxL) (hL : L = al0 as ++ List.replicate (maxL - (al0 as).length) none) (k : Zr y maxL ret cc rm mm 0 L [] w res) : AM y maxL ret cc rm mm as w res := by
  intro l D ad cid sz
  refine Met.ofW (cc := cc) (maxL := maxL) (ret := ret) hy rfl ?_
  intro p e s m args below meth c s₁ B hml hv
  obtain ⟨rfl, hsz, hP, hK, hD0, hSK⟩ := hv
  have hts := atoms_spec (ws := xws y maxL ret cc) B.pre
  have hown : s.vm.findClass y.cls = some m.cls := findClass_of_methodNamed B.named
  subst hsz
  have hlen' : (lg_sl (as.map (cv ad))).length ≤ maxL := by rw [al0_len]; exact hlen
  have hl := lv_entry (as.map (cv ad)) (n := maxL) hlen'
  rw [lg_entry_eq]
  refine k p l e s m _ below meth c D ad cid (XA ad mm s.heap.size) ⟨B.exec, B.bytes, hml, B.returns, fun w hw => hts w (List.mem_cons_of_mem _ hw), hown, B.notSynchronized, hK, hSK, rfl, (name_of_methodNamed B.named B.method).1⟩ s.heap _ [] ⟨_, hl, ?_, fun i v hi => ?_⟩ hP (cells_D hD0) va_S.rf
  · rw [hL]; simp; omega
  · rw [hL] at hi
    by_cases h : i < (al0 as).length
    · rw [List.getElem?_append_left h] at hi
      have := al0_spec ad as 0 i v hi
      simpa using this
    · rw [List.getElem?_append_right (by omega)] at hi
      have h2 := List.mem_of_getElem? hi
      rw [List.mem_replicate] at h2
      cases h2.2
end ZC
