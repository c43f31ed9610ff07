-- ===== a machine for constructors and the law: the cells a list, by address =====
def NX (y : MethodName) (maxL : Nat) (ret : Option FieldType) (cc : ByteArray) (p : Program) (s : State) (m : MethodId) (args : Array Value) (meth : Method) (c : Code) (D : va_G) (ad : Nat → Nat) (cid : Nat → ClassId) (A : Nat → Prop) : Prop :=
  p.tables.exec = Jvm.exec ∧ c.code = cc ∧ c.maxLocals = maxL ∧ meth.sig.returnType = ret ∧ (∀ w ∈ XW, w.before args s = true) ∧ s.vm.findClass y.cls = some m.cls ∧ meth.locks = false ∧ va_K D vwCl (xTy cid) s ∧ SK ad A s s.heap ∧ ∀ q, s.heap.size ≤ q → A q
/-- from pc with locals L, stack S, cells ws, so much made: the machine comes to Q -/
def Kr (maxL : Nat) (rm : Room) (p : Program) (l : Launch) (e : Env) (s : State) (m : MethodId) (args : Array Value) (below : List Frame) (meth : Method) (c : Code) (D : va_G) (A : Nat → Prop) (Q : State → Prop) (pc : Nat) (L : List (Option Value)) (S : List Value) (ws : va_W) (nc ns : Nat) : Prop :=
  ∀ (H : Heap) (ls : Array Slot) (locs : List Loc), LR (fun x => x) ls maxL L → va_P D vwCl ws H → va_D A ws → va_S A s.heap H locs → W p l e rm s m args below meth c H locs nc ns Q (F0 m pc ls S)
section KM
variable {y : MethodName} {maxL : Nat} {ret : Option FieldType} {cc : ByteArray} {rm : Room} {pc : Nat} {L : List (Option Value)} {S : List Value} {ws : va_W} {nc ns : Nat}
variable {p : Program} {l : Launch} {e : Env} {s : State} {m : MethodId} {args : Array Value} {below : List Frame} {meth : Method} {c : Code} {D : va_G} {ad : Nat → Nat} {cid : Nat → ClassId} {A : Nat → Prop} {Q : State → Prop}
theorem k_iconst {n : Int} {v : Int32} (C : NX y maxL ret cc p s m args meth c D ad cid A) (hd : decode cc pc = .ok (.iconst n, 1)) (hv : Int32.ofInt n = v) (k : Kr maxL rm p l e s m args below meth c D A Q (pc + 1) L (.int v :: S) ws nc ns) : Kr maxL rm p l e s m args below meth c D A Q pc L S ws nc ns := fun H ls locs hL hP hD hS => lv_iconst C.1 C.2.1 hd hv (k H ls locs hL hP hD hS)
theorem k_bipush {n : Int} {v : Int32} (C : NX y maxL ret cc p s m args meth c D ad cid A) (hd : decode cc pc = .ok (.bipush n, 2)) (hv : (Int8.ofInt n).toInt32 = v) (k : Kr maxL rm p l e s m args below meth c D A Q (pc + 2) L (.int v :: S) ws nc ns) : Kr maxL rm p l e s m args below meth c D A Q pc L S ws nc ns := fun H ls locs hL hP hD hS => lv_bipush C.1 C.2.1 hd hv (k H ls locs hL hP hD hS)
theorem k_sipush {n : Int} {v : Int32} (C : NX y maxL ret cc p s m args meth c D ad cid A) (hd : decode cc pc = .ok (.sipush n, 3)) (hv : (Int16.ofInt n).toInt32 = v) (k : Kr maxL rm p l e s m args below meth c D A Q (pc + 3) L (.int v :: S) ws nc ns) : Kr maxL rm p l e s m args below meth c D A Q pc L S ws nc ns := fun H ls locs hL hP hD hS => lv_sipush C.1 C.2.1 hd hv (k H ls locs hL hP hD hS)
theorem k_iload_n {n : Fin 4} {i : Nat} {x : Int32} (C : NX y maxL ret cc p s m args meth c D ad cid A) (hd : decode cc pc = .ok (.iload_n n, 1)) (hi : (n : Nat) = i) (hl : L[i]? = some (some (.int x))) (k : Kr maxL rm p l e s m args below meth c D A Q (pc + 1) L (.int x :: S) ws nc ns) : Kr maxL rm p l e s m args below meth c D A Q pc L S ws nc ns := fun H ls locs hL hP hD hS => lv_iload_n C.1 C.2.1 hd hi (hL.get hl) (k H ls locs hL hP hD hS)
theorem k_aload_n {n : Fin 4} {i r : Nat} (C : NX y maxL ret cc p s m args meth c D ad cid A) (hd : decode cc pc = .ok (.aload_n n, 1)) (hi : (n : Nat) = i) (hl : L[i]? = some (some (.ref r))) (k : Kr maxL rm p l e s m args below meth c D A Q (pc + 1) L (.ref r :: S) ws nc ns) : Kr maxL rm p l e s m args below meth c D A Q pc L S ws nc ns := fun H ls locs hL hP hD hS => lv_aload_n C.1 C.2.1 hd hi (hL.get hl) (k H ls locs hL hP hD hS)
theorem k_istore_n {n : Fin 4} {i : Nat} {x : Int32} {L' : List (Option Value)} (C : NX y maxL ret cc p s m args meth c D ad cid A) (hd : decode cc pc = .ok (.istore_n n, 1)) (hi : (n : Nat) = i) (hn : i < maxL) (hok : lok L i = true) (hl : lset L i (.int x) = L') (k : Kr maxL rm p l e s m args below meth c D A Q (pc + 1) L' S ws nc ns) : Kr maxL rm p l e s m args below meth c D A Q pc L (.int x :: S) ws nc ns := fun H ls locs hL hP hD hS => by
  obtain ⟨lv, h1, h2, h3⟩ := hL
  exact lv_istore_n C.1 C.2.1 hd hi h1 hn rfl (fun ls' h => k H ls' locs (LR.put1 (v := .int x) h2 h3 hok hl h) hP hD hS)
theorem k_astore_n {n : Fin 4} {i r : Nat} {L' : List (Option Value)} (C : NX y maxL ret cc p s m args meth c D ad cid A) (hd : decode cc pc = .ok (.astore_n n, 1)) (hi : (n : Nat) = i) (hn : i < maxL) (hok : lok L i = true) (hl : lset L i (.ref r) = L') (k : Kr maxL rm p l e s m args below meth c D A Q (pc + 1) L' S ws nc ns) : Kr maxL rm p l e s m args below meth c D A Q pc L (.ref r :: S) ws nc ns := fun H ls locs hL hP hD hS => by
  obtain ⟨lv, h1, h2, h3⟩ := hL
  exact lv_astore_n C.1 C.2.1 hd hi h1 hn rfl (fun ls' h => k H ls' locs (LR.put1 (v := .ref r) h2 h3 hok hl h) hP hD hS)
theorem k_iinc {i : Nat} {n : Int} {x v : Int32} {L' : List (Option Value)} (C : NX y maxL ret cc p s m args meth c D ad cid A) (hd : decode cc pc = .ok (.iinc i n, 3)) (hg : L[i]? = some (some (.int x))) (hv : x + Int32.ofInt n = v) (hn : i < maxL) (hok : lok L i = true) (hl : lset L i (.int v) = L') (k : Kr maxL rm p l e s m args below meth c D A Q (pc + 3) L' S ws nc ns) : Kr maxL rm p l e s m args below meth c D A Q pc L S ws nc ns := fun H ls locs hL hP hD hS => by
  obtain ⟨lv, h1, h2, h3⟩ := hL
  obtain ⟨kk, hk⟩ := List.getElem?_of_mem (h3 i _ hg)
  exact lv_iinc (k := kk) C.1 C.2.1 hd h1 hk hv hn rfl (fun ls' h => k H ls' locs (LR.put1 (v := .int v) h2 h3 hok hl h) hP hD hS)
theorem k_iadd {x z : Int32} (C : NX y maxL ret cc p s m args meth c D ad cid A) (hd : decode cc pc = .ok (.iadd, 1)) (k : Kr maxL rm p l e s m args below meth c D A Q (pc + 1) L (.int (x + z) :: S) ws nc ns) : Kr maxL rm p l e s m args below meth c D A Q pc L (.int z :: .int x :: S) ws nc ns := fun H ls locs hL hP hD hS => lv_iadd C.1 C.2.1 hd (k H ls locs hL hP hD hS)
theorem k_isub {x z : Int32} (C : NX y maxL ret cc p s m args meth c D ad cid A) (hd : decode cc pc = .ok (.isub, 1)) (k : Kr maxL rm p l e s m args below meth c D A Q (pc + 1) L (.int (x - z) :: S) ws nc ns) : Kr maxL rm p l e s m args below meth c D A Q pc L (.int z :: .int x :: S) ws nc ns := fun H ls locs hL hP hD hS => lv_isub C.1 C.2.1 hd (k H ls locs hL hP hD hS)
theorem k_iand {x z : Int32} (C : NX y maxL ret cc p s m args meth c D ad cid A) (hd : decode cc pc = .ok (.iand, 1)) (k : Kr maxL rm p l e s m args below meth c D A Q (pc + 1) L (.int (x &&& z) :: S) ws nc ns) : Kr maxL rm p l e s m args below meth c D A Q pc L (.int z :: .int x :: S) ws nc ns := fun H ls locs hL hP hD hS => lv_iand C.1 C.2.1 hd (k H ls locs hL hP hD hS)
theorem k_lcmp {x z : Int64} (C : NX y maxL ret cc p s m args meth c D ad cid A) (hd : decode cc pc = .ok (.lcmp, 1)) (k : Kr maxL rm p l e s m args below meth c D A Q (pc + 1) L (.int (lg_cmp x z) :: S) ws nc ns) : Kr maxL rm p l e s m args below meth c D A Q pc L (.long z :: .long x :: S) ws nc ns := fun H ls locs hL hP hD hS => W.lcmp C.1 C.2.1 hd (k H ls locs hL hP hD hS)
theorem k_dup {v : Value} (C : NX y maxL ret cc p s m args meth c D ad cid A) (hd : decode cc pc = .ok (.dup, 1)) (hv : v.category = 1) (k : Kr maxL rm p l e s m args below meth c D A Q (pc + 1) L (v :: v :: S) ws nc ns) : Kr maxL rm p l e s m args below meth c D A Q pc L (v :: S) ws nc ns := fun H ls locs hL hP hD hS => lv_dup C.1 C.2.1 hd hv (k H ls locs hL hP hD hS)
theorem k_goto {off : Int} {tgt : Nat} (C : NX y maxL ret cc p s m args meth c D ad cid A) (hd : decode cc pc = .ok (.goto off, 3)) (ht : (pc : Int) + off = (tgt : Int)) (k : Kr maxL rm p l e s m args below meth c D A Q tgt L S ws nc ns) : Kr maxL rm p l e s m args below meth c D A Q pc L S ws nc ns := fun H ls locs hL hP hD hS => lv_goto C.1 C.2.1 hd ht (k H ls locs hL hP hD hS)
theorem k_icmp_ge {x z : Int32} {off : Int} {tgt : Nat} (C : NX y maxL ret cc p s m args meth c D ad cid A) (hd : decode cc pc = .ok (.if_icmp .ge off, 3)) (ht : (pc : Int) + off = (tgt : Int)) (kt : z ≤ x → Kr maxL rm p l e s m args below meth c D A Q tgt L S ws nc ns) (kf : ¬ z ≤ x → Kr maxL rm p l e s m args below meth c D A Q (pc + 3) L S ws nc ns) : Kr maxL rm p l e s m args below meth c D A Q pc L (.int z :: .int x :: S) ws nc ns := fun H ls locs hL hP hD hS => lv_icmp_ge C.1 C.2.1 hd ht (fun h => kt h H ls locs hL hP hD hS) (fun h => kf h H ls locs hL hP hD hS)
theorem k_icmp_gt {x z : Int32} {off : Int} {tgt : Nat} (C : NX y maxL ret cc p s m args meth c D ad cid A) (hd : decode cc pc = .ok (.if_icmp .gt off, 3)) (ht : (pc : Int) + off = (tgt : Int)) (kt : z < x → Kr maxL rm p l e s m args below meth c D A Q tgt L S ws nc ns) (kf : ¬ z < x → Kr maxL rm p l e s m args below meth c D A Q (pc + 3) L S ws nc ns) : Kr maxL rm p l e s m args below meth c D A Q pc L (.int z :: .int x :: S) ws nc ns := fun H ls locs hL hP hD hS => lv_icmp_gt C.1 C.2.1 hd ht (fun h => kt h H ls locs hL hP hD hS) (fun h => kf h H ls locs hL hP hD hS)
theorem k_icmp_same {x : Int32} {off : Int} {tgt : Nat} (C : NX y maxL ret cc p s m args meth c D ad cid A) (hd : decode cc pc = .ok (.if_icmp .eq off, 3)) (ht : (pc : Int) + off = (tgt : Int)) (kt : Kr maxL rm p l e s m args below meth c D A Q tgt L S ws nc ns) : Kr maxL rm p l e s m args below meth c D A Q pc L (.int x :: .int x :: S) ws nc ns := fun H ls locs hL hP hD hS => lv_icmp_eq C.1 C.2.1 hd ht (fun _ => kt H ls locs hL hP hD hS) (fun h => absurd rfl h)
theorem k_if_eq0 {off : Int} {tgt : Nat} (C : NX y maxL ret cc p s m args meth c D ad cid A) (hd : decode cc pc = .ok (.ifCond .eq off, 3)) (ht : (pc : Int) + off = (tgt : Int)) (kt : Kr maxL rm p l e s m args below meth c D A Q tgt L S ws nc ns) : Kr maxL rm p l e s m args below meth c D A Q pc L (.int 0 :: S) ws nc ns := fun H ls locs hL hP hD hS => lv_if_eq C.1 C.2.1 hd ht (fun _ => kt H ls locs hL hP hD hS) (fun h => absurd rfl h)
theorem k_tableIn {dflt lo hi : Int} {offs : Array Int} {len : Nat} {x : Int32} {off : Int} {tgt : Nat} (C : NX y maxL ret cc p s m args meth c D ad cid A) (hd : decode cc pc = .ok (.tableswitch dflt lo hi offs, len)) (h1 : ¬ x.toInt < lo) (h2 : ¬ hi < x.toInt) (ho : offs[(x.toInt - lo).toNat]? = some off) (ht : (pc : Int) + off = (tgt : Int)) (k : Kr maxL rm p l e s m args below meth c D A Q tgt L S ws nc ns) : Kr maxL rm p l e s m args below meth c D A Q pc L (.int x :: S) ws nc ns := fun H ls locs hL hP hD hS => lv_tableIn C.1 C.2.1 hd h1 h2 ho ht (k H ls locs hL hP hD hS)
theorem k_tableOut {dflt lo hi : Int} {offs : Array Int} {len : Nat} {x : Int32} {tgt : Nat} (C : NX y maxL ret cc p s m args meth c D ad cid A) (hd : decode cc pc = .ok (.tableswitch dflt lo hi offs, len)) (h : x.toInt < lo ∨ hi < x.toInt) (ht : (pc : Int) + dflt = (tgt : Int)) (k : Kr maxL rm p l e s m args below meth c D A Q tgt L S ws nc ns) : Kr maxL rm p l e s m args below meth c D A Q pc L (.int x :: S) ws nc ns := fun H ls locs hL hP hD hS => lv_tableOut C.1 C.2.1 hd h ht (k H ls locs hL hP hD hS)
-- fields
theorem k_get {q0 f ci N index a : Nat} {fs : List Value} {T : u_T} {C0 : String} {v : Value} (C : NX y maxL ret cc p s m args meth c D ad cid A) (hd : decode cc pc = .ok (.getfield index, 3)) (he : ws[q0]? = some (a, .inr (ci, fs))) (hc : vwCl[ci]? = some (C0, T, N)) (hN : f < N) (hin : ∀ w ∈ u_ws C0 T N, w ∈ XW) (hlink : Cond.fieldLink y.cls index (T f).1 (T f).2.1 (T f).2.2.1 ∈ XW) (hv : fs[f]? = some v) (k : Kr maxL rm p l e s m args below meth c D A Q (pc + 3) L (v :: S) ws nc ns) : Kr maxL rm p l e s m args below meth c D A Q pc L (.ref a :: S) ws nc ns := fun H ls locs hL hP hD hS =>
  va_get (v := v) C.1 C.2.1 C.2.2.2.2.1 hin C.2.2.2.2.2.1 C.2.2.2.2.2.2.2.1 hP q0 he hc f hN (C.2.2.2.2.1 _ hlink) (fun _ h => h) hv hd (k H ls locs hL hP hD hS)
theorem k_put {q0 f ci N index a : Nat} {fs : List Value} {T : u_T} {C0 : String} {v : Value} {ty : FieldType} (ty0 : Nat → FieldType) (C : NX y maxL ret cc p s m args meth c D ad cid A) (hd : decode cc pc = .ok (.putfield index, 3)) (he : ws[q0]? = some (a, .inr (ci, fs))) (hc : vwCl[ci]? = some (C0, T, N)) (hN : f < N) (hin : ∀ w ∈ u_ws C0 T N, w ∈ XW) (hty : ∀ k, k < N → parseFieldDescriptor (T k).2.2.1 = some (ty0 k)) (hnm : ∀ a, a < N → ∀ b, b < N → a ≠ b → (T a).2.1 ≠ (T b).2.1) (hlink : Cond.fieldLink y.cls index (T f).1 (T f).2.1 (T f).2.2.1 ∈ XW) (hfin : (T f).2.2.2 = false) (hpd : parseFieldDescriptor (T f).2.2.1 = some ty) (hn : narrow ty v = v) (hfit : fits ty v = true) (hl : f < fs.length) (k : Kr maxL rm p l e s m args below meth c D A Q (pc + 3) L S (ws.set q0 (a, .inr (ci, fs.set f v))) nc ns) : Kr maxL rm p l e s m args below meth c D A Q pc L (v :: .ref a :: S) ws nc ns := fun H ls locs hL hP hD hS =>
  va_put (v := v) (ty := ty) C.1 C.2.1 C.2.2.2.2.1 hin ty0 hty hnm C.2.2.2.2.2.1 C.2.2.2.2.2.2.2.1 hP hD hS q0 he hc f hN (C.2.2.2.2.1 _ hlink) (fun _ h => h) hfin hpd hn hfit hl hd (fun H1 locs1 hP1 hD1 hS1 => k H1 ls locs1 hL hP1 hD1 hS1)
theorem k_putF {q0 f ci N index a : Nat} {fs : List Value} {T : u_T} {C0 : String} {v : Value} {ty : FieldType} (ty0 : Nat → FieldType) (C : NX y maxL ret cc p s m args meth c D ad cid A) (hin2 : meth.name = "<init>") (hd : decode cc pc = .ok (.putfield index, 3)) (he : ws[q0]? = some (a, .inr (ci, fs))) (hc : vwCl[ci]? = some (C0, T, N)) (hN : f < N) (hin : ∀ w ∈ u_ws C0 T N, w ∈ XW) (hty : ∀ k, k < N → parseFieldDescriptor (T k).2.2.1 = some (ty0 k)) (hnm : ∀ a, a < N → ∀ b, b < N → a ≠ b → (T a).2.1 ≠ (T b).2.1) (hlink : Cond.fieldLink y.cls index (T f).1 (T f).2.1 (T f).2.2.1 ∈ XW) (hfin : (T f).2.2.2 = true) (hdecl : (T f).1 = y.cls) (hpd : parseFieldDescriptor (T f).2.2.1 = some ty) (hn : narrow ty v = v) (hfit : fits ty v = true) (hl : f < fs.length) (k : Kr maxL rm p l e s m args below meth c D A Q (pc + 3) L S (ws.set q0 (a, .inr (ci, fs.set f v))) nc ns) : Kr maxL rm p l e s m args below meth c D A Q pc L (v :: .ref a :: S) ws nc ns := fun H ls locs hL hP hD hS =>
  va_putF (v := v) (ty := ty) C.1 C.2.1 C.2.2.2.2.1 hin ty0 hty hnm C.2.2.2.2.2.1 C.2.2.2.2.2.2.2.1 hP hD hS q0 he hc f hN (C.2.2.2.2.1 _ hlink) (fun _ h => h) hfin hin2 hdecl hpd hn hfit hl hd (fun H1 locs1 hP1 hD1 hS1 => k H1 ls locs1 hL hP1 hD1 hS1)
-- what is made
theorem k_newa {atype : ArrayType} {ty : FieldType} {b : Nat} {n : Int32} {N' : Nat} {a0 : vp_A} (C : NX y maxL ret cc p s m args meth c D ad cid A) (hd : decode cc pc = .ok (.newarray atype, 2)) (harr : Cond.arrayClass (newarray.typeOf atype) ∈ XW) (hty : newarray.typeOf atype = ty) (hb : (xTy cid)[b]? = some (cid b, ty)) (hra : ∀ (U : State) (q : ClassId), va_RA U q ty → U.vm.findClass ("[" ++ ty.toString) = some q) (ha : ∀ cA : ClassId, vp_cell cA a0 = arrV cA N' (fun _ => defaultValue ty)) (hn : ¬ n < 0) (hN : n.toNatClampNeg = N') (hbytes : N' * componentBytes ty ≤ 536870912) (hcells : nc + 1 ≤ rm.cells) (hslots : ns + N' ≤ rm.slots)
    (k : ∀ q : Nat, Kr maxL rm p l e s m args below meth c D A Q (pc + 2) L (.ref q :: S) (ws ++ [(q, .inl (cid b, a0))]) (nc + 1) (ns + N')) : Kr maxL rm p l e s m args below meth c D A Q pc L (.int n :: S) ws nc ns := fun H ls locs hL hP hD hS => by
  have hK := C.2.2.2.2.2.2.2.1
  refine va_newa C.1 C.2.1 (C.2.2.2.2.1 _ harr) hty hK hP hD hS C.2.2.2.2.2.2.2.2.2 ha hn hN hbytes hcells hslots hd (fun q cA H1 hK1 hP1 hD1 hS1 => ?_)
  have e1 := hra s cA ((hK1.2 2 (cA, ty) rfl).2)
  have e2 := hra s (cid b) ((hK.2 b _ hb).2)
  have e3 : cA = cid b := Option.some.inj (e1.symm.trans e2)
  rw [e3] at hP1 hD1
  exact k q H1 ls locs hL hP1 hD1 hS1
theorem k_new {ci N index : Nat} {T : u_T} {C0 : String} {fs : List Value} (ty : Nat → FieldType) (C : NX y maxL ret cc p s m args meth c D ad cid A) (hd : decode cc pc = .ok (.new index, 3)) (hin : ∀ w ∈ u_ws C0 T N, w ∈ XW) (hty : ∀ k, k < N → parseFieldDescriptor (T k).2.2.1 = some (ty k)) (hcl : Cond.classLink y.cls index C0 ∈ XW) (hinst : Cond.instantiable C0 N ∈ XW) (hini : Cond.initialized C0 ∈ XW) (hc : vwCl[ci]? = some (C0, T, N)) (hfs : ∀ j, j < N → defaultValue (ty j) = vp_V fs j) (hcells : nc + 1 ≤ rm.cells) (hslots : ns + N ≤ rm.slots)
    (k : ∀ q : Nat, Kr maxL rm p l e s m args below meth c D A Q (pc + 3) L (.ref q :: S) (ws ++ [(q, .inr (ci, fs))]) (nc + 1) (ns + N)) : Kr maxL rm p l e s m args below meth c D A Q pc L S ws nc ns := fun H ls locs hL hP hD hS =>
  va_new C.1 C.2.1 C.2.2.2.2.1 hin ty hty C.2.2.2.2.2.1 (C.2.2.2.2.1 _ hcl) (C.2.2.2.2.1 _ hinst) (C.2.2.2.2.1 _ hini) C.2.2.2.2.2.2.2.1 hP hD hS C.2.2.2.2.2.2.2.2.2 hc hfs hcells hslots hd (fun q H1 hP1 hD1 hS1 => k q H1 ls locs hL hP1 hD1 hS1)
theorem k_obj {index a : Nat} (C : NX y maxL ret cc p s m args meth c D ad cid A) (hd : decode cc pc = .ok (.invokespecial index, 3)) (hlink : Cond.methodLink y.cls index Lib.objectInit ∈ XW) (hinst : Cond.instanceMethod Lib.objectInit ∈ XW) (hcode : Cond.code Lib.objectInit ⟨#[0xb1]⟩ 1 none ∈ XW) (hfr : 1 ≤ rm.frames) (hlo : (S.map fun v => v.category).sum + 12 ≤ rm.locals) (k : Kr maxL rm p l e s m args below meth c D A Q (pc + 3) L S ws nc ns) : Kr maxL rm p l e s m args below meth c D A Q pc L (.ref a :: S) ws nc ns := fun H ls locs hL hP hD hS =>
  W.objInit C.1 C.2.1 C.2.2.2.2.2.1 (C.2.2.2.2.1 _ hlink) (C.2.2.2.2.1 _ hinst) (C.2.2.2.2.1 _ hcode) rfl (by rw [C.2.2.1]; exact hL.choose_spec.1.1) rfl hd hfr (by show 2 * 0 + _ + 12 ≤ _; omega) (k H ls locs hL hP hD hS)
/-- a constructor's contract: from the cells wc it makes cells that are as 'post' says -/
def NM (y : MethodName) (maxL : Nat) (cc : ByteArray) (rm : Room) (as : List Value) (wc : va_W) (D : va_G) (ad : Nat → Nat) (cid : Nat → ClassId) (post : va_W → Prop) (mc ms : Nat) : Prop :=
  ∀ (l : Launch) (sz : Nat), Met l y (xws y maxL none cc) rm (va_Pc as (fun U => U.heap.size = sz ∧ va_P D vwCl wc U.heap ∧ va_K D vwCl (xTy cid) U ∧ va_D (fun _ => True) wc ∧ SK ad (va_A wc sz) U U.heap)) (va_Qv post (fun w1 t => va_P D vwCl w1 t.heap ∧ va_D (va_A wc sz) w1) (va_A wc sz)) mc ms (va_A wc sz)
theorem blind_n {as : List Value} {wc : va_W} {sz : Nat} : FrameBlind (va_Pc as (fun U => U.heap.size = sz ∧ va_P D vwCl wc U.heap ∧ va_K D vwCl (xTy cid) U ∧ va_D (fun _ => True) wc ∧ SK ad (va_A wc sz) U U.heap)) := by
  intro a U g mk q
  obtain ⟨q0, q1, qP, qK, qD, qS⟩ := q
  exact ⟨q0, q1, qP, va_K.moved (u := U) (U := U.calling g mk a) (Vm.Alike.refl U.vm) qK, qD, qS.same rfl⟩
theorem fm_of_map {ws wc : va_W} (isC : List Nat) (h : isC.map (fun i => ws[i]?) = wc.map some) : isC.filterMap (fun i => ws[i]?) = wc := by
  induction isC generalizing wc with
  | nil => cases wc with
    | nil => rfl
    | cons _ _ => cases h
  | cons i is ih => cases wc with
    | nil => cases h
    | cons q wc =>
      simp only [List.map_cons, List.cons.injEq] at h
      rw [List.filterMap_cons, h.1, ih h.2]
theorem k_callI {y' : MethodName} {maxL' : Nat} {cc' : ByteArray} {rm' : Room} {as : List Value} {wc wr : va_W} {post : va_W → Prop} {mc ms n index b : Nat} {S0 : List Value} (isC isR : List Nat) (C : NX y maxL ret cc p s m args meth c D ad cid A) (hd : decode cc pc = .ok (.invokespecial index, 3)) (hM : NM y' maxL' cc' rm' (.ref b :: as) wc D ad cid post mc ms) (hS0 : S0 = as.reverse ++ .ref b :: S) (hC : isC.map (fun i => ws[i]?) = wc.map some) (hR : isR.map (fun i => ws[i]?) = wr.map some) (hnC : va_nd isC = true) (hnR : va_nd isR = true) (hdis : ∀ i ∈ isR, i ∉ isC)
    (hcode : Cond.code y' cc' maxL' none ∈ XW) (hlink : Cond.methodLink y.cls index y' ∈ XW) (hinst : Cond.instanceMethod y' ∈ XW) (hini : Cond.initialized y'.cls ∈ XW) (hy1 : y'.name = "<init>") (hdesc : y'.cls ≠ "java/lang/invoke/MethodHandle" ∧ y'.cls ≠ "java/lang/invoke/VarHandle" ∧ (parseMethodDescriptor y'.desc).map (fun d => d.parameters.length) = some n) (hln : as.length = n)
    (hrc : rm'.cells = mc) (hrs : rm'.slots = ms) (hroom : rm'.frames + 1 ≤ rm.frames ∧ 8 + (maxL' + 11) + rm'.locals ≤ rm.locals) (hcat : (S.map fun v => v.category).sum ≤ 8) (hf : nc + mc ≤ rm.cells ∧ ns + ms ≤ rm.slots)
    (k : ∀ w1, post w1 → Kr maxL rm p l e s m args below meth c D A Q (pc + 3) L S (wr ++ w1) (nc + mc) (ns + ms)) : Kr maxL rm p l e s m args below meth c D A Q pc L S0 ws nc ns := by
  subst hln
  subst hS0
  intro H ls locs hL hP hD hS
  have hts : ∀ w ∈ XW, w.before args s = true := C.2.2.2.2.1
  have hK := C.2.2.2.2.2.2.2.1
  have hA := C.2.2.2.2.2.2.2.2.2
  have hFc := va_free (wc := wc) hD hS hA isC hC
  have hPc := hP.sub (ws' := wc) isC (fm_of_map isC hC)
  have hDc := hD.sub (ws' := wc) isC hnC hC
  refine va_callv (va_runI (As := as) (rest := S) ⟨C.1, C.2.1, C.2.2.1, C.2.2.2.2.2.1, hts⟩ (hM l H.size) (cwI as.length hts (xws_good hcode) rfl hrc hrs (hts _ hini) (hts _ hlink) (hts _ hinst) hy1 hdesc hroom) ⟨blind_n, fun U hU hW => ⟨rfl, by rw [hU], by rw [hU]; exact hPc, va_K.moved hW.alike hK, hDc.weaken (fun _ _ _ _ => trivial), ?_⟩⟩ rfl rfl hL.choose_spec.1.1 rfl (lv_room hcat) hd hf) hS (fun q _ h => hFc q h) hFc (fun w1 t H1 locs1 ht hvm hpost hB hz1 hk1 hS1 => ?_)
  · rw [hU]
    exact C.2.2.2.2.2.2.2.2.1.warm hW hS.2.1 (fun q hq => hFc q hq)
  · obtain ⟨hP1, hD1⟩ := hB
    rw [ht] at hP1
    obtain ⟨hP2, hD2⟩ := va_join (wr := wr) (w1 := w1) hP hD isC isR hC hR hnR hdis hk1 hFc hP1 hD1
    exact k w1 hpost H1 ls locs1 hL hP2 hD2 hS1
theorem k_callIN {host : String} {y' : MethodName} {maxL' : Nat} {cc' : ByteArray} {rm' : Room} {as : List Value} {wc wr : va_W} {post : va_W → Prop} {mc ms n index b : Nat} {S0 : List Value} (isC isR : List Nat) (C : NX y maxL ret cc p s m args meth c D ad cid A) (hd : decode cc pc = .ok (.invokespecial index, 3)) (hM : NM y' maxL' cc' rm' (.ref b :: as) wc D ad cid post mc ms) (hS0 : S0 = as.reverse ++ .ref b :: S) (hC : isC.map (fun i => ws[i]?) = wc.map some) (hR : isR.map (fun i => ws[i]?) = wr.map some) (hnC : va_nd isC = true) (hnR : va_nd isR = true) (hdis : ∀ i ∈ isR, i ∉ isC)
    (hcode : Cond.code y' cc' maxL' none ∈ XW) (hlink : Cond.methodLinkNest y.cls index y' host ∈ nestW) (hinst : Cond.instanceMethod y' ∈ XW) (hini : Cond.initialized y'.cls ∈ XW) (hy1 : y'.name = "<init>") (hdesc : y'.cls ≠ "java/lang/invoke/MethodHandle" ∧ y'.cls ≠ "java/lang/invoke/VarHandle" ∧ (parseMethodDescriptor y'.desc).map (fun d => d.parameters.length) = some n) (hln : as.length = n)
    (hrc : rm'.cells = mc) (hrs : rm'.slots = ms) (hroom : rm'.frames + 1 ≤ rm.frames ∧ 8 + (maxL' + 11) + rm'.locals ≤ rm.locals) (hcat : (S.map fun v => v.category).sum ≤ 8) (hf : nc + mc ≤ rm.cells ∧ ns + ms ≤ rm.slots)
    (k : ∀ w1, post w1 → Kr maxL rm p l e s m args below meth c D A Q (pc + 3) L S (wr ++ w1) (nc + mc) (ns + ms)) : Kr maxL rm p l e s m args below meth c D A Q pc L S0 ws nc ns := by
  subst hln
  subst hS0
  intro H ls locs hL hP hD hS
  have hts : ∀ w ∈ XW, w.before args s = true := C.2.2.2.2.1
  have hK := C.2.2.2.2.2.2.2.1
  have hA := C.2.2.2.2.2.2.2.2.2
  have hFc := va_free (wc := wc) hD hS hA isC hC
  have hPc := hP.sub (ws' := wc) isC (fm_of_map isC hC)
  have hDc := hD.sub (ws' := wc) isC hnC hC
  refine va_callv (va_runIN (As := as) (rest := S) ⟨C.1, C.2.1, C.2.2.1, C.2.2.2.2.2.1, hts⟩ (hM l H.size) ⟨va_cnB (host := host) as.length hts (xws_good hcode) rfl hrc hrs (C.2.2.2.2.2.2.2.2.1.1 _ hlink) (hts _ hini) hdesc hroom, hy1, hts _ hinst⟩ ⟨blind_n, fun U hU hW => ⟨rfl, by rw [hU], by rw [hU]; exact hPc, va_K.moved hW.alike hK, hDc.weaken (fun _ _ _ _ => trivial), ?_⟩⟩ rfl rfl hL.choose_spec.1.1 rfl (lv_room hcat) hd hf) hS (fun q _ h => hFc q h) hFc (fun w1 t H1 locs1 ht hvm hpost hB hz1 hk1 hS1 => ?_)
  · rw [hU]
    exact C.2.2.2.2.2.2.2.2.1.warm hW hS.2.1 (fun q hq => hFc q hq)
  · obtain ⟨hP1, hD1⟩ := hB
    rw [ht] at hP1
    obtain ⟨hP2, hD2⟩ := va_join (wr := wr) (w1 := w1) hP hD isC isR hC hR hnR hdis hk1 hFc hP1 hD1
    exact k w1 hpost H1 ls locs1 hL hP2 hD2 hS1
theorem cv_id (v : Value) : cv (fun x => x) v = v := by cases v <;> rfl
theorem cv_ids (vs : List Value) : vs.map (cv (fun x => x)) = vs := by
  have : (cv fun x => x) = id := funext cv_id
  rw [this, List.map_id]
/-- a call of a method that the other machine has, its cells being all -/
theorem k_callV {y' : MethodName} {maxL' : Nat} {ret' : Option FieldType} {cc' : ByteArray} {rm' : Room} {as : List Value} {w w' : Wd} {rv : Option Value} {mm n ci N b index : Nat} {ds : List Nat} {T : u_T} {ad' : Nat → Nat} {S0 : List Value} (C : NX y maxL ret cc p s m args meth c D ad cid A) (hSK : SK ad' A s s.heap) (hd : decode cc pc = .ok (.invokevirtual index, 3)) (hM : AM y' maxL' ret' cc' rm' mm (.ref b :: as) w (rv, w')) (hws : ws = cells ad' cid mm w) (hS0 : S0 = (as.map (cv ad')).reverse ++ .ref (ad' b) :: S) (hcode : Cond.code y' cc' maxL' ret' ∈ XW) (hlink : Cond.methodLink y.cls index y' ∈ XW) (hinst : Cond.instanceMethod y' ∈ XW) (hsel : Cond.selects y'.cls y' y' ∈ XW) (hini : Cond.initialized y'.cls ∈ XW)
    (hdesc : y'.cls = y'.cls ∧ y'.cls ≠ "java/lang/invoke/MethodHandle" ∧ y'.cls ≠ "java/lang/invoke/VarHandle" ∧ (parseMethodDescriptor y'.desc).map (fun d => d.parameters.length) = some n) (hln : as.length = n) (hroom : rm'.cells = 0 ∧ rm'.slots = 0 ∧ rm'.frames + 1 ≤ rm.frames ∧ 8 + (maxL' + 11) + rm'.locals ≤ rm.locals) (hcat : (S.map fun v => v.category).sum ≤ 8) (hf : nc ≤ rm.cells ∧ ns ≤ rm.slots)
    (hobj : SH[b]? = some (.inl (ci, ds))) (hm : b < mm) (hc : vwCl[ci]? = some (y'.cls, T, N)) (k : Kr maxL rm p l e s m args below meth c D A Q (pc + 3) L ((rv.map (cv ad')).toList ++ S) (cells ad' cid mm w') nc ns) : Kr maxL rm p l e s m args below meth c D A Q pc L S0 ws nc ns := by
  subst hln
  subst hS0
  subst hws
  intro H ls locs hL hP hD hS
  have hts : ∀ w ∈ XW, w.before args s = true := C.2.2.2.2.1
  have hK := C.2.2.2.2.2.2.2.1
  have hA := C.2.2.2.2.2.2.2.2.2
  have hAB : ∀ q, XA ad' mm H.size q → A q := by
    intro q hq
    rcases hq with ⟨i, h1, h2, rfl⟩ | hq
    · obtain ⟨e0, he0⟩ : ∃ e0, SH[i]? = some e0 := by
        have : i < SH.length := h2
        exact ⟨_, List.getElem?_eq_getElem this⟩
      exact hD.2 i _ (cells_at he0 h1)
    · exact hA q (Nat.le_trans hS.1 hq)
  have hg : GoodIn XW (wsV y.cls index y'.cls y' (xws y' maxL' ret' cc')) := good_app (good_sub (fun w hw => by
    simp only [List.mem_cons, List.not_mem_nil, or_false] at hw
    rcases hw with rfl | rfl | rfl | rfl
    · exact hlink
    · exact hinst
    · exact hsel
    · exact hini)) (xws_good hcode)
  have run := va_runV (p := p) (e := e) (R := rm) (m := m) (below := below) (meth := meth) (c := c) (locs := locs) (cells := nc) (slots := ns) (C := y'.cls) (As := as.map (cv ad')) (rest := S) (g := F0 m pc ls ((as.map (cv ad')).reverse ++ .ref (ad' b) :: S)) ⟨C.1, C.2.1, C.2.2.1, C.2.2.2.2.2.1, hts⟩ (hM l D ad' cid H.size) (cwV as.length hts hg rfl hroom.1 hroom.2.1 hdesc hroom.2.2) ⟨blind_x, va_recv hK hP hc (cells_at hobj hm), fun U hU hW => ⟨rfl, by rw [hU], by rw [hU]; exact hP, va_K.moved hW.alike hK, hD.weaken (fun _ _ _ _ => trivial), by rw [hU]; exact hSK.warm hW hS.2.1 hAB⟩⟩ rfl (by simp) hL.choose_spec.1.1 rfl (lv_room hcat) hd hf
  intro T hT X
  obtain ⟨v, st₀, t, T', L', h0, X', hL', e1, e2, ⟨⟨hv, hP1, hD1⟩, hz, hk⟩, st⟩ := run T hT X
  have hv' : v = rv.map (cv ad') := by cases hv; rfl
  subst hv'
  rw [h0] at hz hk
  obtain ⟨t2, a1, b1⟩ := k T'.heap ls (locs ++ L') hL (by rw [e1]; exact hP1) (hD1.weaken (fun _ _ _ h => hAB _ h))
    ⟨Nat.le_trans hS.1 (by rw [e1]; exact hz), fun q h1 h2 => by rw [e1, hk q (Nat.lt_of_lt_of_le h1 hS.1) (fun z => h2 (hAB q z))]; exact hS.2.1 q h1 h2, fun q hq => by
      rcases List.mem_append.mp hq with h | h
      · exact hS.2.2 q h
      · exact hAB _ (hL' q h)⟩ T' rfl X'
  exact ⟨t2, st t2 a1, b1⟩
theorem k_vret {post : va_W → Prop} (C : NX y maxL ret cc p s m args meth c D ad cid A) (hr : ret = none) (hd : decode cc pc = .ok (.return_, 1)) (hp : post ws) : Kr maxL rm p l e s m args below meth c D A (MQ below (va_Qv post (fun w1 t => va_P D vwCl w1 t.heap ∧ va_D A w1) A) args s nc ns A) pc L [] ws nc ns := fun H ls locs hL hP hD hS => by
  subst hr
  exact W.vret C.1 C.2.1 C.2.2.2.1 (fun t ht hW => ⟨⟨ws, rfl, hp, by rw [ht]; exact hP, hD⟩, hS.F ht⟩) hS.2.2 hd C.2.2.2.2.2.2.1
theorem nm_intro {as : List Value} {wc : va_W} {post : va_W → Prop} {mc ms : Nat} (hy : plainName y.cls = true) (hyn : y.name = "<init>") (hlen : (al0 as).length ≤ maxL) (k : ∀ (p : Program) (l : Launch) (e : Env) (s : State) (m : MethodId) (args : Array Value) (below : List Frame) (meth : Method) (c : Code) (A : Nat → Prop), NX y maxL none cc p s m args meth c D ad cid A → meth.name = "<init>" → Kr maxL rm p l e s m args below meth c D A (MQ below (va_Qv post (fun w1 t => va_P D vwCl w1 t.heap ∧ va_D A w1) A) args s mc ms A) 0 (al0 as ++ List.replicate (maxL - (al0 as).length) none) [] wc 0 0) : NM y maxL cc rm as wc D ad cid post mc ms := by
  intro l sz
  refine Met.ofW (cc := cc) (maxL := maxL) (ret := none) hy rfl ?_
  intro p e s m args below meth c s₁ B hml hv
  obtain ⟨rfl, hsz, hP, hK, hD0, hSK⟩ := hv
  have hts := atoms_spec (ws := xws y maxL none cc) B.pre
  have hown : s.vm.findClass y.cls = some m.cls := findClass_of_methodNamed B.named
  subst hsz
  have hlen' : (lg_sl as).length ≤ maxL := by
    have := al0_len (fun x => x) as
    rw [cv_ids] at this
    rw [this]; exact hlen
  have hl := lv_entry as (n := maxL) hlen'
  rw [lg_entry_eq]
  refine k p l e s m _ below meth c (va_A wc s.heap.size) ⟨B.exec, B.bytes, hml, B.returns, fun w hw => hts w (List.mem_cons_of_mem _ hw), hown, B.notSynchronized, hK, hSK, fun q h => Or.inr h⟩ ((name_of_methodNamed B.named B.method).1.trans hyn) s.heap _ [] ⟨_, hl, ?_, fun i v hi => ?_⟩ hP hD0.self va_S.rf
  · simp; omega
  · by_cases h : i < (al0 as).length
    · rw [List.getElem?_append_left h] at hi
      have := al0_spec (fun x => x) as 0 i v hi
      rw [cv_ids] at this
      simpa using this
    · rw [List.getElem?_append_right (by omega)] at hi
      have h2 := List.mem_of_getElem? hi
      rw [List.mem_replicate] at h2
      cases h2.2
theorem SK.congr {ad ad' : Nat → Nat} {A : Nat → Prop} {U : State} {H : Heap} (h : SK ad A U H) (h0 : ad' 1000 = ad 1000) (h1 : ad' 1001 = ad 1001) (h2 : ∀ j, ad' (2000 + j) = ad (2000 + j)) : SK ad' A U H := by
  unfold SK at h ⊢
  rw [h0, h1]
  simp only [h2]
  exact h
end KM
