-- ===== the first world =====
def w0f (i f : Nat) : Int32 := bif ((Nat.beq i 6 || Nat.beq i 9) && (Nat.beq f 5 || Nat.beq f 6)) || (Nat.beq i 12 && (Nat.beq f 3 || Nat.beq f 4)) || ((Nat.beq i 15 || Nat.beq i 17) && (Nat.beq f 0 || Nat.beq f 1)) then -1 else 0
def w00 (g1 g2 g3 g4 g5 : Nat → Int32) : Wd := (w0f, fun _ _ => 0, fun f => bif Nat.beq f 1 then 13 else 14, fun a => bif Nat.beq a 1 then g1 else bif Nat.beq a 2 then g2 else bif Nat.beq a 3 then g3 else bif Nat.beq a 4 then g4 else bif Nat.beq a 5 then g5 else fun _ => 0)
def adW (qs : List Nat) (ad : Nat → Nat) : Nat → Nat := fun i => if i < 35 then qs.getD i 0 else ad i
def fl0 (ad : Nat → Nat) (w : Wd) (i : Nat) : Nat → List Nat → List Value
  | _, [] => []
  | f, d :: ds => fldv ad w i f d :: fl0 ad w i (f + 1) ds
theorem fl0_eq (ad : Nat → Nat) (w : Wd) (i : Nat) : ∀ (ds : List Nat) (k : Nat), List.mapIdx (fun f d => fldv ad w i (f + k) d) ds = fl0 ad w i k ds
  | [], _ => rfl
  | d :: ds, k => by
    rw [List.mapIdx_cons, fl0]
    congr 1
    · rw [Nat.zero_add]
    · rw [← fl0_eq ad w i ds (k + 1)]
      congr 1
      funext f d
      rw [show f + 1 + k = f + (k + 1) by omega]
theorem cell_o {ad : Nat → Nat} {cid : Nat → ClassId} {mm : Nat} {w : Wd} {i ci a : Nat} {ds : List Nat} {fs : List Value} (h : SH[i]? = some (.inl (ci, ds))) (hm : i < mm) (ha : ad i = a) (hf : fl0 ad w i 0 ds = fs) : (cells ad cid mm w)[i]? = some (a, .inr (ci, fs)) := by
  rw [cells_at h hm, ha, ← hf, ← fl0_eq ad w i ds 0]
  rfl
theorem cell_a {ad : Nat → Nat} {cid : Nat → ClassId} {mm : Nat} {w : Wd} {i b n a : Nat} {g : Nat → Int32} (h : SH[i]? = some (.inr (b, n))) (hm : i < mm) (ha : ad i = a) (hg : w.2.2.2 i = g) : (cells ad cid mm w)[i]? = some (a, .inl (cid b, n, .inl g)) := by
  rw [cells_at h hm, ha, ← hg]
  rfl
theorem cells_len (ad : Nat → Nat) (cid : Nat → ClassId) (w : Wd) : (cells ad cid 35 w).length = 35 := by
  unfold cells
  rw [List.length_mapIdx]
  rfl
set_option maxRecDepth 100000 in
set_option maxHeartbeats 4000000 in
theorem cells35 (ad : Nat → Nat) (cid : Nat → ClassId) (p0 p1 p2 p3 p4 p5 p6 p7 p8 p9 p10 p11 p12 p13 p14 p15 p16 p17 p18 p19 p20 p21 p22 p23 p24 p25 p26 p27 p28 p29 p30 p31 p32 p33 p34 : Nat) (g1 g2 g3 g4 g5 : Nat → Int32) : cells (adW [p0, p1, p2, p3, p4, p5, p6, p7, p8, p9, p10, p11, p12, p13, p14, p15, p16, p17, p18, p19, p20, p21, p22, p23, p24, p25, p26, p27, p28, p29, p30, p31, p32, p33, p34] ad) cid 35 (w00 g1 g2 g3 g4 g5) = [(p0, .inr (1, [.ref p1, .ref p2, .ref p3, .ref p4, .ref p5])), (p1, .inl (cid 0, 4320, .inl g1)), (p2, .inl (cid 0, 4320, .inl g2)), (p3, .inl (cid 0, 4320, .inl g3)), (p4, .inl (cid 0, 4320, .inl g4)), (p5, .inl (cid 0, 6, .inl g5)), (p6, .inr (2, [.ref p0, .ref p7, .ref p8, .int 0, .int 0, .int (-1), .int (-1)])), (p7, .inl (cid 0, 720, .inl (fun _ => 0))), (p8, .inl (cid 0, 720, .inl (fun _ => 0))), (p9, .inr (2, [.ref p0, .ref p10, .ref p11, .int 0, .int 0, .int (-1), .int (-1)])), (p10, .inl (cid 0, 720, .inl (fun _ => 0))), (p11, .inl (cid 0, 720, .inl (fun _ => 0))), (p12, .inr (0, [.ref p0, .ref p13, .ref p14, .int (-1), .int (-1), .int 0])), (p13, .inl (cid 0, 720, .inl (fun _ => 0))), (p14, .inl (cid 0, 720, .inl (fun _ => 0))), (p15, .inr (3, [.int (-1), .int (-1), .int 0, .int 0, .int 0, .int 0, .ref p16])), (p16, .inl (cid 0, 5, .inl (fun _ => 0))), (p17, .inr (3, [.int (-1), .int (-1), .int 0, .int 0, .int 0, .int 0, .ref p18])), (p18, .inl (cid 0, 5, .inl (fun _ => 0))), (p19, .inr (4, [.ref p0, .ref p6, .ref p9, .ref p12, .ref p15, .ref p17, .ref p20, .ref p21, .int 0, .int 0, .int 0, .int 0])), (p20, .inl (cid 0, 22, .inl (fun _ => 0))), (p21, .inl (cid 0, 6, .inl (fun _ => 0))), (p22, .inr (5, [.int 0, .int 0, .int 0, .ref p23, .int 0, .int 0, .int 0, .int 0, .ref p24, .ref p25, .ref p26, .int 0, .ref p27, .int 0, .ref p28, .ref p29, .ref p30, .long 0, .int 0, .int 0, .int 0, .int 0, .int 0, .int 0, .int 0, .ref p31, .ref p32, .ref p33, .ref p34, .long 0])), (p23, .inl (cid 0, 5, .inl (fun _ => 0))), (p24, .inl (cid 0, 6, .inl (fun _ => 0))), (p25, .inl (cid 0, 6, .inl (fun _ => 0))), (p26, .inl (cid 0, 6, .inl (fun _ => 0))), (p27, .inl (cid 1, 22, .inl (fun _ => 0))), (p28, .inl (cid 0, 720, .inl (fun _ => 0))), (p29, .inl (cid 0, 720, .inl (fun _ => 0))), (p30, .inl (cid 0, 720, .inl (fun _ => 0))), (p31, .inl (cid 0, 5, .inl (fun _ => 0))), (p32, .inl (cid 0, 6, .inl (fun _ => 0))), (p33, .inl (cid 0, 6, .inl (fun _ => 0))), (p34, .inl (cid 0, 6, .inl (fun _ => 0)))] := by
  apply List.ext_getElem?
  intro j
  match j with
  | 0 => exact cell_o rfl (by decide) rfl rfl
  | 1 => exact cell_a rfl (by decide) rfl rfl
  | 2 => exact cell_a rfl (by decide) rfl rfl
  | 3 => exact cell_a rfl (by decide) rfl rfl
  | 4 => exact cell_a rfl (by decide) rfl rfl
  | 5 => exact cell_a rfl (by decide) rfl rfl
  | 6 => exact cell_o rfl (by decide) rfl rfl
  | 7 => exact cell_a rfl (by decide) rfl rfl
  | 8 => exact cell_a rfl (by decide) rfl rfl
  | 9 => exact cell_o rfl (by decide) rfl rfl
  | 10 => exact cell_a rfl (by decide) rfl rfl
  | 11 => exact cell_a rfl (by decide) rfl rfl
  | 12 => exact cell_o rfl (by decide) rfl rfl
  | 13 => exact cell_a rfl (by decide) rfl rfl
  | 14 => exact cell_a rfl (by decide) rfl rfl
  | 15 => exact cell_o rfl (by decide) rfl rfl
  | 16 => exact cell_a rfl (by decide) rfl rfl
  | 17 => exact cell_o rfl (by decide) rfl rfl
  | 18 => exact cell_a rfl (by decide) rfl rfl
  | 19 => exact cell_o rfl (by decide) rfl rfl
  | 20 => exact cell_a rfl (by decide) rfl rfl
  | 21 => exact cell_a rfl (by decide) rfl rfl
  | 22 => exact cell_o rfl (by decide) rfl rfl
  | 23 => exact cell_a rfl (by decide) rfl rfl
  | 24 => exact cell_a rfl (by decide) rfl rfl
  | 25 => exact cell_a rfl (by decide) rfl rfl
  | 26 => exact cell_a rfl (by decide) rfl rfl
  | 27 => exact cell_a rfl (by decide) rfl rfl
  | 28 => exact cell_a rfl (by decide) rfl rfl
  | 29 => exact cell_a rfl (by decide) rfl rfl
  | 30 => exact cell_a rfl (by decide) rfl rfl
  | 31 => exact cell_a rfl (by decide) rfl rfl
  | 32 => exact cell_a rfl (by decide) rfl rfl
  | 33 => exact cell_a rfl (by decide) rfl rfl
  | 34 => exact cell_a rfl (by decide) rfl rfl
  | j + 35 => rw [List.getElem?_eq_none (by rw [cells_len]; omega)]; rfl
def g00 : Sg := ([], 0, 0, none, none)
theorem rr0 {g1 g2 g3 g4 g5 : Nat → Int32} (h : TB g1 g2 g3 g4) : RR (w00 g1 g2 g3 g4 g5) g00 0 := by
  obtain ⟨h1, h2, h3, h4⟩ := h
  refine ⟨⟨⟨⟨h1, h2, h3, h4⟩, Or.inl rfl, Or.inl rfl, Or.inl ⟨rfl, rfl⟩, Or.inl rfl⟩, ⟨Nat.zero_le _, rfl, fun i hi => absurd hi (Nat.not_lt_zero _), fun i hi => absurd hi (Nat.not_lt_zero _)⟩, rfl, rfl, ⟨rfl, rfl, rfl, rfl, rfl⟩, rfl⟩, ⟨rfl, rfl, Nat.zero_le _, ⟨Nat.zero_le _, rfl, fun i hi => absurd hi (Nat.not_lt_zero _), fun i hi => absurd hi (Nat.not_lt_zero _)⟩, ⟨rfl, rfl, rfl, rfl⟩, Or.inl rfl⟩, Nat.le_refl _, fun u hu => by cases hu⟩
theorem adW_SK {ad : Nat → Nat} {qs : List Nat} {A : Nat → Prop} {U : State} {H : Heap} (h : SK ad A U H) : SK (adW qs ad) A U H := h.congr (by unfold adW; rw [if_neg (by omega)]) (by unfold adW; rw [if_neg (by omega)]) (fun j => by unfold adW; rw [if_neg (by omega)])
theorem and31 (x : Int32) : ∃ j, j < 32 ∧ x &&& 31 = nI j := by
  refine ⟨(x &&& 31).toBitVec.toNat, ?_, ?_⟩
  · have e : (x &&& 31).toBitVec = x.toBitVec &&& 31#32 := rfl
    rw [e, BitVec.toNat_and]
    exact Nat.lt_of_le_of_lt Nat.and_le_right (by decide)
  · apply Int32.toBitVec_inj.1
    show (x &&& 31).toBitVec = BitVec.ofNat 32 (x &&& 31).toBitVec.toNat
    simp
theorem k_perm {maxL : Nat} {rm : Room} {p : Program} {l : Launch} {e : Env} {s : State} {m : MethodId} {args : Array Value} {below : List Frame} {meth : Method} {c : Code} {D : va_G} {A : Nat → Prop} {Q : State → Prop} {pc : Nat} {L : List (Option Value)} {S : List Value} {ws ws2 : va_W} {nc ns : Nat} (is : List Nat) (hn : va_nd is = true) (hm : is.map (fun i => ws[i]?) = ws2.map some) (k : Kr maxL rm p l e s m args below meth c D A Q pc L S ws2 nc ns) : Kr maxL rm p l e s m args below meth c D A Q pc L S ws nc ns := fun H ls locs hL hP hD hS => k H ls locs hL (hP.sub is (fm_of_map is hm)) (hD.sub is hn hm) hS
