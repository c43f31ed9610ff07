-- ===== frames of worlds =====
def Fr (T : List Nat) (w w' : Wd) : Prop := (∀ i f, i ∉ T → w'.1 i f = w.1 i f) ∧ (∀ i f, i ∉ T → w'.2.1 i f = w.2.1 i f) ∧ (12 ∉ T → w'.2.2.1 = w.2.2.1) ∧ ∀ a, a ∉ T → w'.2.2.2 a = w.2.2.2 a
theorem Fr.refl (T : List Nat) (w : Wd) : Fr T w w := ⟨fun _ _ _ => rfl, fun _ _ _ => rfl, fun _ => rfl, fun _ _ => rfl⟩
theorem Fr.trans {T : List Nat} {a b c : Wd} (h : Fr T a b) (g : Fr T b c) : Fr T a c :=
  ⟨fun i f hi => (g.1 i f hi).trans (h.1 i f hi), fun i f hi => (g.2.1 i f hi).trans (h.2.1 i f hi), fun hi => (g.2.2.1 hi).trans (h.2.2.1 hi), fun i hi => (g.2.2.2 i hi).trans (h.2.2.2 i hi)⟩
theorem Fr.mono {T U : List Nat} {a b : Wd} (h : Fr T a b) (hs : ∀ i, i ∈ T → i ∈ U) : Fr U a b :=
  ⟨fun i f hi => h.1 i f (fun q => hi (hs i q)), fun i f hi => h.2.1 i f (fun q => hi (hs i q)), fun hi => h.2.2.1 (fun q => hi (hs 12 q)), fun i hi => h.2.2.2 i (fun q => hi (hs i q))⟩
theorem Fr.sI {T : List Nat} {w : Wd} {i f : Nat} {v : Int32} (h : i ∈ T) : Fr T w (sI w i f v) :=
  ⟨fun j g hj => by
    have : ¬ (j = i ∧ g = f) := fun q => hj (by rw [q.1]; exact h)
    show (if j = i ∧ g = f then v else w.1 j g) = _
    rw [if_neg this], fun _ _ _ => rfl, fun _ => rfl, fun _ _ => rfl⟩
theorem Fr.sJ {T : List Nat} {w : Wd} {i f : Nat} {v : Int64} (h : i ∈ T) : Fr T w (sJ w i f v) :=
  ⟨fun _ _ _ => rfl, fun j g hj => by
    have : ¬ (j = i ∧ g = f) := fun q => hj (by rw [q.1]; exact h)
    show (if j = i ∧ g = f then v else w.2.1 j g) = _
    rw [if_neg this], fun _ => rfl, fun _ _ => rfl⟩
theorem Fr.sA {T : List Nat} {w : Wd} {a : Nat} {g : Nat → Int32} (h : a ∈ T) : Fr T w (sA w a g) :=
  ⟨fun _ _ _ => rfl, fun _ _ _ => rfl, fun _ => rfl, fun j hj => by
    have : ¬ j = a := fun q => hj (by rw [q]; exact h)
    show (if j = a then g else w.2.2.2 j) = _
    rw [if_neg this]⟩
theorem Fr.sP {T : List Nat} {w : Wd} {f r : Nat} (h : 12 ∈ T) : Fr T w (sP w f r) :=
  ⟨fun _ _ _ => rfl, fun _ _ _ => rfl, fun q => absurd h q, fun _ _ => rfl⟩
theorem Tab.fr {T : List Nat} {w w' : Wd} (h : Tab w) (f : Fr T w w') (n1 : 1 ∉ T) (n2 : 2 ∉ T) (n3 : 3 ∉ T) (n4 : 4 ∉ T) : Tab w' :=
  ⟨fun k hk c hc => by show w'.2.2.2 1 _ = _; rw [f.2.2.2 1 n1]; exact h.1 k hk c hc, fun k hk c hc => by show w'.2.2.2 2 _ = _; rw [f.2.2.2 2 n2]; exact h.2.1 k hk c hc, fun k hk c hc => by show w'.2.2.2 3 _ = _; rw [f.2.2.2 3 n3]; exact h.2.2.1 k hk c hc, fun k hk c hc => by show w'.2.2.2 4 _ = _; rw [f.2.2.2 4 n4]; exact h.2.2.2 k hk c hc⟩
-- ===== choices =====
theorem np_m1 {n : Nat} (h : n ≤ 3) : np n = -1 ↔ n = 0 := by
  unfold np
  by_cases h0 : n = 0
  · simp [h0]
  · rw [if_neg h0]
    exact ⟨fun e => absurd e (nI_m1 (by omega)), fun e => absurd e h0⟩
/-- how many of the tiles below n may be pushed -/
def chc (kn k : Nat) : Nat → Nat
  | 0 => 0
  | n + 1 => chc kn k n + if prc kn k n = 0 then 0 else 1
theorem chc_le (kn k : Nat) : ∀ n, chc kn k n ≤ n
  | 0 => Nat.le_refl _
  | n + 1 => by have := chc_le kn k n; unfold chc; split <;> omega
section CL
variable {w : Wd} {mm : Nat}
theorem am_choices {k kn : Nat} (hT : TabW w) (hk : k < 720) (hn : kn < 2 ^ 31) : A_X2_choices 35 [.ref 0, .int (nI k), .int (nI kn)] w (some (.int (nI (chc kn k 5))), w) := by
  have loop : ∀ d t, t + d = 5 → Z_X2_choices 35 5 [some (.ref 0), some (.int (nI k)), some (.int (nI kn)), some (.int (nI (chc kn k t))), some (.int (nI t))] [] w (some (.int (nI (chc kn k 5))), w) := by
    intro d
    induction d with
    | zero =>
      intro t ht
      have ht : t = 5 := by omega
      subst ht
      exact b_X2_choices_5 (fun _ => b_X2_choices_32) (fun h => absurd (show (5 : Int32) ≤ nI 5 from nI_le (a := 5) (by omega) (by omega)) h)
    | succ d ih =>
      intro t ht
      refine b_X2_choices_5 (fun h => absurd (nle (a := 5) h (by omega) (by omega)) (by omega)) (fun _ => ?_)
      have hp := am_price hT hk (show t < 5 by omega) hn
      have go : ∀ c, c = chc kn k (t + 1) → Z_X2_choices 35 26 [some (.ref 0), some (.int (nI k)), some (.int (nI kn)), some (.int (nI c)), some (.int (nI t))] [] w (some (.int (nI (chc kn k 5))), w) := by
        intro c hc
        subst hc
        refine b_X2_choices_26 ?_
        rw [nI_1]
        exact ih (t + 1) (by omega)
      refine b_X2_choices_11 hp (fun h => ?_) (fun h => ?_)
      · refine go _ ?_
        rw [np_m1 (prc_le _ _ _)] at h
        simp [chc, h]
      · refine b_X2_choices_23 ?_
        rw [nI_1]
        refine go _ ?_
        rw [np_m1 (prc_le _ _ _)] at h
        simp [chc, h]
  exact ai_X2_choices (b_X2_choices_0 (loop 5 0 rfl))
theorem am_choices_m1 {x : Int32} : A_X2_choices 35 [.ref 0, .int (-1), .int x] w (some (.int 0), w) := by
  have loop : ∀ d t, t + d = 5 → Z_X2_choices 35 5 [some (.ref 0), some (.int (-1)), some (.int x), some (.int 0), some (.int (nI t))] [] w (some (.int 0), w) := by
    intro d
    induction d with
    | zero =>
      intro t ht
      have ht : t = 5 := by omega
      subst ht
      exact b_X2_choices_5 (fun _ => b_X2_choices_32) (fun h => absurd (show (5 : Int32) ≤ nI 5 from nI_le (a := 5) (by omega) (by omega)) h)
    | succ d ih =>
      intro t ht
      refine b_X2_choices_5 (fun h => absurd (nle (a := 5) h (by omega) (by omega)) (by omega)) (fun _ => ?_)
      refine b_X2_choices_11 (am_price_m1 _ _) (fun h => ?_) (fun h => absurd rfl h)
      refine b_X2_choices_26 ?_
      rw [nI_1]
      exact ih (t + 1) (by omega)
  exact ai_X2_choices (b_X2_choices_0 (loop 5 0 rfl))
/-- the tile behind so many others of those that may be pushed, from t on -/
def pickF (kn k others : Nat) : Nat → Nat → Nat → Nat
  | 0, _, _ => 5
  | d + 1, t, ahead => if prc kn k t = 0 then pickF kn k others d (t + 1) ahead else if ahead = others then t else pickF kn k others d (t + 1) (ahead + 1)
def pick (kn k others : Nat) : Nat := pickF kn k others 5 0 0
theorem pickF_spec (kn k others : Nat) : ∀ d t ahead, t + d = 5 → ahead = chc kn k t → ahead ≤ others → others < chc kn k 5 → pickF kn k others d t ahead < 5 ∧ prc kn k (pickF kn k others d t ahead) ≠ 0 ∧ chc kn k (pickF kn k others d t ahead) = others := by
  intro d
  induction d with
  | zero => intro t ahead ht ha hle hlt; have : t = 5 := by omega
            subst this; omega
  | succ d ih =>
    intro t ahead ht ha hle hlt
    unfold pickF
    by_cases hp : prc kn k t = 0
    · rw [if_pos hp]
      exact ih (t + 1) ahead (by omega) (by simp [chc, hp, ha]) hle hlt
    · rw [if_neg hp]
      by_cases he : ahead = others
      · rw [if_pos he]
        exact ⟨by omega, hp, by omega⟩
      · rw [if_neg he]
        exact ih (t + 1) (ahead + 1) (by omega) (by simp [chc, hp, ha]) (by omega) hlt
theorem am_choice {k kn o : Nat} (hT : TabW w) (hk : k < 720) (hn : kn < 2 ^ 31) (ho : o < chc kn k 5) : A_X2_choice 35 [.ref 0, .int (nI k), .int (nI kn), .int (nI o)] w (some (.int (nI (pick kn k o))), w) := by
  have h5 := chc_le kn k 5
  have loop : ∀ d t ahead, t + d = 5 → ahead = chc kn k t → ahead ≤ o → Z_X2_choice 35 6 [some (.ref 0), some (.int (nI k)), some (.int (nI kn)), some (.int (nI o)), some (.int (nI ahead)), some (.int (nI t))] [] w (some (.int (nI (pickF kn k o d t ahead))), w) := by
    intro d
    induction d with
    | zero =>
      intro t ahead ht ha hle
      have ht : t = 5 := by omega
      subst ht
      omega
    | succ d ih =>
      intro t ahead ht ha hle
      refine b_X2_choice_6 (fun h => absurd (nle (a := 5) h (by omega) (by omega)) (by omega)) (fun _ => ?_)
      have hp := am_price hT hk (show t < 5 by omega) hn
      refine b_X2_choice_12 hp (fun h => ?_) (fun h => ?_)
      · rw [np_m1 (prc_le _ _ _)] at h
        refine b_X2_choice_36 ?_
        rw [nI_1, pickF, if_pos h]
        exact ih (t + 1) ahead (by omega) (by simp [chc, h, ha]) hle
      · rw [np_m1 (prc_le _ _ _)] at h
        rw [pickF, if_neg h]
        refine b_X2_choice_24 (fun h2 => ?_) (fun h2 => ?_)
        · have h3 : ¬ ahead = o := fun e => h2 (by rw [e])
          rw [if_neg h3]
          refine b_X2_choice_33 (b_X2_choice_36 ?_)
          rw [nI_1, nI_1]
          exact ih (t + 1) (ahead + 1) (by omega) (by simp [chc, h, ha]) (by omega)
        · have h3 : ahead = o := neq h2 (by omega) (by omega)
          rw [if_pos h3]
          exact b_X2_choice_30
  exact ai_X2_choice (b_X2_choice_0 (loop 5 0 0 rfl rfl (Nat.zero_le _)))
-- ===== numberOf, exchanged =====
def popN (n : Nat) : Nat := n % 2 + n / 2 % 2 + n / 4 % 2 + n / 8 % 2 + n / 16 % 2 + n / 32 % 2
theorem am_bitCount {n : Nat} (h : n < 64) : A_J6_bitCount_0f7a4 mm [.int (nI n)] w (some (.int (nI (popN n))), w) := by
  have e : ∀ n, n < 64 → (((((((((nI n) - ((((nI n).toUInt32 >>> ((1 : Int32).toUInt32 &&& Int32.toUInt32 31)).toInt32) &&& 1431655765)) &&& 858993459) + (((((nI n) - ((((nI n).toUInt32 >>> ((1 : Int32).toUInt32 &&& Int32.toUInt32 31)).toInt32) &&& 1431655765)).toUInt32 >>> ((2 : Int32).toUInt32 &&& Int32.toUInt32 31)).toInt32) &&& 858993459)) + ((((((nI n) - ((((nI n).toUInt32 >>> ((1 : Int32).toUInt32 &&& Int32.toUInt32 31)).toInt32) &&& 1431655765)) &&& 858993459) + (((((nI n) - ((((nI n).toUInt32 >>> ((1 : Int32).toUInt32 &&& Int32.toUInt32 31)).toInt32) &&& 1431655765)).toUInt32 >>> ((2 : Int32).toUInt32 &&& Int32.toUInt32 31)).toInt32) &&& 858993459)).toUInt32 >>> ((4 : Int32).toUInt32 &&& Int32.toUInt32 31)).toInt32)) &&& 252645135) + ((((((((nI n) - ((((nI n).toUInt32 >>> ((1 : Int32).toUInt32 &&& Int32.toUInt32 31)).toInt32) &&& 1431655765)) &&& 858993459) + (((((nI n) - ((((nI n).toUInt32 >>> ((1 : Int32).toUInt32 &&& Int32.toUInt32 31)).toInt32) &&& 1431655765)).toUInt32 >>> ((2 : Int32).toUInt32 &&& Int32.toUInt32 31)).toInt32) &&& 858993459)) + ((((((nI n) - ((((nI n).toUInt32 >>> ((1 : Int32).toUInt32 &&& Int32.toUInt32 31)).toInt32) &&& 1431655765)) &&& 858993459) + (((((nI n) - ((((nI n).toUInt32 >>> ((1 : Int32).toUInt32 &&& Int32.toUInt32 31)).toInt32) &&& 1431655765)).toUInt32 >>> ((2 : Int32).toUInt32 &&& Int32.toUInt32 31)).toInt32) &&& 858993459)).toUInt32 >>> ((4 : Int32).toUInt32 &&& Int32.toUInt32 31)).toInt32)) &&& 252645135).toUInt32 >>> ((8 : Int32).toUInt32 &&& Int32.toUInt32 31)).toInt32)) + (((((((((nI n) - ((((nI n).toUInt32 >>> ((1 : Int32).toUInt32 &&& Int32.toUInt32 31)).toInt32) &&& 1431655765)) &&& 858993459) + (((((nI n) - ((((nI n).toUInt32 >>> ((1 : Int32).toUInt32 &&& Int32.toUInt32 31)).toInt32) &&& 1431655765)).toUInt32 >>> ((2 : Int32).toUInt32 &&& Int32.toUInt32 31)).toInt32) &&& 858993459)) + ((((((nI n) - ((((nI n).toUInt32 >>> ((1 : Int32).toUInt32 &&& Int32.toUInt32 31)).toInt32) &&& 1431655765)) &&& 858993459) + (((((nI n) - ((((nI n).toUInt32 >>> ((1 : Int32).toUInt32 &&& Int32.toUInt32 31)).toInt32) &&& 1431655765)).toUInt32 >>> ((2 : Int32).toUInt32 &&& Int32.toUInt32 31)).toInt32) &&& 858993459)).toUInt32 >>> ((4 : Int32).toUInt32 &&& Int32.toUInt32 31)).toInt32)) &&& 252645135) + ((((((((nI n) - ((((nI n).toUInt32 >>> ((1 : Int32).toUInt32 &&& Int32.toUInt32 31)).toInt32) &&& 1431655765)) &&& 858993459) + (((((nI n) - ((((nI n).toUInt32 >>> ((1 : Int32).toUInt32 &&& Int32.toUInt32 31)).toInt32) &&& 1431655765)).toUInt32 >>> ((2 : Int32).toUInt32 &&& Int32.toUInt32 31)).toInt32) &&& 858993459)) + ((((((nI n) - ((((nI n).toUInt32 >>> ((1 : Int32).toUInt32 &&& Int32.toUInt32 31)).toInt32) &&& 1431655765)) &&& 858993459) + (((((nI n) - ((((nI n).toUInt32 >>> ((1 : Int32).toUInt32 &&& Int32.toUInt32 31)).toInt32) &&& 1431655765)).toUInt32 >>> ((2 : Int32).toUInt32 &&& Int32.toUInt32 31)).toInt32) &&& 858993459)).toUInt32 >>> ((4 : Int32).toUInt32 &&& Int32.toUInt32 31)).toInt32)) &&& 252645135).toUInt32 >>> ((8 : Int32).toUInt32 &&& Int32.toUInt32 31)).toInt32)).toUInt32 >>> ((16 : Int32).toUInt32 &&& Int32.toUInt32 31)).toInt32)) &&& 63) = nI (popN n) := by decide +kernel
  rw [← e n h]
  exact ai_J6_bitCount_0f7a4 b_J6_bitCount_0f7a4_0
/-- what is left of the signs ahead of place c, and the number so far -/
def nmS (l : List Nat) : Nat → Nat × Nat
  | 0 => (63, 0)
  | c + 1 => let q := nmS l c; let x := l.getD c 0; (q.1 &&& (63 ^^^ 2 ^ x), q.2 + [120, 24, 6, 2, 1, 1].getD c 0 * popN (q.1 % 2 ^ x))
def ck3 (k : Nat) : Bool := let l := sgl k; Nat.beq (nmS l 6).2 k
set_option maxRecDepth 100000 in
theorem ck3_p0 : allN (fun i => ck3 (i + 0)) 90 = true := by decide +kernel
set_option maxRecDepth 100000 in
theorem ck3_p1 : allN (fun i => ck3 (i + 90)) 90 = true := by decide +kernel
set_option maxRecDepth 100000 in
theorem ck3_p2 : allN (fun i => ck3 (i + 180)) 90 = true := by decide +kernel
set_option maxRecDepth 100000 in
theorem ck3_p3 : allN (fun i => ck3 (i + 270)) 90 = true := by decide +kernel
set_option maxRecDepth 100000 in
theorem ck3_p4 : allN (fun i => ck3 (i + 360)) 90 = true := by decide +kernel
set_option maxRecDepth 100000 in
theorem ck3_p5 : allN (fun i => ck3 (i + 450)) 90 = true := by decide +kernel
set_option maxRecDepth 100000 in
theorem ck3_p6 : allN (fun i => ck3 (i + 540)) 90 = true := by decide +kernel
set_option maxRecDepth 100000 in
theorem ck3_p7 : allN (fun i => ck3 (i + 630)) 90 = true := by decide +kernel
theorem ck3_all : allN ck3 720 = true := (allN_add (p := ck3) (a := 630) (allN_add (p := ck3) (a := 540) (allN_add (p := ck3) (a := 450) (allN_add (p := ck3) (a := 360) (allN_add (p := ck3) (a := 270) (allN_add (p := ck3) (a := 180) (allN_add (p := ck3) (a := 90) ck3_p0 90 ck3_p1) 90 ck3_p2) 90 ck3_p3) 90 ck3_p4) 90 ck3_p5) 90 ck3_p6) 90 ck3_p7)
theorem nmS_lt (l : List Nat) : ∀ c, (nmS l c).1 < 64
  | 0 => (show (63 : Nat) < 64 by decide)
  | c + 1 => Nat.lt_of_le_of_lt Nat.and_le_left (nmS_lt l c)
theorem ordv_eq : ∀ c, c < 6 → ordv c = nI ([120, 24, 6, 2, 1, 1].getD c 0) := by decide
theorem low_eq : ∀ n, n < 64 → ∀ x, x < 6 → nI n &&& (((1 : Int32) <<< (nI x &&& 31)) - 1) = nI (n % 2 ^ x) := by decide +kernel
theorem clr_eq : ∀ n, n < 64 → ∀ x, x < 6 → nI n &&& (((1 : Int32) <<< (nI x &&& 31)) ^^^ (-1)) = nI (n &&& (63 ^^^ 2 ^ x)) := by decide +kernel
theorem am_numberOf {a j : Nat} (ha : SH[a]? = some (.inr (0, 6))) (hm : a < mm) (hj : j < 720) (hr : ∀ c, c < 6 → wA w a c = nI (sg j c)) : A_X2_numberOf mm [.ref a] w (some (.int (nI j)), w) := by
  have hck := Nat.eq_of_beq_eq_true (allN_spec ck3_all j hj)
  have loop : ∀ d c, c + d = 6 → Z_X2_numberOf mm 7 [some (.ref a), some (.int (nI (nmS (sgl j) c).1)), some (.int (nI (nmS (sgl j) c).2)), some (.int (nI c))] [] w (some (.int (nI j)), w) := by
    intro d
    induction d with
    | zero =>
      intro c hc
      have hc : c = 6 := by omega
      subst hc
      have hck' : (nmS (sgl j) 6).2 = j := hck
      rw [hck']
      exact b_X2_numberOf_7 hm ha (fun _ => b_X2_numberOf_56) (fun h => absurd (show Int32.ofNat 6 ≤ nI 6 from nI_le (a := 6) (by omega) (by omega)) h)
    | succ d ih =>
      intro c hc
      refine b_X2_numberOf_7 hm ha (fun h => absurd (nle (a := 6) h (by omega) (by omega)) (by omega)) (fun _ => ?_)
      refine b_X2_numberOf_13 (fun h => absurd (nle (a := 6) h (by omega) (by omega)) (by omega)) (fun _ => ?_)
      have hx := sg_lt hj (show c < 6 by omega)
      have hl := nmS_lt (sgl j) c
      have hin : vp_in (nI c) 6 := vp_in_nI (by omega) (by omega)
      have hg : (sgl j).getD c 0 = sg j c := by
        have := (ck1_at hj).1
        unfold sg
        simp only [List.getD_eq_getElem?_getD]
        rw [List.getElem?_eq_getElem (by omega)]
        rfl
      have e1 : nI (nmS (sgl j) c).1 &&& (((1 : Int32) <<< ((wA w a (nI c).toNatClampNeg) &&& 31)) - 1) = nI ((nmS (sgl j) c).1 % 2 ^ sg j c) := by
        rw [nI_clamp (by omega), hr c (by omega)]
        exact low_eq _ hl _ hx
      have e2 : nI (nmS (sgl j) c).1 &&& (((1 : Int32) <<< ((wA w a (nI c).toNatClampNeg) &&& 31)) ^^^ (-1)) = nI (nmS (sgl j) (c + 1)).1 := by
        rw [nI_clamp (by omega), hr c (by omega)]
        have : (nmS (sgl j) (c + 1)).1 = (nmS (sgl j) c).1 &&& (63 ^^^ 2 ^ sg j c) := by
          show (nmS (sgl j) c).1 &&& (63 ^^^ 2 ^ (sgl j).getD c 0) = _
          rw [hg]
        rw [this]
        exact clr_eq _ hl _ hx
      refine b_X2_numberOf_19 hin hm ha hin (by rw [e1]; exact am_bitCount (Nat.lt_of_le_of_lt (Nat.mod_le _ _) hl)) hin ?_
      have e3 : nI (nmS (sgl j) c).2 + ordv (nI c).toNatClampNeg * nI (popN ((nmS (sgl j) c).1 % 2 ^ sg j c)) = nI (nmS (sgl j) (c + 1)).2 := by
        rw [nI_clamp (by omega), ordv_eq c (by omega), pk_mul, nI_add]
        show _ = nI ((nmS (sgl j) c).2 + [120, 24, 6, 2, 1, 1].getD c 0 * popN ((nmS (sgl j) c).1 % 2 ^ (sgl j).getD c 0))
        rw [hg]
      rw [e2, e3, nI_1]
      exact ih (c + 1) (by omega)
  exact ai_X2_numberOf (b_X2_numberOf_0 (loop 6 0 rfl))
theorem am_exchanged {k a b : Nat} (hT : TabS w) (h5 : 5 < mm) (hk : k < 720) (ha : a < 6) (hb : b < 6) (hab : a ≠ b) : ∃ w', A_X2_exchanged mm [.ref 0, .int (nI k), .int (nI a), .int (nI b)] w (some (.int (nI (ex k a b))), w') ∧ Fr [5] w w' := by
  have loop : ∀ d c, c + d = 6 → ∀ (w1 : Wd) (l5 : Option Value), Fr [5] w w1 → (∀ i, i < c → wA w1 5 i = nI (sg (ex k a b) i)) → ∃ w', Z_X2_exchanged mm 3 [some (.ref 0), some (.int (nI k)), some (.int (nI a)), some (.int (nI b)), some (.int (nI c)), l5] [] w1 (some (.int (nI (ex k a b))), w') ∧ Fr [5] w w' := by
    intro d
    induction d with
    | zero =>
      intro c hc w1 l5 hF hr
      have hc : c = 6 := by omega
      subst hc
      exact ⟨w1, b_X2_exchanged_3 (fun _ => b_X2_exchanged_54 h5 (am_numberOf rfl (by omega) (ex_lt hk ha hb hab) hr)) (fun h => absurd (show (6 : Int32) ≤ nI 6 from nI_le (a := 6) (by omega) (by omega)) h), hF⟩
    | succ d ih =>
      intro c hc w1 l5 hF hr
      have hT1 : TabS w1 := fun k hk c hc => by
        show w1.2.2.2 1 _ = _
        rw [hF.2.2.2 1 (by decide)]
        exact hT k hk c hc
      have main : ∀ f, f < 6 → f = (if c = a then b else if c = b then a else c) → ∃ w', Z_X2_exchanged mm 32 [some (.ref 0), some (.int (nI k)), some (.int (nI a)), some (.int (nI b)), some (.int (nI c)), l5] [.int (nI f)] w1 (some (.int (nI (ex k a b))), w') ∧ Fr [5] w w' := by
        intro f hf he
        have e1 := sg_ex (c := c) hk ha hb hab
        rw [← he] at e1
        obtain ⟨w', hz, hF'⟩ := ih (c + 1) (by omega) (sA w1 5 (upd (wA w1 5) c (nI (sg k f)))) (some (.int (nI f))) (hF.trans (Fr.sA (by simp))) (fun i hi => by
          show (if (5 : Nat) = 5 then upd (w1.2.2.2 5) c (nI (sg k f)) else w1.2.2.2 5) i = _
          rw [if_pos rfl]
          by_cases hic : i = c
          · subst hic; rw [pk_us, e1]
          · rw [pk_un hic]; exact hr i (by omega))
        refine ⟨w', b_X2_exchanged_32 h5 (am_sign hT1 h5 hk hf) (vp_in_nI (by omega) (by omega)) ?_, hF'⟩
        rw [nI_clamp (by omega), nI_1]
        exact hz
      by_cases h1 : c = a
      · obtain ⟨w', hz, hF'⟩ := main b hb (by rw [if_pos h1])
        exact ⟨w', b_X2_exchanged_3 (fun h => absurd (nle (a := 6) h (by omega) (by omega)) (by omega)) (fun _ => b_X2_exchanged_10 (fun h => absurd (by rw [h1]) h) (fun _ => b_X2_exchanged_16 hz)), hF'⟩
      · by_cases h2 : c = b
        · obtain ⟨w', hz, hF'⟩ := main a ha (by rw [if_neg h1, if_pos h2])
          exact ⟨w', b_X2_exchanged_3 (fun h => absurd (nle (a := 6) h (by omega) (by omega)) (by omega)) (fun _ => b_X2_exchanged_10 (fun _ => b_X2_exchanged_20 (fun h => absurd (by rw [h2]) h) (fun _ => b_X2_exchanged_26 hz)) (fun h => absurd (neq h (by omega) (by omega)) h1)), hF'⟩
        · obtain ⟨w', hz, hF'⟩ := main c (by omega) (by rw [if_neg h1, if_neg h2])
          exact ⟨w', b_X2_exchanged_3 (fun h => absurd (nle (a := 6) h (by omega) (by omega)) (by omega)) (fun _ => b_X2_exchanged_10 (fun _ => b_X2_exchanged_20 (fun _ => b_X2_exchanged_30 hz) (fun h => absurd (neq h (by omega) (by omega)) h2)) (fun h => absurd (neq h (by omega) (by omega)) h1)), hF'⟩
  obtain ⟨w', hz, hF'⟩ := loop 6 0 rfl w none (Fr.refl _ _) (fun i hi => absurd hi (Nat.not_lt_zero _))
  exact ⟨w', ai_X2_exchanged (b_X2_exchanged_0 hz), hF'⟩
end CL
