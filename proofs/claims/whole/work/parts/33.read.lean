-- ===== kinds of five tiles in one number =====
def kn5 (a b c d e : Nat) : Nat := a + 8 * b + 64 * c + 512 * d + 4096 * e
def KV (kn : Nat) : Prop := ∃ a b c d e, a < 5 ∧ b < 5 ∧ c < 5 ∧ d < 5 ∧ e < 5 ∧ kn = kn5 a b c d e
def stK (kn t j : Nat) : Nat := kn5 (if t = 0 then j else kd kn 0) (if t = 1 then j else kd kn 1) (if t = 2 then j else kd kn 2) (if t = 3 then j else kd kn 3) (if t = 4 then j else kd kn 4)
theorem kd_kn5 {a b c d e : Nat} (ha : a < 5) (hb : b < 5) (hc : c < 5) (hd : d < 5) (he : e < 5) : kd (kn5 a b c d e) 0 = a ∧ kd (kn5 a b c d e) 1 = b ∧ kd (kn5 a b c d e) 2 = c ∧ kd (kn5 a b c d e) 3 = d ∧ kd (kn5 a b c d e) 4 = e := by
  unfold kd kn5
  have p0 : (8 : Nat) ^ 0 = 1 := rfl
  have p1 : (8 : Nat) ^ 1 = 8 := rfl
  have p2 : (8 : Nat) ^ 2 = 64 := rfl
  have p3 : (8 : Nat) ^ 3 = 512 := rfl
  have p4 : (8 : Nat) ^ 4 = 4096 := rfl
  rw [p0, p1, p2, p3, p4]
  refine ⟨?_, ?_, ?_, ?_, ?_⟩ <;> split <;> omega
theorem KV.lt {kn : Nat} (h : KV kn) : kn < 32768 := by
  obtain ⟨a, b, c, d, e, h1, h2, h3, h4, h5, rfl⟩ := h
  unfold kn5; omega
theorem KV.st {kn t j : Nat} (hj : j < 5) : KV (stK kn t j) := by
  have h0 := kd_lt kn 0
  have h1 := kd_lt kn 1
  have h2 := kd_lt kn 2
  have h3 := kd_lt kn 3
  have h4 := kd_lt kn 4
  exact ⟨_, _, _, _, _, by split <;> omega, by split <;> omega, by split <;> omega, by split <;> omega, by split <;> omega, rfl⟩
theorem kd_st {kn t j i : Nat} (hj : j < 5) (hi : i < 5) : kd (stK kn t j) i = if i = t then j else kd kn i := by
  have h0 := kd_lt kn 0
  have h1 := kd_lt kn 1
  have h2 := kd_lt kn 2
  have h3 := kd_lt kn 3
  have h4 := kd_lt kn 4
  obtain ⟨e0, e1, e2, e3, e4⟩ := kd_kn5 (a := if t = 0 then j else kd kn 0) (b := if t = 1 then j else kd kn 1) (c := if t = 2 then j else kd kn 2) (d := if t = 3 then j else kd kn 3) (e := if t = 4 then j else kd kn 4) (by split <;> omega) (by split <;> omega) (by split <;> omega) (by split <;> omega) (by split <;> omega)
  unfold stK
  rcases (show i = 0 ∨ i = 1 ∨ i = 2 ∨ i = 3 ∨ i = 4 by omega) with rfl | rfl | rfl | rfl | rfl
  · rw [e0]; by_cases g : t = 0
    · rw [if_pos g, if_pos g.symm]
    · rw [if_neg g, if_neg (fun z => g z.symm)]
  · rw [e1]; by_cases g : t = 1
    · rw [if_pos g, if_pos g.symm]
    · rw [if_neg g, if_neg (fun z => g z.symm)]
  · rw [e2]; by_cases g : t = 2
    · rw [if_pos g, if_pos g.symm]
    · rw [if_neg g, if_neg (fun z => g z.symm)]
  · rw [e3]; by_cases g : t = 3
    · rw [if_pos g, if_pos g.symm]
    · rw [if_neg g, if_neg (fun z => g z.symm)]
  · rw [e4]; by_cases g : t = 4
    · rw [if_pos g, if_pos g.symm]
    · rw [if_neg g, if_neg (fun z => g z.symm)]
def ckK (t j : Nat) : Bool := allN (fun a => allN (fun b => allN (fun c => allN (fun d => allN (fun e => Nat.beq ((kn5 a b c d e &&& (4294967295 - 7 * 8 ^ t)) ||| (j * 8 ^ t)) (kn5 (bif Nat.beq t 0 then j else a) (bif Nat.beq t 1 then j else b) (bif Nat.beq t 2 then j else c) (bif Nat.beq t 3 then j else d) (bif Nat.beq t 4 then j else e))) 5) 5) 5) 5) 5
set_option maxRecDepth 100000 in
theorem ckK_all : allN (fun t => allN (fun j => ckK t j) 5) 5 = true := by decide +kernel
theorem bif_beq {t n a b : Nat} : (bif Nat.beq t n then a else b) = if t = n then a else b := by
  by_cases e : t = n
  · rw [if_pos e, e, show Nat.beq n n = true from Nat.beq_refl n]; rfl
  · rw [if_neg e, nbf e]; rfl
theorem stK_bits {kn t j : Nat} (h : KV kn) (ht : t < 5) (hj : j < 5) : (kn &&& (4294967295 - 7 * 8 ^ t)) ||| (j * 8 ^ t) = stK kn t j := by
  obtain ⟨a, b, c, d, e, h1, h2, h3, h4, h5, rfl⟩ := h
  have q := allN_spec (allN_spec ckK_all t ht) j hj
  have q := allN_spec (allN_spec (allN_spec (allN_spec (allN_spec q a h1) b h2) c h3) d h4) e h5
  have q := Nat.eq_of_beq_eq_true q
  rw [q]
  obtain ⟨e0, e1, e2, e3, e4⟩ := kd_kn5 h1 h2 h3 h4 h5
  unfold stK
  rw [e0, e1, e2, e3, e4]
  simp only [bif_beq]
section RD
variable {w : Wd}
theorem msk_i : ∀ t, t < 5 → ((7 : Int32) <<< ((3 * nI t) &&& 31)) ^^^ (-1) = nI (4294967295 - 7 * 8 ^ t) := by decide +kernel
theorem dig_i : ∀ t, t < 5 → ∀ j, j < 5 → nI j <<< ((3 * nI t) &&& 31) = nI (j * 8 ^ t) := by decide +kernel
theorem am_withKind {kn t j : Nat} (h : KV kn) (ht : t < 5) (hj : j < 5) : A_X5_withKind 35 [.int (nI kn), .int (nI t), .int (nI j)] w (some (.int (nI (stK kn t j))), w) := by
  rw [← stK_bits h ht hj, ← n_or, ← n_and, ← msk_i t ht, ← dig_i t ht j hj]
  exact ai_X5_withKind b_X5_withKind_0
def kpN (pg : List Nat) (t : Nat) : Nat := kn5 (if 0 < t then kLn (atC pg 7) else 0) (if 1 < t then kLn (atC pg 8) else 0) (if 2 < t then kLn (atC pg 9) else 0) (if 3 < t then kLn (atC pg 10) else 0) (if 4 < t then kLn (atC pg 11) else 0)
theorem kpN_KV {pg : List Nat} (hk : ∀ i, i < 5 → kLn (atC pg (7 + i)) < 5) (t : Nat) : KV (kpN pg t) := by
  have h0 := hk 0 (by omega)
  have h1 := hk 1 (by omega)
  have h2 := hk 2 (by omega)
  have h3 := hk 3 (by omega)
  have h4 := hk 4 (by omega)
  simp only [Nat.add_zero] at h0
  exact ⟨_, _, _, _, _, by split <;> omega, by split <;> omega, by split <;> omega, by split <;> omega, by split <;> omega, rfl⟩
theorem kpN_st {pg : List Nat} (hk : ∀ i, i < 5 → kLn (atC pg (7 + i)) < 5) {t : Nat} (ht : t < 5) : stK (kpN pg t) t (kLn (atC pg (7 + t))) = kpN pg (t + 1) := by
  have h0 := hk 0 (by omega)
  have h1 := hk 1 (by omega)
  have h2 := hk 2 (by omega)
  have h3 := hk 3 (by omega)
  have h4 := hk 4 (by omega)
  simp only [Nat.add_zero] at h0
  obtain ⟨e0, e1, e2, e3, e4⟩ := kd_kn5 (a := if 0 < t then kLn (atC pg 7) else 0) (b := if 1 < t then kLn (atC pg 8) else 0) (c := if 2 < t then kLn (atC pg 9) else 0) (d := if 3 < t then kLn (atC pg 10) else 0) (e := if 4 < t then kLn (atC pg 11) else 0) (by split <;> omega) (by split <;> omega) (by split <;> omega) (by split <;> omega) (by split <;> omega)
  unfold stK kpN
  rw [e0, e1, e2, e3, e4]
  rcases (show t = 0 ∨ t = 1 ∨ t = 2 ∨ t = 3 ∨ t = 4 by omega) with rfl | rfl | rfl | rfl | rfl <;> simp
theorem am_readKinds {pg : List Nat} (hR : PgR w pg) (hl : 12 ≤ pg.length) (hk : ∀ i, i < 5 → kLn (atC pg (7 + i)) < 5) : A_X5_readKinds 35 [.ref 19] w (some (.int (nI (kpN pg 5))), w) := by
  have loop : ∀ d t, t + d = 5 → Z_X5_readKinds 35 4 [some (.ref 19), some (.int (nI (kpN pg t))), some (.int (nI t))] [] w (some (.int (nI (kpN pg 5))), w) := by
    intro d
    induction d with
    | zero =>
      intro t ht
      have ht : t = 5 := by omega
      subst ht
      exact b_X5_readKinds_4 (fun _ => b_X5_readKinds_32) (fun h => absurd (show (5 : Int32) ≤ nI 5 from nI_le (a := 5) (by omega) (by omega)) h)
    | succ d ih =>
      intro t ht
      have hc := hR.2.2.2 (7 + t) (by omega)
      have hkt := hk t (by omega)
      have e7 : (7 : Int32) + nI t = nI (7 + t) := nI_add 7 t
      have es : sgnN (kLn (atC pg (7 + t))) = nI (kLn (atC pg (7 + t))) := by unfold sgnN; rw [if_neg (by omega)]
      refine b_X5_readKinds_4 (fun h => absurd (nle (a := 5) h (by omega) (by omega)) (by omega)) (fun _ => b_X5_readKinds_9 (by rw [e7]; exact am_codeAt hR (by omega)) (am_kindByLetter (by omega)) (by rw [es]; exact am_withKind (kpN_KV hk t) (by omega) hkt) ?_)
      rw [kpN_st hk (by omega), nI_1]
      exact ih (t + 1) (by omega)
  exact ai_X5_readKinds (b_X5_readKinds_0 (loop 5 0 rfl))
theorem PgR.fr {T : List Nat} {w w' : Wd} {pg : List Nat} (h : PgR w pg) (f : Fr T w w') (n1 : 19 ∉ T) (n2 : 20 ∉ T) : PgR w' pg := by
  obtain ⟨a, b, c, d⟩ := h
  refine ⟨a, (f.1 19 8 n1).trans b, fun i hi => ?_, d⟩
  show w'.2.2.2 20 i = _
  rw [f.2.2.2 20 n2]
  exact c i hi
theorem am_readLay {pg : List Nat} {a j : Nat} (hR : PgR w pg) (hl : a + 6 ≤ pg.length) (hj : j < 720) (hs : ∀ c, c < 6 → sg j c = sLn (atC pg (a + c))) : ∃ w', A_X5_readLay 35 [.ref 19, .int (nI a)] w (some (.int (nI j)), w') ∧ Fr [21] w w' := by
  have hl2 := hR.1
  have loop : ∀ d c, c + d = 6 → ∀ w1, Fr [21] w w1 → (∀ i, i < c → wA w1 21 i = nI (sg j i)) → ∃ w', Z_X5_readLay 35 2 [some (.ref 19), some (.int (nI a)), some (.int (nI c))] [] w1 (some (.int (nI j)), w') ∧ Fr [21] w w' := by
    intro d
    induction d with
    | zero =>
      intro c hc w1 hF hr
      have hc : c = 6 := by omega
      subst hc
      exact ⟨w1, b_X5_readLay_2 (fun _ => b_X5_readLay_30 (am_numberOf rfl (by omega) hj hr)) (fun h => absurd (show (6 : Int32) ≤ nI 6 from nI_le (a := 6) (by omega) (by omega)) h), hF⟩
    | succ d ih =>
      intro c hc w1 hF hr
      have hR1 := hR.fr hF (by decide) (by decide)
      have hca := hR.2.2.2 (a + c) (by omega)
      have hsg := sg_lt hj (show c < 6 by omega)
      have es : s6 (sLn (atC pg (a + c))) = nI (sg j c) := by
        rw [← hs c (by omega)]
        unfold s6
        rw [if_neg (by omega)]
      obtain ⟨w', hz, hF'⟩ := ih (c + 1) (by omega) (sA w1 21 (upd (wA w1 21) c (nI (sg j c)))) (hF.trans (Fr.sA (by simp))) (fun i hi => by
        rw [wA_sA_s]
        by_cases e : i = c
        · subst e; rw [pk_us]
        · rw [pk_un e]; exact hr i (by omega))
      refine ⟨w', b_X5_readLay_2 (fun h => absurd (nle (a := 6) h (by omega) (by omega)) (by omega)) (fun _ => b_X5_readLay_8 (by rw [nI_add]; exact am_codeAt hR1 (by omega)) (am_signByLetter (by omega)) (vp_in_nI (by omega) (by omega)) ?_), hF'⟩
      rw [es, nI_clamp (by omega), nI_1]
      exact hz
  obtain ⟨w', hz, hF⟩ := loop 6 0 rfl w (Fr.refl _ _) (fun i hi => absurd hi (Nat.not_lt_zero _))
  exact ⟨w', ai_X5_readLay (b_X5_readLay_0 hz), hF⟩
end RD
