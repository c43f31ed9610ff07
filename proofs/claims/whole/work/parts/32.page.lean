-- ===== the page =====
def kLn (c : Nat) : Nat := if c = 116 then 0 else if c = 104 then 1 else if c = 110 then 2 else if c = 115 then 3 else if c = 111 then 4 else 5
def sLn (c : Nat) : Nat := if c = 46 then 5 else if 48 ≤ c ∧ c ≤ 52 then c - 48 else 6
def s6 (v : Nat) : Int32 := if v = 6 then -1 else nI v
theorem kLet_eq : ∀ j, j < 5 → kLet j = nI ([116, 104, 110, 115, 111].getD j 0) := by decide
theorem kLn_le (c : Nat) : kLn c ≤ 5 := by unfold kLn; repeat' split
                                           all_goals omega
theorem sLn_le (c : Nat) : sLn c ≤ 6 := by unfold sLn; repeat' split
                                           all_goals omega
def atC (pg : List Nat) (k : Nat) : Nat := pg.getD k 0
def oldG (pg : List Nat) (c from_ : Nat) : Nat → Bool
  | 0 => false
  | d + 1 => oldG pg c from_ d || atC pg (from_ + d) == c
def newA (pg : List Nat) (from_ p : Nat) : Bool := sLn (atC pg p) != 6 && !oldG pg (atC pg p) from_ (p - from_)
def fitA (pg : List Nat) (p : Nat) : Bool := if 19 ≤ p then false else if 13 ≤ p then newA pg 13 p else if p < 6 then newA pg 0 p else if p = 6 ∨ p = 12 then atC pg p == 59 else kLn (atC pg p) != 5
def fwF (pg : List Nat) : Nat → Nat → Nat
  | 0, i => i
  | f + 1, i => if fitA pg i then fwF pg f (i + 1) else i
def fwN (pg : List Nat) : Nat := fwF pg 19 0
theorem oldG_t {pg : List Nat} {c a : Nat} : ∀ {d : Nat}, oldG pg c a d = true → ∃ i, i < d ∧ atC pg (a + i) = c
  | 0, h => by simp [oldG] at h
  | d + 1, h => by
    simp only [oldG, Bool.or_eq_true, beq_iff_eq] at h
    rcases h with h | h
    · obtain ⟨i, h1, h2⟩ := oldG_t h; exact ⟨i, by omega, h2⟩
    · exact ⟨d, by omega, h⟩
theorem oldG_f {pg : List Nat} {c a : Nat} : ∀ {d : Nat}, oldG pg c a d = false → ∀ i, i < d → atC pg (a + i) ≠ c
  | 0, _, i, hi => by omega
  | d + 1, h, i, hi => by
    simp only [oldG, Bool.or_eq_false_iff] at h
    by_cases e : i = d
    · subst e; simpa using h.2
    · exact oldG_f h.1 i (by omega)
theorem oldG_in {pg : List Nat} {c a : Nat} : ∀ {d i : Nat}, i < d → atC pg (a + i) = c → oldG pg c a d = true
  | d + 1, i, hi, he => by
    simp only [oldG, Bool.or_eq_true, beq_iff_eq]
    by_cases e : i = d
    · subst e; exact Or.inr he
    · exact Or.inl (oldG_in (by omega) he)
theorem fitA_end {pg : List Nat} {p : Nat} (h : atC pg p = 0) : fitA pg p = false := by
  unfold fitA newA
  rw [h]
  have : sLn 0 = 6 := by decide
  have k5 : kLn 0 = 5 := by decide
  simp [this, k5]
def PgR (w : Wd) (pg : List Nat) : Prop := pg.length ≤ 22 ∧ wI w 19 8 = nI pg.length ∧ (∀ i, i < pg.length → wA w 20 i = nI (atC pg i)) ∧ ∀ i, i < pg.length → 32 ≤ atC pg i ∧ atC pg i ≤ 126
theorem atC_end {pg : List Nat} {i : Nat} (h : pg.length ≤ i) : atC pg i = 0 := by
  unfold atC
  rw [List.getD_eq_getElem?_getD, List.getElem?_eq_none h]
  rfl
section PG
variable {w : Wd}
theorem am_kindByLetter {c : Nat} (hc : c < 1000) : A_X5_kindByLetter 35 [.int (nI c)] w (some (.int (sgnN (kLn c))), w) := by
  have e5 : ∀ j, j < 5 → sgnN j = nI j := fun j hj => by unfold sgnN; rw [if_neg (by omega)]
  have kf : ∀ j, j < 5 → [116, 104, 110, 115, 111].getD j 0 < 1000 := by decide
  have hit : ∀ j, j < 5 → [116, 104, 110, 115, 111].getD j 0 = c → kLn c = j := by
    intro j hj he
    subst he
    revert j
    decide
  have loop : ∀ d j, j + d = 5 → (∀ i, i < j → [116, 104, 110, 115, 111].getD i 0 ≠ c) → Z_X5_kindByLetter 35 2 [some (.int (nI c)), some (.int (nI j))] [] w (some (.int (sgnN (kLn c))), w) := by
    intro d
    induction d with
    | zero =>
      intro j hj hn
      have hj : j = 5 := by omega
      subst hj
      have h0 := hn 0 (by omega)
      have h1 := hn 1 (by omega)
      have h2 := hn 2 (by omega)
      have h3 := hn 3 (by omega)
      have h4 := hn 4 (by omega)
      have : kLn c = 5 := by
        simp at h0 h1 h2 h3 h4
        unfold kLn
        rw [if_neg (fun e => h0 e.symm), if_neg (fun e => h1 e.symm), if_neg (fun e => h2 e.symm), if_neg (fun e => h3 e.symm), if_neg (fun e => h4 e.symm)]
      rw [this]
      exact b_X5_kindByLetter_2 (fun _ => b_X5_kindByLetter_30) (fun h => absurd (show (5 : Int32) ≤ nI 5 from nI_le (a := 5) (by omega) (by omega)) h)
    | succ d ih =>
      intro j hj hn
      refine b_X5_kindByLetter_2 (fun h => absurd (nle (a := 5) h (by omega) (by omega)) (by omega)) (fun _ => b_X5_kindByLetter_10 rfl (by omega) (fun h => b_X5_kindByLetter_24 ?_) (fun h => ?_))
      · rw [nI_1]
        refine ih (j + 1) (by omega) (fun i hi => ?_)
        by_cases e : i = j
        · subst e
          intro e2
          apply h
          rw [kLet_eq i (by omega), e2]
        · exact hn i (by omega)
      · rw [kLet_eq j (by omega)] at h
        have h2 := neq h (by have := kf j (by omega); omega) (by omega)
        rw [hit j (by omega) h2, e5 j (by omega)]
        exact b_X5_kindByLetter_22
  exact ai_X5_kindByLetter (b_X5_kindByLetter_0 (loop 5 0 rfl (fun i hi => absurd hi (Nat.not_lt_zero _))))
theorem am_signByLetter {c : Nat} (hc : c < 1000) : A_X5_signByLetter 35 [.int (nI c)] w (some (.int (s6 (sLn c))), w) := by
  refine ai_X5_signByLetter (b_X5_signByLetter_0 (fun h => b_X5_signByLetter_8 (am_isWithin _ _ _) (fun h2 => ?_) (fun h2 => ?_)) (fun h => ?_))
  · have h46 : ¬ c = 46 := fun e => h (by rw [e]; rfl)
    have hr : ¬ (48 ≤ c ∧ c ≤ 52) := by
      intro ⟨a, b⟩
      have := bz_0.mp h2
      simp only [decide_eq_false_iff_not] at this
      exact this ⟨nI_le (a := 48) a (by omega), nI_le (b := 52) b (by omega)⟩
    have : sLn c = 6 := by unfold sLn; rw [if_neg h46, if_neg hr]
    rw [this]
    exact b_X5_signByLetter_26 b_X5_signByLetter_27
  · have h46 : ¬ c = 46 := fun e => h (by rw [e]; rfl)
    have hr : 48 ≤ c ∧ c ≤ 52 := by
      have h3 : ¬ decide ((48 : Int32) ≤ nI c ∧ nI c ≤ 52) = false := fun e => h2 (bz_0.mpr e)
      simp only [decide_eq_false_iff_not, Decidable.not_not] at h3
      exact ⟨nle (a := 48) h3.1 (by omega) (by omega), nle (b := 52) h3.2 (by omega) (by omega)⟩
    have e1 : sLn c = c - 48 := by unfold sLn; rw [if_neg h46, if_pos hr]
    have e2 : s6 (sLn c) = nI c - 48 := by
      rw [e1]
      unfold s6
      rw [if_neg (by omega)]
      exact (pk_sub (b := 48) hr.1).symm
    rw [e2]
    exact b_X5_signByLetter_19 b_X5_signByLetter_27
  · have h46 : c = 46 := neq (b := 46) h (by omega) (by omega)
    subst h46
    exact b_X5_signByLetter_6
theorem am_codeAt {pg : List Nat} {i : Nat} (hR : PgR w pg) (hi : i < pg.length) : A_X5_codeAt 35 [.ref 19, .int (nI i)] w (some (.int (nI (atC pg i))), w) := by
  have hl := hR.1
  have h1 : bz (decide ((0 : Int32) ≤ nI i ∧ nI i ≤ 21)) = 1 := by
    have a : (0 : Int32) ≤ nI i := nI_pos' (by omega)
    have b : nI i ≤ 21 := nI_le (b := 21) (by omega) (by omega)
    simp [bz, a, b]
  refine ai_X5_codeAt (b_X5_codeAt_0 (am_isWithin _ _ _) (fun h => absurd (h1.symm.trans h) (by decide)) (fun _ => b_X5_codeAt_10 (vp_in_nI (by omega) (by omega)) ?_))
  rw [nI_clamp (by omega), hR.2.2.1 i hi]
  exact b_X5_codeAt_20
theorem s6_m1 {v : Nat} (h : v ≤ 6) : s6 v = -1 ↔ v = 6 := by
  unfold s6
  by_cases e : v = 6
  · simp [e]
  · rw [if_neg e]; exact ⟨fun g => absurd g (nI_m1 (by omega)), fun g => absurd g e⟩
theorem am_isNewSign {pg : List Nat} {a p : Nat} (hR : PgR w pg) (hp : p < pg.length) (ha : a ≤ p) : A_X5_isNewSign 35 [.ref 19, .int (nI a), .int (nI p)] w (some (.int (bz (newA pg a p))), w) := by
  have hl := hR.1
  have hc := hR.2.2.2 p hp
  have hsl := sLn_le (atC pg p)
  have loop : ∀ d i, i + d = p - a → oldG pg (atC pg p) a i = false → sLn (atC pg p) ≠ 6 → Z_X5_isNewSign 35 19 [some (.ref 19), some (.int (nI a)), some (.int (nI p)), some (.int (nI (atC pg p))), some (.int (nI (a + i)))] [] w (some (.int (bz (newA pg a p))), w) := by
    intro d
    induction d with
    | zero =>
      intro i hi ho hs
      have hi : a + i = p := by omega
      rw [hi]
      have hv : newA pg a p = true := by
        unfold newA
        rw [show p - a = i by omega, ho]
        simp [hs]
      rw [hv]
      exact b_X5_isNewSign_19 (fun _ => b_X5_isNewSign_43) (fun h => absurd (nI_le (Nat.le_refl p) (by omega)) h)
    | succ d ih =>
      intro i hi ho hs
      have hci := hR.2.2.2 (a + i) (by omega)
      refine b_X5_isNewSign_19 (fun h => absurd (nle h (by omega) (by omega)) (by omega)) (fun _ => b_X5_isNewSign_25 (am_codeAt hR (by omega)) (fun h => b_X5_isNewSign_37 ?_) (fun h => ?_))
      · rw [nI_1]
        refine ih (i + 1) (by omega) ?_ hs
        have hne : ¬ atC pg (a + i) = atC pg p := fun e => h (by rw [e])
        simp [oldG, ho, hne]
      · have he : atC pg (a + i) = atC pg p := neq h (by omega) (by omega)
        have hv : newA pg a p = false := by
          unfold newA
          rw [oldG_in (i := i) (by omega) he]
          simp
        rw [hv]
        exact b_X5_isNewSign_35
  refine ai_X5_isNewSign (b_X5_isNewSign_0 (am_codeAt hR hp) (am_signByLetter (by omega)) (fun h => ?_) (fun h => ?_))
  · have hs : sLn (atC pg p) ≠ 6 := fun e => h ((s6_m1 hsl).mpr e)
    exact b_X5_isNewSign_16 (loop (p - a) 0 (by omega) rfl hs)
  · have hs := (s6_m1 hsl).mp h
    have hv : newA pg a p = false := by unfold newA; rw [hs]; simp
    rw [hv]
    exact b_X5_isNewSign_14
theorem am_fits {pg : List Nat} {p : Nat} (hR : PgR w pg) (hp : p < pg.length) : A_X5_fits 35 [.ref 19, .int (nI p)] w (some (.int (bz (fitA pg p))), w) := by
  have hl := hR.1
  have hc := hR.2.2.2 p hp
  have hk := kLn_le (atC pg p)
  refine ai_X5_fits (b_X5_fits_0 (fun h => ?_) (fun h => ?_))
  · have h19 : p < 19 := nlt (b := 19) h (by omega) (by omega)
    refine b_X5_fits_8 (fun h2 => ?_) (fun h2 => ?_)
    · have h13 : p < 13 := nlt (b := 13) h2 (by omega) (by omega)
      refine b_X5_fits_22 (fun h3 => ?_) (fun h3 => ?_)
      · have h6 : 6 ≤ p := nle (a := 6) h3 (by omega) (by omega)
        have semi : ∀ (_ : p = 6 ∨ p = 12), Z_X5_fits 35 53 [some (.ref 19), some (.int (nI p)), some (.int (nI (atC pg p)))] [] w (some (.int (bz (fitA pg p))), w) := by
          intro hs
          have e : fitA pg p = (atC pg p == 59) := by unfold fitA; rw [if_neg (by omega), if_neg (by omega), if_neg (by omega), if_pos hs]
          rw [e]
          refine b_X5_fits_53 (fun h4 => ?_) (fun h4 => ?_)
          · have : (atC pg p == 59) = false := by simpa using fun e : atC pg p = 59 => h4 (by rw [e]; rfl)
            rw [this]
            exact b_X5_fits_63 (b_X5_fits_64 (Or.inl rfl))
          · have : (atC pg p == 59) = true := by simpa using neq (b := 59) h4 (by omega) (by omega)
            rw [this]
            exact b_X5_fits_59 (b_X5_fits_64 (Or.inr rfl))
        refine b_X5_fits_35 (am_codeAt hR hp) (fun h4 => semi (Or.inl (neq (b := 6) h4 (by omega) (by omega)))) (fun h4 => b_X5_fits_47 (fun h5 => ?_) (fun h5 => semi (Or.inr (neq (b := 12) h5 (by omega) (by omega)))))
        have n6 : ¬ p = 6 := fun e => h4 (by rw [e]; rfl)
        have n12 : ¬ p = 12 := fun e => h5 (by rw [e]; rfl)
        have e : fitA pg p = (kLn (atC pg p) != 5) := by unfold fitA; rw [if_neg (by omega), if_neg (by omega), if_neg (by omega), if_neg (by omega)]
        rw [e]
        refine b_X5_fits_65 (am_kindByLetter (by omega)) (fun h6 => ?_) (fun h6 => ?_)
        · have : kLn (atC pg p) = 5 := by
            unfold sgnN at h6
            by_cases g : kLn (atC pg p) = 5
            · exact g
            · rw [if_neg g] at h6; exact absurd h6 (nI_m1 (by omega))
          rw [this]
          exact b_X5_fits_77 (b_X5_fits_78 (Or.inl rfl))
        · have : (kLn (atC pg p) != 5) = true := by simpa using fun e : kLn (atC pg p) = 5 => h6 (by rw [e]; rfl)
          rw [this]
          exact b_X5_fits_73 (b_X5_fits_78 (Or.inr rfl))
      · have h6 : p < 6 := Nat.lt_of_not_le (fun q => h3 (nI_le (a := 6) q (by omega)))
        have e : fitA pg p = newA pg 0 p := by unfold fitA; rw [if_neg (by omega), if_neg (by omega), if_pos h6]
        rw [e]
        exact b_X5_fits_28 (am_isNewSign (a := 0) hR hp (by omega)) (bz_or _)
    · have h13 : 13 ≤ p := Nat.le_of_not_lt (fun q => h2 (nI_lt (b := 13) q (by omega)))
      have e : fitA pg p = newA pg 13 p := by unfold fitA; rw [if_neg (by omega), if_pos h13]
      rw [e]
      exact b_X5_fits_14 (am_isNewSign (a := 13) hR hp (by omega)) (bz_or _)
  · have h19 : 19 ≤ p := Nat.le_of_not_lt (fun q => h (nI_lt (b := 19) q (by omega)))
    have e : fitA pg p = false := by unfold fitA; rw [if_pos h19]
    rw [e]
    exact b_X5_fits_6
theorem am_firstWrongPlace {pg : List Nat} (hR : PgR w pg) : A_X5_firstWrongPlace 35 [.ref 19] w (some (.int (nI (fwN pg))), w) := by
  have hl := hR.1
  have loop : ∀ f i, i + f = 19 → i ≤ pg.length → Z_X5_firstWrongPlace 35 2 [some (.ref 19), some (.int (nI i))] [] w (some (.int (nI (fwF pg f i))), w) := by
    intro f
    induction f with
    | zero =>
      intro i hi hle
      by_cases e : i = pg.length
      · refine b_X5_firstWrongPlace_2 (fun _ => ?_) (fun h => absurd (by rw [hR.2.1, e]; exact nI_le (Nat.le_refl _) (by omega)) h)
        show Z_X5_firstWrongPlace 35 26 _ _ w (some (.int (nI i)), w)
        rw [e, ← hR.2.1]
        exact b_X5_firstWrongPlace_26
      · refine b_X5_firstWrongPlace_2 (fun h => absurd (nle (by rw [hR.2.1] at h; exact h) (by omega) (by omega)) (by omega)) (fun _ => b_X5_firstWrongPlace_10 (am_fits hR (by omega)) (fun h => ?_) (fun _ => b_X5_firstWrongPlace_18))
        have : fitA pg i = false := by unfold fitA; rw [if_pos (by omega)]
        rw [this] at h
        exact absurd rfl h
    | succ f ih =>
      intro i hi hle
      by_cases e : i = pg.length
      · have hz : fitA pg i = false := fitA_end (atC_end (by omega))
        have : fwF pg (f + 1) i = i := by show (if fitA pg i then _ else _) = _; rw [hz]; rfl
        rw [this]
        refine b_X5_firstWrongPlace_2 (fun _ => ?_) (fun h => absurd (by rw [hR.2.1, e]; exact nI_le (Nat.le_refl _) (by omega)) h)
        have e9 : nI i = wI w 19 8 := by rw [e, hR.2.1]
        have := @b_X5_firstWrongPlace_26 (nI i) w
        rw [← e9] at this
        exact this
      · refine b_X5_firstWrongPlace_2 (fun h => absurd (nle (by rw [hR.2.1] at h; exact h) (by omega) (by omega)) (by omega)) (fun _ => b_X5_firstWrongPlace_10 (am_fits hR (by omega)) (fun h => b_X5_firstWrongPlace_20 ?_) (fun h => ?_))
        · have hf : fitA pg i = true := by
            cases g : fitA pg i with
            | true => rfl
            | false => rw [g] at h; exact absurd rfl h
          have : fwF pg (f + 1) i = fwF pg f (i + 1) := by show (if fitA pg i then _ else _) = _; rw [hf]; rfl
          rw [this, nI_1]
          exact ih (i + 1) (by omega) (by omega)
        · have hf := bz_0.mp h
          have : fwF pg (f + 1) i = i := by show (if fitA pg i then _ else _) = _; rw [hf]; rfl
          rw [this]
          exact b_X5_firstWrongPlace_18
  exact ai_X5_firstWrongPlace (b_X5_firstWrongPlace_0 (loop 19 0 rfl (Nat.zero_le _)))
end PG
theorem fwF_spec (pg : List Nat) : ∀ f i, i + f = 19 → fwF pg f i = 19 → ∀ p, i ≤ p → p < 19 → fitA pg p = true := by
  intro f
  induction f with
  | zero => intro i hi h p h1 h2; omega
  | succ f ih =>
    intro i hi h p h1 h2
    unfold fwF at h
    by_cases g : fitA pg i = true
    · rw [g] at h
      by_cases e : p = i
      · subst e; exact g
      · exact ih (i + 1) (by omega) h p (by omega) h2
    · rw [if_neg g] at h; omega
theorem fwN_le (pg : List Nat) : fwN pg ≤ 19 := by
  have : ∀ f i, i + f = 19 → fwF pg f i ≤ 19 := by
    intro f
    induction f with
    | zero => intro i hi; show i ≤ 19; omega
    | succ f ih =>
      intro i hi
      unfold fwF
      split
      · exact ih (i + 1) (by omega)
      · omega
  exact this 19 0 rfl
theorem sLn_inj {c d : Nat} (h : sLn c = sLn d) (h6 : sLn c ≠ 6) : c = d := by
  unfold sLn at h h6
  repeat' split at h
  all_goals (repeat' split at h6)
  all_goals omega
/-- six good signs from a place on: a lay -/
theorem read_lay {pg : List Nat} {a : Nat} (h : ∀ c, c < 6 → newA pg a (a + c) = true) : ∃ j, j < 720 ∧ ∀ c, c < 6 → sg j c = sLn (atC pg (a + c)) := by
  have hs : ∀ c, c < 6 → sLn (atC pg (a + c)) ≠ 6 ∧ oldG pg (atC pg (a + c)) a (a + c - a) = false := by
    intro c hc
    have := h c hc
    unfold newA at this
    simpa using this
  obtain ⟨j, h1, -, h3⟩ := perm_lay (p := fun c => sLn (atC pg (a + c))) (fun c hc => by have := (hs c hc).1; have := sLn_le (atC pg (a + c)); show sLn (atC pg (a + c)) < 6; omega) (fun c d hc hd he => by
    have he : sLn (atC pg (a + c)) = sLn (atC pg (a + d)) := he
    have e := sLn_inj he (hs c hc).1
    rcases Nat.lt_trichotomy c d with g | g | g
    · exact absurd e (oldG_f (hs d hd).2 c (by omega))
    · exact g
    · exact absurd e.symm (oldG_f (hs c hc).2 d (by omega)))
  exact ⟨j, h1, h3⟩
