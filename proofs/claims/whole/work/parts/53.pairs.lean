-- ===== both sides together =====
def SgOK (s : Sg) (n : Nat) : Prop := gT s ≤ n ∧ ∀ u, gI s = some u → gT s ≠ 0
def RR (w : Wd) (s : Sg) (n : Nat) : Prop := RepC w s ∧ RepM w s ∧ SgOK s n
theorem SgOK.keep {s s' : Sg} {n : Nat} (h : SgOK s n) (e : gT s' = gT s ∧ gI s' = gI s) : SgOK s' (n + 1) := by
  refine ⟨by rw [e.1]; exact Nat.le_succ_of_le h.1, fun u hu => ?_⟩
  rw [e.1]
  rw [e.2] at hu
  exact h.2 u hu
theorem RR.m1 {w w1 : Wd} {s : Sg} {n : Nat} (h : RR w s n) (f : Fr CL w w1) : RepM w1 s := h.2.1.fr f (by decide)
theorem RR.fin {w1 w2 : Wd} {s : Sg} {n : Nat} (hC : RepC w1 s) (f : Fr ML w1 w2) (hM : RepM w2 s) (hs : SgOK s n) : RR w2 s n := ⟨hC.frM f (by decide), hM, hs⟩
theorem RR.b {w : Wd} {s : Sg} {n : Nat} (h : RR w s n) (hn : n < 1000000) : gT s < 1000000 := Nat.lt_of_le_of_lt h.2.2.1 hn
section PRS
variable {w : Wd} {s : Sg} {n : Nat}
theorem sk_letter (s : Sg) (x : Int32) : gT (rLetter s x).2 = gT s ∧ gI (rLetter s x).2 = gI s := by
  unfold rLetter; repeat' split
  all_goals exact ⟨rfl, rfl⟩
theorem sk_blank (s : Sg) : gT (rBlank s).2 = gT s ∧ gI (rBlank s).2 = gI s := ⟨rfl, rfl⟩
theorem sk_push (s : Sg) (x : Int32) : gT (rPush s x).2 = gT s ∧ gI (rPush s x).2 = gI s := by
  unfold rPush; repeat' split
  all_goals exact ⟨rfl, rfl⟩
theorem sk_exchange (s : Sg) (x y : Int32) : gT (rEx s x y).2 = gT s ∧ gI (rEx s x y).2 = gI s := by
  unfold rEx; repeat' split
  all_goals exact ⟨rfl, rfl⟩
theorem sk_aim (s : Sg) (x y : Int32) : gT (rAim s x y).2 = gT s ∧ gI (rAim s x y).2 = gI s := by
  unfold rAim; repeat' split
  all_goals exact ⟨rfl, rfl⟩
theorem sk_recast (s : Sg) (x y : Int32) : gT (rRec s x y).2 = gT s ∧ gI (rRec s x y).2 = gI s := by
  unfold rRec; repeat' split
  all_goals exact ⟨rfl, rfl⟩
theorem sk_cheap (s : Sg) (x : Int32) : gT (rCheap s x).2 = gT s ∧ gI (rCheap s x).2 = gI s := by
  unfold rCheap; repeat' split
  all_goals exact ⟨rfl, rfl⟩
theorem sk_see (s : Sg) (x y z : Int32) : gT (rSee s x y z).2 = gT s ∧ gI (rSee s x y z).2 = gI s := by
  unfold rSee; repeat' split
  all_goals exact ⟨rfl, rfl⟩
theorem sk_forget (s : Sg) : gT (rForget s).2 = gT s ∧ gI (rForget s).2 = gI s := by
  unfold rForget; repeat' split
  all_goals exact ⟨rfl, rfl⟩
theorem sk_restore (s : Sg) : gT (rRest s).2 = gT s ∧ gI (rRest s).2 = gI s := by
  unfold rRest; repeat' split
  all_goals exact ⟨rfl, rfl⟩
theorem sg_tray (h : SgOK s n) : SgOK (rTray s).2 (n + 1) := by
  unfold rTray; split
  · exact ⟨Nat.succ_le_succ h.1, fun u hu => by cases hu⟩
  · exact h.keep ⟨rfl, rfl⟩
theorem sg_image (h : RR w s n) : SgOK (rImage s).2 (n + 1) := by
  have h5 := h.2.1.2.2.2.2.1
  unfold rImage
  cases hc : gC s with
  | none => exact h.2.2.keep ⟨rfl, rfl⟩
  | some u =>
    rw [hc] at h5
    exact ⟨Nat.le_succ_of_le h.2.2.1, fun _ _ => h5.1⟩
theorem pr_letter (h : RR w s n) (hn : n < 1000000) (x : Int32) : ∃ (w1 w2 : Wd) (s2 : Sg), A_X5_letter 35 [.ref 19, .int x] w (some (.int (rLetter s x).1), w1) ∧ A_X6_letter 35 [.ref 22, .int x] w1 (some (.int (rLetter s x).1), w2) ∧ RR w2 s2 (n + 1) := by
  obtain ⟨w1, a1, f1, c1⟩ := am_letter h.1 x
  obtain ⟨w2, a2, f2, m2⟩ := am_m_letter (h.m1 f1) x
  exact ⟨w1, w2, (rLetter s x).2, a1, a2, RR.fin c1 f2 m2 (h.2.2.keep (sk_letter s x))⟩
theorem pr_blank (h : RR w s n) (hn : n < 1000000) : ∃ (w1 w2 : Wd) (s2 : Sg), A_X5_blank 35 [.ref 19] w (some (.int (rBlank s).1), w1) ∧ A_X6_blank 35 [.ref 22] w1 (some (.int (rBlank s).1), w2) ∧ RR w2 s2 (n + 1) := by
  obtain ⟨w1, a1, f1, c1⟩ := am_blank h.1
  obtain ⟨w2, a2, f2, m2⟩ := am_m_blank (h.m1 f1)
  exact ⟨w1, w2, (rBlank s).2, a1, a2, RR.fin c1 f2 m2 (h.2.2.keep (sk_blank s))⟩
theorem pr_fault (h : RR w s n) (hn : n < 1000000) : ∃ (w1 w2 : Wd) (s2 : Sg), A_X5_fault 35 [.ref 19] w (some (.int (rFault s)), w1) ∧ A_X6_fault 35 [.ref 22] w1 (some (.int (rFault s)), w2) ∧ RR w2 s2 (n + 1) := by
  obtain ⟨w2, a2, f2, m2⟩ := am_m_fault h.2.1
  exact ⟨w, w2, s, am_fault h.1, a2, RR.fin h.1 f2 m2 (h.2.2.keep ⟨rfl, rfl⟩)⟩
theorem pr_tray (h : RR w s n) (hn : n < 1000000) : ∃ (w1 w2 : Wd) (s2 : Sg), A_X5_tray 35 [.ref 19] w (some (.int (rTray s).1), w1) ∧ A_X6_tray 35 [.ref 22] w1 (some (.int (rTray s).1), w2) ∧ RR w2 s2 (n + 1) := by
  obtain ⟨w1, a1, f1, c1⟩ := am_tray h.1
  obtain ⟨w2, a2, f2, m2⟩ := am_m_tray (h.m1 f1) (h.b hn)
  exact ⟨w1, w2, (rTray s).2, a1, a2, RR.fin c1 f2 m2 (sg_tray h.2.2)⟩
theorem pr_tile (h : RR w s n) (hn : n < 1000000) (x y : Int32) : ∃ (w1 w2 : Wd) (s2 : Sg), A_X5_tile 35 [.ref 19, .int x, .int y] w (some (.int (rTile s x y)), w1) ∧ A_X6_tile 35 [.ref 22, .int x, .int y] w1 (some (.int (rTile s x y)), w2) ∧ RR w2 s2 (n + 1) := by
  obtain ⟨w1, a1, f1, c1⟩ := am_tile h.1 x y
  obtain ⟨w2, a2, f2, m2⟩ := am_m_tile (h.m1 f1) (h.b hn) x y
  exact ⟨w1, w2, s, a1, a2, RR.fin c1 f2 m2 (h.2.2.keep ⟨rfl, rfl⟩)⟩
theorem pr_as (h : RR w s n) (hn : n < 1000000) (x y : Int32) : ∃ (w1 w2 : Wd) (s2 : Sg), A_X5_as 35 [.ref 19, .int x, .int y] w (some (.int (rAs s x y)), w1) ∧ A_X6_as 35 [.ref 22, .int x, .int y] w1 (some (.int (rAs s x y)), w2) ∧ RR w2 s2 (n + 1) := by
  exact ⟨w, w, s, am_as h.1 x y, am_m_as h.2.1 (h.b hn) x y, RR.fin h.1 (Fr.refl _ _) h.2.1 (h.2.2.keep ⟨rfl, rfl⟩)⟩
theorem pr_cell (h : RR w s n) (hn : n < 1000000) (x y : Int32) : ∃ (w1 w2 : Wd) (s2 : Sg), A_X5_cell 35 [.ref 19, .int x, .int y] w (some (.int (rCell s x y)), w1) ∧ A_X6_cell 35 [.ref 22, .int x, .int y] w1 (some (.int (rCell s x y)), w2) ∧ RR w2 s2 (n + 1) := by
  exact ⟨w, w, s, am_cell h.1 x y, am_m_cell h.2.1 (h.b hn) x y, RR.fin h.1 (Fr.refl _ _) h.2.1 (h.2.2.keep ⟨rfl, rfl⟩)⟩
theorem pr_push (h : RR w s n) (hn : n < 1000000) (x : Int32) : ∃ (w1 w2 : Wd) (s2 : Sg), A_X5_push 35 [.ref 19, .int x] w (some (.int (rPush s x).1), w1) ∧ A_X6_push 35 [.ref 22, .int x] w1 (some (.int (rPush s x).1), w2) ∧ RR w2 s2 (n + 1) := by
  obtain ⟨w1, a1, f1, c1⟩ := am_push h.1 x
  obtain ⟨w2, a2, f2, m2⟩ := am_m_push (h.m1 f1) (h.b hn) x
  exact ⟨w1, w2, (rPush s x).2, a1, a2, RR.fin c1 f2 m2 (h.2.2.keep (sk_push s x))⟩
theorem pr_exchange (h : RR w s n) (hn : n < 1000000) (x y : Int32) : ∃ (w1 w2 : Wd) (s2 : Sg), A_X5_exchange 35 [.ref 19, .int x, .int y] w (some (.int (rEx s x y).1), w1) ∧ A_X6_exchange 35 [.ref 22, .int x, .int y] w1 (some (.int (rEx s x y).1), w2) ∧ RR w2 s2 (n + 1) := by
  obtain ⟨w1, a1, f1, c1⟩ := am_exchange h.1 x y
  obtain ⟨w2, a2, f2, m2⟩ := am_m_exchange (h.m1 f1) (h.b hn) x y
  exact ⟨w1, w2, (rEx s x y).2, a1, a2, RR.fin c1 f2 m2 (h.2.2.keep (sk_exchange s x y))⟩
theorem pr_aim (h : RR w s n) (hn : n < 1000000) (x y : Int32) : ∃ (w1 w2 : Wd) (s2 : Sg), A_X5_aim 35 [.ref 19, .int x, .int y] w (some (.int (rAim s x y).1), w1) ∧ A_X6_aim 35 [.ref 22, .int x, .int y] w1 (some (.int (rAim s x y).1), w2) ∧ RR w2 s2 (n + 1) := by
  obtain ⟨w1, a1, f1, c1⟩ := am_aim h.1 x y
  obtain ⟨w2, a2, f2, m2⟩ := am_m_aim (h.m1 f1) (h.b hn) x y
  exact ⟨w1, w2, (rAim s x y).2, a1, a2, RR.fin c1 f2 m2 (h.2.2.keep (sk_aim s x y))⟩
theorem pr_recast (h : RR w s n) (hn : n < 1000000) (x y : Int32) : ∃ (w1 w2 : Wd) (s2 : Sg), A_X5_recast 35 [.ref 19, .int x, .int y] w (some (.int (rRec s x y).1), w1) ∧ A_X6_recast 35 [.ref 22, .int x, .int y] w1 (some (.int (rRec s x y).1), w2) ∧ RR w2 s2 (n + 1) := by
  obtain ⟨w1, a1, f1, c1⟩ := am_recast h.1 x y
  obtain ⟨w2, a2, f2, m2⟩ := am_m_recast (h.m1 f1) (h.b hn) x y
  exact ⟨w1, w2, (rRec s x y).2, a1, a2, RR.fin c1 f2 m2 (h.2.2.keep (sk_recast s x y))⟩
theorem pr_least (h : RR w s n) (hn : n < 1000000) (x : Int32) : ∃ (w1 w2 : Wd) (s2 : Sg), A_X5_least 35 [.ref 19, .int x] w (some (.int (rLeast s x)), w1) ∧ A_X6_least 35 [.ref 22, .int x] w1 (some (.int (rLeast s x)), w2) ∧ RR w2 s2 (n + 1) := by
  obtain ⟨w1, a1, f1, c1⟩ := am_least h.1 x
  obtain ⟨w2, a2, f2, m2⟩ := am_m_least (h.m1 f1) (h.b hn) x
  exact ⟨w1, w2, s, a1, a2, RR.fin c1 f2 m2 (h.2.2.keep ⟨rfl, rfl⟩)⟩
theorem pr_reach (h : RR w s n) (hn : n < 1000000) (x : Int32) : ∃ (w1 w2 : Wd) (s2 : Sg), A_X5_reach 35 [.ref 19, .int x] w (some (.int (rReach s x)), w1) ∧ A_X6_reach 35 [.ref 22, .int x] w1 (some (.int (rReach s x)), w2) ∧ RR w2 s2 (n + 1) := by
  obtain ⟨w1, a1, f1, c1⟩ := am_reach h.1 x
  obtain ⟨w2, a2, f2, m2⟩ := am_m_reach (h.m1 f1) (h.b hn) x
  exact ⟨w1, w2, s, a1, a2, RR.fin c1 f2 m2 (h.2.2.keep ⟨rfl, rfl⟩)⟩
theorem pr_home (h : RR w s n) (hn : n < 1000000) (x y : Int32) : ∃ (w1 w2 : Wd) (s2 : Sg), A_X5_home 35 [.ref 19, .int x, .int y] w (some (.int (rHome s x y)), w1) ∧ A_X6_home 35 [.ref 22, .int x, .int y] w1 (some (.int (rHome s x y)), w2) ∧ RR w2 s2 (n + 1) := by
  obtain ⟨w1, a1, f1, c1⟩ := am_home h.1 x y
  obtain ⟨w2, a2, f2, m2⟩ := am_m_home (h.m1 f1) (h.b hn) x y
  exact ⟨w1, w2, s, a1, a2, RR.fin c1 f2 m2 (h.2.2.keep ⟨rfl, rfl⟩)⟩
theorem pr_swaps (h : RR w s n) (hn : n < 1000000) : ∃ (w1 w2 : Wd) (s2 : Sg), A_X5_swaps 35 [.ref 19] w (some (.int (rSwaps s)), w1) ∧ A_X6_swaps 35 [.ref 22] w1 (some (.int (rSwaps s)), w2) ∧ RR w2 s2 (n + 1) := by
  exact ⟨w, w, s, am_swaps h.1, am_m_swaps h.2.1 (h.b hn), RR.fin h.1 (Fr.refl _ _) h.2.1 (h.2.2.keep ⟨rfl, rfl⟩)⟩
theorem pr_cheap (h : RR w s n) (hn : n < 1000000) (x : Int32) : ∃ (w1 w2 : Wd) (s2 : Sg), A_X5_cheap 35 [.ref 19, .int x] w (some (.int (rCheap s x).1), w1) ∧ A_X6_cheap 35 [.ref 22, .int x] w1 (some (.int (rCheap s x).1), w2) ∧ RR w2 s2 (n + 1) := by
  obtain ⟨w1, a1, f1, c1⟩ := am_cheap h.1 h.2.1.2.2.1 x
  obtain ⟨w2, a2, f2, m2⟩ := am_m_cheap (h.m1 f1) (h.b hn) x
  exact ⟨w1, w2, (rCheap s x).2, a1, a2, RR.fin c1 f2 m2 (h.2.2.keep (sk_cheap s x))⟩
theorem pr_odds (h : RR w s n) (hn : n < 1000000) (x y z v : Int32) : ∃ (w1 w2 : Wd) (s2 : Sg), A_X5_odds 35 [.ref 19, .int x, .int y, .int z, .int v] w (some (.int (rOdds s x y z v)), w1) ∧ A_X6_odds 35 [.ref 22, .int x, .int y, .int z, .int v] w1 (some (.int (rOdds s x y z v)), w2) ∧ RR w2 s2 (n + 1) := by
  obtain ⟨w1, a1, f1, c1⟩ := am_odds h.1 x y z v
  obtain ⟨w2, a2, f2, m2⟩ := am_m_odds (h.m1 f1) (h.b hn) x y z v
  exact ⟨w1, w2, s, a1, a2, RR.fin c1 f2 m2 (h.2.2.keep ⟨rfl, rfl⟩)⟩
theorem pr_see (h : RR w s n) (hn : n < 1000000) (x y z : Int32) : ∃ (w1 w2 : Wd) (s2 : Sg), A_X5_see 35 [.ref 19, .int x, .int y, .int z] w (some (.int (rSee s x y z).1), w1) ∧ A_X6_see 35 [.ref 22, .int x, .int y, .int z] w1 (some (.int (rSee s x y z).1), w2) ∧ RR w2 s2 (n + 1) := by
  obtain ⟨w1, a1, f1, c1⟩ := am_see h.1 x y z
  obtain ⟨w2, a2, f2, m2⟩ := am_m_see (h.m1 f1) (h.b hn) x y z
  exact ⟨w1, w2, (rSee s x y z).2, a1, a2, RR.fin c1 f2 m2 (h.2.2.keep (sk_see s x y z))⟩
theorem pr_forget (h : RR w s n) (hn : n < 1000000) : ∃ (w1 w2 : Wd) (s2 : Sg), A_X5_forget 35 [.ref 19] w (some (.int (rForget s).1), w1) ∧ A_X6_forget 35 [.ref 22] w1 (some (.int (rForget s).1), w2) ∧ RR w2 s2 (n + 1) := by
  obtain ⟨w1, a1, f1, c1⟩ := am_forget h.1
  obtain ⟨w2, a2, f2, m2⟩ := am_m_forget (h.m1 f1) (h.b hn)
  exact ⟨w1, w2, (rForget s).2, a1, a2, RR.fin c1 f2 m2 (h.2.2.keep (sk_forget s))⟩
theorem pr_runs (h : RR w s n) (hn : n < 1000000) (x y z : Int32) : ∃ (w1 w2 : Wd) (s2 : Sg), A_X5_runs 35 [.ref 19, .int x, .int y, .int z] w (some (.int (rRuns s x y z)), w1) ∧ A_X6_runs 35 [.ref 22, .int x, .int y, .int z] w1 (some (.int (rRuns s x y z)), w2) ∧ RR w2 s2 (n + 1) := by
  obtain ⟨w2, a2, f2, m2⟩ := am_m_runs h.2.1 (h.b hn) x y z
  exact ⟨w, w2, s, am_runs h.1 x y z, a2, RR.fin h.1 f2 m2 (h.2.2.keep ⟨rfl, rfl⟩)⟩
theorem pr_image (h : RR w s n) (hn : n < 1000000) : ∃ (w1 w2 : Wd) (s2 : Sg), A_X5_image 35 [.ref 19] w (some (.int (rImage s).1), w1) ∧ A_X6_image 35 [.ref 22] w1 (some (.int (rImage s).1), w2) ∧ RR w2 s2 (n + 1) := by
  obtain ⟨w1, a1, f1, c1⟩ := am_image h.1
  obtain ⟨w2, a2, f2, m2⟩ := am_m_image (h.m1 f1) (h.b hn)
  exact ⟨w1, w2, (rImage s).2, a1, a2, RR.fin c1 f2 m2 (sg_image h)⟩
theorem pr_restore (h : RR w s n) (hn : n < 1000000) : ∃ (w1 w2 : Wd) (s2 : Sg), A_X5_restore 35 [.ref 19] w (some (.int (rRest s).1), w1) ∧ A_X6_restore 35 [.ref 22] w1 (some (.int (rRest s).1), w2) ∧ RR w2 s2 (n + 1) := by
  obtain ⟨w1, a1, f1, c1⟩ := am_restore h.1
  obtain ⟨w2, a2, f2, m2⟩ := am_m_restore (h.m1 f1) (h.b hn) h.2.2.2
  exact ⟨w1, w2, (rRest s).2, a1, a2, RR.fin c1 f2 m2 (h.2.2.keep (sk_restore s))⟩
theorem pr_count (h : RR w s n) (hn : n < 1000000) (x : Int32) : ∃ (w1 w2 : Wd) (s2 : Sg), A_X5_count 35 [.ref 19, .int x] w (some (.int (rCount s x)), w1) ∧ A_X6_count 35 [.ref 22, .int x] w1 (some (.int (rCount s x)), w2) ∧ RR w2 s2 (n + 1) := by
  exact ⟨w, w, s, am_count h.1 x, am_m_count h.2.1 (h.b hn) x, RR.fin h.1 (Fr.refl _ _) h.2.1 (h.2.2.keep ⟨rfl, rfl⟩)⟩
theorem pr_digest (h : RR w s n) (hn : n < 1000000) : ∃ (w1 w2 : Wd) (s2 : Sg), A_X5_digest 35 [.ref 19] w (some (.long (rDig s)), w1) ∧ A_X6_digest 35 [.ref 22] w1 (some (.long (rDig s)), w2) ∧ RR w2 s2 (n + 1) := by
  obtain ⟨w1, a1, f1, c1⟩ := am_digest h.1
  obtain ⟨w2, a2, f2, m2⟩ := am_m_digest (h.m1 f1) (h.b hn)
  exact ⟨w1, w2, s, a1, a2, RR.fin c1 f2 m2 (h.2.2.keep ⟨rfl, rfl⟩)⟩
end PRS
