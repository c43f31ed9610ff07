-- ===== the law's cases =====
section LW
variable {p : Program} {l : Launch} {e : Env} {s : State} {m : MethodId} {args : Array Value} {below : List Frame} {meth : Method} {c : Code} {D : va_G} {ad : Nat → Nat} {cid : Nat → ClassId} {A : Nat → Prop} {Q : State → Prop}
variable {maxL : Nat} {rm : Room} {pc : Nat} {L : List (Option Value)} {S : List Value} {ws : va_W} {nc ns : Nat} {y : MethodName} {ret0 : Option FieldType} {cc : ByteArray}
def LX (s : State) (A : Nat → Prop) (b N : Nat) (xs : Nat → Int32) : Prop := va_X b N xs s s.heap ∧ b < s.heap.size ∧ ¬ A b ∧ N ≤ 2560
theorem k_sld {b N : Nat} {xs : Nat → Int32} {i : Int32} (C : NX y maxL ret0 cc p s m args meth c D ad cid A) (X : LX s A b N xs) (hin : vp_in i N) (hd : decode cc pc = .ok (.iaload, 1)) (k : Kr maxL rm p l e s m args below meth c D A Q (pc + 1) L (.int (xs i.toNatClampNeg) :: S) ws nc ns) : Kr maxL rm p l e s m args below meth c D A Q pc L (.int i :: .ref b :: S) ws nc ns := fun H ls locs hL hP hD hS => va_sld C.1 C.2.1 X.1 X.2.1 X.2.2.1 hS hin hd (k H ls locs hL hP hD hS)
theorem k_slen {b N : Nat} {xs : Nat → Int32} (C : NX y maxL ret0 cc p s m args meth c D ad cid A) (X : LX s A b N xs) (hd : decode cc pc = .ok (.arraylength, 1)) (k : Kr maxL rm p l e s m args below meth c D A Q (pc + 1) L (.int (Int32.ofNat N) :: S) ws nc ns) : Kr maxL rm p l e s m args below meth c D A Q pc L (.ref b :: S) ws nc ns := fun H ls locs hL hP hD hS => va_slen C.1 C.2.1 X.1 X.2.1 X.2.2.1 hS hd (k H ls locs hL hP hD hS)
theorem k_arg {b N i j : Nat} {xs : Nat → Int32} {jj : Int} (C : NX y maxL ret0 cc p s m args meth c D ad cid A) (X : LX s A b N xs) (hi : i + j < N) (h0 : L[0]? = some (some (.ref b))) (h3 : L[3]? = some (some (.int (nI i)))) (d1 : decode cc pc = .ok (.aload_n 0, 1)) (d2 : decode cc (pc + 1) = .ok (.iload_n 3, 1)) (d3 : decode cc (pc + 1 + 1) = .ok (.iconst jj, 1)) (hj : Int32.ofInt jj = nI j) (d4 : decode cc (pc + 1 + 1 + 1) = .ok (.iadd, 1)) (d5 : decode cc (pc + 1 + 1 + 1 + 1) = .ok (.iaload, 1)) (k : Kr maxL rm p l e s m args below meth c D A Q (pc + 5) L (.int (xs (i + j)) :: S) ws nc ns) : Kr maxL rm p l e s m args below meth c D A Q pc L S ws nc ns := by
  have hN := X.2.2.2
  refine k_aload_n C d1 rfl h0 (k_iload_n C d2 rfl h3 (k_iconst C d3 hj (k_iadd C d4 ?_)))
  rw [nI_add]
  refine k_sld C X (vp_in_nI hi (by omega)) d5 ?_
  rw [nI_clamp (by omega)]
  exact k
theorem lg_same (x : Int64) : lg_cmp x x = 0 := by simp [lg_cmp]
set_option maxRecDepth 100000 in
theorem lc_letter {b N i n : Nat} {xs : Nat → Int32} {w : Wd} {g : Sg} (C : NX yL_law 4 ret code p s m args meth c D ad cid A) (X : LX s A b N xs) (hi : i + 5 ≤ N) (h : RR w g n) (hn : n < 1000000) (k : ∀ (w2 : Wd) (g2 : Sg), RR w2 g2 (n + 1) → Kr 4 room_1 p l e s m args below meth c D A Q 757 [some (.ref b), some (.ref (ad 19)), some (.ref (ad 22)), some (.int (nI i))] [] (cells ad cid 35 w2) 35 23953) : Kr 4 room_1 p l e s m args below meth c D A Q 144 [some (.ref b), some (.ref (ad 19)), some (.ref (ad 22)), some (.int (nI i))] [] (cells ad cid 35 w) 35 23953 := by
  obtain ⟨w1, w2, g2, h1, h2, h3⟩ := pr_letter h hn (xs (i + 1))
  refine k_aload_n C dL_law_144 rfl rfl ?_
  refine k_arg (j := 1) C X (by omega) rfl rfl dL_law_145 dL_law_146 dL_law_147 (by decide) dL_law_148 dL_law_149 ?_
  refine k_callV (n := 1) (b := 19) (ci := 4) (as := [.int (xs (i + 1))]) (S := []) (w := w) (w' := w1) (mm := 35) (rv := some (.int (rLetter g (xs (i + 1))).1)) C C.2.2.2.2.2.2.2.2.1 dL_law_150 h1 rfl rfl xw_1_216 xw_1_213 xw_1_214 xw_1_215 xw_1_1 (by decide +kernel) rfl ⟨rfl, rfl, Nat.le_of_ble_eq_true rfl, Nat.le_of_ble_eq_true rfl⟩ (Nat.le_of_ble_eq_true rfl) ⟨Nat.le_of_ble_eq_true rfl, Nat.le_of_ble_eq_true rfl⟩ rfl (by decide) rfl ?_
  refine k_aload_n C dL_law_153 rfl rfl ?_
  refine k_arg (j := 1) C X (by omega) rfl rfl dL_law_154 dL_law_155 dL_law_156 (by decide) dL_law_157 dL_law_158 ?_
  refine k_callV (n := 1) (b := 22) (ci := 5) (as := [.int (xs (i + 1))]) (S := [.int (rLetter g (xs (i + 1))).1]) (w := w1) (w' := w2) (mm := 35) (rv := some (.int (rLetter g (xs (i + 1))).1)) C C.2.2.2.2.2.2.2.2.1 dL_law_159 h2 rfl rfl xw_3_174 xw_3_171 xw_3_172 xw_3_173 xw_1_8 (by decide +kernel) rfl ⟨rfl, rfl, Nat.le_of_ble_eq_true rfl, Nat.le_of_ble_eq_true rfl⟩ (Nat.le_of_ble_eq_true rfl) ⟨Nat.le_of_ble_eq_true rfl, Nat.le_of_ble_eq_true rfl⟩ rfl (by decide) rfl ?_
  refine k_icmp_same (tgt := 757) C dL_law_162 (by decide) ?_
  exact k w2 g2 h3
set_option maxRecDepth 100000 in
theorem lc_blank {b N i n : Nat} {xs : Nat → Int32} {w : Wd} {g : Sg} (C : NX yL_law 4 ret code p s m args meth c D ad cid A) (X : LX s A b N xs) (hi : i + 5 ≤ N) (h : RR w g n) (hn : n < 1000000) (k : ∀ (w2 : Wd) (g2 : Sg), RR w2 g2 (n + 1) → Kr 4 room_1 p l e s m args below meth c D A Q 757 [some (.ref b), some (.ref (ad 19)), some (.ref (ad 22)), some (.int (nI i))] [] (cells ad cid 35 w2) 35 23953) : Kr 4 room_1 p l e s m args below meth c D A Q 167 [some (.ref b), some (.ref (ad 19)), some (.ref (ad 22)), some (.int (nI i))] [] (cells ad cid 35 w) 35 23953 := by
  obtain ⟨w1, w2, g2, h1, h2, h3⟩ := pr_blank h hn
  refine k_aload_n C dL_law_167 rfl rfl ?_
  refine k_callV (n := 0) (b := 19) (ci := 4) (as := []) (S := []) (w := w) (w' := w1) (mm := 35) (rv := some (.int (rBlank g).1)) C C.2.2.2.2.2.2.2.2.1 dL_law_168 h1 rfl rfl xw_1_223 xw_1_220 xw_1_221 xw_1_222 xw_1_1 (by decide +kernel) rfl ⟨rfl, rfl, Nat.le_of_ble_eq_true rfl, Nat.le_of_ble_eq_true rfl⟩ (Nat.le_of_ble_eq_true rfl) ⟨Nat.le_of_ble_eq_true rfl, Nat.le_of_ble_eq_true rfl⟩ rfl (by decide) rfl ?_
  refine k_aload_n C dL_law_171 rfl rfl ?_
  refine k_callV (n := 0) (b := 22) (ci := 5) (as := []) (S := [.int (rBlank g).1]) (w := w1) (w' := w2) (mm := 35) (rv := some (.int (rBlank g).1)) C C.2.2.2.2.2.2.2.2.1 dL_law_172 h2 rfl rfl xw_3_181 xw_3_178 xw_3_179 xw_3_180 xw_1_8 (by decide +kernel) rfl ⟨rfl, rfl, Nat.le_of_ble_eq_true rfl, Nat.le_of_ble_eq_true rfl⟩ (Nat.le_of_ble_eq_true rfl) ⟨Nat.le_of_ble_eq_true rfl, Nat.le_of_ble_eq_true rfl⟩ rfl (by decide) rfl ?_
  refine k_icmp_same (tgt := 757) C dL_law_175 (by decide) ?_
  exact k w2 g2 h3
set_option maxRecDepth 100000 in
theorem lc_fault {b N i n : Nat} {xs : Nat → Int32} {w : Wd} {g : Sg} (C : NX yL_law 4 ret code p s m args meth c D ad cid A) (X : LX s A b N xs) (hi : i + 5 ≤ N) (h : RR w g n) (hn : n < 1000000) (k : ∀ (w2 : Wd) (g2 : Sg), RR w2 g2 (n + 1) → Kr 4 room_1 p l e s m args below meth c D A Q 757 [some (.ref b), some (.ref (ad 19)), some (.ref (ad 22)), some (.int (nI i))] [] (cells ad cid 35 w2) 35 23953) : Kr 4 room_1 p l e s m args below meth c D A Q 180 [some (.ref b), some (.ref (ad 19)), some (.ref (ad 22)), some (.int (nI i))] [] (cells ad cid 35 w) 35 23953 := by
  obtain ⟨w1, w2, g2, h1, h2, h3⟩ := pr_fault h hn
  refine k_aload_n C dL_law_180 rfl rfl ?_
  refine k_callV (n := 0) (b := 19) (ci := 4) (as := []) (S := []) (w := w) (w' := w1) (mm := 35) (rv := some (.int (rFault g))) C C.2.2.2.2.2.2.2.2.1 dL_law_181 h1 rfl rfl xw_1_227 xw_1_224 xw_1_225 xw_1_226 xw_1_1 (by decide +kernel) rfl ⟨rfl, rfl, Nat.le_of_ble_eq_true rfl, Nat.le_of_ble_eq_true rfl⟩ (Nat.le_of_ble_eq_true rfl) ⟨Nat.le_of_ble_eq_true rfl, Nat.le_of_ble_eq_true rfl⟩ rfl (by decide) rfl ?_
  refine k_aload_n C dL_law_184 rfl rfl ?_
  refine k_callV (n := 0) (b := 22) (ci := 5) (as := []) (S := [.int (rFault g)]) (w := w1) (w' := w2) (mm := 35) (rv := some (.int (rFault g))) C C.2.2.2.2.2.2.2.2.1 dL_law_185 h2 rfl rfl xw_3_185 xw_3_182 xw_3_183 xw_3_184 xw_1_8 (by decide +kernel) rfl ⟨rfl, rfl, Nat.le_of_ble_eq_true rfl, Nat.le_of_ble_eq_true rfl⟩ (Nat.le_of_ble_eq_true rfl) ⟨Nat.le_of_ble_eq_true rfl, Nat.le_of_ble_eq_true rfl⟩ rfl (by decide) rfl ?_
  refine k_icmp_same (tgt := 757) C dL_law_188 (by decide) ?_
  exact k w2 g2 h3
set_option maxRecDepth 100000 in
theorem lc_tray {b N i n : Nat} {xs : Nat → Int32} {w : Wd} {g : Sg} (C : NX yL_law 4 ret code p s m args meth c D ad cid A) (X : LX s A b N xs) (hi : i + 5 ≤ N) (h : RR w g n) (hn : n < 1000000) (k : ∀ (w2 : Wd) (g2 : Sg), RR w2 g2 (n + 1) → Kr 4 room_1 p l e s m args below meth c D A Q 757 [some (.ref b), some (.ref (ad 19)), some (.ref (ad 22)), some (.int (nI i))] [] (cells ad cid 35 w2) 35 23953) : Kr 4 room_1 p l e s m args below meth c D A Q 193 [some (.ref b), some (.ref (ad 19)), some (.ref (ad 22)), some (.int (nI i))] [] (cells ad cid 35 w) 35 23953 := by
  obtain ⟨w1, w2, g2, h1, h2, h3⟩ := pr_tray h hn
  refine k_aload_n C dL_law_193 rfl rfl ?_
  refine k_callV (n := 0) (b := 19) (ci := 4) (as := []) (S := []) (w := w) (w' := w1) (mm := 35) (rv := some (.int (rTray g).1)) C C.2.2.2.2.2.2.2.2.1 dL_law_194 h1 rfl rfl xw_2_15 xw_2_12 xw_2_13 xw_2_14 xw_1_1 (by decide +kernel) rfl ⟨rfl, rfl, Nat.le_of_ble_eq_true rfl, Nat.le_of_ble_eq_true rfl⟩ (Nat.le_of_ble_eq_true rfl) ⟨Nat.le_of_ble_eq_true rfl, Nat.le_of_ble_eq_true rfl⟩ rfl (by decide) rfl ?_
  refine k_aload_n C dL_law_197 rfl rfl ?_
  refine k_callV (n := 0) (b := 22) (ci := 5) (as := []) (S := [.int (rTray g).1]) (w := w1) (w' := w2) (mm := 35) (rv := some (.int (rTray g).1)) C C.2.2.2.2.2.2.2.2.1 dL_law_198 h2 rfl rfl xw_3_211 xw_3_208 xw_3_209 xw_3_210 xw_1_8 (by decide +kernel) rfl ⟨rfl, rfl, Nat.le_of_ble_eq_true rfl, Nat.le_of_ble_eq_true rfl⟩ (Nat.le_of_ble_eq_true rfl) ⟨Nat.le_of_ble_eq_true rfl, Nat.le_of_ble_eq_true rfl⟩ rfl (by decide) rfl ?_
  refine k_icmp_same (tgt := 757) C dL_law_201 (by decide) ?_
  exact k w2 g2 h3
set_option maxRecDepth 100000 in
theorem lc_tile {b N i n : Nat} {xs : Nat → Int32} {w : Wd} {g : Sg} (C : NX yL_law 4 ret code p s m args meth c D ad cid A) (X : LX s A b N xs) (hi : i + 5 ≤ N) (h : RR w g n) (hn : n < 1000000) (k : ∀ (w2 : Wd) (g2 : Sg), RR w2 g2 (n + 1) → Kr 4 room_1 p l e s m args below meth c D A Q 757 [some (.ref b), some (.ref (ad 19)), some (.ref (ad 22)), some (.int (nI i))] [] (cells ad cid 35 w2) 35 23953) : Kr 4 room_1 p l e s m args below meth c D A Q 206 [some (.ref b), some (.ref (ad 19)), some (.ref (ad 22)), some (.int (nI i))] [] (cells ad cid 35 w) 35 23953 := by
  obtain ⟨w1, w2, g2, h1, h2, h3⟩ := pr_tile h hn (xs (i + 1)) (xs (i + 2))
  refine k_aload_n C dL_law_206 rfl rfl ?_
  refine k_arg (j := 1) C X (by omega) rfl rfl dL_law_207 dL_law_208 dL_law_209 (by decide) dL_law_210 dL_law_211 ?_
  refine k_arg (j := 2) C X (by omega) rfl rfl dL_law_212 dL_law_213 dL_law_214 (by decide) dL_law_215 dL_law_216 ?_
  refine k_callV (n := 2) (b := 19) (ci := 4) (as := [.int (xs (i + 1)), .int (xs (i + 2))]) (S := []) (w := w) (w' := w1) (mm := 35) (rv := some (.int (rTile g (xs (i + 1)) (xs (i + 2))))) C C.2.2.2.2.2.2.2.2.1 dL_law_217 h1 rfl rfl xw_2_43 xw_2_40 xw_2_41 xw_2_42 xw_1_1 (by decide +kernel) rfl ⟨rfl, rfl, Nat.le_of_ble_eq_true rfl, Nat.le_of_ble_eq_true rfl⟩ (Nat.le_of_ble_eq_true rfl) ⟨Nat.le_of_ble_eq_true rfl, Nat.le_of_ble_eq_true rfl⟩ rfl (by decide) rfl ?_
  refine k_aload_n C dL_law_220 rfl rfl ?_
  refine k_arg (j := 1) C X (by omega) rfl rfl dL_law_221 dL_law_222 dL_law_223 (by decide) dL_law_224 dL_law_225 ?_
  refine k_arg (j := 2) C X (by omega) rfl rfl dL_law_226 dL_law_227 dL_law_228 (by decide) dL_law_229 dL_law_230 ?_
  refine k_callV (n := 2) (b := 22) (ci := 5) (as := [.int (xs (i + 1)), .int (xs (i + 2))]) (S := [.int (rTile g (xs (i + 1)) (xs (i + 2)))]) (w := w1) (w' := w2) (mm := 35) (rv := some (.int (rTile g (xs (i + 1)) (xs (i + 2))))) C C.2.2.2.2.2.2.2.2.1 dL_law_231 h2 rfl rfl xw_3_225 xw_3_222 xw_3_223 xw_3_224 xw_1_8 (by decide +kernel) rfl ⟨rfl, rfl, Nat.le_of_ble_eq_true rfl, Nat.le_of_ble_eq_true rfl⟩ (Nat.le_of_ble_eq_true rfl) ⟨Nat.le_of_ble_eq_true rfl, Nat.le_of_ble_eq_true rfl⟩ rfl (by decide) rfl ?_
  refine k_icmp_same (tgt := 757) C dL_law_234 (by decide) ?_
  exact k w2 g2 h3
set_option maxRecDepth 100000 in
theorem lc_as {b N i n : Nat} {xs : Nat → Int32} {w : Wd} {g : Sg} (C : NX yL_law 4 ret code p s m args meth c D ad cid A) (X : LX s A b N xs) (hi : i + 5 ≤ N) (h : RR w g n) (hn : n < 1000000) (k : ∀ (w2 : Wd) (g2 : Sg), RR w2 g2 (n + 1) → Kr 4 room_1 p l e s m args below meth c D A Q 757 [some (.ref b), some (.ref (ad 19)), some (.ref (ad 22)), some (.int (nI i))] [] (cells ad cid 35 w2) 35 23953) : Kr 4 room_1 p l e s m args below meth c D A Q 239 [some (.ref b), some (.ref (ad 19)), some (.ref (ad 22)), some (.int (nI i))] [] (cells ad cid 35 w) 35 23953 := by
  obtain ⟨w1, w2, g2, h1, h2, h3⟩ := pr_as h hn (xs (i + 1)) (xs (i + 2))
  refine k_aload_n C dL_law_239 rfl rfl ?_
  refine k_arg (j := 1) C X (by omega) rfl rfl dL_law_240 dL_law_241 dL_law_242 (by decide) dL_law_243 dL_law_244 ?_
  refine k_arg (j := 2) C X (by omega) rfl rfl dL_law_245 dL_law_246 dL_law_247 (by decide) dL_law_248 dL_law_249 ?_
  refine k_callV (n := 2) (b := 19) (ci := 4) (as := [.int (xs (i + 1)), .int (xs (i + 2))]) (S := []) (w := w) (w' := w1) (mm := 35) (rv := some (.int (rAs g (xs (i + 1)) (xs (i + 2))))) C C.2.2.2.2.2.2.2.2.1 dL_law_250 h1 rfl rfl xw_2_116 xw_2_113 xw_2_114 xw_2_115 xw_1_1 (by decide +kernel) rfl ⟨rfl, rfl, Nat.le_of_ble_eq_true rfl, Nat.le_of_ble_eq_true rfl⟩ (Nat.le_of_ble_eq_true rfl) ⟨Nat.le_of_ble_eq_true rfl, Nat.le_of_ble_eq_true rfl⟩ rfl (by decide) rfl ?_
  refine k_aload_n C dL_law_253 rfl rfl ?_
  refine k_arg (j := 1) C X (by omega) rfl rfl dL_law_254 dL_law_255 dL_law_256 (by decide) dL_law_257 dL_law_258 ?_
  refine k_arg (j := 2) C X (by omega) rfl rfl dL_law_259 dL_law_260 dL_law_261 (by decide) dL_law_262 dL_law_263 ?_
  refine k_callV (n := 2) (b := 22) (ci := 5) (as := [.int (xs (i + 1)), .int (xs (i + 2))]) (S := [.int (rAs g (xs (i + 1)) (xs (i + 2)))]) (w := w1) (w' := w2) (mm := 35) (rv := some (.int (rAs g (xs (i + 1)) (xs (i + 2))))) C C.2.2.2.2.2.2.2.2.1 dL_law_264 h2 rfl rfl xw_4_50 xw_4_47 xw_4_48 xw_4_49 xw_1_8 (by decide +kernel) rfl ⟨rfl, rfl, Nat.le_of_ble_eq_true rfl, Nat.le_of_ble_eq_true rfl⟩ (Nat.le_of_ble_eq_true rfl) ⟨Nat.le_of_ble_eq_true rfl, Nat.le_of_ble_eq_true rfl⟩ rfl (by decide) rfl ?_
  refine k_icmp_same (tgt := 757) C dL_law_267 (by decide) ?_
  exact k w2 g2 h3
set_option maxRecDepth 100000 in
theorem lc_cell {b N i n : Nat} {xs : Nat → Int32} {w : Wd} {g : Sg} (C : NX yL_law 4 ret code p s m args meth c D ad cid A) (X : LX s A b N xs) (hi : i + 5 ≤ N) (h : RR w g n) (hn : n < 1000000) (k : ∀ (w2 : Wd) (g2 : Sg), RR w2 g2 (n + 1) → Kr 4 room_1 p l e s m args below meth c D A Q 757 [some (.ref b), some (.ref (ad 19)), some (.ref (ad 22)), some (.int (nI i))] [] (cells ad cid 35 w2) 35 23953) : Kr 4 room_1 p l e s m args below meth c D A Q 272 [some (.ref b), some (.ref (ad 19)), some (.ref (ad 22)), some (.int (nI i))] [] (cells ad cid 35 w) 35 23953 := by
  obtain ⟨w1, w2, g2, h1, h2, h3⟩ := pr_cell h hn (xs (i + 1)) (xs (i + 2))
  refine k_aload_n C dL_law_272 rfl rfl ?_
  refine k_arg (j := 1) C X (by omega) rfl rfl dL_law_273 dL_law_274 dL_law_275 (by decide) dL_law_276 dL_law_277 ?_
  refine k_arg (j := 2) C X (by omega) rfl rfl dL_law_278 dL_law_279 dL_law_280 (by decide) dL_law_281 dL_law_282 ?_
  refine k_callV (n := 2) (b := 19) (ci := 4) (as := [.int (xs (i + 1)), .int (xs (i + 2))]) (S := []) (w := w) (w' := w1) (mm := 35) (rv := some (.int (rCell g (xs (i + 1)) (xs (i + 2))))) C C.2.2.2.2.2.2.2.2.1 dL_law_283 h1 rfl rfl xw_2_127 xw_2_124 xw_2_125 xw_2_126 xw_1_1 (by decide +kernel) rfl ⟨rfl, rfl, Nat.le_of_ble_eq_true rfl, Nat.le_of_ble_eq_true rfl⟩ (Nat.le_of_ble_eq_true rfl) ⟨Nat.le_of_ble_eq_true rfl, Nat.le_of_ble_eq_true rfl⟩ rfl (by decide) rfl ?_
  refine k_aload_n C dL_law_286 rfl rfl ?_
  refine k_arg (j := 1) C X (by omega) rfl rfl dL_law_287 dL_law_288 dL_law_289 (by decide) dL_law_290 dL_law_291 ?_
  refine k_arg (j := 2) C X (by omega) rfl rfl dL_law_292 dL_law_293 dL_law_294 (by decide) dL_law_295 dL_law_296 ?_
  refine k_callV (n := 2) (b := 22) (ci := 5) (as := [.int (xs (i + 1)), .int (xs (i + 2))]) (S := [.int (rCell g (xs (i + 1)) (xs (i + 2)))]) (w := w1) (w' := w2) (mm := 35) (rv := some (.int (rCell g (xs (i + 1)) (xs (i + 2))))) C C.2.2.2.2.2.2.2.2.1 dL_law_297 h2 rfl rfl xw_4_54 xw_4_51 xw_4_52 xw_4_53 xw_1_8 (by decide +kernel) rfl ⟨rfl, rfl, Nat.le_of_ble_eq_true rfl, Nat.le_of_ble_eq_true rfl⟩ (Nat.le_of_ble_eq_true rfl) ⟨Nat.le_of_ble_eq_true rfl, Nat.le_of_ble_eq_true rfl⟩ rfl (by decide) rfl ?_
  refine k_icmp_same (tgt := 757) C dL_law_300 (by decide) ?_
  exact k w2 g2 h3
set_option maxRecDepth 100000 in
theorem lc_push {b N i n : Nat} {xs : Nat → Int32} {w : Wd} {g : Sg} (C : NX yL_law 4 ret code p s m args meth c D ad cid A) (X : LX s A b N xs) (hi : i + 5 ≤ N) (h : RR w g n) (hn : n < 1000000) (k : ∀ (w2 : Wd) (g2 : Sg), RR w2 g2 (n + 1) → Kr 4 room_1 p l e s m args below meth c D A Q 757 [some (.ref b), some (.ref (ad 19)), some (.ref (ad 22)), some (.int (nI i))] [] (cells ad cid 35 w2) 35 23953) : Kr 4 room_1 p l e s m args below meth c D A Q 305 [some (.ref b), some (.ref (ad 19)), some (.ref (ad 22)), some (.int (nI i))] [] (cells ad cid 35 w) 35 23953 := by
  obtain ⟨w1, w2, g2, h1, h2, h3⟩ := pr_push h hn (xs (i + 1))
  refine k_aload_n C dL_law_305 rfl rfl ?_
  refine k_arg (j := 1) C X (by omega) rfl rfl dL_law_306 dL_law_307 dL_law_308 (by decide) dL_law_309 dL_law_310 ?_
  refine k_callV (n := 1) (b := 19) (ci := 4) (as := [.int (xs (i + 1))]) (S := []) (w := w) (w' := w1) (mm := 35) (rv := some (.int (rPush g (xs (i + 1))).1)) C C.2.2.2.2.2.2.2.2.1 dL_law_311 h1 rfl rfl xw_2_140 xw_2_137 xw_2_138 xw_2_139 xw_1_1 (by decide +kernel) rfl ⟨rfl, rfl, Nat.le_of_ble_eq_true rfl, Nat.le_of_ble_eq_true rfl⟩ (Nat.le_of_ble_eq_true rfl) ⟨Nat.le_of_ble_eq_true rfl, Nat.le_of_ble_eq_true rfl⟩ rfl (by decide) rfl ?_
  refine k_aload_n C dL_law_314 rfl rfl ?_
  refine k_arg (j := 1) C X (by omega) rfl rfl dL_law_315 dL_law_316 dL_law_317 (by decide) dL_law_318 dL_law_319 ?_
  refine k_callV (n := 1) (b := 22) (ci := 5) (as := [.int (xs (i + 1))]) (S := [.int (rPush g (xs (i + 1))).1]) (w := w1) (w' := w2) (mm := 35) (rv := some (.int (rPush g (xs (i + 1))).1)) C C.2.2.2.2.2.2.2.2.1 dL_law_320 h2 rfl rfl xw_4_66 xw_4_63 xw_4_64 xw_4_65 xw_1_8 (by decide +kernel) rfl ⟨rfl, rfl, Nat.le_of_ble_eq_true rfl, Nat.le_of_ble_eq_true rfl⟩ (Nat.le_of_ble_eq_true rfl) ⟨Nat.le_of_ble_eq_true rfl, Nat.le_of_ble_eq_true rfl⟩ rfl (by decide) rfl ?_
  refine k_icmp_same (tgt := 757) C dL_law_323 (by decide) ?_
  exact k w2 g2 h3
set_option maxRecDepth 100000 in
theorem lc_exchange {b N i n : Nat} {xs : Nat → Int32} {w : Wd} {g : Sg} (C : NX yL_law 4 ret code p s m args meth c D ad cid A) (X : LX s A b N xs) (hi : i + 5 ≤ N) (h : RR w g n) (hn : n < 1000000) (k : ∀ (w2 : Wd) (g2 : Sg), RR w2 g2 (n + 1) → Kr 4 room_1 p l e s m args below meth c D A Q 757 [some (.ref b), some (.ref (ad 19)), some (.ref (ad 22)), some (.int (nI i))] [] (cells ad cid 35 w2) 35 23953) : Kr 4 room_1 p l e s m args below meth c D A Q 328 [some (.ref b), some (.ref (ad 19)), some (.ref (ad 22)), some (.int (nI i))] [] (cells ad cid 35 w) 35 23953 := by
  obtain ⟨w1, w2, g2, h1, h2, h3⟩ := pr_exchange h hn (xs (i + 1)) (xs (i + 2))
  refine k_aload_n C dL_law_328 rfl rfl ?_
  refine k_arg (j := 1) C X (by omega) rfl rfl dL_law_329 dL_law_330 dL_law_331 (by decide) dL_law_332 dL_law_333 ?_
  refine k_arg (j := 2) C X (by omega) rfl rfl dL_law_334 dL_law_335 dL_law_336 (by decide) dL_law_337 dL_law_338 ?_
  refine k_callV (n := 2) (b := 19) (ci := 4) (as := [.int (xs (i + 1)), .int (xs (i + 2))]) (S := []) (w := w) (w' := w1) (mm := 35) (rv := some (.int (rEx g (xs (i + 1)) (xs (i + 2))).1)) C C.2.2.2.2.2.2.2.2.1 dL_law_339 h1 rfl rfl xw_2_145 xw_2_142 xw_2_143 xw_2_144 xw_1_1 (by decide +kernel) rfl ⟨rfl, rfl, Nat.le_of_ble_eq_true rfl, Nat.le_of_ble_eq_true rfl⟩ (Nat.le_of_ble_eq_true rfl) ⟨Nat.le_of_ble_eq_true rfl, Nat.le_of_ble_eq_true rfl⟩ rfl (by decide) rfl ?_
  refine k_aload_n C dL_law_342 rfl rfl ?_
  refine k_arg (j := 1) C X (by omega) rfl rfl dL_law_343 dL_law_344 dL_law_345 (by decide) dL_law_346 dL_law_347 ?_
  refine k_arg (j := 2) C X (by omega) rfl rfl dL_law_348 dL_law_349 dL_law_350 (by decide) dL_law_351 dL_law_352 ?_
  refine k_callV (n := 2) (b := 22) (ci := 5) (as := [.int (xs (i + 1)), .int (xs (i + 2))]) (S := [.int (rEx g (xs (i + 1)) (xs (i + 2))).1]) (w := w1) (w' := w2) (mm := 35) (rv := some (.int (rEx g (xs (i + 1)) (xs (i + 2))).1)) C C.2.2.2.2.2.2.2.2.1 dL_law_353 h2 rfl rfl xw_4_70 xw_4_67 xw_4_68 xw_4_69 xw_1_8 (by decide +kernel) rfl ⟨rfl, rfl, Nat.le_of_ble_eq_true rfl, Nat.le_of_ble_eq_true rfl⟩ (Nat.le_of_ble_eq_true rfl) ⟨Nat.le_of_ble_eq_true rfl, Nat.le_of_ble_eq_true rfl⟩ rfl (by decide) rfl ?_
  refine k_icmp_same (tgt := 757) C dL_law_356 (by decide) ?_
  exact k w2 g2 h3
set_option maxRecDepth 100000 in
theorem lc_aim {b N i n : Nat} {xs : Nat → Int32} {w : Wd} {g : Sg} (C : NX yL_law 4 ret code p s m args meth c D ad cid A) (X : LX s A b N xs) (hi : i + 5 ≤ N) (h : RR w g n) (hn : n < 1000000) (k : ∀ (w2 : Wd) (g2 : Sg), RR w2 g2 (n + 1) → Kr 4 room_1 p l e s m args below meth c D A Q 757 [some (.ref b), some (.ref (ad 19)), some (.ref (ad 22)), some (.int (nI i))] [] (cells ad cid 35 w2) 35 23953) : Kr 4 room_1 p l e s m args below meth c D A Q 361 [some (.ref b), some (.ref (ad 19)), some (.ref (ad 22)), some (.int (nI i))] [] (cells ad cid 35 w) 35 23953 := by
  obtain ⟨w1, w2, g2, h1, h2, h3⟩ := pr_aim h hn (xs (i + 1)) (xs (i + 2))
  refine k_aload_n C dL_law_361 rfl rfl ?_
  refine k_arg (j := 1) C X (by omega) rfl rfl dL_law_362 dL_law_363 dL_law_364 (by decide) dL_law_365 dL_law_366 ?_
  refine k_arg (j := 2) C X (by omega) rfl rfl dL_law_367 dL_law_368 dL_law_369 (by decide) dL_law_370 dL_law_371 ?_
  refine k_callV (n := 2) (b := 19) (ci := 4) (as := [.int (xs (i + 1)), .int (xs (i + 2))]) (S := []) (w := w) (w' := w1) (mm := 35) (rv := some (.int (rAim g (xs (i + 1)) (xs (i + 2))).1)) C C.2.2.2.2.2.2.2.2.1 dL_law_372 h1 rfl rfl xw_2_150 xw_2_147 xw_2_148 xw_2_149 xw_1_1 (by decide +kernel) rfl ⟨rfl, rfl, Nat.le_of_ble_eq_true rfl, Nat.le_of_ble_eq_true rfl⟩ (Nat.le_of_ble_eq_true rfl) ⟨Nat.le_of_ble_eq_true rfl, Nat.le_of_ble_eq_true rfl⟩ rfl (by decide) rfl ?_
  refine k_aload_n C dL_law_375 rfl rfl ?_
  refine k_arg (j := 1) C X (by omega) rfl rfl dL_law_376 dL_law_377 dL_law_378 (by decide) dL_law_379 dL_law_380 ?_
  refine k_arg (j := 2) C X (by omega) rfl rfl dL_law_381 dL_law_382 dL_law_383 (by decide) dL_law_384 dL_law_385 ?_
  refine k_callV (n := 2) (b := 22) (ci := 5) (as := [.int (xs (i + 1)), .int (xs (i + 2))]) (S := [.int (rAim g (xs (i + 1)) (xs (i + 2))).1]) (w := w1) (w' := w2) (mm := 35) (rv := some (.int (rAim g (xs (i + 1)) (xs (i + 2))).1)) C C.2.2.2.2.2.2.2.2.1 dL_law_386 h2 rfl rfl xw_4_74 xw_4_71 xw_4_72 xw_4_73 xw_1_8 (by decide +kernel) rfl ⟨rfl, rfl, Nat.le_of_ble_eq_true rfl, Nat.le_of_ble_eq_true rfl⟩ (Nat.le_of_ble_eq_true rfl) ⟨Nat.le_of_ble_eq_true rfl, Nat.le_of_ble_eq_true rfl⟩ rfl (by decide) rfl ?_
  refine k_icmp_same (tgt := 757) C dL_law_389 (by decide) ?_
  exact k w2 g2 h3
set_option maxRecDepth 100000 in
theorem lc_recast {b N i n : Nat} {xs : Nat → Int32} {w : Wd} {g : Sg} (C : NX yL_law 4 ret code p s m args meth c D ad cid A) (X : LX s A b N xs) (hi : i + 5 ≤ N) (h : RR w g n) (hn : n < 1000000) (k : ∀ (w2 : Wd) (g2 : Sg), RR w2 g2 (n + 1) → Kr 4 room_1 p l e s m args below meth c D A Q 757 [some (.ref b), some (.ref (ad 19)), some (.ref (ad 22)), some (.int (nI i))] [] (cells ad cid 35 w2) 35 23953) : Kr 4 room_1 p l e s m args below meth c D A Q 394 [some (.ref b), some (.ref (ad 19)), some (.ref (ad 22)), some (.int (nI i))] [] (cells ad cid 35 w) 35 23953 := by
  obtain ⟨w1, w2, g2, h1, h2, h3⟩ := pr_recast h hn (xs (i + 1)) (xs (i + 2))
  refine k_aload_n C dL_law_394 rfl rfl ?_
  refine k_arg (j := 1) C X (by omega) rfl rfl dL_law_395 dL_law_396 dL_law_397 (by decide) dL_law_398 dL_law_399 ?_
  refine k_arg (j := 2) C X (by omega) rfl rfl dL_law_400 dL_law_401 dL_law_402 (by decide) dL_law_403 dL_law_404 ?_
  refine k_callV (n := 2) (b := 19) (ci := 4) (as := [.int (xs (i + 1)), .int (xs (i + 2))]) (S := []) (w := w) (w' := w1) (mm := 35) (rv := some (.int (rRec g (xs (i + 1)) (xs (i + 2))).1)) C C.2.2.2.2.2.2.2.2.1 dL_law_405 h1 rfl rfl xw_2_154 xw_2_151 xw_2_152 xw_2_153 xw_1_1 (by decide +kernel) rfl ⟨rfl, rfl, Nat.le_of_ble_eq_true rfl, Nat.le_of_ble_eq_true rfl⟩ (Nat.le_of_ble_eq_true rfl) ⟨Nat.le_of_ble_eq_true rfl, Nat.le_of_ble_eq_true rfl⟩ rfl (by decide) rfl ?_
  refine k_aload_n C dL_law_408 rfl rfl ?_
  refine k_arg (j := 1) C X (by omega) rfl rfl dL_law_409 dL_law_410 dL_law_411 (by decide) dL_law_412 dL_law_413 ?_
  refine k_arg (j := 2) C X (by omega) rfl rfl dL_law_414 dL_law_415 dL_law_416 (by decide) dL_law_417 dL_law_418 ?_
  refine k_callV (n := 2) (b := 22) (ci := 5) (as := [.int (xs (i + 1)), .int (xs (i + 2))]) (S := [.int (rRec g (xs (i + 1)) (xs (i + 2))).1]) (w := w1) (w' := w2) (mm := 35) (rv := some (.int (rRec g (xs (i + 1)) (xs (i + 2))).1)) C C.2.2.2.2.2.2.2.2.1 dL_law_419 h2 rfl rfl xw_4_78 xw_4_75 xw_4_76 xw_4_77 xw_1_8 (by decide +kernel) rfl ⟨rfl, rfl, Nat.le_of_ble_eq_true rfl, Nat.le_of_ble_eq_true rfl⟩ (Nat.le_of_ble_eq_true rfl) ⟨Nat.le_of_ble_eq_true rfl, Nat.le_of_ble_eq_true rfl⟩ rfl (by decide) rfl ?_
  refine k_icmp_same (tgt := 757) C dL_law_422 (by decide) ?_
  exact k w2 g2 h3
set_option maxRecDepth 100000 in
theorem lc_least {b N i n : Nat} {xs : Nat → Int32} {w : Wd} {g : Sg} (C : NX yL_law 4 ret code p s m args meth c D ad cid A) (X : LX s A b N xs) (hi : i + 5 ≤ N) (h : RR w g n) (hn : n < 1000000) (k : ∀ (w2 : Wd) (g2 : Sg), RR w2 g2 (n + 1) → Kr 4 room_1 p l e s m args below meth c D A Q 757 [some (.ref b), some (.ref (ad 19)), some (.ref (ad 22)), some (.int (nI i))] [] (cells ad cid 35 w2) 35 23953) : Kr 4 room_1 p l e s m args below meth c D A Q 427 [some (.ref b), some (.ref (ad 19)), some (.ref (ad 22)), some (.int (nI i))] [] (cells ad cid 35 w) 35 23953 := by
  obtain ⟨w1, w2, g2, h1, h2, h3⟩ := pr_least h hn (xs (i + 1))
  refine k_aload_n C dL_law_427 rfl rfl ?_
  refine k_arg (j := 1) C X (by omega) rfl rfl dL_law_428 dL_law_429 dL_law_430 (by decide) dL_law_431 dL_law_432 ?_
  refine k_callV (n := 1) (b := 19) (ci := 4) (as := [.int (xs (i + 1))]) (S := []) (w := w) (w' := w1) (mm := 35) (rv := some (.int (rLeast g (xs (i + 1))))) C C.2.2.2.2.2.2.2.2.1 dL_law_433 h1 rfl rfl xw_2_158 xw_2_155 xw_2_156 xw_2_157 xw_1_1 (by decide +kernel) rfl ⟨rfl, rfl, Nat.le_of_ble_eq_true rfl, Nat.le_of_ble_eq_true rfl⟩ (Nat.le_of_ble_eq_true rfl) ⟨Nat.le_of_ble_eq_true rfl, Nat.le_of_ble_eq_true rfl⟩ rfl (by decide) rfl ?_
  refine k_aload_n C dL_law_436 rfl rfl ?_
  refine k_arg (j := 1) C X (by omega) rfl rfl dL_law_437 dL_law_438 dL_law_439 (by decide) dL_law_440 dL_law_441 ?_
  refine k_callV (n := 1) (b := 22) (ci := 5) (as := [.int (xs (i + 1))]) (S := [.int (rLeast g (xs (i + 1)))]) (w := w1) (w' := w2) (mm := 35) (rv := some (.int (rLeast g (xs (i + 1))))) C C.2.2.2.2.2.2.2.2.1 dL_law_442 h2 rfl rfl xw_4_82 xw_4_79 xw_4_80 xw_4_81 xw_1_8 (by decide +kernel) rfl ⟨rfl, rfl, Nat.le_of_ble_eq_true rfl, Nat.le_of_ble_eq_true rfl⟩ (Nat.le_of_ble_eq_true rfl) ⟨Nat.le_of_ble_eq_true rfl, Nat.le_of_ble_eq_true rfl⟩ rfl (by decide) rfl ?_
  refine k_icmp_same (tgt := 757) C dL_law_445 (by decide) ?_
  exact k w2 g2 h3
set_option maxRecDepth 100000 in
theorem lc_reach {b N i n : Nat} {xs : Nat → Int32} {w : Wd} {g : Sg} (C : NX yL_law 4 ret code p s m args meth c D ad cid A) (X : LX s A b N xs) (hi : i + 5 ≤ N) (h : RR w g n) (hn : n < 1000000) (k : ∀ (w2 : Wd) (g2 : Sg), RR w2 g2 (n + 1) → Kr 4 room_1 p l e s m args below meth c D A Q 757 [some (.ref b), some (.ref (ad 19)), some (.ref (ad 22)), some (.int (nI i))] [] (cells ad cid 35 w2) 35 23953) : Kr 4 room_1 p l e s m args below meth c D A Q 450 [some (.ref b), some (.ref (ad 19)), some (.ref (ad 22)), some (.int (nI i))] [] (cells ad cid 35 w) 35 23953 := by
  obtain ⟨w1, w2, g2, h1, h2, h3⟩ := pr_reach h hn (xs (i + 1))
  refine k_aload_n C dL_law_450 rfl rfl ?_
  refine k_arg (j := 1) C X (by omega) rfl rfl dL_law_451 dL_law_452 dL_law_453 (by decide) dL_law_454 dL_law_455 ?_
  refine k_callV (n := 1) (b := 19) (ci := 4) (as := [.int (xs (i + 1))]) (S := []) (w := w) (w' := w1) (mm := 35) (rv := some (.int (rReach g (xs (i + 1))))) C C.2.2.2.2.2.2.2.2.1 dL_law_456 h1 rfl rfl xw_2_171 xw_2_168 xw_2_169 xw_2_170 xw_1_1 (by decide +kernel) rfl ⟨rfl, rfl, Nat.le_of_ble_eq_true rfl, Nat.le_of_ble_eq_true rfl⟩ (Nat.le_of_ble_eq_true rfl) ⟨Nat.le_of_ble_eq_true rfl, Nat.le_of_ble_eq_true rfl⟩ rfl (by decide) rfl ?_
  refine k_aload_n C dL_law_459 rfl rfl ?_
  refine k_arg (j := 1) C X (by omega) rfl rfl dL_law_460 dL_law_461 dL_law_462 (by decide) dL_law_463 dL_law_464 ?_
  refine k_callV (n := 1) (b := 22) (ci := 5) (as := [.int (xs (i + 1))]) (S := [.int (rReach g (xs (i + 1)))]) (w := w1) (w' := w2) (mm := 35) (rv := some (.int (rReach g (xs (i + 1))))) C C.2.2.2.2.2.2.2.2.1 dL_law_465 h2 rfl rfl xw_4_98 xw_4_95 xw_4_96 xw_4_97 xw_1_8 (by decide +kernel) rfl ⟨rfl, rfl, Nat.le_of_ble_eq_true rfl, Nat.le_of_ble_eq_true rfl⟩ (Nat.le_of_ble_eq_true rfl) ⟨Nat.le_of_ble_eq_true rfl, Nat.le_of_ble_eq_true rfl⟩ rfl (by decide) rfl ?_
  refine k_icmp_same (tgt := 757) C dL_law_468 (by decide) ?_
  exact k w2 g2 h3
set_option maxRecDepth 100000 in
theorem lc_home {b N i n : Nat} {xs : Nat → Int32} {w : Wd} {g : Sg} (C : NX yL_law 4 ret code p s m args meth c D ad cid A) (X : LX s A b N xs) (hi : i + 5 ≤ N) (h : RR w g n) (hn : n < 1000000) (k : ∀ (w2 : Wd) (g2 : Sg), RR w2 g2 (n + 1) → Kr 4 room_1 p l e s m args below meth c D A Q 757 [some (.ref b), some (.ref (ad 19)), some (.ref (ad 22)), some (.int (nI i))] [] (cells ad cid 35 w2) 35 23953) : Kr 4 room_1 p l e s m args below meth c D A Q 473 [some (.ref b), some (.ref (ad 19)), some (.ref (ad 22)), some (.int (nI i))] [] (cells ad cid 35 w) 35 23953 := by
  obtain ⟨w1, w2, g2, h1, h2, h3⟩ := pr_home h hn (xs (i + 1)) (xs (i + 2))
  refine k_aload_n C dL_law_473 rfl rfl ?_
  refine k_arg (j := 1) C X (by omega) rfl rfl dL_law_474 dL_law_475 dL_law_476 (by decide) dL_law_477 dL_law_478 ?_
  refine k_arg (j := 2) C X (by omega) rfl rfl dL_law_479 dL_law_480 dL_law_481 (by decide) dL_law_482 dL_law_483 ?_
  refine k_callV (n := 2) (b := 19) (ci := 4) (as := [.int (xs (i + 1)), .int (xs (i + 2))]) (S := []) (w := w) (w' := w1) (mm := 35) (rv := some (.int (rHome g (xs (i + 1)) (xs (i + 2))))) C C.2.2.2.2.2.2.2.2.1 dL_law_484 h1 rfl rfl xw_2_183 xw_2_180 xw_2_181 xw_2_182 xw_1_1 (by decide +kernel) rfl ⟨rfl, rfl, Nat.le_of_ble_eq_true rfl, Nat.le_of_ble_eq_true rfl⟩ (Nat.le_of_ble_eq_true rfl) ⟨Nat.le_of_ble_eq_true rfl, Nat.le_of_ble_eq_true rfl⟩ rfl (by decide) rfl ?_
  refine k_aload_n C dL_law_487 rfl rfl ?_
  refine k_arg (j := 1) C X (by omega) rfl rfl dL_law_488 dL_law_489 dL_law_490 (by decide) dL_law_491 dL_law_492 ?_
  refine k_arg (j := 2) C X (by omega) rfl rfl dL_law_493 dL_law_494 dL_law_495 (by decide) dL_law_496 dL_law_497 ?_
  refine k_callV (n := 2) (b := 22) (ci := 5) (as := [.int (xs (i + 1)), .int (xs (i + 2))]) (S := [.int (rHome g (xs (i + 1)) (xs (i + 2)))]) (w := w1) (w' := w2) (mm := 35) (rv := some (.int (rHome g (xs (i + 1)) (xs (i + 2))))) C C.2.2.2.2.2.2.2.2.1 dL_law_498 h2 rfl rfl xw_4_106 xw_4_103 xw_4_104 xw_4_105 xw_1_8 (by decide +kernel) rfl ⟨rfl, rfl, Nat.le_of_ble_eq_true rfl, Nat.le_of_ble_eq_true rfl⟩ (Nat.le_of_ble_eq_true rfl) ⟨Nat.le_of_ble_eq_true rfl, Nat.le_of_ble_eq_true rfl⟩ rfl (by decide) rfl ?_
  refine k_icmp_same (tgt := 757) C dL_law_501 (by decide) ?_
  exact k w2 g2 h3
set_option maxRecDepth 100000 in
theorem lc_swaps {b N i n : Nat} {xs : Nat → Int32} {w : Wd} {g : Sg} (C : NX yL_law 4 ret code p s m args meth c D ad cid A) (X : LX s A b N xs) (hi : i + 5 ≤ N) (h : RR w g n) (hn : n < 1000000) (k : ∀ (w2 : Wd) (g2 : Sg), RR w2 g2 (n + 1) → Kr 4 room_1 p l e s m args below meth c D A Q 757 [some (.ref b), some (.ref (ad 19)), some (.ref (ad 22)), some (.int (nI i))] [] (cells ad cid 35 w2) 35 23953) : Kr 4 room_1 p l e s m args below meth c D A Q 506 [some (.ref b), some (.ref (ad 19)), some (.ref (ad 22)), some (.int (nI i))] [] (cells ad cid 35 w) 35 23953 := by
  obtain ⟨w1, w2, g2, h1, h2, h3⟩ := pr_swaps h hn
  refine k_aload_n C dL_law_506 rfl rfl ?_
  refine k_callV (n := 0) (b := 19) (ci := 4) (as := []) (S := []) (w := w) (w' := w1) (mm := 35) (rv := some (.int (rSwaps g))) C C.2.2.2.2.2.2.2.2.1 dL_law_507 h1 rfl rfl xw_2_187 xw_2_184 xw_2_185 xw_2_186 xw_1_1 (by decide +kernel) rfl ⟨rfl, rfl, Nat.le_of_ble_eq_true rfl, Nat.le_of_ble_eq_true rfl⟩ (Nat.le_of_ble_eq_true rfl) ⟨Nat.le_of_ble_eq_true rfl, Nat.le_of_ble_eq_true rfl⟩ rfl (by decide) rfl ?_
  refine k_aload_n C dL_law_510 rfl rfl ?_
  refine k_callV (n := 0) (b := 22) (ci := 5) (as := []) (S := [.int (rSwaps g)]) (w := w1) (w' := w2) (mm := 35) (rv := some (.int (rSwaps g))) C C.2.2.2.2.2.2.2.2.1 dL_law_511 h2 rfl rfl xw_4_110 xw_4_107 xw_4_108 xw_4_109 xw_1_8 (by decide +kernel) rfl ⟨rfl, rfl, Nat.le_of_ble_eq_true rfl, Nat.le_of_ble_eq_true rfl⟩ (Nat.le_of_ble_eq_true rfl) ⟨Nat.le_of_ble_eq_true rfl, Nat.le_of_ble_eq_true rfl⟩ rfl (by decide) rfl ?_
  refine k_icmp_same (tgt := 757) C dL_law_514 (by decide) ?_
  exact k w2 g2 h3
set_option maxRecDepth 100000 in
theorem lc_cheap {b N i n : Nat} {xs : Nat → Int32} {w : Wd} {g : Sg} (C : NX yL_law 4 ret code p s m args meth c D ad cid A) (X : LX s A b N xs) (hi : i + 5 ≤ N) (h : RR w g n) (hn : n < 1000000) (k : ∀ (w2 : Wd) (g2 : Sg), RR w2 g2 (n + 1) → Kr 4 room_1 p l e s m args below meth c D A Q 757 [some (.ref b), some (.ref (ad 19)), some (.ref (ad 22)), some (.int (nI i))] [] (cells ad cid 35 w2) 35 23953) : Kr 4 room_1 p l e s m args below meth c D A Q 519 [some (.ref b), some (.ref (ad 19)), some (.ref (ad 22)), some (.int (nI i))] [] (cells ad cid 35 w) 35 23953 := by
  obtain ⟨w1, w2, g2, h1, h2, h3⟩ := pr_cheap h hn (xs (i + 1))
  refine k_aload_n C dL_law_519 rfl rfl ?_
  refine k_arg (j := 1) C X (by omega) rfl rfl dL_law_520 dL_law_521 dL_law_522 (by decide) dL_law_523 dL_law_524 ?_
  refine k_callV (n := 1) (b := 19) (ci := 4) (as := [.int (xs (i + 1))]) (S := []) (w := w) (w' := w1) (mm := 35) (rv := some (.int (rCheap g (xs (i + 1))).1)) C C.2.2.2.2.2.2.2.2.1 dL_law_525 h1 rfl rfl xw_2_195 xw_2_192 xw_2_193 xw_2_194 xw_1_1 (by decide +kernel) rfl ⟨rfl, rfl, Nat.le_of_ble_eq_true rfl, Nat.le_of_ble_eq_true rfl⟩ (Nat.le_of_ble_eq_true rfl) ⟨Nat.le_of_ble_eq_true rfl, Nat.le_of_ble_eq_true rfl⟩ rfl (by decide) rfl ?_
  refine k_aload_n C dL_law_528 rfl rfl ?_
  refine k_arg (j := 1) C X (by omega) rfl rfl dL_law_529 dL_law_530 dL_law_531 (by decide) dL_law_532 dL_law_533 ?_
  refine k_callV (n := 1) (b := 22) (ci := 5) (as := [.int (xs (i + 1))]) (S := [.int (rCheap g (xs (i + 1))).1]) (w := w1) (w' := w2) (mm := 35) (rv := some (.int (rCheap g (xs (i + 1))).1)) C C.2.2.2.2.2.2.2.2.1 dL_law_534 h2 rfl rfl xw_4_118 xw_4_115 xw_4_116 xw_4_117 xw_1_8 (by decide +kernel) rfl ⟨rfl, rfl, Nat.le_of_ble_eq_true rfl, Nat.le_of_ble_eq_true rfl⟩ (Nat.le_of_ble_eq_true rfl) ⟨Nat.le_of_ble_eq_true rfl, Nat.le_of_ble_eq_true rfl⟩ rfl (by decide) rfl ?_
  refine k_icmp_same (tgt := 757) C dL_law_537 (by decide) ?_
  exact k w2 g2 h3
set_option maxRecDepth 100000 in
theorem lc_odds {b N i n : Nat} {xs : Nat → Int32} {w : Wd} {g : Sg} (C : NX yL_law 4 ret code p s m args meth c D ad cid A) (X : LX s A b N xs) (hi : i + 5 ≤ N) (h : RR w g n) (hn : n < 1000000) (k : ∀ (w2 : Wd) (g2 : Sg), RR w2 g2 (n + 1) → Kr 4 room_1 p l e s m args below meth c D A Q 757 [some (.ref b), some (.ref (ad 19)), some (.ref (ad 22)), some (.int (nI i))] [] (cells ad cid 35 w2) 35 23953) : Kr 4 room_1 p l e s m args below meth c D A Q 542 [some (.ref b), some (.ref (ad 19)), some (.ref (ad 22)), some (.int (nI i))] [] (cells ad cid 35 w) 35 23953 := by
  obtain ⟨w1, w2, g2, h1, h2, h3⟩ := pr_odds h hn (xs (i + 1)) (xs (i + 2)) (xs (i + 3)) (xs (i + 4))
  refine k_aload_n C dL_law_542 rfl rfl ?_
  refine k_arg (j := 1) C X (by omega) rfl rfl dL_law_543 dL_law_544 dL_law_545 (by decide) dL_law_546 dL_law_547 ?_
  refine k_arg (j := 2) C X (by omega) rfl rfl dL_law_548 dL_law_549 dL_law_550 (by decide) dL_law_551 dL_law_552 ?_
  refine k_arg (j := 3) C X (by omega) rfl rfl dL_law_553 dL_law_554 dL_law_555 (by decide) dL_law_556 dL_law_557 ?_
  refine k_arg (j := 4) C X (by omega) rfl rfl dL_law_558 dL_law_559 dL_law_560 (by decide) dL_law_561 dL_law_562 ?_
  refine k_callV (n := 4) (b := 19) (ci := 4) (as := [.int (xs (i + 1)), .int (xs (i + 2)), .int (xs (i + 3)), .int (xs (i + 4))]) (S := []) (w := w) (w' := w1) (mm := 35) (rv := some (.int (rOdds g (xs (i + 1)) (xs (i + 2)) (xs (i + 3)) (xs (i + 4))))) C C.2.2.2.2.2.2.2.2.1 dL_law_563 h1 rfl rfl xw_2_199 xw_2_196 xw_2_197 xw_2_198 xw_1_1 (by decide +kernel) rfl ⟨rfl, rfl, Nat.le_of_ble_eq_true rfl, Nat.le_of_ble_eq_true rfl⟩ (Nat.le_of_ble_eq_true rfl) ⟨Nat.le_of_ble_eq_true rfl, Nat.le_of_ble_eq_true rfl⟩ rfl (by decide) rfl ?_
  refine k_aload_n C dL_law_566 rfl rfl ?_
  refine k_arg (j := 1) C X (by omega) rfl rfl dL_law_567 dL_law_568 dL_law_569 (by decide) dL_law_570 dL_law_571 ?_
  refine k_arg (j := 2) C X (by omega) rfl rfl dL_law_572 dL_law_573 dL_law_574 (by decide) dL_law_575 dL_law_576 ?_
  refine k_arg (j := 3) C X (by omega) rfl rfl dL_law_577 dL_law_578 dL_law_579 (by decide) dL_law_580 dL_law_581 ?_
  refine k_arg (j := 4) C X (by omega) rfl rfl dL_law_582 dL_law_583 dL_law_584 (by decide) dL_law_585 dL_law_586 ?_
  refine k_callV (n := 4) (b := 22) (ci := 5) (as := [.int (xs (i + 1)), .int (xs (i + 2)), .int (xs (i + 3)), .int (xs (i + 4))]) (S := [.int (rOdds g (xs (i + 1)) (xs (i + 2)) (xs (i + 3)) (xs (i + 4)))]) (w := w1) (w' := w2) (mm := 35) (rv := some (.int (rOdds g (xs (i + 1)) (xs (i + 2)) (xs (i + 3)) (xs (i + 4))))) C C.2.2.2.2.2.2.2.2.1 dL_law_587 h2 rfl rfl xw_4_126 xw_4_123 xw_4_124 xw_4_125 xw_1_8 (by decide +kernel) rfl ⟨rfl, rfl, Nat.le_of_ble_eq_true rfl, Nat.le_of_ble_eq_true rfl⟩ (Nat.le_of_ble_eq_true rfl) ⟨Nat.le_of_ble_eq_true rfl, Nat.le_of_ble_eq_true rfl⟩ rfl (by decide) rfl ?_
  refine k_icmp_same (tgt := 757) C dL_law_590 (by decide) ?_
  exact k w2 g2 h3
set_option maxRecDepth 100000 in
theorem lc_see {b N i n : Nat} {xs : Nat → Int32} {w : Wd} {g : Sg} (C : NX yL_law 4 ret code p s m args meth c D ad cid A) (X : LX s A b N xs) (hi : i + 5 ≤ N) (h : RR w g n) (hn : n < 1000000) (k : ∀ (w2 : Wd) (g2 : Sg), RR w2 g2 (n + 1) → Kr 4 room_1 p l e s m args below meth c D A Q 757 [some (.ref b), some (.ref (ad 19)), some (.ref (ad 22)), some (.int (nI i))] [] (cells ad cid 35 w2) 35 23953) : Kr 4 room_1 p l e s m args below meth c D A Q 595 [some (.ref b), some (.ref (ad 19)), some (.ref (ad 22)), some (.int (nI i))] [] (cells ad cid 35 w) 35 23953 := by
  obtain ⟨w1, w2, g2, h1, h2, h3⟩ := pr_see h hn (xs (i + 1)) (xs (i + 2)) (xs (i + 3))
  refine k_aload_n C dL_law_595 rfl rfl ?_
  refine k_arg (j := 1) C X (by omega) rfl rfl dL_law_596 dL_law_597 dL_law_598 (by decide) dL_law_599 dL_law_600 ?_
  refine k_arg (j := 2) C X (by omega) rfl rfl dL_law_601 dL_law_602 dL_law_603 (by decide) dL_law_604 dL_law_605 ?_
  refine k_arg (j := 3) C X (by omega) rfl rfl dL_law_606 dL_law_607 dL_law_608 (by decide) dL_law_609 dL_law_610 ?_
  refine k_callV (n := 3) (b := 19) (ci := 4) (as := [.int (xs (i + 1)), .int (xs (i + 2)), .int (xs (i + 3))]) (S := []) (w := w) (w' := w1) (mm := 35) (rv := some (.int (rSee g (xs (i + 1)) (xs (i + 2)) (xs (i + 3))).1)) C C.2.2.2.2.2.2.2.2.1 dL_law_611 h1 rfl rfl xw_2_234 xw_2_231 xw_2_232 xw_2_233 xw_1_1 (by decide +kernel) rfl ⟨rfl, rfl, Nat.le_of_ble_eq_true rfl, Nat.le_of_ble_eq_true rfl⟩ (Nat.le_of_ble_eq_true rfl) ⟨Nat.le_of_ble_eq_true rfl, Nat.le_of_ble_eq_true rfl⟩ rfl (by decide) rfl ?_
  refine k_aload_n C dL_law_614 rfl rfl ?_
  refine k_arg (j := 1) C X (by omega) rfl rfl dL_law_615 dL_law_616 dL_law_617 (by decide) dL_law_618 dL_law_619 ?_
  refine k_arg (j := 2) C X (by omega) rfl rfl dL_law_620 dL_law_621 dL_law_622 (by decide) dL_law_623 dL_law_624 ?_
  refine k_arg (j := 3) C X (by omega) rfl rfl dL_law_625 dL_law_626 dL_law_627 (by decide) dL_law_628 dL_law_629 ?_
  refine k_callV (n := 3) (b := 22) (ci := 5) (as := [.int (xs (i + 1)), .int (xs (i + 2)), .int (xs (i + 3))]) (S := [.int (rSee g (xs (i + 1)) (xs (i + 2)) (xs (i + 3))).1]) (w := w1) (w' := w2) (mm := 35) (rv := some (.int (rSee g (xs (i + 1)) (xs (i + 2)) (xs (i + 3))).1)) C C.2.2.2.2.2.2.2.2.1 dL_law_630 h2 rfl rfl xw_4_148 xw_4_145 xw_4_146 xw_4_147 xw_1_8 (by decide +kernel) rfl ⟨rfl, rfl, Nat.le_of_ble_eq_true rfl, Nat.le_of_ble_eq_true rfl⟩ (Nat.le_of_ble_eq_true rfl) ⟨Nat.le_of_ble_eq_true rfl, Nat.le_of_ble_eq_true rfl⟩ rfl (by decide) rfl ?_
  refine k_icmp_same (tgt := 757) C dL_law_633 (by decide) ?_
  exact k w2 g2 h3
set_option maxRecDepth 100000 in
theorem lc_forget {b N i n : Nat} {xs : Nat → Int32} {w : Wd} {g : Sg} (C : NX yL_law 4 ret code p s m args meth c D ad cid A) (X : LX s A b N xs) (hi : i + 5 ≤ N) (h : RR w g n) (hn : n < 1000000) (k : ∀ (w2 : Wd) (g2 : Sg), RR w2 g2 (n + 1) → Kr 4 room_1 p l e s m args below meth c D A Q 757 [some (.ref b), some (.ref (ad 19)), some (.ref (ad 22)), some (.int (nI i))] [] (cells ad cid 35 w2) 35 23953) : Kr 4 room_1 p l e s m args below meth c D A Q 638 [some (.ref b), some (.ref (ad 19)), some (.ref (ad 22)), some (.int (nI i))] [] (cells ad cid 35 w) 35 23953 := by
  obtain ⟨w1, w2, g2, h1, h2, h3⟩ := pr_forget h hn
  refine k_aload_n C dL_law_638 rfl rfl ?_
  refine k_callV (n := 0) (b := 19) (ci := 4) (as := []) (S := []) (w := w) (w' := w1) (mm := 35) (rv := some (.int (rForget g).1)) C C.2.2.2.2.2.2.2.2.1 dL_law_639 h1 rfl rfl xw_3_2 xw_2_239 xw_3_0 xw_3_1 xw_1_1 (by decide +kernel) rfl ⟨rfl, rfl, Nat.le_of_ble_eq_true rfl, Nat.le_of_ble_eq_true rfl⟩ (Nat.le_of_ble_eq_true rfl) ⟨Nat.le_of_ble_eq_true rfl, Nat.le_of_ble_eq_true rfl⟩ rfl (by decide) rfl ?_
  refine k_aload_n C dL_law_642 rfl rfl ?_
  refine k_callV (n := 0) (b := 22) (ci := 5) (as := []) (S := [.int (rForget g).1]) (w := w1) (w' := w2) (mm := 35) (rv := some (.int (rForget g).1)) C C.2.2.2.2.2.2.2.2.1 dL_law_643 h2 rfl rfl xw_4_152 xw_4_149 xw_4_150 xw_4_151 xw_1_8 (by decide +kernel) rfl ⟨rfl, rfl, Nat.le_of_ble_eq_true rfl, Nat.le_of_ble_eq_true rfl⟩ (Nat.le_of_ble_eq_true rfl) ⟨Nat.le_of_ble_eq_true rfl, Nat.le_of_ble_eq_true rfl⟩ rfl (by decide) rfl ?_
  refine k_icmp_same (tgt := 757) C dL_law_646 (by decide) ?_
  exact k w2 g2 h3
set_option maxRecDepth 100000 in
theorem lc_runs {b N i n : Nat} {xs : Nat → Int32} {w : Wd} {g : Sg} (C : NX yL_law 4 ret code p s m args meth c D ad cid A) (X : LX s A b N xs) (hi : i + 5 ≤ N) (h : RR w g n) (hn : n < 1000000) (k : ∀ (w2 : Wd) (g2 : Sg), RR w2 g2 (n + 1) → Kr 4 room_1 p l e s m args below meth c D A Q 757 [some (.ref b), some (.ref (ad 19)), some (.ref (ad 22)), some (.int (nI i))] [] (cells ad cid 35 w2) 35 23953) : Kr 4 room_1 p l e s m args below meth c D A Q 651 [some (.ref b), some (.ref (ad 19)), some (.ref (ad 22)), some (.int (nI i))] [] (cells ad cid 35 w) 35 23953 := by
  obtain ⟨w1, w2, g2, h1, h2, h3⟩ := pr_runs h hn (xs (i + 1)) (xs (i + 2)) (xs (i + 3))
  refine k_aload_n C dL_law_651 rfl rfl ?_
  refine k_arg (j := 1) C X (by omega) rfl rfl dL_law_652 dL_law_653 dL_law_654 (by decide) dL_law_655 dL_law_656 ?_
  refine k_arg (j := 2) C X (by omega) rfl rfl dL_law_657 dL_law_658 dL_law_659 (by decide) dL_law_660 dL_law_661 ?_
  refine k_arg (j := 3) C X (by omega) rfl rfl dL_law_662 dL_law_663 dL_law_664 (by decide) dL_law_665 dL_law_666 ?_
  refine k_callV (n := 3) (b := 19) (ci := 4) (as := [.int (xs (i + 1)), .int (xs (i + 2)), .int (xs (i + 3))]) (S := []) (w := w) (w' := w1) (mm := 35) (rv := some (.int (rRuns g (xs (i + 1)) (xs (i + 2)) (xs (i + 3))))) C C.2.2.2.2.2.2.2.2.1 dL_law_667 h1 rfl rfl xw_3_7 xw_3_4 xw_3_5 xw_3_6 xw_1_1 (by decide +kernel) rfl ⟨rfl, rfl, Nat.le_of_ble_eq_true rfl, Nat.le_of_ble_eq_true rfl⟩ (Nat.le_of_ble_eq_true rfl) ⟨Nat.le_of_ble_eq_true rfl, Nat.le_of_ble_eq_true rfl⟩ rfl (by decide) rfl ?_
  refine k_aload_n C dL_law_670 rfl rfl ?_
  refine k_arg (j := 1) C X (by omega) rfl rfl dL_law_671 dL_law_672 dL_law_673 (by decide) dL_law_674 dL_law_675 ?_
  refine k_arg (j := 2) C X (by omega) rfl rfl dL_law_676 dL_law_677 dL_law_678 (by decide) dL_law_679 dL_law_680 ?_
  refine k_arg (j := 3) C X (by omega) rfl rfl dL_law_681 dL_law_682 dL_law_683 (by decide) dL_law_684 dL_law_685 ?_
  refine k_callV (n := 3) (b := 22) (ci := 5) (as := [.int (xs (i + 1)), .int (xs (i + 2)), .int (xs (i + 3))]) (S := [.int (rRuns g (xs (i + 1)) (xs (i + 2)) (xs (i + 3)))]) (w := w1) (w' := w2) (mm := 35) (rv := some (.int (rRuns g (xs (i + 1)) (xs (i + 2)) (xs (i + 3))))) C C.2.2.2.2.2.2.2.2.1 dL_law_686 h2 rfl rfl xw_4_156 xw_4_153 xw_4_154 xw_4_155 xw_1_8 (by decide +kernel) rfl ⟨rfl, rfl, Nat.le_of_ble_eq_true rfl, Nat.le_of_ble_eq_true rfl⟩ (Nat.le_of_ble_eq_true rfl) ⟨Nat.le_of_ble_eq_true rfl, Nat.le_of_ble_eq_true rfl⟩ rfl (by decide) rfl ?_
  refine k_icmp_same (tgt := 757) C dL_law_689 (by decide) ?_
  exact k w2 g2 h3
set_option maxRecDepth 100000 in
theorem lc_image {b N i n : Nat} {xs : Nat → Int32} {w : Wd} {g : Sg} (C : NX yL_law 4 ret code p s m args meth c D ad cid A) (X : LX s A b N xs) (hi : i + 5 ≤ N) (h : RR w g n) (hn : n < 1000000) (k : ∀ (w2 : Wd) (g2 : Sg), RR w2 g2 (n + 1) → Kr 4 room_1 p l e s m args below meth c D A Q 757 [some (.ref b), some (.ref (ad 19)), some (.ref (ad 22)), some (.int (nI i))] [] (cells ad cid 35 w2) 35 23953) : Kr 4 room_1 p l e s m args below meth c D A Q 694 [some (.ref b), some (.ref (ad 19)), some (.ref (ad 22)), some (.int (nI i))] [] (cells ad cid 35 w) 35 23953 := by
  obtain ⟨w1, w2, g2, h1, h2, h3⟩ := pr_image h hn
  refine k_aload_n C dL_law_694 rfl rfl ?_
  refine k_callV (n := 0) (b := 19) (ci := 4) (as := []) (S := []) (w := w) (w' := w1) (mm := 35) (rv := some (.int (rImage g).1)) C C.2.2.2.2.2.2.2.2.1 dL_law_695 h1 rfl rfl xw_3_27 xw_3_24 xw_3_25 xw_3_26 xw_1_1 (by decide +kernel) rfl ⟨rfl, rfl, Nat.le_of_ble_eq_true rfl, Nat.le_of_ble_eq_true rfl⟩ (Nat.le_of_ble_eq_true rfl) ⟨Nat.le_of_ble_eq_true rfl, Nat.le_of_ble_eq_true rfl⟩ rfl (by decide) rfl ?_
  refine k_aload_n C dL_law_698 rfl rfl ?_
  refine k_callV (n := 0) (b := 22) (ci := 5) (as := []) (S := [.int (rImage g).1]) (w := w1) (w' := w2) (mm := 35) (rv := some (.int (rImage g).1)) C C.2.2.2.2.2.2.2.2.1 dL_law_699 h2 rfl rfl xw_4_179 xw_4_176 xw_4_177 xw_4_178 xw_1_8 (by decide +kernel) rfl ⟨rfl, rfl, Nat.le_of_ble_eq_true rfl, Nat.le_of_ble_eq_true rfl⟩ (Nat.le_of_ble_eq_true rfl) ⟨Nat.le_of_ble_eq_true rfl, Nat.le_of_ble_eq_true rfl⟩ rfl (by decide) rfl ?_
  refine k_icmp_same (tgt := 757) C dL_law_702 (by decide) ?_
  exact k w2 g2 h3
set_option maxRecDepth 100000 in
theorem lc_restore {b N i n : Nat} {xs : Nat → Int32} {w : Wd} {g : Sg} (C : NX yL_law 4 ret code p s m args meth c D ad cid A) (X : LX s A b N xs) (hi : i + 5 ≤ N) (h : RR w g n) (hn : n < 1000000) (k : ∀ (w2 : Wd) (g2 : Sg), RR w2 g2 (n + 1) → Kr 4 room_1 p l e s m args below meth c D A Q 757 [some (.ref b), some (.ref (ad 19)), some (.ref (ad 22)), some (.int (nI i))] [] (cells ad cid 35 w2) 35 23953) : Kr 4 room_1 p l e s m args below meth c D A Q 707 [some (.ref b), some (.ref (ad 19)), some (.ref (ad 22)), some (.int (nI i))] [] (cells ad cid 35 w) 35 23953 := by
  obtain ⟨w1, w2, g2, h1, h2, h3⟩ := pr_restore h hn
  refine k_aload_n C dL_law_707 rfl rfl ?_
  refine k_callV (n := 0) (b := 19) (ci := 4) (as := []) (S := []) (w := w) (w' := w1) (mm := 35) (rv := some (.int (rRest g).1)) C C.2.2.2.2.2.2.2.2.1 dL_law_708 h1 rfl rfl xw_3_39 xw_3_36 xw_3_37 xw_3_38 xw_1_1 (by decide +kernel) rfl ⟨rfl, rfl, Nat.le_of_ble_eq_true rfl, Nat.le_of_ble_eq_true rfl⟩ (Nat.le_of_ble_eq_true rfl) ⟨Nat.le_of_ble_eq_true rfl, Nat.le_of_ble_eq_true rfl⟩ rfl (by decide) rfl ?_
  refine k_aload_n C dL_law_711 rfl rfl ?_
  refine k_callV (n := 0) (b := 22) (ci := 5) (as := []) (S := [.int (rRest g).1]) (w := w1) (w' := w2) (mm := 35) (rv := some (.int (rRest g).1)) C C.2.2.2.2.2.2.2.2.1 dL_law_712 h2 rfl rfl xw_4_183 xw_4_180 xw_4_181 xw_4_182 xw_1_8 (by decide +kernel) rfl ⟨rfl, rfl, Nat.le_of_ble_eq_true rfl, Nat.le_of_ble_eq_true rfl⟩ (Nat.le_of_ble_eq_true rfl) ⟨Nat.le_of_ble_eq_true rfl, Nat.le_of_ble_eq_true rfl⟩ rfl (by decide) rfl ?_
  refine k_icmp_same (tgt := 757) C dL_law_715 (by decide) ?_
  exact k w2 g2 h3
set_option maxRecDepth 100000 in
theorem lc_count {b N i n : Nat} {xs : Nat → Int32} {w : Wd} {g : Sg} (C : NX yL_law 4 ret code p s m args meth c D ad cid A) (X : LX s A b N xs) (hi : i + 5 ≤ N) (h : RR w g n) (hn : n < 1000000) (k : ∀ (w2 : Wd) (g2 : Sg), RR w2 g2 (n + 1) → Kr 4 room_1 p l e s m args below meth c D A Q 757 [some (.ref b), some (.ref (ad 19)), some (.ref (ad 22)), some (.int (nI i))] [] (cells ad cid 35 w2) 35 23953) : Kr 4 room_1 p l e s m args below meth c D A Q 720 [some (.ref b), some (.ref (ad 19)), some (.ref (ad 22)), some (.int (nI i))] [] (cells ad cid 35 w) 35 23953 := by
  obtain ⟨w1, w2, g2, h1, h2, h3⟩ := pr_count h hn (xs (i + 1))
  refine k_aload_n C dL_law_720 rfl rfl ?_
  refine k_arg (j := 1) C X (by omega) rfl rfl dL_law_721 dL_law_722 dL_law_723 (by decide) dL_law_724 dL_law_725 ?_
  refine k_callV (n := 1) (b := 19) (ci := 4) (as := [.int (xs (i + 1))]) (S := []) (w := w) (w' := w1) (mm := 35) (rv := some (.int (rCount g (xs (i + 1))))) C C.2.2.2.2.2.2.2.2.1 dL_law_726 h1 rfl rfl xw_3_43 xw_3_40 xw_3_41 xw_3_42 xw_1_1 (by decide +kernel) rfl ⟨rfl, rfl, Nat.le_of_ble_eq_true rfl, Nat.le_of_ble_eq_true rfl⟩ (Nat.le_of_ble_eq_true rfl) ⟨Nat.le_of_ble_eq_true rfl, Nat.le_of_ble_eq_true rfl⟩ rfl (by decide) rfl ?_
  refine k_aload_n C dL_law_729 rfl rfl ?_
  refine k_arg (j := 1) C X (by omega) rfl rfl dL_law_730 dL_law_731 dL_law_732 (by decide) dL_law_733 dL_law_734 ?_
  refine k_callV (n := 1) (b := 22) (ci := 5) (as := [.int (xs (i + 1))]) (S := [.int (rCount g (xs (i + 1)))]) (w := w1) (w' := w2) (mm := 35) (rv := some (.int (rCount g (xs (i + 1))))) C C.2.2.2.2.2.2.2.2.1 dL_law_735 h2 rfl rfl xw_4_187 xw_4_184 xw_4_185 xw_4_186 xw_1_8 (by decide +kernel) rfl ⟨rfl, rfl, Nat.le_of_ble_eq_true rfl, Nat.le_of_ble_eq_true rfl⟩ (Nat.le_of_ble_eq_true rfl) ⟨Nat.le_of_ble_eq_true rfl, Nat.le_of_ble_eq_true rfl⟩ rfl (by decide) rfl ?_
  refine k_icmp_same (tgt := 757) C dL_law_738 (by decide) ?_
  exact k w2 g2 h3
set_option maxRecDepth 100000 in
theorem lc_digest {b N i n : Nat} {xs : Nat → Int32} {w : Wd} {g : Sg} (C : NX yL_law 4 ret code p s m args meth c D ad cid A) (X : LX s A b N xs) (hi : i + 5 ≤ N) (h : RR w g n) (hn : n < 1000000) (k : ∀ (w2 : Wd) (g2 : Sg), RR w2 g2 (n + 1) → Kr 4 room_1 p l e s m args below meth c D A Q 757 [some (.ref b), some (.ref (ad 19)), some (.ref (ad 22)), some (.int (nI i))] [] (cells ad cid 35 w2) 35 23953) : Kr 4 room_1 p l e s m args below meth c D A Q 743 [some (.ref b), some (.ref (ad 19)), some (.ref (ad 22)), some (.int (nI i))] [] (cells ad cid 35 w) 35 23953 := by
  obtain ⟨w1, w2, g2, h1, h2, h3⟩ := pr_digest h hn
  refine k_aload_n C dL_law_743 rfl rfl ?_
  refine k_callV (n := 0) (b := 19) (ci := 4) (as := []) (S := []) (w := w) (w' := w1) (mm := 35) (rv := some (.long (rDig g))) C C.2.2.2.2.2.2.2.2.1 dL_law_744 h1 rfl rfl xw_3_47 xw_3_44 xw_3_45 xw_3_46 xw_1_1 (by decide +kernel) rfl ⟨rfl, rfl, Nat.le_of_ble_eq_true rfl, Nat.le_of_ble_eq_true rfl⟩ (Nat.le_of_ble_eq_true rfl) ⟨Nat.le_of_ble_eq_true rfl, Nat.le_of_ble_eq_true rfl⟩ rfl (by decide) rfl ?_
  refine k_aload_n C dL_law_747 rfl rfl ?_
  refine k_callV (n := 0) (b := 22) (ci := 5) (as := []) (S := [.long (rDig g)]) (w := w1) (w' := w2) (mm := 35) (rv := some (.long (rDig g))) C C.2.2.2.2.2.2.2.2.1 dL_law_748 h2 rfl rfl xw_4_199 xw_4_196 xw_4_197 xw_4_198 xw_1_8 (by decide +kernel) rfl ⟨rfl, rfl, Nat.le_of_ble_eq_true rfl, Nat.le_of_ble_eq_true rfl⟩ (Nat.le_of_ble_eq_true rfl) ⟨Nat.le_of_ble_eq_true rfl, Nat.le_of_ble_eq_true rfl⟩ rfl (by decide) rfl ?_
  refine k_lcmp C dL_law_751 ?_
  rw [show lg_cmp (rDig g) (rDig g) = 0 from lg_same _]
  refine k_if_eq0 (tgt := 757) C dL_law_752 (by decide) ?_
  exact k w2 g2 h3
end LW
