/-! the law's cases, one by one -/
section LawCases
variable {p : Program} {l : Launch} {e : Env} {s : State} {m : MethodId} {below : List Frame} {meth : Method} {c : Code} {b0 L : Nat} {xs : Nat → Int32} {g : GG} {a r b : Nat → Nat} {o i k n : Nat}
set_option maxHeartbeats 1000000 in
set_option maxRecDepth 100000 in
theorem law_120 (C0 : lw_At p s m meth c b0 L xs) (hst : l.stackTraces = false) (hL : L ≤ 3585) (hK : KK g s) (hXK : XK s) (hXZ : XZ (fun q : Nat => s.heap.size ≤ q) s s.heap) (hi : i + 7 ≤ L) (hk : k + 1 ≤ 603072) (hn : n + 6 ≤ 7218912) (K : AtH p l e s m below meth c b0 g a r b o i (k + 1) (n + 6) 705) : AtH p l e s m below meth c b0 g a r b o i k n 120 := by
  obtain ⟨hx, hb, hr, hml, hown, hts0, hX, hbl, hlocks, hgv⟩ := C0
  have hown : s.vm.findClass RL = some m.cls := hown
  have hts : ∀ w ∈ wsL_law, w.before #[Value.ref b0] s = true := fun w h => hts0 w (wsL_law_in w h)
  have htx : ∀ w ∈ wsL_law ++ xwE, w.before #[Value.ref b0] s = true := fun w h => (List.mem_append.mp h).elim (hts w) (fun h => hts0 w (xwE_in w h))
  have hA : ∀ q : Nat, s.heap.size ≤ q → (fun q : Nat => s.heap.size ≤ q) q := fun _ h => h
  have hbA : ¬ (fun q : Nat => s.heap.size ≤ q) b0 := Nat.not_le.mpr hbl
  intro X M f H locs ls hSI hP hD hS hl
  obtain ⟨xn, xk, xa, x1, x4, mS, mn, mf, mk, ma, mg, mc, mce⟩ := SI_f hSI
  refine lv_aload_n hx hb dL_law_120 rfl (lv_at hl 1 rfl) ?_
  refine lv_aload_n hx hb dL_law_121 rfl (lv_at hl 0 rfl) ?_
  refine lv_iload hx hb dL_law_122 (lv_at hl 4 rfl) ?_
  refine lv_iconst (v := 1) hx hb dL_law_124 (by decide) ?_
  refine ga_iadd (v := nI (i + 1)) hx hb (nI_add i 1) dL_law_125 ?_
  refine va_sld hx hb hX hbl hbA hS (vp_in_nI (by omega) (by omega)) dL_law_126 ?_
  refine lv_aload_n hx hb dL_law_127 rfl (lv_at hl 0 rfl) ?_
  refine lv_iload hx hb dL_law_128 (lv_at hl 4 rfl) ?_
  refine lv_iconst (v := 2) hx hb dL_law_130 (by decide) ?_
  refine ga_iadd (v := nI (i + 2)) hx hb (nI_add i 2) dL_law_131 ?_
  refine va_sld hx hb hX hbl hbA hS (vp_in_nI (by omega) (by omega)) dL_law_132 ?_
  refine lv_aload_n hx hb dL_law_133 rfl (lv_at hl 0 rfl) ?_
  refine lv_iload hx hb dL_law_134 (lv_at hl 4 rfl) ?_
  refine lv_iconst (v := 3) hx hb dL_law_136 (by decide) ?_
  refine ga_iadd (v := nI (i + 3)) hx hb (nI_add i 3) dL_law_137 ?_
  refine va_sld hx hb hX hbl hbA hS (vp_in_nI (by omega) (by omega)) dL_law_138 ?_
  refine lv_i2l (v := (xs (nI (i + 3)).toNatClampNeg).toInt64) hx hb dL_law_139 rfl ?_
  refine lv_bipush (v := 32) hx hb dL_law_140 (by decide) ?_
  refine lv_lshl (v := ((xs (nI (i + 3)).toNatClampNeg).toInt64 <<< ((32 : Int32).toInt64 &&& 63))) hx hb dL_law_142 rfl ?_
  refine lv_aload_n hx hb dL_law_143 rfl (lv_at hl 0 rfl) ?_
  refine lv_iload hx hb dL_law_144 (lv_at hl 4 rfl) ?_
  refine lv_iconst (v := 4) hx hb dL_law_146 (by decide) ?_
  refine ga_iadd (v := nI (i + 4)) hx hb (nI_add i 4) dL_law_147 ?_
  refine va_sld hx hb hX hbl hbA hS (vp_in_nI (by omega) (by omega)) dL_law_148 ?_
  refine lv_i2l (v := (xs (nI (i + 4)).toNatClampNeg).toInt64) hx hb dL_law_149 rfl ?_
  refine lv_ldc2 hx hb hown (hts (.constantLong RL 33 (4294967295)) (by decide +kernel)) dL_law_150 ?_
  refine lv_land hx hb dL_law_153 ?_
  refine lv_lor hx hb dL_law_154 ?_
  refine lv_aload_n hx hb dL_law_155 rfl (lv_at hl 0 rfl) ?_
  refine lv_iload hx hb dL_law_156 (lv_at hl 4 rfl) ?_
  refine lv_iconst (v := 5) hx hb dL_law_158 (by decide) ?_
  refine ga_iadd (v := nI (i + 5)) hx hb (nI_add i 5) dL_law_159 ?_
  refine va_sld hx hb hX hbl hbA hS (vp_in_nI (by omega) (by omega)) dL_law_160 ?_
  refine lv_i2l (v := (xs (nI (i + 5)).toNatClampNeg).toInt64) hx hb dL_law_161 rfl ?_
  refine lv_bipush (v := 32) hx hb dL_law_162 (by decide) ?_
  refine lv_lshl (v := ((xs (nI (i + 5)).toNatClampNeg).toInt64 <<< ((32 : Int32).toInt64 &&& 63))) hx hb dL_law_164 rfl ?_
  refine lv_aload_n hx hb dL_law_165 rfl (lv_at hl 0 rfl) ?_
  refine lv_iload hx hb dL_law_166 (lv_at hl 4 rfl) ?_
  refine lv_bipush (v := 6) hx hb dL_law_168 (by decide) ?_
  refine ga_iadd (v := nI (i + 6)) hx hb (nI_add i 6) dL_law_170 ?_
  refine va_sld hx hb hX hbl hbA hS (vp_in_nI (by omega) (by omega)) dL_law_171 ?_
  refine lv_i2l (v := (xs (nI (i + 6)).toNatClampNeg).toInt64) hx hb dL_law_172 rfl ?_
  refine lv_ldc2 hx hb hown (hts (.constantLong RL 33 (4294967295)) (by decide +kernel)) dL_law_173 ?_
  refine lv_land hx hb dL_law_176 ?_
  refine lv_lor hx hb dL_law_177 ?_
  refine lx_w (va_runV (As := [.int (xs (nI (i + 1)).toNatClampNeg), .int (xs (nI (i + 2)).toNatClampNeg), .long (loL (xs (nI (i + 3)).toNatClampNeg) (xs (nI (i + 4)).toNatClampNeg)), .long (loL (xs (nI (i + 5)).toNatClampNeg) (xs (nI (i + 6)).toNatClampNeg))]) (rest := []) ⟨hx, hb, hml, hown, hts⟩ (c_X3_row l g a r X H.size (xs (nI (i + 1)).toNatClampNeg) (xs (nI (i + 2)).toNatClampNeg) (loL (xs (nI (i + 3)).toNatClampNeg) (xs (nI (i + 4)).toNatClampNeg)) (loL (xs (nI (i + 5)).toNatClampNeg) (xs (nI (i + 6)).toNatClampNeg)) xn xk) (cwV 4 hts gL_law_X3_row rfl rfl rfl (by decide +kernel) ⟨Nat.le_of_ble_eq_true rfl, Nat.le_of_ble_eq_true rfl⟩) (pv_w hK hP (ci := 5) (q0 := 0) rfl rfl (hP.part (cx := wXc g a r X) [0, 1, 2, 3, 4, 5, 6, 7, 8, 9, 10, 11, 12, 13, 14, 15, 16, 17, 18, 19, 20] rfl) (hD.part (cx := wXc g a r X) [0, 1, 2, 3, 4, 5, 6, 7, 8, 9, 10, 11, 12, 13, 14, 15, 16, 17, 18, 19, 20] (by decide) rfl)) rfl rfl hl.1 rfl (lv_room (Nat.le_of_ble_eq_true rfl)) dL_law_178 ⟨Nat.le_of_succ_le hk, Nat.le_trans (Nat.le_add_right n 6) hn⟩) hP hD hS hA (fun rx ux H locs hx1 hP hD hS => ?_)
  refine lv_aload_n hx hb dL_law_181 rfl (lv_at hl 2 rfl) ?_
  refine lv_aload_n hx hb dL_law_182 rfl (lv_at hl 0 rfl) ?_
  refine lv_iload hx hb dL_law_183 (lv_at hl 4 rfl) ?_
  refine lv_iconst (v := 1) hx hb dL_law_185 (by decide) ?_
  refine ga_iadd (v := nI (i + 1)) hx hb (nI_add i 1) dL_law_186 ?_
  refine va_sld hx hb hX hbl hbA hS (vp_in_nI (by omega) (by omega)) dL_law_187 ?_
  refine lv_aload_n hx hb dL_law_188 rfl (lv_at hl 0 rfl) ?_
  refine lv_iload hx hb dL_law_189 (lv_at hl 4 rfl) ?_
  refine lv_iconst (v := 2) hx hb dL_law_191 (by decide) ?_
  refine ga_iadd (v := nI (i + 2)) hx hb (nI_add i 2) dL_law_192 ?_
  refine va_sld hx hb hX hbl hbA hS (vp_in_nI (by omega) (by omega)) dL_law_193 ?_
  refine lv_aload_n hx hb dL_law_194 rfl (lv_at hl 0 rfl) ?_
  refine lv_iload hx hb dL_law_195 (lv_at hl 4 rfl) ?_
  refine lv_iconst (v := 3) hx hb dL_law_197 (by decide) ?_
  refine ga_iadd (v := nI (i + 3)) hx hb (nI_add i 3) dL_law_198 ?_
  refine va_sld hx hb hX hbl hbA hS (vp_in_nI (by omega) (by omega)) dL_law_199 ?_
  refine lv_i2l (v := (xs (nI (i + 3)).toNatClampNeg).toInt64) hx hb dL_law_200 rfl ?_
  refine lv_bipush (v := 32) hx hb dL_law_201 (by decide) ?_
  refine lv_lshl (v := ((xs (nI (i + 3)).toNatClampNeg).toInt64 <<< ((32 : Int32).toInt64 &&& 63))) hx hb dL_law_203 rfl ?_
  refine lv_aload_n hx hb dL_law_204 rfl (lv_at hl 0 rfl) ?_
  refine lv_iload hx hb dL_law_205 (lv_at hl 4 rfl) ?_
  refine lv_iconst (v := 4) hx hb dL_law_207 (by decide) ?_
  refine ga_iadd (v := nI (i + 4)) hx hb (nI_add i 4) dL_law_208 ?_
  refine va_sld hx hb hX hbl hbA hS (vp_in_nI (by omega) (by omega)) dL_law_209 ?_
  refine lv_i2l (v := (xs (nI (i + 4)).toNatClampNeg).toInt64) hx hb dL_law_210 rfl ?_
  refine lv_ldc2 hx hb hown (hts (.constantLong RL 33 (4294967295)) (by decide +kernel)) dL_law_211 ?_
  refine lv_land hx hb dL_law_214 ?_
  refine lv_lor hx hb dL_law_215 ?_
  refine lv_aload_n hx hb dL_law_216 rfl (lv_at hl 0 rfl) ?_
  refine lv_iload hx hb dL_law_217 (lv_at hl 4 rfl) ?_
  refine lv_iconst (v := 5) hx hb dL_law_219 (by decide) ?_
  refine ga_iadd (v := nI (i + 5)) hx hb (nI_add i 5) dL_law_220 ?_
  refine va_sld hx hb hX hbl hbA hS (vp_in_nI (by omega) (by omega)) dL_law_221 ?_
  refine lv_i2l (v := (xs (nI (i + 5)).toNatClampNeg).toInt64) hx hb dL_law_222 rfl ?_
  refine lv_bipush (v := 32) hx hb dL_law_223 (by decide) ?_
  refine lv_lshl (v := ((xs (nI (i + 5)).toNatClampNeg).toInt64 <<< ((32 : Int32).toInt64 &&& 63))) hx hb dL_law_225 rfl ?_
  refine lv_aload_n hx hb dL_law_226 rfl (lv_at hl 0 rfl) ?_
  refine lv_iload hx hb dL_law_227 (lv_at hl 4 rfl) ?_
  refine lv_bipush (v := 6) hx hb dL_law_229 (by decide) ?_
  refine ga_iadd (v := nI (i + 6)) hx hb (nI_add i 6) dL_law_231 ?_
  refine va_sld hx hb hX hbl hbA hS (vp_in_nI (by omega) (by omega)) dL_law_232 ?_
  refine lv_i2l (v := (xs (nI (i + 6)).toNatClampNeg).toInt64) hx hb dL_law_233 rfl ?_
  refine lv_ldc2 hx hb hown (hts (.constantLong RL 33 (4294967295)) (by decide +kernel)) dL_law_234 ?_
  refine lv_land hx hb dL_law_237 ?_
  refine lv_lor hx hb dL_law_238 ?_
  refine lm_w (va_runV (As := [.int (xs (nI (i + 1)).toNatClampNeg), .int (xs (nI (i + 2)).toNatClampNeg), .long (loL (xs (nI (i + 3)).toNatClampNeg) (xs (nI (i + 4)).toNatClampNeg)), .long (loL (xs (nI (i + 5)).toNatClampNeg) (xs (nI (i + 6)).toNatClampNeg))]) (rest := [.int rx]) ⟨hx, hb, hml, hown, hts⟩ (c_X4_row l g b M H.size (xs (nI (i + 1)).toNatClampNeg) (xs (nI (i + 2)).toNatClampNeg) (loL (xs (nI (i + 3)).toNatClampNeg) (xs (nI (i + 4)).toNatClampNeg)) (loL (xs (nI (i + 5)).toNatClampNeg) (xs (nI (i + 6)).toNatClampNeg)) mn mf) (cwV 4 hts gL_law_X4_row rfl rfl rfl (by decide +kernel) ⟨Nat.le_of_ble_eq_true rfl, Nat.le_of_ble_eq_true rfl⟩) (pv_w hK hP (ci := 6) (q0 := 21) rfl rfl (hP.sub (ws' := wM g b M) [21, 22, 23, 24, 25, 26, 27, 28, 29, 30, 31, 32, 33] rfl) (hD.sub (ws' := wM g b M) [21, 22, 23, 24, 25, 26, 27, 28, 29, 30, 31, 32, 33] (by decide) rfl)) rfl rfl hl.1 rfl (lv_room (Nat.le_of_ble_eq_true rfl)) dL_law_239 ⟨Nat.le_of_succ_le hk, Nat.le_trans (Nat.le_add_right n 6) hn⟩) hP hD hS hA (fun rm um H locs hm1 hP hD hS => ?_)
  refine lv_icmp_eq (tgt := 705) hx hb dL_law_242 (by decide) (fun cq => ?_) (fun cq => ?_)
  · skip
    exact W.widen (k := k + 1) (n := n + 6) (Nat.le_add_right k 1) (Nat.le_add_right n 6) (K ux um f H locs ls (by rw [hx1.2, hm1.2]; exact (sim_row (M := mC M 0) (xs (nI (i + 1)).toNatClampNeg) (xs (nI (i + 2)).toNatClampNeg) (loL (xs (nI (i + 3)).toNatClampNeg) (xs (nI (i + 4)).toNatClampNeg)) (loL (xs (nI (i + 5)).toNatClampNeg) (xs (nI (i + 6)).toNatClampNeg)) (SI_cd 0 hSI)).2) hP hD hS hl)
  · exact absurd (by rw [hx1.1, hm1.1]; exact (sim_row (M := mC M 0) (xs (nI (i + 1)).toNatClampNeg) (xs (nI (i + 2)).toNatClampNeg) (loL (xs (nI (i + 3)).toNatClampNeg) (xs (nI (i + 4)).toNatClampNeg)) (loL (xs (nI (i + 5)).toNatClampNeg) (xs (nI (i + 6)).toNatClampNeg)) (SI_cd 0 hSI)).1) cq
set_option maxHeartbeats 1000000 in
set_option maxRecDepth 100000 in
theorem law_247 (C0 : lw_At p s m meth c b0 L xs) (hst : l.stackTraces = false) (hL : L ≤ 3585) (hK : KK g s) (hXK : XK s) (hXZ : XZ (fun q : Nat => s.heap.size ≤ q) s s.heap) (hi : i + 7 ≤ L) (hk : k + 1 ≤ 603072) (hn : n + 6 ≤ 7218912) (K : AtH p l e s m below meth c b0 g a r b o i (k + 1) (n + 6) 705) : AtH p l e s m below meth c b0 g a r b o i k n 247 := by
  obtain ⟨hx, hb, hr, hml, hown, hts0, hX, hbl, hlocks, hgv⟩ := C0
  have hown : s.vm.findClass RL = some m.cls := hown
  have hts : ∀ w ∈ wsL_law, w.before #[Value.ref b0] s = true := fun w h => hts0 w (wsL_law_in w h)
  have htx : ∀ w ∈ wsL_law ++ xwE, w.before #[Value.ref b0] s = true := fun w h => (List.mem_append.mp h).elim (hts w) (fun h => hts0 w (xwE_in w h))
  have hA : ∀ q : Nat, s.heap.size ≤ q → (fun q : Nat => s.heap.size ≤ q) q := fun _ h => h
  have hbA : ¬ (fun q : Nat => s.heap.size ≤ q) b0 := Nat.not_le.mpr hbl
  intro X M f H locs ls hSI hP hD hS hl
  obtain ⟨xn, xk, xa, x1, x4, mS, mn, mf, mk, ma, mg, mc, mce⟩ := SI_f hSI
  refine lv_aload_n hx hb dL_law_247 rfl (lv_at hl 1 rfl) ?_
  refine lv_aload_n hx hb dL_law_248 rfl (lv_at hl 0 rfl) ?_
  refine lv_iload hx hb dL_law_249 (lv_at hl 4 rfl) ?_
  refine lv_iconst (v := 1) hx hb dL_law_251 (by decide) ?_
  refine ga_iadd (v := nI (i + 1)) hx hb (nI_add i 1) dL_law_252 ?_
  refine va_sld hx hb hX hbl hbA hS (vp_in_nI (by omega) (by omega)) dL_law_253 ?_
  refine lx_w (va_runV (As := [.int (xs (nI (i + 1)).toNatClampNeg)]) (rest := []) ⟨hx, hb, hml, hown, hts⟩ (c_X3_sync l g a r X H.size (xs (nI (i + 1)).toNatClampNeg) xn xk) (cwV 1 hts gL_law_X3_sync rfl rfl rfl (by decide +kernel) ⟨Nat.le_of_ble_eq_true rfl, Nat.le_of_ble_eq_true rfl⟩) (pv_w hK hP (ci := 5) (q0 := 0) rfl rfl (hP.part (cx := wXc g a r X) [0, 1, 2, 3, 4, 5, 6, 7, 8, 9, 10, 11, 12, 13, 14, 15, 16, 17, 18, 19, 20] rfl) (hD.part (cx := wXc g a r X) [0, 1, 2, 3, 4, 5, 6, 7, 8, 9, 10, 11, 12, 13, 14, 15, 16, 17, 18, 19, 20] (by decide) rfl)) rfl rfl hl.1 rfl (lv_room (Nat.le_of_ble_eq_true rfl)) dL_law_254 ⟨Nat.le_of_succ_le hk, Nat.le_trans (Nat.le_add_right n 6) hn⟩) hP hD hS hA (fun rx ux H locs hx1 hP hD hS => ?_)
  refine lv_aload_n hx hb dL_law_257 rfl (lv_at hl 2 rfl) ?_
  refine lv_aload_n hx hb dL_law_258 rfl (lv_at hl 0 rfl) ?_
  refine lv_iload hx hb dL_law_259 (lv_at hl 4 rfl) ?_
  refine lv_iconst (v := 1) hx hb dL_law_261 (by decide) ?_
  refine ga_iadd (v := nI (i + 1)) hx hb (nI_add i 1) dL_law_262 ?_
  refine va_sld hx hb hX hbl hbA hS (vp_in_nI (by omega) (by omega)) dL_law_263 ?_
  refine lm_w (va_runV (As := [.int (xs (nI (i + 1)).toNatClampNeg)]) (rest := [.int rx]) ⟨hx, hb, hml, hown, hts⟩ (c_X4_sync l g b M H.size (xs (nI (i + 1)).toNatClampNeg) mn mf) (cwV 1 hts gL_law_X4_sync rfl rfl rfl (by decide +kernel) ⟨Nat.le_of_ble_eq_true rfl, Nat.le_of_ble_eq_true rfl⟩) (pv_w hK hP (ci := 6) (q0 := 21) rfl rfl (hP.sub (ws' := wM g b M) [21, 22, 23, 24, 25, 26, 27, 28, 29, 30, 31, 32, 33] rfl) (hD.sub (ws' := wM g b M) [21, 22, 23, 24, 25, 26, 27, 28, 29, 30, 31, 32, 33] (by decide) rfl)) rfl rfl hl.1 rfl (lv_room (Nat.le_of_ble_eq_true rfl)) dL_law_264 ⟨Nat.le_of_succ_le hk, Nat.le_trans (Nat.le_add_right n 6) hn⟩) hP hD hS hA (fun rm um H locs hm1 hP hD hS => ?_)
  refine lv_icmp_eq (tgt := 705) hx hb dL_law_267 (by decide) (fun cq => ?_) (fun cq => ?_)
  · skip
    exact W.widen (k := k + 1) (n := n + 6) (Nat.le_add_right k 1) (Nat.le_add_right n 6) (K ux um f H locs ls (by rw [hx1.2, hm1.2]; exact (sim_sync (M := mC M 0) (xs (nI (i + 1)).toNatClampNeg) (SI_cd 0 hSI)).2) hP hD hS hl)
  · exact absurd (by rw [hx1.1, hm1.1]; exact (sim_sync (M := mC M 0) (xs (nI (i + 1)).toNatClampNeg) (SI_cd 0 hSI)).1) cq
set_option maxHeartbeats 1000000 in
set_option maxRecDepth 100000 in
theorem law_272 (C0 : lw_At p s m meth c b0 L xs) (hst : l.stackTraces = false) (hL : L ≤ 3585) (hK : KK g s) (hXK : XK s) (hXZ : XZ (fun q : Nat => s.heap.size ≤ q) s s.heap) (hi : i + 7 ≤ L) (hk : k + 1 ≤ 603072) (hn : n + 6 ≤ 7218912) (K : AtH p l e s m below meth c b0 g a r b o i (k + 1) (n + 6) 705) : AtH p l e s m below meth c b0 g a r b o i k n 272 := by
  obtain ⟨hx, hb, hr, hml, hown, hts0, hX, hbl, hlocks, hgv⟩ := C0
  have hown : s.vm.findClass RL = some m.cls := hown
  have hts : ∀ w ∈ wsL_law, w.before #[Value.ref b0] s = true := fun w h => hts0 w (wsL_law_in w h)
  have htx : ∀ w ∈ wsL_law ++ xwE, w.before #[Value.ref b0] s = true := fun w h => (List.mem_append.mp h).elim (hts w) (fun h => hts0 w (xwE_in w h))
  have hA : ∀ q : Nat, s.heap.size ≤ q → (fun q : Nat => s.heap.size ≤ q) q := fun _ h => h
  have hbA : ¬ (fun q : Nat => s.heap.size ≤ q) b0 := Nat.not_le.mpr hbl
  intro X M f H locs ls hSI hP hD hS hl
  obtain ⟨xn, xk, xa, x1, x4, mS, mn, mf, mk, ma, mg, mc, mce⟩ := SI_f hSI
  refine lv_aload_n hx hb dL_law_272 rfl (lv_at hl 1 rfl) ?_
  refine lv_aload_n hx hb dL_law_273 rfl (lv_at hl 0 rfl) ?_
  refine lv_iload hx hb dL_law_274 (lv_at hl 4 rfl) ?_
  refine lv_iconst (v := 1) hx hb dL_law_276 (by decide) ?_
  refine ga_iadd (v := nI (i + 1)) hx hb (nI_add i 1) dL_law_277 ?_
  refine va_sld hx hb hX hbl hbA hS (vp_in_nI (by omega) (by omega)) dL_law_278 ?_
  refine lv_if_eq (tgt := 286) hx hb dL_law_279 (by decide) (fun cf => ?_) (fun cf => ?_)
  · skip
    refine lv_iconst (v := 0) hx hb dL_law_286 (by decide) ?_
    refine lx_w (va_runV (As := [.int 0]) (rest := []) ⟨hx, hb, hml, hown, hts⟩ (c_X3_copy l g a r X H.size 0 (Or.inl rfl) xn xk) (cwV 1 hts gL_law_X3_copy rfl rfl rfl (by decide +kernel) ⟨Nat.le_of_ble_eq_true rfl, Nat.le_of_ble_eq_true rfl⟩) (pv_w hK hP (ci := 5) (q0 := 0) rfl rfl (hP.part (cx := wXc g a r X) [0, 1, 2, 3, 4, 5, 6, 7, 8, 9, 10, 11, 12, 13, 14, 15, 16, 17, 18, 19, 20] rfl) (hD.part (cx := wXc g a r X) [0, 1, 2, 3, 4, 5, 6, 7, 8, 9, 10, 11, 12, 13, 14, 15, 16, 17, 18, 19, 20] (by decide) rfl)) rfl rfl hl.1 rfl (lv_room (Nat.le_of_ble_eq_true rfl)) dL_law_287 ⟨Nat.le_of_succ_le hk, Nat.le_trans (Nat.le_add_right n 6) hn⟩) hP hD hS hA (fun rx ux H locs hx1 hP hD hS => ?_)
    refine lv_aload_n hx hb dL_law_290 rfl (lv_at hl 2 rfl) ?_
    refine lv_aload_n hx hb dL_law_291 rfl (lv_at hl 0 rfl) ?_
    refine lv_iload hx hb dL_law_292 (lv_at hl 4 rfl) ?_
    refine lv_iconst (v := 1) hx hb dL_law_294 (by decide) ?_
    refine ga_iadd (v := nI (i + 1)) hx hb (nI_add i 1) dL_law_295 ?_
    refine va_sld hx hb hX hbl hbA hS (vp_in_nI (by omega) (by omega)) dL_law_296 ?_
    refine lv_if_eq (tgt := 304) hx hb dL_law_297 (by decide) (fun cf2 => ?_) (fun cf2 => absurd cf cf2)
    refine lv_iconst (v := 0) hx hb dL_law_304 (by decide) ?_
    refine lm_w (va_runV (As := [.int 0]) (rest := [.int rx]) ⟨hx, hb, hml, hown, hts⟩ (c_X4_copy l g b M H.size 0 mn mf mk ma) (cwV 1 hts gL_law_X4_copy rfl rfl rfl (by decide +kernel) ⟨Nat.le_of_ble_eq_true rfl, Nat.le_of_ble_eq_true rfl⟩) (pv_w hK hP (ci := 6) (q0 := 21) rfl rfl (hP.sub (ws' := wM g b M) [21, 22, 23, 24, 25, 26, 27, 28, 29, 30, 31, 32, 33] rfl) (hD.sub (ws' := wM g b M) [21, 22, 23, 24, 25, 26, 27, 28, 29, 30, 31, 32, 33] (by decide) rfl)) rfl rfl hl.1 rfl (lv_room (Nat.le_of_ble_eq_true rfl)) dL_law_305 ⟨Nat.le_of_succ_le hk, Nat.le_trans (Nat.le_add_right n 6) hn⟩) hP hD hS hA (fun rm um H locs hm1 hP hD hS => ?_)
    refine lv_icmp_eq (tgt := 705) hx hb dL_law_308 (by decide) (fun cq => ?_) (fun cq => ?_)
    · skip
      exact W.widen (k := k + 1) (n := n + 6) (Nat.le_add_right k 1) (Nat.le_add_right n 6) (K ux um f H locs ls (by rw [hx1.2, hm1.2]; exact (sim_copy (M := mC M 0) (Or.inl rfl) (SI_cd 0 hSI)).2) hP hD hS hl)
    · exact absurd (by rw [hx1.1, hm1.1]; exact (sim_copy (M := mC M 0) (Or.inl rfl) (SI_cd 0 hSI)).1) cq
  · skip
    refine lv_iconst (v := 1) hx hb dL_law_282 (by decide) ?_
    refine lv_goto (tgt := 287) hx hb dL_law_283 (by decide) ?_
    refine lx_w (va_runV (As := [.int 1]) (rest := []) ⟨hx, hb, hml, hown, hts⟩ (c_X3_copy l g a r X H.size 1 (Or.inr rfl) xn xk) (cwV 1 hts gL_law_X3_copy rfl rfl rfl (by decide +kernel) ⟨Nat.le_of_ble_eq_true rfl, Nat.le_of_ble_eq_true rfl⟩) (pv_w hK hP (ci := 5) (q0 := 0) rfl rfl (hP.part (cx := wXc g a r X) [0, 1, 2, 3, 4, 5, 6, 7, 8, 9, 10, 11, 12, 13, 14, 15, 16, 17, 18, 19, 20] rfl) (hD.part (cx := wXc g a r X) [0, 1, 2, 3, 4, 5, 6, 7, 8, 9, 10, 11, 12, 13, 14, 15, 16, 17, 18, 19, 20] (by decide) rfl)) rfl rfl hl.1 rfl (lv_room (Nat.le_of_ble_eq_true rfl)) dL_law_287 ⟨Nat.le_of_succ_le hk, Nat.le_trans (Nat.le_add_right n 6) hn⟩) hP hD hS hA (fun rx ux H locs hx1 hP hD hS => ?_)
    refine lv_aload_n hx hb dL_law_290 rfl (lv_at hl 2 rfl) ?_
    refine lv_aload_n hx hb dL_law_291 rfl (lv_at hl 0 rfl) ?_
    refine lv_iload hx hb dL_law_292 (lv_at hl 4 rfl) ?_
    refine lv_iconst (v := 1) hx hb dL_law_294 (by decide) ?_
    refine ga_iadd (v := nI (i + 1)) hx hb (nI_add i 1) dL_law_295 ?_
    refine va_sld hx hb hX hbl hbA hS (vp_in_nI (by omega) (by omega)) dL_law_296 ?_
    refine lv_if_eq (tgt := 304) hx hb dL_law_297 (by decide) (fun cf2 => absurd cf2 cf) (fun cf2 => ?_)
    refine lv_iconst (v := 1) hx hb dL_law_300 (by decide) ?_
    refine lv_goto (tgt := 305) hx hb dL_law_301 (by decide) ?_
    refine lm_w (va_runV (As := [.int 1]) (rest := [.int rx]) ⟨hx, hb, hml, hown, hts⟩ (c_X4_copy l g b M H.size 1 mn mf mk ma) (cwV 1 hts gL_law_X4_copy rfl rfl rfl (by decide +kernel) ⟨Nat.le_of_ble_eq_true rfl, Nat.le_of_ble_eq_true rfl⟩) (pv_w hK hP (ci := 6) (q0 := 21) rfl rfl (hP.sub (ws' := wM g b M) [21, 22, 23, 24, 25, 26, 27, 28, 29, 30, 31, 32, 33] rfl) (hD.sub (ws' := wM g b M) [21, 22, 23, 24, 25, 26, 27, 28, 29, 30, 31, 32, 33] (by decide) rfl)) rfl rfl hl.1 rfl (lv_room (Nat.le_of_ble_eq_true rfl)) dL_law_305 ⟨Nat.le_of_succ_le hk, Nat.le_trans (Nat.le_add_right n 6) hn⟩) hP hD hS hA (fun rm um H locs hm1 hP hD hS => ?_)
    refine lv_icmp_eq (tgt := 705) hx hb dL_law_308 (by decide) (fun cq => ?_) (fun cq => ?_)
    · skip
      exact W.widen (k := k + 1) (n := n + 6) (Nat.le_add_right k 1) (Nat.le_add_right n 6) (K ux um f H locs ls (by rw [hx1.2, hm1.2]; exact (sim_copy (M := mC M 0) (Or.inr rfl) (SI_cd 0 hSI)).2) hP hD hS hl)
    · exact absurd (by rw [hx1.1, hm1.1]; exact (sim_copy (M := mC M 0) (Or.inr rfl) (SI_cd 0 hSI)).1) cq
set_option maxHeartbeats 1000000 in
set_option maxRecDepth 100000 in
theorem law_313 (C0 : lw_At p s m meth c b0 L xs) (hst : l.stackTraces = false) (hL : L ≤ 3585) (hK : KK g s) (hXK : XK s) (hXZ : XZ (fun q : Nat => s.heap.size ≤ q) s s.heap) (hi : i + 7 ≤ L) (hk : k + 1 ≤ 603072) (hn : n + 6 ≤ 7218912) (K : AtH p l e s m below meth c b0 g a r b o i (k + 1) (n + 6) 705) : AtH p l e s m below meth c b0 g a r b o i k n 313 := by
  obtain ⟨hx, hb, hr, hml, hown, hts0, hX, hbl, hlocks, hgv⟩ := C0
  have hown : s.vm.findClass RL = some m.cls := hown
  have hts : ∀ w ∈ wsL_law, w.before #[Value.ref b0] s = true := fun w h => hts0 w (wsL_law_in w h)
  have htx : ∀ w ∈ wsL_law ++ xwE, w.before #[Value.ref b0] s = true := fun w h => (List.mem_append.mp h).elim (hts w) (fun h => hts0 w (xwE_in w h))
  have hA : ∀ q : Nat, s.heap.size ≤ q → (fun q : Nat => s.heap.size ≤ q) q := fun _ h => h
  have hbA : ¬ (fun q : Nat => s.heap.size ≤ q) b0 := Nat.not_le.mpr hbl
  intro X M f H locs ls hSI hP hD hS hl
  obtain ⟨xn, xk, xa, x1, x4, mS, mn, mf, mk, ma, mg, mc, mce⟩ := SI_f hSI
  refine lv_aload_n hx hb dL_law_313 rfl (lv_at hl 1 rfl) ?_
  refine lv_aload_n hx hb dL_law_314 rfl (lv_at hl 0 rfl) ?_
  refine lv_iload hx hb dL_law_315 (lv_at hl 4 rfl) ?_
  refine lv_iconst (v := 1) hx hb dL_law_317 (by decide) ?_
  refine ga_iadd (v := nI (i + 1)) hx hb (nI_add i 1) dL_law_318 ?_
  refine va_sld hx hb hX hbl hbA hS (vp_in_nI (by omega) (by omega)) dL_law_319 ?_
  refine lv_aload_n hx hb dL_law_320 rfl (lv_at hl 0 rfl) ?_
  refine lv_iload hx hb dL_law_321 (lv_at hl 4 rfl) ?_
  refine lv_iconst (v := 2) hx hb dL_law_323 (by decide) ?_
  refine ga_iadd (v := nI (i + 2)) hx hb (nI_add i 2) dL_law_324 ?_
  refine va_sld hx hb hX hbl hbA hS (vp_in_nI (by omega) (by omega)) dL_law_325 ?_
  refine lv_i2l (v := (xs (nI (i + 2)).toNatClampNeg).toInt64) hx hb dL_law_326 rfl ?_
  refine lv_bipush (v := 32) hx hb dL_law_327 (by decide) ?_
  refine lv_lshl (v := ((xs (nI (i + 2)).toNatClampNeg).toInt64 <<< ((32 : Int32).toInt64 &&& 63))) hx hb dL_law_329 rfl ?_
  refine lv_aload_n hx hb dL_law_330 rfl (lv_at hl 0 rfl) ?_
  refine lv_iload hx hb dL_law_331 (lv_at hl 4 rfl) ?_
  refine lv_iconst (v := 3) hx hb dL_law_333 (by decide) ?_
  refine ga_iadd (v := nI (i + 3)) hx hb (nI_add i 3) dL_law_334 ?_
  refine va_sld hx hb hX hbl hbA hS (vp_in_nI (by omega) (by omega)) dL_law_335 ?_
  refine lv_i2l (v := (xs (nI (i + 3)).toNatClampNeg).toInt64) hx hb dL_law_336 rfl ?_
  refine lv_ldc2 hx hb hown (hts (.constantLong RL 33 (4294967295)) (by decide +kernel)) dL_law_337 ?_
  refine lv_land hx hb dL_law_340 ?_
  refine lv_lor hx hb dL_law_341 ?_
  refine lx_w (va_runV (As := [.int (xs (nI (i + 1)).toNatClampNeg), .long (loL (xs (nI (i + 2)).toNatClampNeg) (xs (nI (i + 3)).toNatClampNeg))]) (rest := []) ⟨hx, hb, hml, hown, hts⟩ (c_X3_recover l g a r X H.size (xs (nI (i + 1)).toNatClampNeg) (loL (xs (nI (i + 2)).toNatClampNeg) (xs (nI (i + 3)).toNatClampNeg)) (SI_img hSI) xn xa xk) (cwV 2 hts gL_law_X3_recover rfl rfl rfl (by decide +kernel) ⟨Nat.le_of_ble_eq_true rfl, Nat.le_of_ble_eq_true rfl⟩) (pv_w hK hP (ci := 5) (q0 := 0) rfl rfl (hP.part (cx := wXc g a r X) [0, 1, 2, 3, 4, 5, 6, 7, 8, 9, 10, 11, 12, 13, 14, 15, 16, 17, 18, 19, 20] rfl) (hD.part (cx := wXc g a r X) [0, 1, 2, 3, 4, 5, 6, 7, 8, 9, 10, 11, 12, 13, 14, 15, 16, 17, 18, 19, 20] (by decide) rfl)) rfl rfl hl.1 rfl (lv_room (Nat.le_of_ble_eq_true rfl)) dL_law_342 ⟨Nat.le_of_succ_le hk, Nat.le_trans (Nat.le_add_right n 6) hn⟩) hP hD hS hA (fun rx ux H locs hx1 hP hD hS => ?_)
  refine lv_aload_n hx hb dL_law_345 rfl (lv_at hl 2 rfl) ?_
  refine lv_aload_n hx hb dL_law_346 rfl (lv_at hl 0 rfl) ?_
  refine lv_iload hx hb dL_law_347 (lv_at hl 4 rfl) ?_
  refine lv_iconst (v := 1) hx hb dL_law_349 (by decide) ?_
  refine ga_iadd (v := nI (i + 1)) hx hb (nI_add i 1) dL_law_350 ?_
  refine va_sld hx hb hX hbl hbA hS (vp_in_nI (by omega) (by omega)) dL_law_351 ?_
  refine lv_aload_n hx hb dL_law_352 rfl (lv_at hl 0 rfl) ?_
  refine lv_iload hx hb dL_law_353 (lv_at hl 4 rfl) ?_
  refine lv_iconst (v := 2) hx hb dL_law_355 (by decide) ?_
  refine ga_iadd (v := nI (i + 2)) hx hb (nI_add i 2) dL_law_356 ?_
  refine va_sld hx hb hX hbl hbA hS (vp_in_nI (by omega) (by omega)) dL_law_357 ?_
  refine lv_i2l (v := (xs (nI (i + 2)).toNatClampNeg).toInt64) hx hb dL_law_358 rfl ?_
  refine lv_bipush (v := 32) hx hb dL_law_359 (by decide) ?_
  refine lv_lshl (v := ((xs (nI (i + 2)).toNatClampNeg).toInt64 <<< ((32 : Int32).toInt64 &&& 63))) hx hb dL_law_361 rfl ?_
  refine lv_aload_n hx hb dL_law_362 rfl (lv_at hl 0 rfl) ?_
  refine lv_iload hx hb dL_law_363 (lv_at hl 4 rfl) ?_
  refine lv_iconst (v := 3) hx hb dL_law_365 (by decide) ?_
  refine ga_iadd (v := nI (i + 3)) hx hb (nI_add i 3) dL_law_366 ?_
  refine va_sld hx hb hX hbl hbA hS (vp_in_nI (by omega) (by omega)) dL_law_367 ?_
  refine lv_i2l (v := (xs (nI (i + 3)).toNatClampNeg).toInt64) hx hb dL_law_368 rfl ?_
  refine lv_ldc2 hx hb hown (hts (.constantLong RL 33 (4294967295)) (by decide +kernel)) dL_law_369 ?_
  refine lv_land hx hb dL_law_372 ?_
  refine lv_lor hx hb dL_law_373 ?_
  refine lm_w (va_runV (As := [.int (xs (nI (i + 1)).toNatClampNeg), .long (loL (xs (nI (i + 2)).toNatClampNeg) (xs (nI (i + 3)).toNatClampNeg))]) (rest := [.int rx]) ⟨hx, hb, hml, hown, hts⟩ (c_X4_recover l g b M H.size (xs (nI (i + 1)).toNatClampNeg) (loL (xs (nI (i + 2)).toNatClampNeg) (xs (nI (i + 3)).toNatClampNeg)) (SI_imgM hSI) (SI_sp hSI) mn mf mk ma mce) (cwV 2 hts gL_law_X4_recover rfl rfl rfl (by decide +kernel) ⟨Nat.le_of_ble_eq_true rfl, Nat.le_of_ble_eq_true rfl⟩) (pv_w hK hP (ci := 6) (q0 := 21) rfl rfl (hP.sub (ws' := wM g b M) [21, 22, 23, 24, 25, 26, 27, 28, 29, 30, 31, 32, 33] rfl) (hD.sub (ws' := wM g b M) [21, 22, 23, 24, 25, 26, 27, 28, 29, 30, 31, 32, 33] (by decide) rfl)) rfl rfl hl.1 rfl (lv_room (Nat.le_of_ble_eq_true rfl)) dL_law_374 ⟨Nat.le_of_succ_le hk, Nat.le_trans (Nat.le_add_right n 6) hn⟩) hP hD hS hA (fun rm um H locs hm1 hP hD hS => ?_)
  refine lv_icmp_eq (tgt := 705) hx hb dL_law_377 (by decide) (fun cq => ?_) (fun cq => ?_)
  · skip
    exact W.widen (k := k + 1) (n := n + 6) (Nat.le_add_right k 1) (Nat.le_add_right n 6) (K ux um f H locs ls (sim_recover (M := mC M 0) (SI_cd 0 hSI) hx1 hm1).2 hP hD hS hl)
  · exact absurd (sim_recover (M := mC M 0) (SI_cd 0 hSI) hx1 hm1).1 cq
set_option maxHeartbeats 1000000 in
set_option maxRecDepth 100000 in
theorem law_382 (C0 : lw_At p s m meth c b0 L xs) (hst : l.stackTraces = false) (hL : L ≤ 3585) (hK : KK g s) (hXK : XK s) (hXZ : XZ (fun q : Nat => s.heap.size ≤ q) s s.heap) (hi : i + 7 ≤ L) (hk : k + 1 ≤ 603072) (hn : n + 6 ≤ 7218912) (K : AtH p l e s m below meth c b0 g a r b o i (k + 1) (n + 6) 705) : AtH p l e s m below meth c b0 g a r b o i k n 382 := by
  obtain ⟨hx, hb, hr, hml, hown, hts0, hX, hbl, hlocks, hgv⟩ := C0
  have hown : s.vm.findClass RL = some m.cls := hown
  have hts : ∀ w ∈ wsL_law, w.before #[Value.ref b0] s = true := fun w h => hts0 w (wsL_law_in w h)
  have htx : ∀ w ∈ wsL_law ++ xwE, w.before #[Value.ref b0] s = true := fun w h => (List.mem_append.mp h).elim (hts w) (fun h => hts0 w (xwE_in w h))
  have hA : ∀ q : Nat, s.heap.size ≤ q → (fun q : Nat => s.heap.size ≤ q) q := fun _ h => h
  have hbA : ¬ (fun q : Nat => s.heap.size ≤ q) b0 := Nat.not_le.mpr hbl
  intro X M f H locs ls hSI hP hD hS hl
  obtain ⟨xn, xk, xa, x1, x4, mS, mn, mf, mk, ma, mg, mc, mce⟩ := SI_f hSI
  refine lv_aload_n hx hb dL_law_382 rfl (lv_at hl 1 rfl) ?_
  refine lv_aload_n hx hb dL_law_383 rfl (lv_at hl 0 rfl) ?_
  refine lv_iload hx hb dL_law_384 (lv_at hl 4 rfl) ?_
  refine lv_iconst (v := 1) hx hb dL_law_386 (by decide) ?_
  refine ga_iadd (v := nI (i + 1)) hx hb (nI_add i 1) dL_law_387 ?_
  refine va_sld hx hb hX hbl hbA hS (vp_in_nI (by omega) (by omega)) dL_law_388 ?_
  refine lv_aload_n hx hb dL_law_389 rfl (lv_at hl 3 rfl) ?_
  refine le_i (vx_runSW (As := [.ref (a 0), .int (xs (nI (i + 1)).toNatClampNeg), .ref o]) (rest := []) ⟨hx, hb, hml, hown, hts⟩ (c_L_get l hst g a r X o f H.size (xs (nI (i + 1)).toNatClampNeg)) (vx_cwSW 3 hts gL_law_L_get rfl rfl rfl (by decide +kernel) ⟨Nat.le_of_ble_eq_true rfl, Nat.le_of_ble_eq_true rfl⟩) (ps_x hK hXK (hXZ.kept hS.2.1) (hP.sub (ws' := wXc g a r X ++ wO g o f) [0, 1, 2, 3, 4, 5, 6, 7, 8, 9, 10, 11, 12, 13, 14, 15, 16, 17, 18, 19, 20, 34] rfl) (hD.sub (ws' := wXc g a r X ++ wO g o f) [0, 1, 2, 3, 4, 5, 6, 7, 8, 9, 10, 11, 12, 13, 14, 15, 16, 17, 18, 19, 20, 34] (by decide) rfl)) rfl rfl hl.1 rfl (lv_room (Nat.le_of_ble_eq_true rfl)) dL_law_390 ⟨hk, hn⟩) hP hD hS hA (fun rk f2 H locs hx1 hP hD hS => ?_)
  rcases hx1 with ⟨h1, rfl, rfl⟩ | ⟨h1, rfl, -⟩
  · skip
    refine lv_istore (lv' := [(5, .int 0), (0, .ref b0), (1, .ref (a 0)), (2, .ref (b 0)), (3, .ref o), (4, .int (nI i))]) hx hb dL_law_393 hl (by decide) rfl (fun ls hl => ?_)
    refine lv_aload_n hx hb dL_law_395 rfl (lv_at hl 3 rfl) ?_
    refine lv_aload_n hx hb dL_law_396 rfl (lv_at hl 1 rfl) ?_
    refine lv_iload hx hb dL_law_397 (lv_at hl 5 rfl) ?_
    refine lv_iconst (v := 1) hx hb dL_law_399 (by decide) ?_
    refine ga_iadd (v := nI (i + 1)) hx hb (nI_add i 1) dL_law_400 ?_
    refine va_sld hx hb hX hbl hbA hS (vp_in_nI (by omega) (by omega)) dL_law_401 ?_
    refine lm_l (va_runV (As := [.int (xs (nI (i + 1)).toNatClampNeg)]) (rest := []) ⟨hx, hb, hml, hown, hts⟩ (c_X4_get l g b M H.size (xs (nI (i + 1)).toNatClampNeg) ) (cwV 1 hts gL_law_X4_get rfl rfl rfl (by decide +kernel) ⟨Nat.le_of_ble_eq_true rfl, Nat.le_of_ble_eq_true rfl⟩) (pv_w hK hP (ci := 6) (q0 := 21) rfl rfl (hP.sub (ws' := wM g b M) [21, 22, 23, 24, 25, 26, 27, 28, 29, 30, 31, 32, 33] rfl) (hD.sub (ws' := wM g b M) [21, 22, 23, 24, 25, 26, 27, 28, 29, 30, 31, 32, 33] (by decide) rfl)) rfl rfl hl.1 rfl (lv_room (Nat.le_of_ble_eq_true rfl)) dL_law_402 ⟨hk, hn⟩) hP hD hS hA (fun rm um H locs hm1 hP hD hS => ?_)
    rcases hm1 with ⟨h2, rfl, rfl⟩ | ⟨h2, -, -⟩
    rotate_left
    · exact absurd h1 h2
    refine lv_lstore (lv' := [(6, .long (M.cs (xs (nI (i + 1)).toNatClampNeg).toNatClampNeg)), (5, .int 0), (0, .ref b0), (1, .ref (a 0)), (2, .ref (b 0)), (3, .ref o), (4, .int (nI i))]) hx hb dL_law_405 hl (by decide) rfl (fun ls hl => ?_)
    refine lv_aload_n hx hb dL_law_407 rfl (lv_at hl 4 rfl) ?_
    refine vp_callSi (va_Run.run (va_runV (As := []) (rest := []) ⟨hx, hb, hml, hown, hts⟩ (c_X4_thrown l g b (mC M 0)) (cwV 0 hts gL_law_X4_thrown rfl rfl rfl (by decide +kernel) ⟨Nat.le_of_ble_eq_true rfl, Nat.le_of_ble_eq_true rfl⟩) (pv_r hK hP (ci := 6) (q0 := 21) rfl rfl [21, 22, 23, 24, 25, 26, 27, 28, 29, 30, 31, 32, 33] rfl) rfl rfl hl.1 rfl (lv_room (Nat.le_of_ble_eq_true rfl)) dL_law_408 ⟨hk, hn⟩)) (fun rt ht1 => ?_)
    subst ht1
    refine lv_iload hx hb dL_law_411 (lv_at hl 1 rfl) ?_
    refine lv_icmp_eq (tgt := 418) hx hb dL_law_413 (by decide) (fun cq => ?_) (fun cq => absurd rfl cq)
    refine lv_iload hx hb dL_law_418 (lv_at hl 1 rfl) ?_
    refine lv_if_ne (tgt := 434) hx hb dL_law_420 (by decide) (fun cq => absurd rfl cq) (fun cq => ?_)
    refine lv_aload_n hx hb dL_law_423 rfl (lv_at hl 5 rfl) ?_
    refine lv_iconst (v := 0) hx hb dL_law_424 (by decide) ?_
    refine ga_lald (v := (X.cs (xs (nI (i + 1)).toNatClampNeg).toNatClampNeg)) hx hb hK.1 hP 34 1 rfl rfl (v_p (by decide) (by decide)) (by simp [vp_updL]) dL_law_425 ?_
    refine lv_lload hx hb dL_law_426 (lv_at hl 0 rfl) ?_
    refine W.lcmp hx hb dL_law_428 ?_
    refine lv_if_eq (tgt := 434) hx hb dL_law_429 (by decide) (fun cq => ?_) (fun cq => ?_)
    · skip
      refine lv_goto (tgt := 705) hx hb dL_law_434 (by decide) ?_
      exact K X (mC M 0) (vp_updL f 0 (X.cs (xs (nI (i + 1)).toNatClampNeg).toNatClampNeg)) H locs ls (SI_cd 0 hSI) hP hD hS (lv_sub hl [2, 3, 4, 5, 6] rfl)
    · exact absurd (by rw [lg_cmp_eq, mc]) cq
  · skip
    refine lv_istore (lv' := [(5, .int 1), (0, .ref b0), (1, .ref (a 0)), (2, .ref (b 0)), (3, .ref o), (4, .int (nI i))]) hx hb dL_law_393 hl (by decide) rfl (fun ls hl => ?_)
    refine lv_aload_n hx hb dL_law_395 rfl (lv_at hl 3 rfl) ?_
    refine lv_aload_n hx hb dL_law_396 rfl (lv_at hl 1 rfl) ?_
    refine lv_iload hx hb dL_law_397 (lv_at hl 5 rfl) ?_
    refine lv_iconst (v := 1) hx hb dL_law_399 (by decide) ?_
    refine ga_iadd (v := nI (i + 1)) hx hb (nI_add i 1) dL_law_400 ?_
    refine va_sld hx hb hX hbl hbA hS (vp_in_nI (by omega) (by omega)) dL_law_401 ?_
    refine lm_l (va_runV (As := [.int (xs (nI (i + 1)).toNatClampNeg)]) (rest := []) ⟨hx, hb, hml, hown, hts⟩ (c_X4_get l g b M H.size (xs (nI (i + 1)).toNatClampNeg) ) (cwV 1 hts gL_law_X4_get rfl rfl rfl (by decide +kernel) ⟨Nat.le_of_ble_eq_true rfl, Nat.le_of_ble_eq_true rfl⟩) (pv_w hK hP (ci := 6) (q0 := 21) rfl rfl (hP.sub (ws' := wM g b M) [21, 22, 23, 24, 25, 26, 27, 28, 29, 30, 31, 32, 33] rfl) (hD.sub (ws' := wM g b M) [21, 22, 23, 24, 25, 26, 27, 28, 29, 30, 31, 32, 33] (by decide) rfl)) rfl rfl hl.1 rfl (lv_room (Nat.le_of_ble_eq_true rfl)) dL_law_402 ⟨hk, hn⟩) hP hD hS hA (fun rm um H locs hm1 hP hD hS => ?_)
    rcases hm1 with ⟨h2, -, -⟩ | ⟨h2, rfl, rfl⟩
    · exact absurd h2 h1
    refine lv_lstore (lv' := [(6, .long 0), (5, .int 1), (0, .ref b0), (1, .ref (a 0)), (2, .ref (b 0)), (3, .ref o), (4, .int (nI i))]) hx hb dL_law_405 hl (by decide) rfl (fun ls hl => ?_)
    refine lv_aload_n hx hb dL_law_407 rfl (lv_at hl 4 rfl) ?_
    refine vp_callSi (va_Run.run (va_runV (As := []) (rest := []) ⟨hx, hb, hml, hown, hts⟩ (c_X4_thrown l g b (mC M 1)) (cwV 0 hts gL_law_X4_thrown rfl rfl rfl (by decide +kernel) ⟨Nat.le_of_ble_eq_true rfl, Nat.le_of_ble_eq_true rfl⟩) (pv_r hK hP (ci := 6) (q0 := 21) rfl rfl [21, 22, 23, 24, 25, 26, 27, 28, 29, 30, 31, 32, 33] rfl) rfl rfl hl.1 rfl (lv_room (Nat.le_of_ble_eq_true rfl)) dL_law_408 ⟨hk, hn⟩)) (fun rt ht1 => ?_)
    subst ht1
    refine lv_iload hx hb dL_law_411 (lv_at hl 1 rfl) ?_
    refine lv_icmp_eq (tgt := 418) hx hb dL_law_413 (by decide) (fun cq => ?_) (fun cq => absurd rfl cq)
    refine lv_iload hx hb dL_law_418 (lv_at hl 1 rfl) ?_
    refine lv_if_ne (tgt := 434) hx hb dL_law_420 (by decide) (fun cq => ?_) (fun cq => absurd cq (by decide))
    refine lv_goto (tgt := 705) hx hb dL_law_434 (by decide) ?_
    exact K X (mC M 1) f2 H locs ls (SI_cd 1 hSI) hP hD hS (lv_sub hl [2, 3, 4, 5, 6] rfl)
set_option maxHeartbeats 1000000 in
set_option maxRecDepth 100000 in
theorem law_437 (C0 : lw_At p s m meth c b0 L xs) (hst : l.stackTraces = false) (hL : L ≤ 3585) (hK : KK g s) (hXK : XK s) (hXZ : XZ (fun q : Nat => s.heap.size ≤ q) s s.heap) (hi : i + 7 ≤ L) (hk : k + 1 ≤ 603072) (hn : n + 6 ≤ 7218912) (K : AtH p l e s m below meth c b0 g a r b o i (k + 1) (n + 6) 705) : AtH p l e s m below meth c b0 g a r b o i k n 437 := by
  obtain ⟨hx, hb, hr, hml, hown, hts0, hX, hbl, hlocks, hgv⟩ := C0
  have hown : s.vm.findClass RL = some m.cls := hown
  have hts : ∀ w ∈ wsL_law, w.before #[Value.ref b0] s = true := fun w h => hts0 w (wsL_law_in w h)
  have htx : ∀ w ∈ wsL_law ++ xwE, w.before #[Value.ref b0] s = true := fun w h => (List.mem_append.mp h).elim (hts w) (fun h => hts0 w (xwE_in w h))
  have hA : ∀ q : Nat, s.heap.size ≤ q → (fun q : Nat => s.heap.size ≤ q) q := fun _ h => h
  have hbA : ¬ (fun q : Nat => s.heap.size ≤ q) b0 := Nat.not_le.mpr hbl
  intro X M f H locs ls hSI hP hD hS hl
  obtain ⟨xn, xk, xa, x1, x4, mS, mn, mf, mk, ma, mg, mc, mce⟩ := SI_f hSI
  refine lv_aload_n hx hb dL_law_437 rfl (lv_at hl 1 rfl) ?_
  refine lv_aload_n hx hb dL_law_438 rfl (lv_at hl 0 rfl) ?_
  refine lv_iload hx hb dL_law_439 (lv_at hl 4 rfl) ?_
  refine lv_iconst (v := 1) hx hb dL_law_441 (by decide) ?_
  refine ga_iadd (v := nI (i + 1)) hx hb (nI_add i 1) dL_law_442 ?_
  refine va_sld hx hb hX hbl hbA hS (vp_in_nI (by omega) (by omega)) dL_law_443 ?_
  refine lx_w (va_runV (As := [.int (xs (nI (i + 1)).toNatClampNeg)]) (rest := []) ⟨hx, hb, hml, hown, hts⟩ (c_X3_backout l g a r X H.size (xs (nI (i + 1)).toNatClampNeg) xn xk) (cwV 1 hts gL_law_X3_backout rfl rfl rfl (by decide +kernel) ⟨Nat.le_of_ble_eq_true rfl, Nat.le_of_ble_eq_true rfl⟩) (pv_w hK hP (ci := 5) (q0 := 0) rfl rfl (hP.part (cx := wXc g a r X) [0, 1, 2, 3, 4, 5, 6, 7, 8, 9, 10, 11, 12, 13, 14, 15, 16, 17, 18, 19, 20] rfl) (hD.part (cx := wXc g a r X) [0, 1, 2, 3, 4, 5, 6, 7, 8, 9, 10, 11, 12, 13, 14, 15, 16, 17, 18, 19, 20] (by decide) rfl)) rfl rfl hl.1 rfl (lv_room (Nat.le_of_ble_eq_true rfl)) dL_law_444 ⟨Nat.le_of_succ_le hk, Nat.le_trans (Nat.le_add_right n 6) hn⟩) hP hD hS hA (fun rx ux H locs hx1 hP hD hS => ?_)
  refine lv_aload_n hx hb dL_law_447 rfl (lv_at hl 2 rfl) ?_
  refine lv_aload_n hx hb dL_law_448 rfl (lv_at hl 0 rfl) ?_
  refine lv_iload hx hb dL_law_449 (lv_at hl 4 rfl) ?_
  refine lv_iconst (v := 1) hx hb dL_law_451 (by decide) ?_
  refine ga_iadd (v := nI (i + 1)) hx hb (nI_add i 1) dL_law_452 ?_
  refine va_sld hx hb hX hbl hbA hS (vp_in_nI (by omega) (by omega)) dL_law_453 ?_
  refine lm_w (va_runV (As := [.int (xs (nI (i + 1)).toNatClampNeg)]) (rest := [.int rx]) ⟨hx, hb, hml, hown, hts⟩ (c_X4_backout l g b M H.size (xs (nI (i + 1)).toNatClampNeg) mn mf mce) (cwV 1 hts gL_law_X4_backout rfl rfl rfl (by decide +kernel) ⟨Nat.le_of_ble_eq_true rfl, Nat.le_of_ble_eq_true rfl⟩) (pv_w hK hP (ci := 6) (q0 := 21) rfl rfl (hP.sub (ws' := wM g b M) [21, 22, 23, 24, 25, 26, 27, 28, 29, 30, 31, 32, 33] rfl) (hD.sub (ws' := wM g b M) [21, 22, 23, 24, 25, 26, 27, 28, 29, 30, 31, 32, 33] (by decide) rfl)) rfl rfl hl.1 rfl (lv_room (Nat.le_of_ble_eq_true rfl)) dL_law_454 ⟨Nat.le_of_succ_le hk, Nat.le_trans (Nat.le_add_right n 6) hn⟩) hP hD hS hA (fun rm um H locs hm1 hP hD hS => ?_)
  refine lv_icmp_eq (tgt := 705) hx hb dL_law_457 (by decide) (fun cq => ?_) (fun cq => ?_)
  · skip
    exact W.widen (k := k + 1) (n := n + 6) (Nat.le_add_right k 1) (Nat.le_add_right n 6) (K ux um f H locs ls (by rw [hx1.2, hm1.2]; exact (sim_backout (M := mC M 0) (xs (nI (i + 1)).toNatClampNeg) (SI_cd 0 hSI)).2) hP hD hS hl)
  · exact absurd (by rw [hx1.1, hm1.1]; exact (sim_backout (M := mC M 0) (xs (nI (i + 1)).toNatClampNeg) (SI_cd 0 hSI)).1) cq
set_option maxHeartbeats 1000000 in
set_option maxRecDepth 100000 in
theorem law_462 (C0 : lw_At p s m meth c b0 L xs) (hst : l.stackTraces = false) (hL : L ≤ 3585) (hK : KK g s) (hXK : XK s) (hXZ : XZ (fun q : Nat => s.heap.size ≤ q) s s.heap) (hi : i + 7 ≤ L) (hk : k + 1 ≤ 603072) (hn : n + 6 ≤ 7218912) (K : AtH p l e s m below meth c b0 g a r b o i (k + 1) (n + 6) 705) : AtH p l e s m below meth c b0 g a r b o i k n 462 := by
  obtain ⟨hx, hb, hr, hml, hown, hts0, hX, hbl, hlocks, hgv⟩ := C0
  have hown : s.vm.findClass RL = some m.cls := hown
  have hts : ∀ w ∈ wsL_law, w.before #[Value.ref b0] s = true := fun w h => hts0 w (wsL_law_in w h)
  have htx : ∀ w ∈ wsL_law ++ xwE, w.before #[Value.ref b0] s = true := fun w h => (List.mem_append.mp h).elim (hts w) (fun h => hts0 w (xwE_in w h))
  have hA : ∀ q : Nat, s.heap.size ≤ q → (fun q : Nat => s.heap.size ≤ q) q := fun _ h => h
  have hbA : ¬ (fun q : Nat => s.heap.size ≤ q) b0 := Nat.not_le.mpr hbl
  intro X M f H locs ls hSI hP hD hS hl
  obtain ⟨xn, xk, xa, x1, x4, mS, mn, mf, mk, ma, mg, mc, mce⟩ := SI_f hSI
  refine lv_aload_n hx hb dL_law_462 rfl (lv_at hl 1 rfl) ?_
  refine lv_aload_n hx hb dL_law_463 rfl (lv_at hl 0 rfl) ?_
  refine lv_iload hx hb dL_law_464 (lv_at hl 4 rfl) ?_
  refine lv_iconst (v := 1) hx hb dL_law_466 (by decide) ?_
  refine ga_iadd (v := nI (i + 1)) hx hb (nI_add i 1) dL_law_467 ?_
  refine va_sld hx hb hX hbl hbA hS (vp_in_nI (by omega) (by omega)) dL_law_468 ?_
  refine lv_aload_n hx hb dL_law_469 rfl (lv_at hl 0 rfl) ?_
  refine lv_iload hx hb dL_law_470 (lv_at hl 4 rfl) ?_
  refine lv_iconst (v := 2) hx hb dL_law_472 (by decide) ?_
  refine ga_iadd (v := nI (i + 2)) hx hb (nI_add i 2) dL_law_473 ?_
  refine va_sld hx hb hX hbl hbA hS (vp_in_nI (by omega) (by omega)) dL_law_474 ?_
  refine lx_w (va_runV (As := [.int (xs (nI (i + 1)).toNatClampNeg), .int (xs (nI (i + 2)).toNatClampNeg)]) (rest := []) ⟨hx, hb, hml, hown, hts⟩ (c_X3_torn l g a r X H.size (xs (nI (i + 1)).toNatClampNeg) (xs (nI (i + 2)).toNatClampNeg) xn xa) (cwV 2 hts gL_law_X3_torn rfl rfl rfl (by decide +kernel) ⟨Nat.le_of_ble_eq_true rfl, Nat.le_of_ble_eq_true rfl⟩) (pv_w hK hP (ci := 5) (q0 := 0) rfl rfl (hP.part (cx := wXc g a r X) [0, 1, 2, 3, 4, 5, 6, 7, 8, 9, 10, 11, 12, 13, 14, 15, 16, 17, 18, 19, 20] rfl) (hD.part (cx := wXc g a r X) [0, 1, 2, 3, 4, 5, 6, 7, 8, 9, 10, 11, 12, 13, 14, 15, 16, 17, 18, 19, 20] (by decide) rfl)) rfl rfl hl.1 rfl (lv_room (Nat.le_of_ble_eq_true rfl)) dL_law_475 ⟨Nat.le_of_succ_le hk, Nat.le_trans (Nat.le_add_right n 6) hn⟩) hP hD hS hA (fun rx ux H locs hx1 hP hD hS => ?_)
  refine lv_aload_n hx hb dL_law_478 rfl (lv_at hl 2 rfl) ?_
  refine lv_aload_n hx hb dL_law_479 rfl (lv_at hl 0 rfl) ?_
  refine lv_iload hx hb dL_law_480 (lv_at hl 4 rfl) ?_
  refine lv_iconst (v := 1) hx hb dL_law_482 (by decide) ?_
  refine ga_iadd (v := nI (i + 1)) hx hb (nI_add i 1) dL_law_483 ?_
  refine va_sld hx hb hX hbl hbA hS (vp_in_nI (by omega) (by omega)) dL_law_484 ?_
  refine lv_aload_n hx hb dL_law_485 rfl (lv_at hl 0 rfl) ?_
  refine lv_iload hx hb dL_law_486 (lv_at hl 4 rfl) ?_
  refine lv_iconst (v := 2) hx hb dL_law_488 (by decide) ?_
  refine ga_iadd (v := nI (i + 2)) hx hb (nI_add i 2) dL_law_489 ?_
  refine va_sld hx hb hX hbl hbA hS (vp_in_nI (by omega) (by omega)) dL_law_490 ?_
  refine lm_w (va_runV (As := [.int (xs (nI (i + 1)).toNatClampNeg), .int (xs (nI (i + 2)).toNatClampNeg)]) (rest := [.int rx]) ⟨hx, hb, hml, hown, hts⟩ (c_X4_torn l g b M H.size (xs (nI (i + 1)).toNatClampNeg) (xs (nI (i + 2)).toNatClampNeg) mn ma) (cwV 2 hts gL_law_X4_torn rfl rfl rfl (by decide +kernel) ⟨Nat.le_of_ble_eq_true rfl, Nat.le_of_ble_eq_true rfl⟩) (pv_w hK hP (ci := 6) (q0 := 21) rfl rfl (hP.sub (ws' := wM g b M) [21, 22, 23, 24, 25, 26, 27, 28, 29, 30, 31, 32, 33] rfl) (hD.sub (ws' := wM g b M) [21, 22, 23, 24, 25, 26, 27, 28, 29, 30, 31, 32, 33] (by decide) rfl)) rfl rfl hl.1 rfl (lv_room (Nat.le_of_ble_eq_true rfl)) dL_law_491 ⟨Nat.le_of_succ_le hk, Nat.le_trans (Nat.le_add_right n 6) hn⟩) hP hD hS hA (fun rm um H locs hm1 hP hD hS => ?_)
  refine lv_icmp_eq (tgt := 705) hx hb dL_law_494 (by decide) (fun cq => ?_) (fun cq => ?_)
  · skip
    exact W.widen (k := k + 1) (n := n + 6) (Nat.le_add_right k 1) (Nat.le_add_right n 6) (K ux um f H locs ls (by rw [hx1.2, hm1.2]; exact (sim_torn (M := mC M 0) (xs (nI (i + 1)).toNatClampNeg) (xs (nI (i + 2)).toNatClampNeg) (SI_cd 0 hSI)).2) hP hD hS hl)
  · exact absurd (by rw [hx1.1, hm1.1]; exact (sim_torn (M := mC M 0) (xs (nI (i + 1)).toNatClampNeg) (xs (nI (i + 2)).toNatClampNeg) (SI_cd 0 hSI)).1) cq
set_option maxHeartbeats 1000000 in
set_option maxRecDepth 100000 in
theorem law_499 (C0 : lw_At p s m meth c b0 L xs) (hst : l.stackTraces = false) (hL : L ≤ 3585) (hK : KK g s) (hXK : XK s) (hXZ : XZ (fun q : Nat => s.heap.size ≤ q) s s.heap) (hi : i + 7 ≤ L) (hk : k + 1 ≤ 603072) (hn : n + 6 ≤ 7218912) (K : AtH p l e s m below meth c b0 g a r b o i (k + 1) (n + 6) 705) : AtH p l e s m below meth c b0 g a r b o i k n 499 := by
  obtain ⟨hx, hb, hr, hml, hown, hts0, hX, hbl, hlocks, hgv⟩ := C0
  have hown : s.vm.findClass RL = some m.cls := hown
  have hts : ∀ w ∈ wsL_law, w.before #[Value.ref b0] s = true := fun w h => hts0 w (wsL_law_in w h)
  have htx : ∀ w ∈ wsL_law ++ xwE, w.before #[Value.ref b0] s = true := fun w h => (List.mem_append.mp h).elim (hts w) (fun h => hts0 w (xwE_in w h))
  have hA : ∀ q : Nat, s.heap.size ≤ q → (fun q : Nat => s.heap.size ≤ q) q := fun _ h => h
  have hbA : ¬ (fun q : Nat => s.heap.size ≤ q) b0 := Nat.not_le.mpr hbl
  intro X M f H locs ls hSI hP hD hS hl
  obtain ⟨xn, xk, xa, x1, x4, mS, mn, mf, mk, ma, mg, mc, mce⟩ := SI_f hSI
  refine lv_aload_n hx hb dL_law_499 rfl (lv_at hl 1 rfl) ?_
  refine lv_aload_n hx hb dL_law_500 rfl (lv_at hl 0 rfl) ?_
  refine lv_iload hx hb dL_law_501 (lv_at hl 4 rfl) ?_
  refine lv_iconst (v := 1) hx hb dL_law_503 (by decide) ?_
  refine ga_iadd (v := nI (i + 1)) hx hb (nI_add i 1) dL_law_504 ?_
  refine va_sld hx hb hX hbl hbA hS (vp_in_nI (by omega) (by omega)) dL_law_505 ?_
  refine lx_w (va_runV (As := [.int (xs (nI (i + 1)).toNatClampNeg)]) (rest := []) ⟨hx, hb, hml, hown, hts⟩ (c_X3_archive l g a r X H.size (xs (nI (i + 1)).toNatClampNeg) xn xa) (cwV 1 hts gL_law_X3_archive rfl rfl rfl (by decide +kernel) ⟨Nat.le_of_ble_eq_true rfl, Nat.le_of_ble_eq_true rfl⟩) (pv_w hK hP (ci := 5) (q0 := 0) rfl rfl (hP.part (cx := wXc g a r X) [0, 1, 2, 3, 4, 5, 6, 7, 8, 9, 10, 11, 12, 13, 14, 15, 16, 17, 18, 19, 20] rfl) (hD.part (cx := wXc g a r X) [0, 1, 2, 3, 4, 5, 6, 7, 8, 9, 10, 11, 12, 13, 14, 15, 16, 17, 18, 19, 20] (by decide) rfl)) rfl rfl hl.1 rfl (lv_room (Nat.le_of_ble_eq_true rfl)) dL_law_506 ⟨Nat.le_of_succ_le hk, Nat.le_trans (Nat.le_add_right n 6) hn⟩) hP hD hS hA (fun rx ux H locs hx1 hP hD hS => ?_)
  refine lv_aload_n hx hb dL_law_509 rfl (lv_at hl 2 rfl) ?_
  refine lv_aload_n hx hb dL_law_510 rfl (lv_at hl 0 rfl) ?_
  refine lv_iload hx hb dL_law_511 (lv_at hl 4 rfl) ?_
  refine lv_iconst (v := 1) hx hb dL_law_513 (by decide) ?_
  refine ga_iadd (v := nI (i + 1)) hx hb (nI_add i 1) dL_law_514 ?_
  refine va_sld hx hb hX hbl hbA hS (vp_in_nI (by omega) (by omega)) dL_law_515 ?_
  refine lm_w (va_runV (As := [.int (xs (nI (i + 1)).toNatClampNeg)]) (rest := [.int rx]) ⟨hx, hb, hml, hown, hts⟩ (c_X4_archive l g b M H.size (xs (nI (i + 1)).toNatClampNeg) mn ma) (cwV 1 hts gL_law_X4_archive rfl rfl rfl (by decide +kernel) ⟨Nat.le_of_ble_eq_true rfl, Nat.le_of_ble_eq_true rfl⟩) (pv_w hK hP (ci := 6) (q0 := 21) rfl rfl (hP.sub (ws' := wM g b M) [21, 22, 23, 24, 25, 26, 27, 28, 29, 30, 31, 32, 33] rfl) (hD.sub (ws' := wM g b M) [21, 22, 23, 24, 25, 26, 27, 28, 29, 30, 31, 32, 33] (by decide) rfl)) rfl rfl hl.1 rfl (lv_room (Nat.le_of_ble_eq_true rfl)) dL_law_516 ⟨Nat.le_of_succ_le hk, Nat.le_trans (Nat.le_add_right n 6) hn⟩) hP hD hS hA (fun rm um H locs hm1 hP hD hS => ?_)
  refine lv_icmp_eq (tgt := 705) hx hb dL_law_519 (by decide) (fun cq => ?_) (fun cq => ?_)
  · skip
    exact W.widen (k := k + 1) (n := n + 6) (Nat.le_add_right k 1) (Nat.le_add_right n 6) (K ux um f H locs ls (by rw [hx1.2, hm1.2]; exact (sim_archive (M := mC M 0) (xs (nI (i + 1)).toNatClampNeg) (SI_cd 0 hSI)).2) hP hD hS hl)
  · exact absurd (by rw [hx1.1, hm1.1]; exact (sim_archive (M := mC M 0) (xs (nI (i + 1)).toNatClampNeg) (SI_cd 0 hSI)).1) cq
set_option maxHeartbeats 1000000 in
set_option maxRecDepth 100000 in
theorem law_524 (C0 : lw_At p s m meth c b0 L xs) (hst : l.stackTraces = false) (hL : L ≤ 3585) (hK : KK g s) (hXK : XK s) (hXZ : XZ (fun q : Nat => s.heap.size ≤ q) s s.heap) (hi : i + 7 ≤ L) (hk : k + 1 ≤ 603072) (hn : n + 6 ≤ 7218912) (K : AtH p l e s m below meth c b0 g a r b o i (k + 1) (n + 6) 705) : AtH p l e s m below meth c b0 g a r b o i k n 524 := by
  obtain ⟨hx, hb, hr, hml, hown, hts0, hX, hbl, hlocks, hgv⟩ := C0
  have hown : s.vm.findClass RL = some m.cls := hown
  have hts : ∀ w ∈ wsL_law, w.before #[Value.ref b0] s = true := fun w h => hts0 w (wsL_law_in w h)
  have htx : ∀ w ∈ wsL_law ++ xwE, w.before #[Value.ref b0] s = true := fun w h => (List.mem_append.mp h).elim (hts w) (fun h => hts0 w (xwE_in w h))
  have hA : ∀ q : Nat, s.heap.size ≤ q → (fun q : Nat => s.heap.size ≤ q) q := fun _ h => h
  have hbA : ¬ (fun q : Nat => s.heap.size ≤ q) b0 := Nat.not_le.mpr hbl
  intro X M f H locs ls hSI hP hD hS hl
  obtain ⟨xn, xk, xa, x1, x4, mS, mn, mf, mk, ma, mg, mc, mce⟩ := SI_f hSI
  refine lv_aload_n hx hb dL_law_524 rfl (lv_at hl 1 rfl) ?_
  refine lv_aload_n hx hb dL_law_525 rfl (lv_at hl 0 rfl) ?_
  refine lv_iload hx hb dL_law_526 (lv_at hl 4 rfl) ?_
  refine lv_iconst (v := 1) hx hb dL_law_528 (by decide) ?_
  refine ga_iadd (v := nI (i + 1)) hx hb (nI_add i 1) dL_law_529 ?_
  refine va_sld hx hb hX hbl hbA hS (vp_in_nI (by omega) (by omega)) dL_law_530 ?_
  refine vp_callSi (va_Run.run (va_runV (As := [.int (xs (nI (i + 1)).toNatClampNeg)]) (rest := []) ⟨hx, hb, hml, hown, hts⟩ (c_X3_gap l g a r X (xs (nI (i + 1)).toNatClampNeg) xn) (cwV 1 hts gL_law_X3_gap rfl rfl rfl (by decide +kernel) ⟨Nat.le_of_ble_eq_true rfl, Nat.le_of_ble_eq_true rfl⟩) (pv_r hK hP (ci := 5) (q0 := 0) rfl rfl [0, 1, 2, 3, 4, 5, 6, 7, 8, 9, 10, 11, 12, 13, 14, 15, 16, 17, 18, 19, 20] rfl) rfl rfl hl.1 rfl (lv_room (Nat.le_of_ble_eq_true rfl)) dL_law_531 ⟨Nat.le_of_succ_le hk, Nat.le_trans (Nat.le_add_right n 6) hn⟩)) (fun rx hx1 => ?_)
  refine lv_aload_n hx hb dL_law_534 rfl (lv_at hl 2 rfl) ?_
  refine lv_aload_n hx hb dL_law_535 rfl (lv_at hl 0 rfl) ?_
  refine lv_iload hx hb dL_law_536 (lv_at hl 4 rfl) ?_
  refine lv_iconst (v := 1) hx hb dL_law_538 (by decide) ?_
  refine ga_iadd (v := nI (i + 1)) hx hb (nI_add i 1) dL_law_539 ?_
  refine va_sld hx hb hX hbl hbA hS (vp_in_nI (by omega) (by omega)) dL_law_540 ?_
  refine lm_w (va_runV (As := [.int (xs (nI (i + 1)).toNatClampNeg)]) (rest := [.int rx]) ⟨hx, hb, hml, hown, hts⟩ (c_X4_gap l g b M H.size (xs (nI (i + 1)).toNatClampNeg) mn) (cwV 1 hts gL_law_X4_gap rfl rfl rfl (by decide +kernel) ⟨Nat.le_of_ble_eq_true rfl, Nat.le_of_ble_eq_true rfl⟩) (pv_w hK hP (ci := 6) (q0 := 21) rfl rfl (hP.sub (ws' := wM g b M) [21, 22, 23, 24, 25, 26, 27, 28, 29, 30, 31, 32, 33] rfl) (hD.sub (ws' := wM g b M) [21, 22, 23, 24, 25, 26, 27, 28, 29, 30, 31, 32, 33] (by decide) rfl)) rfl rfl hl.1 rfl (lv_room (Nat.le_of_ble_eq_true rfl)) dL_law_541 ⟨Nat.le_of_succ_le hk, Nat.le_trans (Nat.le_add_right n 6) hn⟩) hP hD hS hA (fun rm um H locs hm1 hP hD hS => ?_)
  refine lv_icmp_eq (tgt := 705) hx hb dL_law_544 (by decide) (fun cq => ?_) (fun cq => ?_)
  · skip
    exact W.widen (k := k + 1) (n := n + 6) (Nat.le_add_right k 1) (Nat.le_add_right n 6) (K X um f H locs ls (by rw [hm1.2]; exact SI_cd 0 hSI) hP hD hS hl)
  · exact absurd (by rw [hx1, hm1.1, sq_gap hSI (xs (nI (i + 1)).toNatClampNeg)]) cq
set_option maxHeartbeats 1000000 in
set_option maxRecDepth 100000 in
theorem law_549 (C0 : lw_At p s m meth c b0 L xs) (hst : l.stackTraces = false) (hL : L ≤ 3585) (hK : KK g s) (hXK : XK s) (hXZ : XZ (fun q : Nat => s.heap.size ≤ q) s s.heap) (hi : i + 7 ≤ L) (hk : k + 1 ≤ 603072) (hn : n + 6 ≤ 7218912) (K : AtH p l e s m below meth c b0 g a r b o i (k + 1) (n + 6) 705) : AtH p l e s m below meth c b0 g a r b o i k n 549 := by
  obtain ⟨hx, hb, hr, hml, hown, hts0, hX, hbl, hlocks, hgv⟩ := C0
  have hown : s.vm.findClass RL = some m.cls := hown
  have hts : ∀ w ∈ wsL_law, w.before #[Value.ref b0] s = true := fun w h => hts0 w (wsL_law_in w h)
  have htx : ∀ w ∈ wsL_law ++ xwE, w.before #[Value.ref b0] s = true := fun w h => (List.mem_append.mp h).elim (hts w) (fun h => hts0 w (xwE_in w h))
  have hA : ∀ q : Nat, s.heap.size ≤ q → (fun q : Nat => s.heap.size ≤ q) q := fun _ h => h
  have hbA : ¬ (fun q : Nat => s.heap.size ≤ q) b0 := Nat.not_le.mpr hbl
  intro X M f H locs ls hSI hP hD hS hl
  obtain ⟨xn, xk, xa, x1, x4, mS, mn, mf, mk, ma, mg, mc, mce⟩ := SI_f hSI
  refine lv_aload_n hx hb dL_law_549 rfl (lv_at hl 1 rfl) ?_
  refine lv_aload_n hx hb dL_law_550 rfl (lv_at hl 0 rfl) ?_
  refine lv_iload hx hb dL_law_551 (lv_at hl 4 rfl) ?_
  refine lv_iconst (v := 1) hx hb dL_law_553 (by decide) ?_
  refine ga_iadd (v := nI (i + 1)) hx hb (nI_add i 1) dL_law_554 ?_
  refine va_sld hx hb hX hbl hbA hS (vp_in_nI (by omega) (by omega)) dL_law_555 ?_
  refine lv_aload_n hx hb dL_law_556 rfl (lv_at hl 0 rfl) ?_
  refine lv_iload hx hb dL_law_557 (lv_at hl 4 rfl) ?_
  refine lv_iconst (v := 2) hx hb dL_law_559 (by decide) ?_
  refine ga_iadd (v := nI (i + 2)) hx hb (nI_add i 2) dL_law_560 ?_
  refine va_sld hx hb hX hbl hbA hS (vp_in_nI (by omega) (by omega)) dL_law_561 ?_
  refine vp_callSi (va_Run.run (va_runV (As := [.int (xs (nI (i + 1)).toNatClampNeg), .int (xs (nI (i + 2)).toNatClampNeg)]) (rest := []) ⟨hx, hb, hml, hown, hts⟩ (c_X3_merge l g a r X (xs (nI (i + 1)).toNatClampNeg) (xs (nI (i + 2)).toNatClampNeg) x1 x4 xn) (cwV 2 hts gL_law_X3_merge rfl rfl rfl (by decide +kernel) ⟨Nat.le_of_ble_eq_true rfl, Nat.le_of_ble_eq_true rfl⟩) (pv_r hK hP (ci := 5) (q0 := 0) rfl rfl [0, 1, 2, 3, 4, 5, 6, 7, 8, 9, 10, 11, 12, 13, 14, 15, 16, 17, 18, 19, 20] rfl) rfl rfl hl.1 rfl (lv_room (Nat.le_of_ble_eq_true rfl)) dL_law_562 ⟨Nat.le_of_succ_le hk, Nat.le_trans (Nat.le_add_right n 6) hn⟩)) (fun rx hx1 => ?_)
  refine lv_aload_n hx hb dL_law_565 rfl (lv_at hl 2 rfl) ?_
  refine lv_aload_n hx hb dL_law_566 rfl (lv_at hl 0 rfl) ?_
  refine lv_iload hx hb dL_law_567 (lv_at hl 4 rfl) ?_
  refine lv_iconst (v := 1) hx hb dL_law_569 (by decide) ?_
  refine ga_iadd (v := nI (i + 1)) hx hb (nI_add i 1) dL_law_570 ?_
  refine va_sld hx hb hX hbl hbA hS (vp_in_nI (by omega) (by omega)) dL_law_571 ?_
  refine lv_aload_n hx hb dL_law_572 rfl (lv_at hl 0 rfl) ?_
  refine lv_iload hx hb dL_law_573 (lv_at hl 4 rfl) ?_
  refine lv_iconst (v := 2) hx hb dL_law_575 (by decide) ?_
  refine ga_iadd (v := nI (i + 2)) hx hb (nI_add i 2) dL_law_576 ?_
  refine va_sld hx hb hX hbl hbA hS (vp_in_nI (by omega) (by omega)) dL_law_577 ?_
  refine lm_w (va_runV (As := [.int (xs (nI (i + 1)).toNatClampNeg), .int (xs (nI (i + 2)).toNatClampNeg)]) (rest := [.int rx]) ⟨hx, hb, hml, hown, hts⟩ (c_X4_merge l g b M H.size (xs (nI (i + 1)).toNatClampNeg) (xs (nI (i + 2)).toNatClampNeg) (by rw [mg]; exact x1) (by rw [mg]; exact x4) mn) (cwV 2 hts gL_law_X4_merge rfl rfl rfl (by decide +kernel) ⟨Nat.le_of_ble_eq_true rfl, Nat.le_of_ble_eq_true rfl⟩) (pv_w hK hP (ci := 6) (q0 := 21) rfl rfl (hP.sub (ws' := wM g b M) [21, 22, 23, 24, 25, 26, 27, 28, 29, 30, 31, 32, 33] rfl) (hD.sub (ws' := wM g b M) [21, 22, 23, 24, 25, 26, 27, 28, 29, 30, 31, 32, 33] (by decide) rfl)) rfl rfl hl.1 rfl (lv_room (Nat.le_of_ble_eq_true rfl)) dL_law_578 ⟨Nat.le_of_succ_le hk, Nat.le_trans (Nat.le_add_right n 6) hn⟩) hP hD hS hA (fun rm um H locs hm1 hP hD hS => ?_)
  refine lv_icmp_eq (tgt := 705) hx hb dL_law_581 (by decide) (fun cq => ?_) (fun cq => ?_)
  · skip
    exact W.widen (k := k + 1) (n := n + 6) (Nat.le_add_right k 1) (Nat.le_add_right n 6) (K X um f H locs ls (by rw [hm1.2]; exact SI_cd 0 hSI) hP hD hS hl)
  · exact absurd (by rw [hx1, hm1.1, sq_merge hSI (xs (nI (i + 1)).toNatClampNeg) (xs (nI (i + 2)).toNatClampNeg)]) cq
set_option maxHeartbeats 1000000 in
set_option maxRecDepth 100000 in
theorem law_586 (C0 : lw_At p s m meth c b0 L xs) (hst : l.stackTraces = false) (hL : L ≤ 3585) (hK : KK g s) (hXK : XK s) (hXZ : XZ (fun q : Nat => s.heap.size ≤ q) s s.heap) (hi : i + 7 ≤ L) (hk : k + 1 ≤ 603072) (hn : n + 6 ≤ 7218912) (K : AtH p l e s m below meth c b0 g a r b o i (k + 1) (n + 6) 705) : AtH p l e s m below meth c b0 g a r b o i k n 586 := by
  obtain ⟨hx, hb, hr, hml, hown, hts0, hX, hbl, hlocks, hgv⟩ := C0
  have hown : s.vm.findClass RL = some m.cls := hown
  have hts : ∀ w ∈ wsL_law, w.before #[Value.ref b0] s = true := fun w h => hts0 w (wsL_law_in w h)
  have htx : ∀ w ∈ wsL_law ++ xwE, w.before #[Value.ref b0] s = true := fun w h => (List.mem_append.mp h).elim (hts w) (fun h => hts0 w (xwE_in w h))
  have hA : ∀ q : Nat, s.heap.size ≤ q → (fun q : Nat => s.heap.size ≤ q) q := fun _ h => h
  have hbA : ¬ (fun q : Nat => s.heap.size ≤ q) b0 := Nat.not_le.mpr hbl
  intro X M f H locs ls hSI hP hD hS hl
  obtain ⟨xn, xk, xa, x1, x4, mS, mn, mf, mk, ma, mg, mc, mce⟩ := SI_f hSI
  refine lv_aload_n hx hb dL_law_586 rfl (lv_at hl 1 rfl) ?_
  refine lv_aload_n hx hb dL_law_587 rfl (lv_at hl 0 rfl) ?_
  refine lv_iload hx hb dL_law_588 (lv_at hl 4 rfl) ?_
  refine lv_iconst (v := 1) hx hb dL_law_590 (by decide) ?_
  refine ga_iadd (v := nI (i + 1)) hx hb (nI_add i 1) dL_law_591 ?_
  refine va_sld hx hb hX hbl hbA hS (vp_in_nI (by omega) (by omega)) dL_law_592 ?_
  refine lv_aload_n hx hb dL_law_593 rfl (lv_at hl 0 rfl) ?_
  refine lv_iload hx hb dL_law_594 (lv_at hl 4 rfl) ?_
  refine lv_iconst (v := 2) hx hb dL_law_596 (by decide) ?_
  refine ga_iadd (v := nI (i + 2)) hx hb (nI_add i 2) dL_law_597 ?_
  refine va_sld hx hb hX hbl hbA hS (vp_in_nI (by omega) (by omega)) dL_law_598 ?_
  refine lv_aload_n hx hb dL_law_599 rfl (lv_at hl 3 rfl) ?_
  refine le_i (vx_runSW (As := [.ref (a 0), .int (xs (nI (i + 1)).toNatClampNeg), .int (xs (nI (i + 2)).toNatClampNeg), .ref o]) (rest := []) ⟨hx, hb, hml, hown, htx⟩ (c_L_at l hst g a r X o f H.size (xs (nI (i + 1)).toNatClampNeg) (xs (nI (i + 2)).toNatClampNeg) xn) (vx_cwSW 4 htx (gi_S xwE_good gL_law_L_at) rfl rfl rfl (by decide +kernel) ⟨Nat.le_of_ble_eq_true rfl, Nat.le_of_ble_eq_true rfl⟩) (ps_x hK hXK (hXZ.kept hS.2.1) (hP.sub (ws' := wXc g a r X ++ wO g o f) [0, 1, 2, 3, 4, 5, 6, 7, 8, 9, 10, 11, 12, 13, 14, 15, 16, 17, 18, 19, 20, 34] rfl) (hD.sub (ws' := wXc g a r X ++ wO g o f) [0, 1, 2, 3, 4, 5, 6, 7, 8, 9, 10, 11, 12, 13, 14, 15, 16, 17, 18, 19, 20, 34] (by decide) rfl)) rfl rfl hl.1 rfl (lv_room (Nat.le_of_ble_eq_true rfl)) dL_law_600 ⟨hk, hn⟩) hP hD hS hA (fun rk f2 H locs hx1 hP hD hS => ?_)
  rcases hx1 with ⟨h1, rfl, rfl⟩ | ⟨h1, rfl, -⟩
  · skip
    refine lv_istore (lv' := [(5, .int 0), (0, .ref b0), (1, .ref (a 0)), (2, .ref (b 0)), (3, .ref o), (4, .int (nI i))]) hx hb dL_law_603 hl (by decide) rfl (fun ls hl => ?_)
    refine lv_aload_n hx hb dL_law_605 rfl (lv_at hl 3 rfl) ?_
    refine lv_aload_n hx hb dL_law_606 rfl (lv_at hl 1 rfl) ?_
    refine lv_iload hx hb dL_law_607 (lv_at hl 5 rfl) ?_
    refine lv_iconst (v := 1) hx hb dL_law_609 (by decide) ?_
    refine ga_iadd (v := nI (i + 1)) hx hb (nI_add i 1) dL_law_610 ?_
    refine va_sld hx hb hX hbl hbA hS (vp_in_nI (by omega) (by omega)) dL_law_611 ?_
    refine lv_aload_n hx hb dL_law_612 rfl (lv_at hl 1 rfl) ?_
    refine lv_iload hx hb dL_law_613 (lv_at hl 5 rfl) ?_
    refine lv_iconst (v := 2) hx hb dL_law_615 (by decide) ?_
    refine ga_iadd (v := nI (i + 2)) hx hb (nI_add i 2) dL_law_616 ?_
    refine va_sld hx hb hX hbl hbA hS (vp_in_nI (by omega) (by omega)) dL_law_617 ?_
    refine lm_w (va_runV (As := [.int (xs (nI (i + 1)).toNatClampNeg), .int (xs (nI (i + 2)).toNatClampNeg)]) (rest := []) ⟨hx, hb, hml, hown, hts⟩ (c_X4_at l g b M H.size (xs (nI (i + 1)).toNatClampNeg) (xs (nI (i + 2)).toNatClampNeg) mn) (cwV 2 hts gL_law_X4_at rfl rfl rfl (by decide +kernel) ⟨Nat.le_of_ble_eq_true rfl, Nat.le_of_ble_eq_true rfl⟩) (pv_w hK hP (ci := 6) (q0 := 21) rfl rfl (hP.sub (ws' := wM g b M) [21, 22, 23, 24, 25, 26, 27, 28, 29, 30, 31, 32, 33] rfl) (hD.sub (ws' := wM g b M) [21, 22, 23, 24, 25, 26, 27, 28, 29, 30, 31, 32, 33] (by decide) rfl)) rfl rfl hl.1 rfl (lv_room (Nat.le_of_ble_eq_true rfl)) dL_law_618 ⟨hk, hn⟩) hP hD hS hA (fun rm um H locs hm1 hP hD hS => ?_)
    rcases hm1 with ⟨h2, rfl, rfl⟩ | ⟨h2, -, -⟩
    rotate_left
    · exact absurd h1 (by rw [← mS]; exact h2)
    refine lv_istore (lv' := [(6, .int (teR M.S (xs (nI (i + 1)).toNatClampNeg).toNatClampNeg (xs (nI (i + 2)).toNatClampNeg).toNatClampNeg)), (5, .int 0), (0, .ref b0), (1, .ref (a 0)), (2, .ref (b 0)), (3, .ref o), (4, .int (nI i))]) hx hb dL_law_621 hl (by decide) rfl (fun ls hl => ?_)
    refine lv_aload_n hx hb dL_law_623 rfl (lv_at hl 4 rfl) ?_
    refine vp_callSi (va_Run.run (va_runV (As := []) (rest := []) ⟨hx, hb, hml, hown, hts⟩ (c_X4_thrown l g b (mC M 0)) (cwV 0 hts gL_law_X4_thrown rfl rfl rfl (by decide +kernel) ⟨Nat.le_of_ble_eq_true rfl, Nat.le_of_ble_eq_true rfl⟩) (pv_r hK hP (ci := 6) (q0 := 21) rfl rfl [21, 22, 23, 24, 25, 26, 27, 28, 29, 30, 31, 32, 33] rfl) rfl rfl hl.1 rfl (lv_room (Nat.le_of_ble_eq_true rfl)) dL_law_624 ⟨hk, hn⟩)) (fun rt ht1 => ?_)
    subst ht1
    refine lv_iload hx hb dL_law_627 (lv_at hl 1 rfl) ?_
    refine lv_icmp_eq (tgt := 634) hx hb dL_law_629 (by decide) (fun cq => ?_) (fun cq => absurd rfl cq)
    refine lv_iload hx hb dL_law_634 (lv_at hl 1 rfl) ?_
    refine lv_if_ne (tgt := 651) hx hb dL_law_636 (by decide) (fun cq => absurd rfl cq) (fun cq => ?_)
    refine lv_aload_n hx hb dL_law_639 rfl (lv_at hl 5 rfl) ?_
    refine lv_iconst (v := 0) hx hb dL_law_640 (by decide) ?_
    refine ga_lald (v := (teR X.S (xs (nI (i + 1)).toNatClampNeg).toNatClampNeg (xs (nI (i + 2)).toNatClampNeg).toNatClampNeg).toInt64) hx hb hK.1 hP 34 1 rfl rfl (v_p (by decide) (by decide)) (by simp [vp_updL]) dL_law_641 ?_
    refine lv_iload hx hb dL_law_642 (lv_at hl 0 rfl) ?_
    refine lv_i2l (v := (teR M.S (xs (nI (i + 1)).toNatClampNeg).toNatClampNeg (xs (nI (i + 2)).toNatClampNeg).toNatClampNeg).toInt64) hx hb dL_law_644 rfl ?_
    refine W.lcmp hx hb dL_law_645 ?_
    refine lv_if_eq (tgt := 651) hx hb dL_law_646 (by decide) (fun cq => ?_) (fun cq => ?_)
    · skip
      refine lv_goto (tgt := 705) hx hb dL_law_651 (by decide) ?_
      exact K X (mC M 0) (vp_updL f 0 (teR X.S (xs (nI (i + 1)).toNatClampNeg).toNatClampNeg (xs (nI (i + 2)).toNatClampNeg).toNatClampNeg).toInt64) H locs ls (SI_cd 0 hSI) hP hD hS (lv_sub hl [2, 3, 4, 5, 6] rfl)
    · exact absurd (by rw [lg_cmp_eq, mS]) cq
  · skip
    refine lv_istore (lv' := [(5, .int 1), (0, .ref b0), (1, .ref (a 0)), (2, .ref (b 0)), (3, .ref o), (4, .int (nI i))]) hx hb dL_law_603 hl (by decide) rfl (fun ls hl => ?_)
    refine lv_aload_n hx hb dL_law_605 rfl (lv_at hl 3 rfl) ?_
    refine lv_aload_n hx hb dL_law_606 rfl (lv_at hl 1 rfl) ?_
    refine lv_iload hx hb dL_law_607 (lv_at hl 5 rfl) ?_
    refine lv_iconst (v := 1) hx hb dL_law_609 (by decide) ?_
    refine ga_iadd (v := nI (i + 1)) hx hb (nI_add i 1) dL_law_610 ?_
    refine va_sld hx hb hX hbl hbA hS (vp_in_nI (by omega) (by omega)) dL_law_611 ?_
    refine lv_aload_n hx hb dL_law_612 rfl (lv_at hl 1 rfl) ?_
    refine lv_iload hx hb dL_law_613 (lv_at hl 5 rfl) ?_
    refine lv_iconst (v := 2) hx hb dL_law_615 (by decide) ?_
    refine ga_iadd (v := nI (i + 2)) hx hb (nI_add i 2) dL_law_616 ?_
    refine va_sld hx hb hX hbl hbA hS (vp_in_nI (by omega) (by omega)) dL_law_617 ?_
    refine lm_w (va_runV (As := [.int (xs (nI (i + 1)).toNatClampNeg), .int (xs (nI (i + 2)).toNatClampNeg)]) (rest := []) ⟨hx, hb, hml, hown, hts⟩ (c_X4_at l g b M H.size (xs (nI (i + 1)).toNatClampNeg) (xs (nI (i + 2)).toNatClampNeg) mn) (cwV 2 hts gL_law_X4_at rfl rfl rfl (by decide +kernel) ⟨Nat.le_of_ble_eq_true rfl, Nat.le_of_ble_eq_true rfl⟩) (pv_w hK hP (ci := 6) (q0 := 21) rfl rfl (hP.sub (ws' := wM g b M) [21, 22, 23, 24, 25, 26, 27, 28, 29, 30, 31, 32, 33] rfl) (hD.sub (ws' := wM g b M) [21, 22, 23, 24, 25, 26, 27, 28, 29, 30, 31, 32, 33] (by decide) rfl)) rfl rfl hl.1 rfl (lv_room (Nat.le_of_ble_eq_true rfl)) dL_law_618 ⟨hk, hn⟩) hP hD hS hA (fun rm um H locs hm1 hP hD hS => ?_)
    rcases hm1 with ⟨h2, -, -⟩ | ⟨h2, rfl, rfl⟩
    · exact absurd (by rw [← mS]; exact h2) h1
    refine lv_istore (lv' := [(6, .int 0), (5, .int 1), (0, .ref b0), (1, .ref (a 0)), (2, .ref (b 0)), (3, .ref o), (4, .int (nI i))]) hx hb dL_law_621 hl (by decide) rfl (fun ls hl => ?_)
    refine lv_aload_n hx hb dL_law_623 rfl (lv_at hl 4 rfl) ?_
    refine vp_callSi (va_Run.run (va_runV (As := []) (rest := []) ⟨hx, hb, hml, hown, hts⟩ (c_X4_thrown l g b (mC M 1)) (cwV 0 hts gL_law_X4_thrown rfl rfl rfl (by decide +kernel) ⟨Nat.le_of_ble_eq_true rfl, Nat.le_of_ble_eq_true rfl⟩) (pv_r hK hP (ci := 6) (q0 := 21) rfl rfl [21, 22, 23, 24, 25, 26, 27, 28, 29, 30, 31, 32, 33] rfl) rfl rfl hl.1 rfl (lv_room (Nat.le_of_ble_eq_true rfl)) dL_law_624 ⟨hk, hn⟩)) (fun rt ht1 => ?_)
    subst ht1
    refine lv_iload hx hb dL_law_627 (lv_at hl 1 rfl) ?_
    refine lv_icmp_eq (tgt := 634) hx hb dL_law_629 (by decide) (fun cq => ?_) (fun cq => absurd rfl cq)
    refine lv_iload hx hb dL_law_634 (lv_at hl 1 rfl) ?_
    refine lv_if_ne (tgt := 651) hx hb dL_law_636 (by decide) (fun cq => ?_) (fun cq => absurd cq (by decide))
    refine lv_goto (tgt := 705) hx hb dL_law_651 (by decide) ?_
    exact K X (mC M 1) f2 H locs ls (SI_cd 1 hSI) hP hD hS (lv_sub hl [2, 3, 4, 5, 6] rfl)
set_option maxHeartbeats 1000000 in
set_option maxRecDepth 100000 in
theorem law_654 (C0 : lw_At p s m meth c b0 L xs) (hst : l.stackTraces = false) (hL : L ≤ 3585) (hK : KK g s) (hXK : XK s) (hXZ : XZ (fun q : Nat => s.heap.size ≤ q) s s.heap) (hi : i + 7 ≤ L) (hk : k + 1 ≤ 603072) (hn : n + 6 ≤ 7218912) (K : AtH p l e s m below meth c b0 g a r b o i (k + 1) (n + 6) 705) : AtH p l e s m below meth c b0 g a r b o i k n 654 := by
  obtain ⟨hx, hb, hr, hml, hown, hts0, hX, hbl, hlocks, hgv⟩ := C0
  have hown : s.vm.findClass RL = some m.cls := hown
  have hts : ∀ w ∈ wsL_law, w.before #[Value.ref b0] s = true := fun w h => hts0 w (wsL_law_in w h)
  have htx : ∀ w ∈ wsL_law ++ xwE, w.before #[Value.ref b0] s = true := fun w h => (List.mem_append.mp h).elim (hts w) (fun h => hts0 w (xwE_in w h))
  have hA : ∀ q : Nat, s.heap.size ≤ q → (fun q : Nat => s.heap.size ≤ q) q := fun _ h => h
  have hbA : ¬ (fun q : Nat => s.heap.size ≤ q) b0 := Nat.not_le.mpr hbl
  intro X M f H locs ls hSI hP hD hS hl
  obtain ⟨xn, xk, xa, x1, x4, mS, mn, mf, mk, ma, mg, mc, mce⟩ := SI_f hSI
  refine lv_aload_n hx hb dL_law_654 rfl (lv_at hl 1 rfl) ?_
  refine vp_callSi (va_Run.run (va_runV (As := []) (rest := []) ⟨hx, hb, hml, hown, hts⟩ (c_X3_warm l g a r X  ) (cwV 0 hts gL_law_X3_warm rfl rfl rfl (by decide +kernel) ⟨Nat.le_of_ble_eq_true rfl, Nat.le_of_ble_eq_true rfl⟩) (pv_r hK hP (ci := 5) (q0 := 0) rfl rfl [0, 1, 2, 3, 4, 5, 6, 7, 8, 9, 10, 11, 12, 13, 14, 15, 16, 17, 18, 19, 20] rfl) rfl rfl hl.1 rfl (lv_room (Nat.le_of_ble_eq_true rfl)) dL_law_655 ⟨Nat.le_of_succ_le hk, Nat.le_trans (Nat.le_add_right n 6) hn⟩)) (fun rx hx1 => ?_)
  refine lv_aload_n hx hb dL_law_658 rfl (lv_at hl 2 rfl) ?_
  refine lm_w (va_runV (As := []) (rest := [.int rx]) ⟨hx, hb, hml, hown, hts⟩ (c_X4_warm l g b M H.size  mn) (cwV 0 hts gL_law_X4_warm rfl rfl rfl (by decide +kernel) ⟨Nat.le_of_ble_eq_true rfl, Nat.le_of_ble_eq_true rfl⟩) (pv_w hK hP (ci := 6) (q0 := 21) rfl rfl (hP.sub (ws' := wM g b M) [21, 22, 23, 24, 25, 26, 27, 28, 29, 30, 31, 32, 33] rfl) (hD.sub (ws' := wM g b M) [21, 22, 23, 24, 25, 26, 27, 28, 29, 30, 31, 32, 33] (by decide) rfl)) rfl rfl hl.1 rfl (lv_room (Nat.le_of_ble_eq_true rfl)) dL_law_659 ⟨Nat.le_of_succ_le hk, Nat.le_trans (Nat.le_add_right n 6) hn⟩) hP hD hS hA (fun rm um H locs hm1 hP hD hS => ?_)
  refine lv_icmp_eq (tgt := 705) hx hb dL_law_662 (by decide) (fun cq => ?_) (fun cq => ?_)
  · skip
    exact W.widen (k := k + 1) (n := n + 6) (Nat.le_add_right k 1) (Nat.le_add_right n 6) (K X um f H locs ls (by rw [hm1.2]; exact SI_cd 0 hSI) hP hD hS hl)
  · exact absurd (by rw [hx1, hm1.1, sq_warm hSI]) cq
set_option maxHeartbeats 1000000 in
set_option maxRecDepth 100000 in
theorem law_667 (C0 : lw_At p s m meth c b0 L xs) (hst : l.stackTraces = false) (hL : L ≤ 3585) (hK : KK g s) (hXK : XK s) (hXZ : XZ (fun q : Nat => s.heap.size ≤ q) s s.heap) (hi : i + 7 ≤ L) (hk : k + 1 ≤ 603072) (hn : n + 6 ≤ 7218912) (K : AtH p l e s m below meth c b0 g a r b o i (k + 1) (n + 6) 705) : AtH p l e s m below meth c b0 g a r b o i k n 667 := by
  obtain ⟨hx, hb, hr, hml, hown, hts0, hX, hbl, hlocks, hgv⟩ := C0
  have hown : s.vm.findClass RL = some m.cls := hown
  have hts : ∀ w ∈ wsL_law, w.before #[Value.ref b0] s = true := fun w h => hts0 w (wsL_law_in w h)
  have htx : ∀ w ∈ wsL_law ++ xwE, w.before #[Value.ref b0] s = true := fun w h => (List.mem_append.mp h).elim (hts w) (fun h => hts0 w (xwE_in w h))
  have hA : ∀ q : Nat, s.heap.size ≤ q → (fun q : Nat => s.heap.size ≤ q) q := fun _ h => h
  have hbA : ¬ (fun q : Nat => s.heap.size ≤ q) b0 := Nat.not_le.mpr hbl
  intro X M f H locs ls hSI hP hD hS hl
  obtain ⟨xn, xk, xa, x1, x4, mS, mn, mf, mk, ma, mg, mc, mce⟩ := SI_f hSI
  refine lv_aload_n hx hb dL_law_667 rfl (lv_at hl 1 rfl) ?_
  refine vp_callSi (va_Run.run (va_runV (As := []) (rest := []) ⟨hx, hb, hml, hown, hts⟩ (c_X3_ahead l g a r X  xn) (cwV 0 hts gL_law_X3_ahead rfl rfl rfl (by decide +kernel) ⟨Nat.le_of_ble_eq_true rfl, Nat.le_of_ble_eq_true rfl⟩) (pv_r hK hP (ci := 5) (q0 := 0) rfl rfl [0, 1, 2, 3, 4, 5, 6, 7, 8, 9, 10, 11, 12, 13, 14, 15, 16, 17, 18, 19, 20] rfl) rfl rfl hl.1 rfl (lv_room (Nat.le_of_ble_eq_true rfl)) dL_law_668 ⟨Nat.le_of_succ_le hk, Nat.le_trans (Nat.le_add_right n 6) hn⟩)) (fun rx hx1 => ?_)
  refine lv_aload_n hx hb dL_law_671 rfl (lv_at hl 2 rfl) ?_
  refine lm_w (va_runV (As := []) (rest := [.int rx]) ⟨hx, hb, hml, hown, hts⟩ (c_X4_ahead l g b M H.size  mn) (cwV 0 hts gL_law_X4_ahead rfl rfl rfl (by decide +kernel) ⟨Nat.le_of_ble_eq_true rfl, Nat.le_of_ble_eq_true rfl⟩) (pv_w hK hP (ci := 6) (q0 := 21) rfl rfl (hP.sub (ws' := wM g b M) [21, 22, 23, 24, 25, 26, 27, 28, 29, 30, 31, 32, 33] rfl) (hD.sub (ws' := wM g b M) [21, 22, 23, 24, 25, 26, 27, 28, 29, 30, 31, 32, 33] (by decide) rfl)) rfl rfl hl.1 rfl (lv_room (Nat.le_of_ble_eq_true rfl)) dL_law_672 ⟨Nat.le_of_succ_le hk, Nat.le_trans (Nat.le_add_right n 6) hn⟩) hP hD hS hA (fun rm um H locs hm1 hP hD hS => ?_)
  refine lv_icmp_eq (tgt := 705) hx hb dL_law_675 (by decide) (fun cq => ?_) (fun cq => ?_)
  · skip
    exact W.widen (k := k + 1) (n := n + 6) (Nat.le_add_right k 1) (Nat.le_add_right n 6) (K X um f H locs ls (by rw [hm1.2]; exact SI_cd 0 hSI) hP hD hS hl)
  · exact absurd (by rw [hx1, hm1.1, sq_gap hSI 0]) cq
set_option maxHeartbeats 1000000 in
set_option maxRecDepth 100000 in
theorem law_680 (C0 : lw_At p s m meth c b0 L xs) (hst : l.stackTraces = false) (hL : L ≤ 3585) (hK : KK g s) (hXK : XK s) (hXZ : XZ (fun q : Nat => s.heap.size ≤ q) s s.heap) (hi : i + 7 ≤ L) (hk : k + 1 ≤ 603072) (hn : n + 6 ≤ 7218912) (K : AtH p l e s m below meth c b0 g a r b o i (k + 1) (n + 6) 705) : AtH p l e s m below meth c b0 g a r b o i k n 680 := by
  obtain ⟨hx, hb, hr, hml, hown, hts0, hX, hbl, hlocks, hgv⟩ := C0
  have hown : s.vm.findClass RL = some m.cls := hown
  have hts : ∀ w ∈ wsL_law, w.before #[Value.ref b0] s = true := fun w h => hts0 w (wsL_law_in w h)
  have htx : ∀ w ∈ wsL_law ++ xwE, w.before #[Value.ref b0] s = true := fun w h => (List.mem_append.mp h).elim (hts w) (fun h => hts0 w (xwE_in w h))
  have hA : ∀ q : Nat, s.heap.size ≤ q → (fun q : Nat => s.heap.size ≤ q) q := fun _ h => h
  have hbA : ¬ (fun q : Nat => s.heap.size ≤ q) b0 := Nat.not_le.mpr hbl
  intro X M f H locs ls hSI hP hD hS hl
  obtain ⟨xn, xk, xa, x1, x4, mS, mn, mf, mk, ma, mg, mc, mce⟩ := SI_f hSI
  refine lv_aload_n hx hb dL_law_680 rfl (lv_at hl 1 rfl) ?_
  refine lv_aload_n hx hb dL_law_681 rfl (lv_at hl 0 rfl) ?_
  refine lv_iload hx hb dL_law_682 (lv_at hl 4 rfl) ?_
  refine lv_iconst (v := 1) hx hb dL_law_684 (by decide) ?_
  refine ga_iadd (v := nI (i + 1)) hx hb (nI_add i 1) dL_law_685 ?_
  refine va_sld hx hb hX hbl hbA hS (vp_in_nI (by omega) (by omega)) dL_law_686 ?_
  refine vp_callSi (va_Run.run (va_runV (As := [.int (xs (nI (i + 1)).toNatClampNeg)]) (rest := []) ⟨hx, hb, hml, hown, hts⟩ (c_X3_count l g a r X (xs (nI (i + 1)).toNatClampNeg) ) (cwV 1 hts gL_law_X3_count rfl rfl rfl (by decide +kernel) ⟨Nat.le_of_ble_eq_true rfl, Nat.le_of_ble_eq_true rfl⟩) (pv_r hK hP (ci := 5) (q0 := 0) rfl rfl [0, 1, 2, 3, 4, 5, 6, 7, 8, 9, 10, 11, 12, 13, 14, 15, 16, 17, 18, 19, 20] rfl) rfl rfl hl.1 rfl (lv_room (Nat.le_of_ble_eq_true rfl)) dL_law_687 ⟨Nat.le_of_succ_le hk, Nat.le_trans (Nat.le_add_right n 6) hn⟩)) (fun rx hx1 => ?_)
  refine lv_aload_n hx hb dL_law_690 rfl (lv_at hl 2 rfl) ?_
  refine lv_aload_n hx hb dL_law_691 rfl (lv_at hl 0 rfl) ?_
  refine lv_iload hx hb dL_law_692 (lv_at hl 4 rfl) ?_
  refine lv_iconst (v := 1) hx hb dL_law_694 (by decide) ?_
  refine ga_iadd (v := nI (i + 1)) hx hb (nI_add i 1) dL_law_695 ?_
  refine va_sld hx hb hX hbl hbA hS (vp_in_nI (by omega) (by omega)) dL_law_696 ?_
  refine lm_w (va_runV (As := [.int (xs (nI (i + 1)).toNatClampNeg)]) (rest := [.int rx]) ⟨hx, hb, hml, hown, hts⟩ (c_X4_count l g b M H.size (xs (nI (i + 1)).toNatClampNeg) mn) (cwV 1 hts gL_law_X4_count rfl rfl rfl (by decide +kernel) ⟨Nat.le_of_ble_eq_true rfl, Nat.le_of_ble_eq_true rfl⟩) (pv_w hK hP (ci := 6) (q0 := 21) rfl rfl (hP.sub (ws' := wM g b M) [21, 22, 23, 24, 25, 26, 27, 28, 29, 30, 31, 32, 33] rfl) (hD.sub (ws' := wM g b M) [21, 22, 23, 24, 25, 26, 27, 28, 29, 30, 31, 32, 33] (by decide) rfl)) rfl rfl hl.1 rfl (lv_room (Nat.le_of_ble_eq_true rfl)) dL_law_697 ⟨Nat.le_of_succ_le hk, Nat.le_trans (Nat.le_add_right n 6) hn⟩) hP hD hS hA (fun rm um H locs hm1 hP hD hS => ?_)
  refine lv_icmp_eq (tgt := 705) hx hb dL_law_700 (by decide) (fun cq => ?_) (fun cq => ?_)
  · skip
    exact W.widen (k := k + 1) (n := n + 6) (Nat.le_add_right k 1) (Nat.le_add_right n 6) (K X um f H locs ls (by rw [hm1.2]; exact SI_cd 0 hSI) hP hD hS hl)
  · exact absurd (by rw [hx1, hm1.1, sim_count (M := mC M 0) (xs (nI (i + 1)).toNatClampNeg) (SI_cd 0 hSI)]) cq
end LawCases
