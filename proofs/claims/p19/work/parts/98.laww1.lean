/-! the law: its cases (by program) -/
section LW2
variable {p : Program} {l : Launch} {e : Env} {s : State} {m : MethodId} {below : List Frame} {meth : Method} {c : Code} {D : va_G} {cs : Nat → ClassId} {dE : Nat × Nat} {b L mo o q : Nat} {xs : Nat → Int32} {ad : Nat → Nat} {σ : mSt} {M : gMem}
set_option maxHeartbeats 4000000 in
theorem lc_clear {n n2 : Nat} (hn : 20 ≤ n) (hn2 : 9 ≤ n2) (X : LCtx p l s m c D cs dE b L xs) (hq : q + 1 ≤ 512) (hi : 6 * (512 - (q + 1)) + 6 ≤ L) (hI : LInv cs dE s.heap.size mo o ad (q + 1) σ M) (go : LGo p l e s m below meth c D cs dE b mo o ad q) : LW p l e s m below meth c D b 136 (lvI b s.heap.size mo o (nI (6 * (512 - (q + 1))))) M := by
  have X0 := X
  obtain ⟨C, hE, hX, hbl, hL, hf⟩ := X
  obtain ⟨J, hrep, ⟨f0, ho⟩, hle⟩ := hI
  have hbA : ¬ gA s.heap.size b := Nat.not_le.mpr hbl
  have hRm := lw_rm s.heap.size
  obtain ⟨s1, s2, J1, ex⟩ := clear_j J (n := n) hn (n2 := n2) hn2
  show GW p l e room_1 s m #[Value.ref b] below meth c 7 (gA s.heap.size) (lw_Z below #[Value.ref b] s) (gR D gcl s.heap.size M) (M.2.1 - (lwM0 s.heap.size).2.1) (M.2.2 - (lwM0 s.heap.size).2.2) 136 (lvI b s.heap.size mo o (nI (6 * (512 - (q + 1))))) []
  refine g_aload_n C d_law_136 rfl ?_
  refine c_call (av := [.ref s.heap.size]) (rest := []) C hE (fun _ h => h) hRm hle (cc_N_clear l hf D cs s.heap.size dE _ n M s.heap.size s1) (fun _ h => h) kd_N_clear ki_N (Nat.le_of_ble_eq_true rfl) (Nat.le_of_ble_eq_true rfl) d_law_137 (Nat.le_of_ble_eq_true rfl) (c_fV (n := 0) (ci := 0) C hE.1 rfl km_L_70 kv_N_clear kl_N_clear kd_N_clear ⟨by decide, by decide, by decide⟩ rfl rfl d_law_137 J.x0) (fun v M1 hv hle1 => ?_) (fun E M1 hv hle1 => ?_)
  rotate_left
  · obtain ⟨hx, -⟩ := hv
    cases hx
  obtain ⟨hx, rfl⟩ := hv
  cases hx
  have J2 := J1
  have hrep2 := hrep.oth ex
  have ho2 := ex o _ ho oC_ne
  refine g_aload_n C d_law_140 rfl ?_
  refine l_callM (av := []) (n := 0) (rest := []) C hE hRm hle1 J2.mok hrep2 (mc_Mo_clear l D cs s.heap.size dE mo ad n2 σ s2) km_L_73 kv_Mo_clear kl_Mo_clear kd_Mo_clear ⟨rfl, by decide, by decide, by decide⟩ rfl (Nat.le_of_ble_eq_true rfl) (Nat.le_of_ble_eq_true rfl) d_law_141 (Nat.le_of_ble_eq_true rfl) rfl (fun v σ3 M3 hK hrep3 hst3 hs3 hk3 hle3 => ?_)
  obtain ⟨rfl, rfl⟩ := hK
  have J3 := J2.still hst3 hs3
  have ho3 := hk3 o _ ho2 two_moR
  exact lc_fin0 d_law_144 (by decide) X0 hq J3 hrep3 ho3 hle3 go
set_option maxHeartbeats 4000000 in
theorem lc_function {n : Nat} (hn : 1500 ≤ n) (X : LCtx p l s m c D cs dE b L xs) (hq : q + 1 ≤ 512) (hi : 6 * (512 - (q + 1)) + 6 ≤ L) (hI : LInv cs dE s.heap.size mo o ad (q + 1) σ M) (go : LGo p l e s m below meth c D cs dE b mo o ad q) : LW p l e s m below meth c D b 147 (lvI b s.heap.size mo o (nI (6 * (512 - (q + 1))))) M := by
  have X0 := X
  obtain ⟨C, hE, hX, hbl, hL, hf⟩ := X
  obtain ⟨J, hrep, ⟨f0, ho⟩, hle⟩ := hI
  have hbA : ¬ gA s.heap.size b := Nat.not_le.mpr hbl
  have hRm := lw_rm s.heap.size
  obtain ⟨N, hN⟩ : ∃ N, N = 6 * (512 - (q + 1)) := ⟨_, rfl⟩
  rw [← hN] at hi
  have v1 := lw_in (N := N) (k := 1) 1 rfl (show N + 1 < L by omega) hL
  have v2 := lw_in (N := N) (k := 2) 2 rfl (show N + 2 < L by omega) hL
  have v3 := lw_in (N := N) (k := 3) 3 rfl (show N + 3 < L by omega) hL
  obtain ⟨s1, s2, same, J1⟩ := function_j J (n := n) hn (xs (nI N + 1).toNatClampNeg) (xs (nI N + 2).toNatClampNeg) (xs (nI N + 3).toNatClampNeg)
  have ex : Oth M (F_N_function cs n M s.heap.size (xs (nI N + 1).toNatClampNeg) (xs (nI N + 2).toNatClampNeg) (xs (nI N + 3).toNatClampNeg)).2.2 := (x_N_function cs _ n M _ (xs (nI N + 1).toNatClampNeg) (xs (nI N + 2).toNatClampNeg) (xs (nI N + 3).toNatClampNeg) J.mok s1).oth (by decide)
  rw [← hN]
  show GW p l e room_1 s m #[Value.ref b] below meth c 7 (gA s.heap.size) (lw_Z below #[Value.ref b] s) (gR D gcl s.heap.size M) (M.2.1 - (lwM0 s.heap.size).2.1) (M.2.2 - (lwM0 s.heap.size).2.2) 147 (lvI b s.heap.size mo o (nI N)) []
  refine g_aload_n C d_law_147 rfl ?_
  refine g_aload_n C d_law_148 rfl ?_
  refine g_iload C d_law_149 rfl ?_
  refine g_iconst (v := 1) C d_law_151 (by decide) ?_
  refine g_iadd C d_law_152 ?_
  refine g_sld C hX hbl hbA v1 d_law_153 ?_
  refine g_aload_n C d_law_154 rfl ?_
  refine g_iload C d_law_155 rfl ?_
  refine g_iconst (v := 2) C d_law_157 (by decide) ?_
  refine g_iadd C d_law_158 ?_
  refine g_sld C hX hbl hbA v2 d_law_159 ?_
  refine g_aload_n C d_law_160 rfl ?_
  refine g_iload C d_law_161 rfl ?_
  refine g_iconst (v := 3) C d_law_163 (by decide) ?_
  refine g_iadd C d_law_164 ?_
  refine g_sld C hX hbl hbA v3 d_law_165 ?_
  refine g_aload_n C d_law_166 rfl ?_
  refine c_callH (av := [.ref s.heap.size, .int (xs (nI N + 1).toNatClampNeg), .int (xs (nI N + 2).toNatClampNeg), .int (xs (nI N + 3).toNatClampNeg), .ref o]) (rest := []) C hE (fun _ h => h) hRm hle (lw_function l hf D cs s.heap.size dE _ n M s.heap.size (xs (nI N + 1).toNatClampNeg) (xs (nI N + 2).toNatClampNeg) (xs (nI N + 3).toNatClampNeg) s1 J.x0 same.w o f0 (ex o _ ho oC_ne)) (fun _ h => h) kw_L_function ki_L (Nat.le_of_ble_eq_true rfl) (Nat.le_of_ble_eq_true rfl) d_law_167 (Nat.le_of_ble_eq_true rfl) (c_fSH (n := 5) C km_L_74 ks_L_function ki_L kw_L_function ⟨by decide, by decide, by decide⟩ rfl rfl d_law_167) (fun v M1 hv hle1 => ?_) (fun E M1 hv hle1 => ?_)
  rotate_left
  · obtain ⟨hx, -⟩ := hv
    cases hx
  obtain ⟨hx, J2, hrep2, f1, ho2, hf0⟩ := l_out hv J1 (hrep.oth ex) (ex o _ ho oC_ne)
  cases hx
  refine g_istore C d_law_170 (by decide) rfl ?_
  refine g_aload_n C d_law_172 rfl ?_
  refine g_aload_n C d_law_173 rfl ?_
  refine g_iload C d_law_174 rfl ?_
  refine g_iconst (v := 1) C d_law_176 (by decide) ?_
  refine g_iadd C d_law_177 ?_
  refine g_sld C hX hbl hbA v1 d_law_178 ?_
  refine g_aload_n C d_law_179 rfl ?_
  refine g_iload C d_law_180 rfl ?_
  refine g_iconst (v := 2) C d_law_182 (by decide) ?_
  refine g_iadd C d_law_183 ?_
  refine g_sld C hX hbl hbA v2 d_law_184 ?_
  refine g_aload_n C d_law_185 rfl ?_
  refine g_iload C d_law_186 rfl ?_
  refine g_iconst (v := 3) C d_law_188 (by decide) ?_
  refine g_iadd C d_law_189 ?_
  refine g_sld C hX hbl hbA v3 d_law_190 ?_
  refine l_callM (av := [.int (xs (nI N + 1).toNatClampNeg), .int (xs (nI N + 2).toNatClampNeg), .int (xs (nI N + 3).toNatClampNeg)]) (n := 3) (rest := []) C hE hRm hle1 J2.mok hrep2 (mc_Mo_function l D cs s.heap.size dE mo ad n σ (xs (nI N + 1).toNatClampNeg) (xs (nI N + 2).toNatClampNeg) (xs (nI N + 3).toNatClampNeg) s2) km_L_79 kv_Mo_function kl_Mo_function kd_Mo_function ⟨rfl, by decide, by decide, by decide⟩ rfl (Nat.le_of_ble_eq_true rfl) (Nat.le_of_ble_eq_true rfl) d_law_191 (Nat.le_of_ble_eq_true rfl) rfl (fun v σ3 M3 hK hrep3 hst3 hs3 hk3 hle3 => ?_)
  obtain ⟨rfl, rfl⟩ := hK
  have J3 := J2.still hst3 hs3
  have ho3 := hk3 o _ ho2 two_moR
  refine g_istore C d_law_194 (by decide) rfl ?_
  rw [hN]
  exact lc_fin6 d_law_196 (by decide) X0 hq J3 hrep3 ho3 hle3 go
set_option maxHeartbeats 4000000 in
theorem lc_effect (X : LCtx p l s m c D cs dE b L xs) (hq : q + 1 ≤ 512) (hi : 6 * (512 - (q + 1)) + 6 ≤ L) (hI : LInv cs dE s.heap.size mo o ad (q + 1) σ M) (go : LGo p l e s m below meth c D cs dE b mo o ad q) : LW p l e s m below meth c D b 199 (lvI b s.heap.size mo o (nI (6 * (512 - (q + 1))))) M := by
  have X0 := X
  obtain ⟨C, hE, hX, hbl, hL, hf⟩ := X
  obtain ⟨J, hrep, ⟨f0, ho⟩, hle⟩ := hI
  have hbA : ¬ gA s.heap.size b := Nat.not_le.mpr hbl
  have hRm := lw_rm s.heap.size
  obtain ⟨N, hN⟩ : ∃ N, N = 6 * (512 - (q + 1)) := ⟨_, rfl⟩
  rw [← hN] at hi
  have v1 := lw_in (N := N) (k := 1) 1 rfl (show N + 1 < L by omega) hL
  have v2 := lw_in (N := N) (k := 2) 2 rfl (show N + 2 < L by omega) hL
  have v3 := lw_in (N := N) (k := 3) 3 rfl (show N + 3 < L by omega) hL
  obtain ⟨s1, s2, same, J1⟩ := effect_j J (xs (nI N + 1).toNatClampNeg) (xs (nI N + 2).toNatClampNeg) (xs (nI N + 3).toNatClampNeg)
  have ex : Oth M (F_N_effect cs M s.heap.size (xs (nI N + 1).toNatClampNeg) (xs (nI N + 2).toNatClampNeg) (xs (nI N + 3).toNatClampNeg)).2 := (x_N_effect cs _ M _ (xs (nI N + 1).toNatClampNeg) (xs (nI N + 2).toNatClampNeg) (xs (nI N + 3).toNatClampNeg) J.mok s1).oth (by decide)
  rw [← hN]
  show GW p l e room_1 s m #[Value.ref b] below meth c 7 (gA s.heap.size) (lw_Z below #[Value.ref b] s) (gR D gcl s.heap.size M) (M.2.1 - (lwM0 s.heap.size).2.1) (M.2.2 - (lwM0 s.heap.size).2.2) 199 (lvI b s.heap.size mo o (nI N)) []
  refine g_aload_n C d_law_199 rfl ?_
  refine g_aload_n C d_law_200 rfl ?_
  refine g_iload C d_law_201 rfl ?_
  refine g_iconst (v := 1) C d_law_203 (by decide) ?_
  refine g_iadd C d_law_204 ?_
  refine g_sld C hX hbl hbA v1 d_law_205 ?_
  refine g_aload_n C d_law_206 rfl ?_
  refine g_iload C d_law_207 rfl ?_
  refine g_iconst (v := 2) C d_law_209 (by decide) ?_
  refine g_iadd C d_law_210 ?_
  refine g_sld C hX hbl hbA v2 d_law_211 ?_
  refine g_aload_n C d_law_212 rfl ?_
  refine g_iload C d_law_213 rfl ?_
  refine g_iconst (v := 3) C d_law_215 (by decide) ?_
  refine g_iadd C d_law_216 ?_
  refine g_sld C hX hbl hbA v3 d_law_217 ?_
  refine c_callH (av := [.ref s.heap.size, .int (xs (nI N + 1).toNatClampNeg), .int (xs (nI N + 2).toNatClampNeg), .int (xs (nI N + 3).toNatClampNeg)]) (rest := []) C hE (fun _ h => h) hRm hle (lw_effect l hf D cs s.heap.size dE _ M s.heap.size (xs (nI N + 1).toNatClampNeg) (xs (nI N + 2).toNatClampNeg) (xs (nI N + 3).toNatClampNeg) s1 J.x0 (same.imp And.left And.left)) (fun _ h => h) kw_L_effect ki_L (Nat.le_of_ble_eq_true rfl) (Nat.le_of_ble_eq_true rfl) d_law_218 (Nat.le_of_ble_eq_true rfl) (c_fSH (n := 4) C km_L_80 ks_L_effect ki_L kw_L_effect ⟨by decide, by decide, by decide⟩ rfl rfl d_law_218) (fun v M1 hv hle1 => ?_) (fun E M1 hv hle1 => ?_)
  rotate_left
  · obtain ⟨hx, -⟩ := hv
    cases hx
  obtain ⟨hx, rfl⟩ := hv
  cases hx
  have J2 := J1
  have hrep2 := hrep.oth ex
  have ho2 := ex o _ ho oC_ne
  refine g_istore C d_law_221 (by decide) rfl ?_
  refine g_aload_n C d_law_223 rfl ?_
  refine g_aload_n C d_law_224 rfl ?_
  refine g_iload C d_law_225 rfl ?_
  refine g_iconst (v := 1) C d_law_227 (by decide) ?_
  refine g_iadd C d_law_228 ?_
  refine g_sld C hX hbl hbA v1 d_law_229 ?_
  refine g_aload_n C d_law_230 rfl ?_
  refine g_iload C d_law_231 rfl ?_
  refine g_iconst (v := 2) C d_law_233 (by decide) ?_
  refine g_iadd C d_law_234 ?_
  refine g_sld C hX hbl hbA v2 d_law_235 ?_
  refine g_aload_n C d_law_236 rfl ?_
  refine g_iload C d_law_237 rfl ?_
  refine g_iconst (v := 3) C d_law_239 (by decide) ?_
  refine g_iadd C d_law_240 ?_
  refine g_sld C hX hbl hbA v3 d_law_241 ?_
  refine l_callM (av := [.int (xs (nI N + 1).toNatClampNeg), .int (xs (nI N + 2).toNatClampNeg), .int (xs (nI N + 3).toNatClampNeg)]) (n := 3) (rest := []) C hE hRm hle1 J2.mok hrep2 (mc_Mo_effect l D cs s.heap.size dE mo ad σ (xs (nI N + 1).toNatClampNeg) (xs (nI N + 2).toNatClampNeg) (xs (nI N + 3).toNatClampNeg) s2) km_L_83 kv_Mo_effect kl_Mo_effect kd_Mo_effect ⟨rfl, by decide, by decide, by decide⟩ rfl (Nat.le_of_ble_eq_true rfl) (Nat.le_of_ble_eq_true rfl) d_law_242 (Nat.le_of_ble_eq_true rfl) rfl (fun v σ3 M3 hK hrep3 hst3 hs3 hk3 hle3 => ?_)
  obtain ⟨rfl, rfl⟩ := hK
  have J3 := J2.still hst3 hs3
  have ho3 := hk3 o _ ho2 two_moR
  rw [hN]
  exact lc_fin5 d_law_245 (by decide) X0 hq J3 hrep3 ho3 hle3 go
set_option maxHeartbeats 4000000 in
theorem lc_atom (X : LCtx p l s m c D cs dE b L xs) (hq : q + 1 ≤ 512) (hi : 6 * (512 - (q + 1)) + 6 ≤ L) (hI : LInv cs dE s.heap.size mo o ad (q + 1) σ M) (go : LGo p l e s m below meth c D cs dE b mo o ad q) : LW p l e s m below meth c D b 248 (lvI b s.heap.size mo o (nI (6 * (512 - (q + 1))))) M := by
  have X0 := X
  obtain ⟨C, hE, hX, hbl, hL, hf⟩ := X
  obtain ⟨J, hrep, ⟨f0, ho⟩, hle⟩ := hI
  have hbA : ¬ gA s.heap.size b := Nat.not_le.mpr hbl
  have hRm := lw_rm s.heap.size
  obtain ⟨N, hN⟩ : ∃ N, N = 6 * (512 - (q + 1)) := ⟨_, rfl⟩
  rw [← hN] at hi
  have v1 := lw_in (N := N) (k := 1) 1 rfl (show N + 1 < L by omega) hL
  have v2 := lw_in (N := N) (k := 2) 2 rfl (show N + 2 < L by omega) hL
  obtain ⟨s1, s2, same, J1⟩ := atom_j J (n := 50) (Nat.le_refl _) (xs (nI N + 1).toNatClampNeg) (xs (nI N + 2).toNatClampNeg)
  have ex : Oth M (F_N_atom cs 50 M s.heap.size (xs (nI N + 1).toNatClampNeg) (xs (nI N + 2).toNatClampNeg)).2.2 := (x_N_atom cs _ 50 M _ (xs (nI N + 1).toNatClampNeg) (xs (nI N + 2).toNatClampNeg) J.mok s1).oth (by decide)
  rw [← hN]
  show GW p l e room_1 s m #[Value.ref b] below meth c 7 (gA s.heap.size) (lw_Z below #[Value.ref b] s) (gR D gcl s.heap.size M) (M.2.1 - (lwM0 s.heap.size).2.1) (M.2.2 - (lwM0 s.heap.size).2.2) 248 (lvI b s.heap.size mo o (nI N)) []
  refine g_aload_n C d_law_248 rfl ?_
  refine g_aload_n C d_law_249 rfl ?_
  refine g_iload C d_law_250 rfl ?_
  refine g_iconst (v := 1) C d_law_252 (by decide) ?_
  refine g_iadd C d_law_253 ?_
  refine g_sld C hX hbl hbA v1 d_law_254 ?_
  refine g_aload_n C d_law_255 rfl ?_
  refine g_iload C d_law_256 rfl ?_
  refine g_iconst (v := 2) C d_law_258 (by decide) ?_
  refine g_iadd C d_law_259 ?_
  refine g_sld C hX hbl hbA v2 d_law_260 ?_
  refine g_aload_n C d_law_261 rfl ?_
  refine c_callH (av := [.ref s.heap.size, .int (xs (nI N + 1).toNatClampNeg), .int (xs (nI N + 2).toNatClampNeg), .ref o]) (rest := []) C hE (fun _ h => h) hRm hle (lw_atom l hf D cs s.heap.size dE _ 50 M s.heap.size (xs (nI N + 1).toNatClampNeg) (xs (nI N + 2).toNatClampNeg) s1 J.x0 same.w o f0 (ex o _ ho oC_ne)) (fun _ h => h) kw_L_atom ki_L (Nat.le_of_ble_eq_true rfl) (Nat.le_of_ble_eq_true rfl) d_law_262 (Nat.le_of_ble_eq_true rfl) (c_fSH (n := 4) C km_L_84 ks_L_atom ki_L kw_L_atom ⟨by decide, by decide, by decide⟩ rfl rfl d_law_262) (fun v M1 hv hle1 => ?_) (fun E M1 hv hle1 => ?_)
  rotate_left
  · obtain ⟨hx, -⟩ := hv
    cases hx
  obtain ⟨hx, J2, hrep2, f1, ho2, hf0⟩ := l_out hv J1 (hrep.oth ex) (ex o _ ho oC_ne)
  cases hx
  refine g_istore C d_law_265 (by decide) rfl ?_
  refine g_aload_n C d_law_267 rfl ?_
  refine g_aload_n C d_law_268 rfl ?_
  refine g_iload C d_law_269 rfl ?_
  refine g_iconst (v := 1) C d_law_271 (by decide) ?_
  refine g_iadd C d_law_272 ?_
  refine g_sld C hX hbl hbA v1 d_law_273 ?_
  refine g_aload_n C d_law_274 rfl ?_
  refine g_iload C d_law_275 rfl ?_
  refine g_iconst (v := 2) C d_law_277 (by decide) ?_
  refine g_iadd C d_law_278 ?_
  refine g_sld C hX hbl hbA v2 d_law_279 ?_
  refine l_callM (av := [.int (xs (nI N + 1).toNatClampNeg), .int (xs (nI N + 2).toNatClampNeg)]) (n := 2) (rest := []) C hE hRm hle1 J2.mok hrep2 (mc_Mo_atom l D cs s.heap.size dE mo ad σ (xs (nI N + 1).toNatClampNeg) (xs (nI N + 2).toNatClampNeg) s2) km_L_87 kv_Mo_atom kl_Mo_atom kd_Mo_atom ⟨rfl, by decide, by decide, by decide⟩ rfl (Nat.le_of_ble_eq_true rfl) (Nat.le_of_ble_eq_true rfl) d_law_280 (Nat.le_of_ble_eq_true rfl) rfl (fun v σ3 M3 hK hrep3 hst3 hs3 hk3 hle3 => ?_)
  obtain ⟨rfl, rfl⟩ := hK
  have J3 := J2.still hst3 hs3
  have ho3 := hk3 o _ ho2 two_moR
  refine g_istore C d_law_283 (by decide) rfl ?_
  rw [hN]
  exact lc_fin6 d_law_285 (by decide) X0 hq J3 hrep3 ho3 hle3 go
set_option maxHeartbeats 4000000 in
theorem lc_let (X : LCtx p l s m c D cs dE b L xs) (hq : q + 1 ≤ 512) (hi : 6 * (512 - (q + 1)) + 6 ≤ L) (hI : LInv cs dE s.heap.size mo o ad (q + 1) σ M) (go : LGo p l e s m below meth c D cs dE b mo o ad q) : LW p l e s m below meth c D b 288 (lvI b s.heap.size mo o (nI (6 * (512 - (q + 1))))) M := by
  have X0 := X
  obtain ⟨C, hE, hX, hbl, hL, hf⟩ := X
  obtain ⟨J, hrep, ⟨f0, ho⟩, hle⟩ := hI
  have hbA : ¬ gA s.heap.size b := Nat.not_le.mpr hbl
  have hRm := lw_rm s.heap.size
  obtain ⟨N, hN⟩ : ∃ N, N = 6 * (512 - (q + 1)) := ⟨_, rfl⟩
  rw [← hN] at hi
  have v1 := lw_in (N := N) (k := 1) 1 rfl (show N + 1 < L by omega) hL
  have v2 := lw_in (N := N) (k := 2) 2 rfl (show N + 2 < L by omega) hL
  have v3 := lw_in (N := N) (k := 3) 3 rfl (show N + 3 < L by omega) hL
  obtain ⟨s1, s2, same, J1⟩ := let_j J (n := 50) (Nat.le_refl _) (xs (nI N + 1).toNatClampNeg) (xs (nI N + 2).toNatClampNeg) (xs (nI N + 3).toNatClampNeg)
  have ex : Oth M (F_N_let cs 50 M s.heap.size (xs (nI N + 1).toNatClampNeg) (xs (nI N + 2).toNatClampNeg) (xs (nI N + 3).toNatClampNeg)).2.2 := (x_N_let cs _ 50 M _ (xs (nI N + 1).toNatClampNeg) (xs (nI N + 2).toNatClampNeg) (xs (nI N + 3).toNatClampNeg) J.mok s1).oth (by decide)
  rw [← hN]
  show GW p l e room_1 s m #[Value.ref b] below meth c 7 (gA s.heap.size) (lw_Z below #[Value.ref b] s) (gR D gcl s.heap.size M) (M.2.1 - (lwM0 s.heap.size).2.1) (M.2.2 - (lwM0 s.heap.size).2.2) 288 (lvI b s.heap.size mo o (nI N)) []
  refine g_aload_n C d_law_288 rfl ?_
  refine g_aload_n C d_law_289 rfl ?_
  refine g_iload C d_law_290 rfl ?_
  refine g_iconst (v := 1) C d_law_292 (by decide) ?_
  refine g_iadd C d_law_293 ?_
  refine g_sld C hX hbl hbA v1 d_law_294 ?_
  refine g_aload_n C d_law_295 rfl ?_
  refine g_iload C d_law_296 rfl ?_
  refine g_iconst (v := 2) C d_law_298 (by decide) ?_
  refine g_iadd C d_law_299 ?_
  refine g_sld C hX hbl hbA v2 d_law_300 ?_
  refine g_aload_n C d_law_301 rfl ?_
  refine g_iload C d_law_302 rfl ?_
  refine g_iconst (v := 3) C d_law_304 (by decide) ?_
  refine g_iadd C d_law_305 ?_
  refine g_sld C hX hbl hbA v3 d_law_306 ?_
  refine g_aload_n C d_law_307 rfl ?_
  refine c_callH (av := [.ref s.heap.size, .int (xs (nI N + 1).toNatClampNeg), .int (xs (nI N + 2).toNatClampNeg), .int (xs (nI N + 3).toNatClampNeg), .ref o]) (rest := []) C hE (fun _ h => h) hRm hle (lw_let l hf D cs s.heap.size dE _ 50 M s.heap.size (xs (nI N + 1).toNatClampNeg) (xs (nI N + 2).toNatClampNeg) (xs (nI N + 3).toNatClampNeg) s1 J.x0 same.w o f0 (ex o _ ho oC_ne)) (fun _ h => h) kw_L_let ki_L (Nat.le_of_ble_eq_true rfl) (Nat.le_of_ble_eq_true rfl) d_law_308 (Nat.le_of_ble_eq_true rfl) (c_fSH (n := 5) C km_L_88 ks_L_let ki_L kw_L_let ⟨by decide, by decide, by decide⟩ rfl rfl d_law_308) (fun v M1 hv hle1 => ?_) (fun E M1 hv hle1 => ?_)
  rotate_left
  · obtain ⟨hx, -⟩ := hv
    cases hx
  obtain ⟨hx, J2, hrep2, f1, ho2, hf0⟩ := l_out hv J1 (hrep.oth ex) (ex o _ ho oC_ne)
  cases hx
  refine g_istore C d_law_311 (by decide) rfl ?_
  refine g_aload_n C d_law_313 rfl ?_
  refine g_aload_n C d_law_314 rfl ?_
  refine g_iload C d_law_315 rfl ?_
  refine g_iconst (v := 1) C d_law_317 (by decide) ?_
  refine g_iadd C d_law_318 ?_
  refine g_sld C hX hbl hbA v1 d_law_319 ?_
  refine g_aload_n C d_law_320 rfl ?_
  refine g_iload C d_law_321 rfl ?_
  refine g_iconst (v := 2) C d_law_323 (by decide) ?_
  refine g_iadd C d_law_324 ?_
  refine g_sld C hX hbl hbA v2 d_law_325 ?_
  refine g_aload_n C d_law_326 rfl ?_
  refine g_iload C d_law_327 rfl ?_
  refine g_iconst (v := 3) C d_law_329 (by decide) ?_
  refine g_iadd C d_law_330 ?_
  refine g_sld C hX hbl hbA v3 d_law_331 ?_
  refine l_callM (av := [.int (xs (nI N + 1).toNatClampNeg), .int (xs (nI N + 2).toNatClampNeg), .int (xs (nI N + 3).toNatClampNeg)]) (n := 3) (rest := []) C hE hRm hle1 J2.mok hrep2 (mc_Mo_let l D cs s.heap.size dE mo ad σ (xs (nI N + 1).toNatClampNeg) (xs (nI N + 2).toNatClampNeg) (xs (nI N + 3).toNatClampNeg) s2) km_L_90 kv_Mo_let kl_Mo_let kd_Mo_let ⟨rfl, by decide, by decide, by decide⟩ rfl (Nat.le_of_ble_eq_true rfl) (Nat.le_of_ble_eq_true rfl) d_law_332 (Nat.le_of_ble_eq_true rfl) rfl (fun v σ3 M3 hK hrep3 hst3 hs3 hk3 hle3 => ?_)
  obtain ⟨rfl, rfl⟩ := hK
  have J3 := J2.still hst3 hs3
  have ho3 := hk3 o _ ho2 two_moR
  refine g_istore C d_law_335 (by decide) rfl ?_
  rw [hN]
  exact lc_fin6 d_law_337 (by decide) X0 hq J3 hrep3 ho3 hle3 go
set_option maxHeartbeats 4000000 in
theorem lc_rec (X : LCtx p l s m c D cs dE b L xs) (hq : q + 1 ≤ 512) (hi : 6 * (512 - (q + 1)) + 6 ≤ L) (hI : LInv cs dE s.heap.size mo o ad (q + 1) σ M) (go : LGo p l e s m below meth c D cs dE b mo o ad q) : LW p l e s m below meth c D b 340 (lvI b s.heap.size mo o (nI (6 * (512 - (q + 1))))) M := by
  have X0 := X
  obtain ⟨C, hE, hX, hbl, hL, hf⟩ := X
  obtain ⟨J, hrep, ⟨f0, ho⟩, hle⟩ := hI
  have hbA : ¬ gA s.heap.size b := Nat.not_le.mpr hbl
  have hRm := lw_rm s.heap.size
  obtain ⟨N, hN⟩ : ∃ N, N = 6 * (512 - (q + 1)) := ⟨_, rfl⟩
  rw [← hN] at hi
  have v1 := lw_in (N := N) (k := 1) 1 rfl (show N + 1 < L by omega) hL
  have v2 := lw_in (N := N) (k := 2) 2 rfl (show N + 2 < L by omega) hL
  have v3 := lw_in (N := N) (k := 3) 3 rfl (show N + 3 < L by omega) hL
  have v4 := lw_in (N := N) (k := 4) 4 rfl (show N + 4 < L by omega) hL
  have v5 := lw_in (N := N) (k := 5) 5 rfl (show N + 5 < L by omega) hL
  obtain ⟨s1, s2, same, J1⟩ := rec_j J (n := 50) (Nat.le_refl _) (xs (nI N + 1).toNatClampNeg) (xs (nI N + 2).toNatClampNeg) (xs (nI N + 3).toNatClampNeg) (xs (nI N + 4).toNatClampNeg) (xs (nI N + 5).toNatClampNeg)
  have ex : Oth M (F_N_rec cs 50 M s.heap.size (xs (nI N + 1).toNatClampNeg) (xs (nI N + 2).toNatClampNeg) (xs (nI N + 3).toNatClampNeg) (xs (nI N + 4).toNatClampNeg) (xs (nI N + 5).toNatClampNeg)).2.2 := (x_N_rec cs _ 50 M _ (xs (nI N + 1).toNatClampNeg) (xs (nI N + 2).toNatClampNeg) (xs (nI N + 3).toNatClampNeg) (xs (nI N + 4).toNatClampNeg) (xs (nI N + 5).toNatClampNeg) J.mok s1).oth (by decide)
  rw [← hN]
  show GW p l e room_1 s m #[Value.ref b] below meth c 7 (gA s.heap.size) (lw_Z below #[Value.ref b] s) (gR D gcl s.heap.size M) (M.2.1 - (lwM0 s.heap.size).2.1) (M.2.2 - (lwM0 s.heap.size).2.2) 340 (lvI b s.heap.size mo o (nI N)) []
  refine g_aload_n C d_law_340 rfl ?_
  refine g_aload_n C d_law_341 rfl ?_
  refine g_iload C d_law_342 rfl ?_
  refine g_iconst (v := 1) C d_law_344 (by decide) ?_
  refine g_iadd C d_law_345 ?_
  refine g_sld C hX hbl hbA v1 d_law_346 ?_
  refine g_aload_n C d_law_347 rfl ?_
  refine g_iload C d_law_348 rfl ?_
  refine g_iconst (v := 2) C d_law_350 (by decide) ?_
  refine g_iadd C d_law_351 ?_
  refine g_sld C hX hbl hbA v2 d_law_352 ?_
  refine g_aload_n C d_law_353 rfl ?_
  refine g_iload C d_law_354 rfl ?_
  refine g_iconst (v := 3) C d_law_356 (by decide) ?_
  refine g_iadd C d_law_357 ?_
  refine g_sld C hX hbl hbA v3 d_law_358 ?_
  refine g_aload_n C d_law_359 rfl ?_
  refine g_iload C d_law_360 rfl ?_
  refine g_iconst (v := 4) C d_law_362 (by decide) ?_
  refine g_iadd C d_law_363 ?_
  refine g_sld C hX hbl hbA v4 d_law_364 ?_
  refine g_aload_n C d_law_365 rfl ?_
  refine g_iload C d_law_366 rfl ?_
  refine g_iconst (v := 5) C d_law_368 (by decide) ?_
  refine g_iadd C d_law_369 ?_
  refine g_sld C hX hbl hbA v5 d_law_370 ?_
  refine g_aload_n C d_law_371 rfl ?_
  refine c_callH (av := [.ref s.heap.size, .int (xs (nI N + 1).toNatClampNeg), .int (xs (nI N + 2).toNatClampNeg), .int (xs (nI N + 3).toNatClampNeg), .int (xs (nI N + 4).toNatClampNeg), .int (xs (nI N + 5).toNatClampNeg), .ref o]) (rest := []) C hE (fun _ h => h) hRm hle (lw_rec l hf D cs s.heap.size dE _ 50 M s.heap.size (xs (nI N + 1).toNatClampNeg) (xs (nI N + 2).toNatClampNeg) (xs (nI N + 3).toNatClampNeg) (xs (nI N + 4).toNatClampNeg) (xs (nI N + 5).toNatClampNeg) s1 J.x0 same.w o f0 (ex o _ ho oC_ne)) (fun _ h => h) kw_L_rec ki_L (Nat.le_of_ble_eq_true rfl) (Nat.le_of_ble_eq_true rfl) d_law_372 (Nat.le_of_ble_eq_true rfl) (c_fSH (n := 7) C km_L_91 ks_L_rec ki_L kw_L_rec ⟨by decide, by decide, by decide⟩ rfl rfl d_law_372) (fun v M1 hv hle1 => ?_) (fun E M1 hv hle1 => ?_)
  rotate_left
  · obtain ⟨hx, -⟩ := hv
    cases hx
  obtain ⟨hx, J2, hrep2, f1, ho2, hf0⟩ := l_out hv J1 (hrep.oth ex) (ex o _ ho oC_ne)
  cases hx
  refine g_istore C d_law_375 (by decide) rfl ?_
  refine g_aload_n C d_law_377 rfl ?_
  refine g_aload_n C d_law_378 rfl ?_
  refine g_iload C d_law_379 rfl ?_
  refine g_iconst (v := 1) C d_law_381 (by decide) ?_
  refine g_iadd C d_law_382 ?_
  refine g_sld C hX hbl hbA v1 d_law_383 ?_
  refine g_aload_n C d_law_384 rfl ?_
  refine g_iload C d_law_385 rfl ?_
  refine g_iconst (v := 2) C d_law_387 (by decide) ?_
  refine g_iadd C d_law_388 ?_
  refine g_sld C hX hbl hbA v2 d_law_389 ?_
  refine g_aload_n C d_law_390 rfl ?_
  refine g_iload C d_law_391 rfl ?_
  refine g_iconst (v := 3) C d_law_393 (by decide) ?_
  refine g_iadd C d_law_394 ?_
  refine g_sld C hX hbl hbA v3 d_law_395 ?_
  refine g_aload_n C d_law_396 rfl ?_
  refine g_iload C d_law_397 rfl ?_
  refine g_iconst (v := 4) C d_law_399 (by decide) ?_
  refine g_iadd C d_law_400 ?_
  refine g_sld C hX hbl hbA v4 d_law_401 ?_
  refine g_aload_n C d_law_402 rfl ?_
  refine g_iload C d_law_403 rfl ?_
  refine g_iconst (v := 5) C d_law_405 (by decide) ?_
  refine g_iadd C d_law_406 ?_
  refine g_sld C hX hbl hbA v5 d_law_407 ?_
  refine l_callM (av := [.int (xs (nI N + 1).toNatClampNeg), .int (xs (nI N + 2).toNatClampNeg), .int (xs (nI N + 3).toNatClampNeg), .int (xs (nI N + 4).toNatClampNeg), .int (xs (nI N + 5).toNatClampNeg)]) (n := 5) (rest := []) C hE hRm hle1 J2.mok hrep2 (mc_Mo_rec l D cs s.heap.size dE mo ad σ (xs (nI N + 1).toNatClampNeg) (xs (nI N + 2).toNatClampNeg) (xs (nI N + 3).toNatClampNeg) (xs (nI N + 4).toNatClampNeg) (xs (nI N + 5).toNatClampNeg) s2) km_L_94 kv_Mo_rec kl_Mo_rec kd_Mo_rec ⟨rfl, by decide, by decide, by decide⟩ rfl (Nat.le_of_ble_eq_true rfl) (Nat.le_of_ble_eq_true rfl) d_law_408 (Nat.le_of_ble_eq_true rfl) rfl (fun v σ3 M3 hK hrep3 hst3 hs3 hk3 hle3 => ?_)
  obtain ⟨rfl, rfl⟩ := hK
  have J3 := J2.still hst3 hs3
  have ho3 := hk3 o _ ho2 two_moR
  refine g_istore C d_law_411 (by decide) rfl ?_
  rw [hN]
  exact lc_fin6 d_law_413 (by decide) X0 hq J3 hrep3 ho3 hle3 go
set_option maxHeartbeats 4000000 in
theorem lc_choice (X : LCtx p l s m c D cs dE b L xs) (hq : q + 1 ≤ 512) (hi : 6 * (512 - (q + 1)) + 6 ≤ L) (hI : LInv cs dE s.heap.size mo o ad (q + 1) σ M) (go : LGo p l e s m below meth c D cs dE b mo o ad q) : LW p l e s m below meth c D b 416 (lvI b s.heap.size mo o (nI (6 * (512 - (q + 1))))) M := by
  have X0 := X
  obtain ⟨C, hE, hX, hbl, hL, hf⟩ := X
  obtain ⟨J, hrep, ⟨f0, ho⟩, hle⟩ := hI
  have hbA : ¬ gA s.heap.size b := Nat.not_le.mpr hbl
  have hRm := lw_rm s.heap.size
  obtain ⟨N, hN⟩ : ∃ N, N = 6 * (512 - (q + 1)) := ⟨_, rfl⟩
  rw [← hN] at hi
  have v1 := lw_in (N := N) (k := 1) 1 rfl (show N + 1 < L by omega) hL
  have v2 := lw_in (N := N) (k := 2) 2 rfl (show N + 2 < L by omega) hL
  have v3 := lw_in (N := N) (k := 3) 3 rfl (show N + 3 < L by omega) hL
  obtain ⟨s1, s2, same, J1⟩ := choice_j J (n := 50) (Nat.le_refl _) (xs (nI N + 1).toNatClampNeg) (xs (nI N + 2).toNatClampNeg) (xs (nI N + 3).toNatClampNeg)
  have ex : Oth M (F_N_choice cs 50 M s.heap.size (xs (nI N + 1).toNatClampNeg) (xs (nI N + 2).toNatClampNeg) (xs (nI N + 3).toNatClampNeg)).2.2 := (x_N_choice cs _ 50 M _ (xs (nI N + 1).toNatClampNeg) (xs (nI N + 2).toNatClampNeg) (xs (nI N + 3).toNatClampNeg) J.mok s1).oth (by decide)
  rw [← hN]
  show GW p l e room_1 s m #[Value.ref b] below meth c 7 (gA s.heap.size) (lw_Z below #[Value.ref b] s) (gR D gcl s.heap.size M) (M.2.1 - (lwM0 s.heap.size).2.1) (M.2.2 - (lwM0 s.heap.size).2.2) 416 (lvI b s.heap.size mo o (nI N)) []
  refine g_aload_n C d_law_416 rfl ?_
  refine g_aload_n C d_law_417 rfl ?_
  refine g_iload C d_law_418 rfl ?_
  refine g_iconst (v := 1) C d_law_420 (by decide) ?_
  refine g_iadd C d_law_421 ?_
  refine g_sld C hX hbl hbA v1 d_law_422 ?_
  refine g_aload_n C d_law_423 rfl ?_
  refine g_iload C d_law_424 rfl ?_
  refine g_iconst (v := 2) C d_law_426 (by decide) ?_
  refine g_iadd C d_law_427 ?_
  refine g_sld C hX hbl hbA v2 d_law_428 ?_
  refine g_aload_n C d_law_429 rfl ?_
  refine g_iload C d_law_430 rfl ?_
  refine g_iconst (v := 3) C d_law_432 (by decide) ?_
  refine g_iadd C d_law_433 ?_
  refine g_sld C hX hbl hbA v3 d_law_434 ?_
  refine g_aload_n C d_law_435 rfl ?_
  refine c_callH (av := [.ref s.heap.size, .int (xs (nI N + 1).toNatClampNeg), .int (xs (nI N + 2).toNatClampNeg), .int (xs (nI N + 3).toNatClampNeg), .ref o]) (rest := []) C hE (fun _ h => h) hRm hle (lw_choice l hf D cs s.heap.size dE _ 50 M s.heap.size (xs (nI N + 1).toNatClampNeg) (xs (nI N + 2).toNatClampNeg) (xs (nI N + 3).toNatClampNeg) s1 J.x0 same.w o f0 (ex o _ ho oC_ne)) (fun _ h => h) kw_L_choice ki_L (Nat.le_of_ble_eq_true rfl) (Nat.le_of_ble_eq_true rfl) d_law_436 (Nat.le_of_ble_eq_true rfl) (c_fSH (n := 5) C km_L_95 ks_L_choice ki_L kw_L_choice ⟨by decide, by decide, by decide⟩ rfl rfl d_law_436) (fun v M1 hv hle1 => ?_) (fun E M1 hv hle1 => ?_)
  rotate_left
  · obtain ⟨hx, -⟩ := hv
    cases hx
  obtain ⟨hx, J2, hrep2, f1, ho2, hf0⟩ := l_out hv J1 (hrep.oth ex) (ex o _ ho oC_ne)
  cases hx
  refine g_istore C d_law_439 (by decide) rfl ?_
  refine g_aload_n C d_law_441 rfl ?_
  refine g_aload_n C d_law_442 rfl ?_
  refine g_iload C d_law_443 rfl ?_
  refine g_iconst (v := 1) C d_law_445 (by decide) ?_
  refine g_iadd C d_law_446 ?_
  refine g_sld C hX hbl hbA v1 d_law_447 ?_
  refine g_aload_n C d_law_448 rfl ?_
  refine g_iload C d_law_449 rfl ?_
  refine g_iconst (v := 2) C d_law_451 (by decide) ?_
  refine g_iadd C d_law_452 ?_
  refine g_sld C hX hbl hbA v2 d_law_453 ?_
  refine g_aload_n C d_law_454 rfl ?_
  refine g_iload C d_law_455 rfl ?_
  refine g_iconst (v := 3) C d_law_457 (by decide) ?_
  refine g_iadd C d_law_458 ?_
  refine g_sld C hX hbl hbA v3 d_law_459 ?_
  refine l_callM (av := [.int (xs (nI N + 1).toNatClampNeg), .int (xs (nI N + 2).toNatClampNeg), .int (xs (nI N + 3).toNatClampNeg)]) (n := 3) (rest := []) C hE hRm hle1 J2.mok hrep2 (mc_Mo_choice l D cs s.heap.size dE mo ad σ (xs (nI N + 1).toNatClampNeg) (xs (nI N + 2).toNatClampNeg) (xs (nI N + 3).toNatClampNeg) s2) km_L_97 kv_Mo_choice kl_Mo_choice kd_Mo_choice ⟨rfl, by decide, by decide, by decide⟩ rfl (Nat.le_of_ble_eq_true rfl) (Nat.le_of_ble_eq_true rfl) d_law_460 (Nat.le_of_ble_eq_true rfl) rfl (fun v σ3 M3 hK hrep3 hst3 hs3 hk3 hle3 => ?_)
  obtain ⟨rfl, rfl⟩ := hK
  have J3 := J2.still hst3 hs3
  have ho3 := hk3 o _ ho2 two_moR
  refine g_istore C d_law_463 (by decide) rfl ?_
  rw [hN]
  exact lc_fin6 d_law_465 (by decide) X0 hq J3 hrep3 ho3 hle3 go
set_option maxHeartbeats 4000000 in
theorem lc_fn (X : LCtx p l s m c D cs dE b L xs) (hq : q + 1 ≤ 512) (hi : 6 * (512 - (q + 1)) + 6 ≤ L) (hI : LInv cs dE s.heap.size mo o ad (q + 1) σ M) (go : LGo p l e s m below meth c D cs dE b mo o ad q) : LW p l e s m below meth c D b 468 (lvI b s.heap.size mo o (nI (6 * (512 - (q + 1))))) M := by
  have X0 := X
  obtain ⟨C, hE, hX, hbl, hL, hf⟩ := X
  obtain ⟨J, hrep, ⟨f0, ho⟩, hle⟩ := hI
  have hbA : ¬ gA s.heap.size b := Nat.not_le.mpr hbl
  have hRm := lw_rm s.heap.size
  obtain ⟨N, hN⟩ : ∃ N, N = 6 * (512 - (q + 1)) := ⟨_, rfl⟩
  rw [← hN] at hi
  have v1 := lw_in (N := N) (k := 1) 1 rfl (show N + 1 < L by omega) hL
  have v2 := lw_in (N := N) (k := 2) 2 rfl (show N + 2 < L by omega) hL
  have v3 := lw_in (N := N) (k := 3) 3 rfl (show N + 3 < L by omega) hL
  obtain ⟨s1, s2, same, J1⟩ := fn_j J (n := 50) (Nat.le_refl _) (xs (nI N + 1).toNatClampNeg) (xs (nI N + 2).toNatClampNeg) (xs (nI N + 3).toNatClampNeg)
  have ex : Oth M (F_N_fn cs 50 M s.heap.size (xs (nI N + 1).toNatClampNeg) (xs (nI N + 2).toNatClampNeg) (xs (nI N + 3).toNatClampNeg)).2.2 := (x_N_fn cs _ 50 M _ (xs (nI N + 1).toNatClampNeg) (xs (nI N + 2).toNatClampNeg) (xs (nI N + 3).toNatClampNeg) J.mok s1).oth (by decide)
  rw [← hN]
  show GW p l e room_1 s m #[Value.ref b] below meth c 7 (gA s.heap.size) (lw_Z below #[Value.ref b] s) (gR D gcl s.heap.size M) (M.2.1 - (lwM0 s.heap.size).2.1) (M.2.2 - (lwM0 s.heap.size).2.2) 468 (lvI b s.heap.size mo o (nI N)) []
  refine g_aload_n C d_law_468 rfl ?_
  refine g_aload_n C d_law_469 rfl ?_
  refine g_iload C d_law_470 rfl ?_
  refine g_iconst (v := 1) C d_law_472 (by decide) ?_
  refine g_iadd C d_law_473 ?_
  refine g_sld C hX hbl hbA v1 d_law_474 ?_
  refine g_aload_n C d_law_475 rfl ?_
  refine g_iload C d_law_476 rfl ?_
  refine g_iconst (v := 2) C d_law_478 (by decide) ?_
  refine g_iadd C d_law_479 ?_
  refine g_sld C hX hbl hbA v2 d_law_480 ?_
  refine g_aload_n C d_law_481 rfl ?_
  refine g_iload C d_law_482 rfl ?_
  refine g_iconst (v := 3) C d_law_484 (by decide) ?_
  refine g_iadd C d_law_485 ?_
  refine g_sld C hX hbl hbA v3 d_law_486 ?_
  refine g_aload_n C d_law_487 rfl ?_
  refine c_callH (av := [.ref s.heap.size, .int (xs (nI N + 1).toNatClampNeg), .int (xs (nI N + 2).toNatClampNeg), .int (xs (nI N + 3).toNatClampNeg), .ref o]) (rest := []) C hE (fun _ h => h) hRm hle (lw_fn l hf D cs s.heap.size dE _ 50 M s.heap.size (xs (nI N + 1).toNatClampNeg) (xs (nI N + 2).toNatClampNeg) (xs (nI N + 3).toNatClampNeg) s1 J.x0 same.w o f0 (ex o _ ho oC_ne)) (fun _ h => h) kw_L_fn ki_L (Nat.le_of_ble_eq_true rfl) (Nat.le_of_ble_eq_true rfl) d_law_488 (Nat.le_of_ble_eq_true rfl) (c_fSH (n := 5) C km_L_98 ks_L_fn ki_L kw_L_fn ⟨by decide, by decide, by decide⟩ rfl rfl d_law_488) (fun v M1 hv hle1 => ?_) (fun E M1 hv hle1 => ?_)
  rotate_left
  · obtain ⟨hx, -⟩ := hv
    cases hx
  obtain ⟨hx, J2, hrep2, f1, ho2, hf0⟩ := l_out hv J1 (hrep.oth ex) (ex o _ ho oC_ne)
  cases hx
  refine g_istore C d_law_491 (by decide) rfl ?_
  refine g_aload_n C d_law_493 rfl ?_
  refine g_aload_n C d_law_494 rfl ?_
  refine g_iload C d_law_495 rfl ?_
  refine g_iconst (v := 1) C d_law_497 (by decide) ?_
  refine g_iadd C d_law_498 ?_
  refine g_sld C hX hbl hbA v1 d_law_499 ?_
  refine g_aload_n C d_law_500 rfl ?_
  refine g_iload C d_law_501 rfl ?_
  refine g_iconst (v := 2) C d_law_503 (by decide) ?_
  refine g_iadd C d_law_504 ?_
  refine g_sld C hX hbl hbA v2 d_law_505 ?_
  refine g_aload_n C d_law_506 rfl ?_
  refine g_iload C d_law_507 rfl ?_
  refine g_iconst (v := 3) C d_law_509 (by decide) ?_
  refine g_iadd C d_law_510 ?_
  refine g_sld C hX hbl hbA v3 d_law_511 ?_
  refine l_callM (av := [.int (xs (nI N + 1).toNatClampNeg), .int (xs (nI N + 2).toNatClampNeg), .int (xs (nI N + 3).toNatClampNeg)]) (n := 3) (rest := []) C hE hRm hle1 J2.mok hrep2 (mc_Mo_fn l D cs s.heap.size dE mo ad σ (xs (nI N + 1).toNatClampNeg) (xs (nI N + 2).toNatClampNeg) (xs (nI N + 3).toNatClampNeg) s2) km_L_100 kv_Mo_fn kl_Mo_fn kd_Mo_fn ⟨rfl, by decide, by decide, by decide⟩ rfl (Nat.le_of_ble_eq_true rfl) (Nat.le_of_ble_eq_true rfl) d_law_512 (Nat.le_of_ble_eq_true rfl) rfl (fun v σ3 M3 hK hrep3 hst3 hs3 hk3 hle3 => ?_)
  obtain ⟨rfl, rfl⟩ := hK
  have J3 := J2.still hst3 hs3
  have ho3 := hk3 o _ ho2 two_moR
  refine g_istore C d_law_515 (by decide) rfl ?_
  rw [hN]
  exact lc_fin6 d_law_517 (by decide) X0 hq J3 hrep3 ho3 hle3 go
set_option maxHeartbeats 4000000 in
theorem lc_clause (X : LCtx p l s m c D cs dE b L xs) (hq : q + 1 ≤ 512) (hi : 6 * (512 - (q + 1)) + 6 ≤ L) (hI : LInv cs dE s.heap.size mo o ad (q + 1) σ M) (go : LGo p l e s m below meth c D cs dE b mo o ad q) : LW p l e s m below meth c D b 520 (lvI b s.heap.size mo o (nI (6 * (512 - (q + 1))))) M := by
  have X0 := X
  obtain ⟨C, hE, hX, hbl, hL, hf⟩ := X
  obtain ⟨J, hrep, ⟨f0, ho⟩, hle⟩ := hI
  have hbA : ¬ gA s.heap.size b := Nat.not_le.mpr hbl
  have hRm := lw_rm s.heap.size
  obtain ⟨N, hN⟩ : ∃ N, N = 6 * (512 - (q + 1)) := ⟨_, rfl⟩
  rw [← hN] at hi
  have v1 := lw_in (N := N) (k := 1) 1 rfl (show N + 1 < L by omega) hL
  have v2 := lw_in (N := N) (k := 2) 2 rfl (show N + 2 < L by omega) hL
  have v3 := lw_in (N := N) (k := 3) 3 rfl (show N + 3 < L by omega) hL
  have v4 := lw_in (N := N) (k := 4) 4 rfl (show N + 4 < L by omega) hL
  obtain ⟨s1, s2, same, J1⟩ := clause_j J (xs (nI N + 1).toNatClampNeg) (xs (nI N + 2).toNatClampNeg) (xs (nI N + 3).toNatClampNeg) (xs (nI N + 4).toNatClampNeg)
  have ex : Oth M (F_N_clause cs M s.heap.size (xs (nI N + 1).toNatClampNeg) (xs (nI N + 2).toNatClampNeg) (xs (nI N + 3).toNatClampNeg) (xs (nI N + 4).toNatClampNeg)).2.2 := (x_N_clause cs _ M _ (xs (nI N + 1).toNatClampNeg) (xs (nI N + 2).toNatClampNeg) (xs (nI N + 3).toNatClampNeg) (xs (nI N + 4).toNatClampNeg) J.mok s1).oth (by decide)
  rw [← hN]
  show GW p l e room_1 s m #[Value.ref b] below meth c 7 (gA s.heap.size) (lw_Z below #[Value.ref b] s) (gR D gcl s.heap.size M) (M.2.1 - (lwM0 s.heap.size).2.1) (M.2.2 - (lwM0 s.heap.size).2.2) 520 (lvI b s.heap.size mo o (nI N)) []
  refine g_aload_n C d_law_520 rfl ?_
  refine g_aload_n C d_law_521 rfl ?_
  refine g_iload C d_law_522 rfl ?_
  refine g_iconst (v := 1) C d_law_524 (by decide) ?_
  refine g_iadd C d_law_525 ?_
  refine g_sld C hX hbl hbA v1 d_law_526 ?_
  refine g_aload_n C d_law_527 rfl ?_
  refine g_iload C d_law_528 rfl ?_
  refine g_iconst (v := 2) C d_law_530 (by decide) ?_
  refine g_iadd C d_law_531 ?_
  refine g_sld C hX hbl hbA v2 d_law_532 ?_
  refine g_aload_n C d_law_533 rfl ?_
  refine g_iload C d_law_534 rfl ?_
  refine g_iconst (v := 3) C d_law_536 (by decide) ?_
  refine g_iadd C d_law_537 ?_
  refine g_sld C hX hbl hbA v3 d_law_538 ?_
  refine g_aload_n C d_law_539 rfl ?_
  refine g_iload C d_law_540 rfl ?_
  refine g_iconst (v := 4) C d_law_542 (by decide) ?_
  refine g_iadd C d_law_543 ?_
  refine g_sld C hX hbl hbA v4 d_law_544 ?_
  refine g_aload_n C d_law_545 rfl ?_
  refine c_callH (av := [.ref s.heap.size, .int (xs (nI N + 1).toNatClampNeg), .int (xs (nI N + 2).toNatClampNeg), .int (xs (nI N + 3).toNatClampNeg), .int (xs (nI N + 4).toNatClampNeg), .ref o]) (rest := []) C hE (fun _ h => h) hRm hle (lw_clause l hf D cs s.heap.size dE _ M s.heap.size (xs (nI N + 1).toNatClampNeg) (xs (nI N + 2).toNatClampNeg) (xs (nI N + 3).toNatClampNeg) (xs (nI N + 4).toNatClampNeg) s1 J.x0 same.w o f0 (ex o _ ho oC_ne)) (fun _ h => h) kw_L_clause ki_L (Nat.le_of_ble_eq_true rfl) (Nat.le_of_ble_eq_true rfl) d_law_546 (Nat.le_of_ble_eq_true rfl) (c_fSH (n := 6) C km_L_101 ks_L_clause ki_L kw_L_clause ⟨by decide, by decide, by decide⟩ rfl rfl d_law_546) (fun v M1 hv hle1 => ?_) (fun E M1 hv hle1 => ?_)
  rotate_left
  · obtain ⟨hx, -⟩ := hv
    cases hx
  obtain ⟨hx, J2, hrep2, f1, ho2, hf0⟩ := l_out hv J1 (hrep.oth ex) (ex o _ ho oC_ne)
  cases hx
  refine g_istore C d_law_549 (by decide) rfl ?_
  refine g_aload_n C d_law_551 rfl ?_
  refine g_aload_n C d_law_552 rfl ?_
  refine g_iload C d_law_553 rfl ?_
  refine g_iconst (v := 1) C d_law_555 (by decide) ?_
  refine g_iadd C d_law_556 ?_
  refine g_sld C hX hbl hbA v1 d_law_557 ?_
  refine g_aload_n C d_law_558 rfl ?_
  refine g_iload C d_law_559 rfl ?_
  refine g_iconst (v := 2) C d_law_561 (by decide) ?_
  refine g_iadd C d_law_562 ?_
  refine g_sld C hX hbl hbA v2 d_law_563 ?_
  refine g_aload_n C d_law_564 rfl ?_
  refine g_iload C d_law_565 rfl ?_
  refine g_iconst (v := 3) C d_law_567 (by decide) ?_
  refine g_iadd C d_law_568 ?_
  refine g_sld C hX hbl hbA v3 d_law_569 ?_
  refine g_aload_n C d_law_570 rfl ?_
  refine g_iload C d_law_571 rfl ?_
  refine g_iconst (v := 4) C d_law_573 (by decide) ?_
  refine g_iadd C d_law_574 ?_
  refine g_sld C hX hbl hbA v4 d_law_575 ?_
  refine l_callM (av := [.int (xs (nI N + 1).toNatClampNeg), .int (xs (nI N + 2).toNatClampNeg), .int (xs (nI N + 3).toNatClampNeg), .int (xs (nI N + 4).toNatClampNeg)]) (n := 4) (rest := []) C hE hRm hle1 J2.mok hrep2 (mc_Mo_clause l D cs s.heap.size dE mo ad σ (xs (nI N + 1).toNatClampNeg) (xs (nI N + 2).toNatClampNeg) (xs (nI N + 3).toNatClampNeg) (xs (nI N + 4).toNatClampNeg) s2) km_L_104 kv_Mo_clause kl_Mo_clause kd_Mo_clause ⟨rfl, by decide, by decide, by decide⟩ rfl (Nat.le_of_ble_eq_true rfl) (Nat.le_of_ble_eq_true rfl) d_law_576 (Nat.le_of_ble_eq_true rfl) rfl (fun v σ3 M3 hK hrep3 hst3 hs3 hk3 hle3 => ?_)
  obtain ⟨rfl, rfl⟩ := hK
  have J3 := J2.still hst3 hs3
  have ho3 := hk3 o _ ho2 two_moR
  refine g_istore C d_law_579 (by decide) rfl ?_
  rw [hN]
  exact lc_fin6 d_law_581 (by decide) X0 hq J3 hrep3 ho3 hle3 go
set_option maxHeartbeats 4000000 in
theorem lc_handle (X : LCtx p l s m c D cs dE b L xs) (hq : q + 1 ≤ 512) (hi : 6 * (512 - (q + 1)) + 6 ≤ L) (hI : LInv cs dE s.heap.size mo o ad (q + 1) σ M) (go : LGo p l e s m below meth c D cs dE b mo o ad q) : LW p l e s m below meth c D b 584 (lvI b s.heap.size mo o (nI (6 * (512 - (q + 1))))) M := by
  have X0 := X
  obtain ⟨C, hE, hX, hbl, hL, hf⟩ := X
  obtain ⟨J, hrep, ⟨f0, ho⟩, hle⟩ := hI
  have hbA : ¬ gA s.heap.size b := Nat.not_le.mpr hbl
  have hRm := lw_rm s.heap.size
  obtain ⟨N, hN⟩ : ∃ N, N = 6 * (512 - (q + 1)) := ⟨_, rfl⟩
  rw [← hN] at hi
  have v1 := lw_in (N := N) (k := 1) 1 rfl (show N + 1 < L by omega) hL
  have v2 := lw_in (N := N) (k := 2) 2 rfl (show N + 2 < L by omega) hL
  have v3 := lw_in (N := N) (k := 3) 3 rfl (show N + 3 < L by omega) hL
  have v4 := lw_in (N := N) (k := 4) 4 rfl (show N + 4 < L by omega) hL
  obtain ⟨s1, s2, same, J1⟩ := handle_j J (n := 50) (Nat.le_refl _) (xs (nI N + 1).toNatClampNeg) (xs (nI N + 2).toNatClampNeg) (xs (nI N + 3).toNatClampNeg) (xs (nI N + 4).toNatClampNeg)
  have ex : Oth M (F_N_handle cs 50 M s.heap.size (xs (nI N + 1).toNatClampNeg) (xs (nI N + 2).toNatClampNeg) (xs (nI N + 3).toNatClampNeg) (xs (nI N + 4).toNatClampNeg)).2.2 := (x_N_handle cs _ 50 M _ (xs (nI N + 1).toNatClampNeg) (xs (nI N + 2).toNatClampNeg) (xs (nI N + 3).toNatClampNeg) (xs (nI N + 4).toNatClampNeg) J.mok s1).oth (by decide)
  rw [← hN]
  show GW p l e room_1 s m #[Value.ref b] below meth c 7 (gA s.heap.size) (lw_Z below #[Value.ref b] s) (gR D gcl s.heap.size M) (M.2.1 - (lwM0 s.heap.size).2.1) (M.2.2 - (lwM0 s.heap.size).2.2) 584 (lvI b s.heap.size mo o (nI N)) []
  refine g_aload_n C d_law_584 rfl ?_
  refine g_aload_n C d_law_585 rfl ?_
  refine g_iload C d_law_586 rfl ?_
  refine g_iconst (v := 1) C d_law_588 (by decide) ?_
  refine g_iadd C d_law_589 ?_
  refine g_sld C hX hbl hbA v1 d_law_590 ?_
  refine g_aload_n C d_law_591 rfl ?_
  refine g_iload C d_law_592 rfl ?_
  refine g_iconst (v := 2) C d_law_594 (by decide) ?_
  refine g_iadd C d_law_595 ?_
  refine g_sld C hX hbl hbA v2 d_law_596 ?_
  refine g_aload_n C d_law_597 rfl ?_
  refine g_iload C d_law_598 rfl ?_
  refine g_iconst (v := 3) C d_law_600 (by decide) ?_
  refine g_iadd C d_law_601 ?_
  refine g_sld C hX hbl hbA v3 d_law_602 ?_
  refine g_aload_n C d_law_603 rfl ?_
  refine g_iload C d_law_604 rfl ?_
  refine g_iconst (v := 4) C d_law_606 (by decide) ?_
  refine g_iadd C d_law_607 ?_
  refine g_sld C hX hbl hbA v4 d_law_608 ?_
  refine g_aload_n C d_law_609 rfl ?_
  refine c_callH (av := [.ref s.heap.size, .int (xs (nI N + 1).toNatClampNeg), .int (xs (nI N + 2).toNatClampNeg), .int (xs (nI N + 3).toNatClampNeg), .int (xs (nI N + 4).toNatClampNeg), .ref o]) (rest := []) C hE (fun _ h => h) hRm hle (lw_handle l hf D cs s.heap.size dE _ 50 M s.heap.size (xs (nI N + 1).toNatClampNeg) (xs (nI N + 2).toNatClampNeg) (xs (nI N + 3).toNatClampNeg) (xs (nI N + 4).toNatClampNeg) s1 J.x0 same.w o f0 (ex o _ ho oC_ne)) (fun _ h => h) kw_L_handle ki_L (Nat.le_of_ble_eq_true rfl) (Nat.le_of_ble_eq_true rfl) d_law_610 (Nat.le_of_ble_eq_true rfl) (c_fSH (n := 6) C km_L_105 ks_L_handle ki_L kw_L_handle ⟨by decide, by decide, by decide⟩ rfl rfl d_law_610) (fun v M1 hv hle1 => ?_) (fun E M1 hv hle1 => ?_)
  rotate_left
  · obtain ⟨hx, -⟩ := hv
    cases hx
  obtain ⟨hx, J2, hrep2, f1, ho2, hf0⟩ := l_out hv J1 (hrep.oth ex) (ex o _ ho oC_ne)
  cases hx
  refine g_istore C d_law_613 (by decide) rfl ?_
  refine g_aload_n C d_law_615 rfl ?_
  refine g_aload_n C d_law_616 rfl ?_
  refine g_iload C d_law_617 rfl ?_
  refine g_iconst (v := 1) C d_law_619 (by decide) ?_
  refine g_iadd C d_law_620 ?_
  refine g_sld C hX hbl hbA v1 d_law_621 ?_
  refine g_aload_n C d_law_622 rfl ?_
  refine g_iload C d_law_623 rfl ?_
  refine g_iconst (v := 2) C d_law_625 (by decide) ?_
  refine g_iadd C d_law_626 ?_
  refine g_sld C hX hbl hbA v2 d_law_627 ?_
  refine g_aload_n C d_law_628 rfl ?_
  refine g_iload C d_law_629 rfl ?_
  refine g_iconst (v := 3) C d_law_631 (by decide) ?_
  refine g_iadd C d_law_632 ?_
  refine g_sld C hX hbl hbA v3 d_law_633 ?_
  refine g_aload_n C d_law_634 rfl ?_
  refine g_iload C d_law_635 rfl ?_
  refine g_iconst (v := 4) C d_law_637 (by decide) ?_
  refine g_iadd C d_law_638 ?_
  refine g_sld C hX hbl hbA v4 d_law_639 ?_
  refine l_callM (av := [.int (xs (nI N + 1).toNatClampNeg), .int (xs (nI N + 2).toNatClampNeg), .int (xs (nI N + 3).toNatClampNeg), .int (xs (nI N + 4).toNatClampNeg)]) (n := 4) (rest := []) C hE hRm hle1 J2.mok hrep2 (mc_Mo_handle l D cs s.heap.size dE mo ad 50 σ (xs (nI N + 1).toNatClampNeg) (xs (nI N + 2).toNatClampNeg) (xs (nI N + 3).toNatClampNeg) (xs (nI N + 4).toNatClampNeg) s2) km_L_107 kv_Mo_handle kl_Mo_handle kd_Mo_handle ⟨rfl, by decide, by decide, by decide⟩ rfl (Nat.le_of_ble_eq_true rfl) (Nat.le_of_ble_eq_true rfl) d_law_640 (Nat.le_of_ble_eq_true rfl) rfl (fun v σ3 M3 hK hrep3 hst3 hs3 hk3 hle3 => ?_)
  obtain ⟨rfl, rfl⟩ := hK
  have J3 := J2.still hst3 hs3
  have ho3 := hk3 o _ ho2 two_moR
  refine g_istore C d_law_643 (by decide) rfl ?_
  rw [hN]
  exact lc_fin6 d_law_645 (by decide) X0 hq J3 hrep3 ho3 hle3 go
set_option maxHeartbeats 4000000 in
theorem lc_two (X : LCtx p l s m c D cs dE b L xs) (hq : q + 1 ≤ 512) (hi : 6 * (512 - (q + 1)) + 6 ≤ L) (hI : LInv cs dE s.heap.size mo o ad (q + 1) σ M) (go : LGo p l e s m below meth c D cs dE b mo o ad q) : LW p l e s m below meth c D b 648 (lvI b s.heap.size mo o (nI (6 * (512 - (q + 1))))) M := by
  have X0 := X
  obtain ⟨C, hE, hX, hbl, hL, hf⟩ := X
  obtain ⟨J, hrep, ⟨f0, ho⟩, hle⟩ := hI
  have hbA : ¬ gA s.heap.size b := Nat.not_le.mpr hbl
  have hRm := lw_rm s.heap.size
  obtain ⟨N, hN⟩ : ∃ N, N = 6 * (512 - (q + 1)) := ⟨_, rfl⟩
  rw [← hN] at hi
  have v1 := lw_in (N := N) (k := 1) 1 rfl (show N + 1 < L by omega) hL
  have v2 := lw_in (N := N) (k := 2) 2 rfl (show N + 2 < L by omega) hL
  have v3 := lw_in (N := N) (k := 3) 3 rfl (show N + 3 < L by omega) hL
  obtain ⟨s1, s2, same, J1⟩ := two_j J (n := 50) (Nat.le_refl _) (xs (nI N + 1).toNatClampNeg) (xs (nI N + 2).toNatClampNeg) (xs (nI N + 3).toNatClampNeg)
  have ex : Oth M (F_N_two cs 50 M s.heap.size (xs (nI N + 1).toNatClampNeg) (xs (nI N + 2).toNatClampNeg) (xs (nI N + 3).toNatClampNeg)).2.2 := (x_N_two cs _ 50 M _ (xs (nI N + 1).toNatClampNeg) (xs (nI N + 2).toNatClampNeg) (xs (nI N + 3).toNatClampNeg) J.mok s1).oth (by decide)
  rw [← hN]
  show GW p l e room_1 s m #[Value.ref b] below meth c 7 (gA s.heap.size) (lw_Z below #[Value.ref b] s) (gR D gcl s.heap.size M) (M.2.1 - (lwM0 s.heap.size).2.1) (M.2.2 - (lwM0 s.heap.size).2.2) 648 (lvI b s.heap.size mo o (nI N)) []
  refine g_aload_n C d_law_648 rfl ?_
  refine g_aload_n C d_law_649 rfl ?_
  refine g_iload C d_law_650 rfl ?_
  refine g_iconst (v := 1) C d_law_652 (by decide) ?_
  refine g_iadd C d_law_653 ?_
  refine g_sld C hX hbl hbA v1 d_law_654 ?_
  refine g_aload_n C d_law_655 rfl ?_
  refine g_iload C d_law_656 rfl ?_
  refine g_iconst (v := 2) C d_law_658 (by decide) ?_
  refine g_iadd C d_law_659 ?_
  refine g_sld C hX hbl hbA v2 d_law_660 ?_
  refine g_aload_n C d_law_661 rfl ?_
  refine g_iload C d_law_662 rfl ?_
  refine g_iconst (v := 3) C d_law_664 (by decide) ?_
  refine g_iadd C d_law_665 ?_
  refine g_sld C hX hbl hbA v3 d_law_666 ?_
  refine g_aload_n C d_law_667 rfl ?_
  refine c_callH (av := [.ref s.heap.size, .int (xs (nI N + 1).toNatClampNeg), .int (xs (nI N + 2).toNatClampNeg), .int (xs (nI N + 3).toNatClampNeg), .ref o]) (rest := []) C hE (fun _ h => h) hRm hle (lw_two l hf D cs s.heap.size dE _ 50 M s.heap.size (xs (nI N + 1).toNatClampNeg) (xs (nI N + 2).toNatClampNeg) (xs (nI N + 3).toNatClampNeg) s1 J.x0 same.w o f0 (ex o _ ho oC_ne)) (fun _ h => h) kw_L_two ki_L (Nat.le_of_ble_eq_true rfl) (Nat.le_of_ble_eq_true rfl) d_law_668 (Nat.le_of_ble_eq_true rfl) (c_fSH (n := 5) C km_L_108 ks_L_two ki_L kw_L_two ⟨by decide, by decide, by decide⟩ rfl rfl d_law_668) (fun v M1 hv hle1 => ?_) (fun E M1 hv hle1 => ?_)
  rotate_left
  · obtain ⟨hx, -⟩ := hv
    cases hx
  obtain ⟨hx, J2, hrep2, f1, ho2, hf0⟩ := l_out hv J1 (hrep.oth ex) (ex o _ ho oC_ne)
  cases hx
  refine g_istore C d_law_671 (by decide) rfl ?_
  refine g_aload_n C d_law_673 rfl ?_
  refine g_aload_n C d_law_674 rfl ?_
  refine g_iload C d_law_675 rfl ?_
  refine g_iconst (v := 1) C d_law_677 (by decide) ?_
  refine g_iadd C d_law_678 ?_
  refine g_sld C hX hbl hbA v1 d_law_679 ?_
  refine g_aload_n C d_law_680 rfl ?_
  refine g_iload C d_law_681 rfl ?_
  refine g_iconst (v := 2) C d_law_683 (by decide) ?_
  refine g_iadd C d_law_684 ?_
  refine g_sld C hX hbl hbA v2 d_law_685 ?_
  refine g_aload_n C d_law_686 rfl ?_
  refine g_iload C d_law_687 rfl ?_
  refine g_iconst (v := 3) C d_law_689 (by decide) ?_
  refine g_iadd C d_law_690 ?_
  refine g_sld C hX hbl hbA v3 d_law_691 ?_
  refine l_callM (av := [.int (xs (nI N + 1).toNatClampNeg), .int (xs (nI N + 2).toNatClampNeg), .int (xs (nI N + 3).toNatClampNeg)]) (n := 3) (rest := []) C hE hRm hle1 J2.mok hrep2 (mc_Mo_two l D cs s.heap.size dE mo ad σ (xs (nI N + 1).toNatClampNeg) (xs (nI N + 2).toNatClampNeg) (xs (nI N + 3).toNatClampNeg) s2) km_L_110 kv_Mo_two kl_Mo_two kd_Mo_two ⟨rfl, by decide, by decide, by decide⟩ rfl (Nat.le_of_ble_eq_true rfl) (Nat.le_of_ble_eq_true rfl) d_law_692 (Nat.le_of_ble_eq_true rfl) rfl (fun v σ3 M3 hK hrep3 hst3 hs3 hk3 hle3 => ?_)
  obtain ⟨rfl, rfl⟩ := hK
  have J3 := J2.still hst3 hs3
  have ho3 := hk3 o _ ho2 two_moR
  refine g_istore C d_law_695 (by decide) rfl ?_
  rw [hN]
  exact lc_fin6 d_law_697 (by decide) X0 hq J3 hrep3 ho3 hle3 go
set_option maxHeartbeats 4000000 in
theorem lc_call (X : LCtx p l s m c D cs dE b L xs) (hq : q + 1 ≤ 512) (hi : 6 * (512 - (q + 1)) + 6 ≤ L) (hI : LInv cs dE s.heap.size mo o ad (q + 1) σ M) (go : LGo p l e s m below meth c D cs dE b mo o ad q) : LW p l e s m below meth c D b 700 (lvI b s.heap.size mo o (nI (6 * (512 - (q + 1))))) M := by
  have X0 := X
  obtain ⟨C, hE, hX, hbl, hL, hf⟩ := X
  obtain ⟨J, hrep, ⟨f0, ho⟩, hle⟩ := hI
  have hbA : ¬ gA s.heap.size b := Nat.not_le.mpr hbl
  have hRm := lw_rm s.heap.size
  obtain ⟨N, hN⟩ : ∃ N, N = 6 * (512 - (q + 1)) := ⟨_, rfl⟩
  rw [← hN] at hi
  have v1 := lw_in (N := N) (k := 1) 1 rfl (show N + 1 < L by omega) hL
  have v2 := lw_in (N := N) (k := 2) 2 rfl (show N + 2 < L by omega) hL
  obtain ⟨s1, s2, same, J1⟩ := call_j J (n := 50) (Nat.le_refl _) (xs (nI N + 1).toNatClampNeg) (xs (nI N + 2).toNatClampNeg)
  have ex : Oth M (F_N_call cs 50 M s.heap.size (xs (nI N + 1).toNatClampNeg) (xs (nI N + 2).toNatClampNeg)).2.2 := (x_N_call cs _ 50 M _ (xs (nI N + 1).toNatClampNeg) (xs (nI N + 2).toNatClampNeg) J.mok s1).oth (by decide)
  rw [← hN]
  show GW p l e room_1 s m #[Value.ref b] below meth c 7 (gA s.heap.size) (lw_Z below #[Value.ref b] s) (gR D gcl s.heap.size M) (M.2.1 - (lwM0 s.heap.size).2.1) (M.2.2 - (lwM0 s.heap.size).2.2) 700 (lvI b s.heap.size mo o (nI N)) []
  refine g_aload_n C d_law_700 rfl ?_
  refine g_aload_n C d_law_701 rfl ?_
  refine g_iload C d_law_702 rfl ?_
  refine g_iconst (v := 1) C d_law_704 (by decide) ?_
  refine g_iadd C d_law_705 ?_
  refine g_sld C hX hbl hbA v1 d_law_706 ?_
  refine g_aload_n C d_law_707 rfl ?_
  refine g_iload C d_law_708 rfl ?_
  refine g_iconst (v := 2) C d_law_710 (by decide) ?_
  refine g_iadd C d_law_711 ?_
  refine g_sld C hX hbl hbA v2 d_law_712 ?_
  refine g_aload_n C d_law_713 rfl ?_
  refine c_callH (av := [.ref s.heap.size, .int (xs (nI N + 1).toNatClampNeg), .int (xs (nI N + 2).toNatClampNeg), .ref o]) (rest := []) C hE (fun _ h => h) hRm hle (lw_call l hf D cs s.heap.size dE _ 50 M s.heap.size (xs (nI N + 1).toNatClampNeg) (xs (nI N + 2).toNatClampNeg) s1 J.x0 same.w o f0 (ex o _ ho oC_ne)) (fun _ h => h) kw_L_call ki_L (Nat.le_of_ble_eq_true rfl) (Nat.le_of_ble_eq_true rfl) d_law_714 (Nat.le_of_ble_eq_true rfl) (c_fSH (n := 4) C km_L_111 ks_L_call ki_L kw_L_call ⟨by decide, by decide, by decide⟩ rfl rfl d_law_714) (fun v M1 hv hle1 => ?_) (fun E M1 hv hle1 => ?_)
  rotate_left
  · obtain ⟨hx, -⟩ := hv
    cases hx
  obtain ⟨hx, J2, hrep2, f1, ho2, hf0⟩ := l_out hv J1 (hrep.oth ex) (ex o _ ho oC_ne)
  cases hx
  refine g_istore C d_law_717 (by decide) rfl ?_
  refine g_aload_n C d_law_719 rfl ?_
  refine g_aload_n C d_law_720 rfl ?_
  refine g_iload C d_law_721 rfl ?_
  refine g_iconst (v := 1) C d_law_723 (by decide) ?_
  refine g_iadd C d_law_724 ?_
  refine g_sld C hX hbl hbA v1 d_law_725 ?_
  refine g_aload_n C d_law_726 rfl ?_
  refine g_iload C d_law_727 rfl ?_
  refine g_iconst (v := 2) C d_law_729 (by decide) ?_
  refine g_iadd C d_law_730 ?_
  refine g_sld C hX hbl hbA v2 d_law_731 ?_
  refine l_callM (av := [.int (xs (nI N + 1).toNatClampNeg), .int (xs (nI N + 2).toNatClampNeg)]) (n := 2) (rest := []) C hE hRm hle1 J2.mok hrep2 (mc_Mo_call l D cs s.heap.size dE mo ad σ (xs (nI N + 1).toNatClampNeg) (xs (nI N + 2).toNatClampNeg) s2) km_L_113 kv_Mo_call kl_Mo_call kd_Mo_call ⟨rfl, by decide, by decide, by decide⟩ rfl (Nat.le_of_ble_eq_true rfl) (Nat.le_of_ble_eq_true rfl) d_law_732 (Nat.le_of_ble_eq_true rfl) rfl (fun v σ3 M3 hK hrep3 hst3 hs3 hk3 hle3 => ?_)
  obtain ⟨rfl, rfl⟩ := hK
  have J3 := J2.still hst3 hs3
  have ho3 := hk3 o _ ho2 two_moR
  refine g_istore C d_law_735 (by decide) rfl ?_
  rw [hN]
  exact lc_fin6 d_law_737 (by decide) X0 hq J3 hrep3 ho3 hle3 go
set_option maxHeartbeats 4000000 in
theorem lc_perform (X : LCtx p l s m c D cs dE b L xs) (hq : q + 1 ≤ 512) (hi : 6 * (512 - (q + 1)) + 6 ≤ L) (hI : LInv cs dE s.heap.size mo o ad (q + 1) σ M) (go : LGo p l e s m below meth c D cs dE b mo o ad q) : LW p l e s m below meth c D b 740 (lvI b s.heap.size mo o (nI (6 * (512 - (q + 1))))) M := by
  have X0 := X
  obtain ⟨C, hE, hX, hbl, hL, hf⟩ := X
  obtain ⟨J, hrep, ⟨f0, ho⟩, hle⟩ := hI
  have hbA : ¬ gA s.heap.size b := Nat.not_le.mpr hbl
  have hRm := lw_rm s.heap.size
  obtain ⟨N, hN⟩ : ∃ N, N = 6 * (512 - (q + 1)) := ⟨_, rfl⟩
  rw [← hN] at hi
  have v1 := lw_in (N := N) (k := 1) 1 rfl (show N + 1 < L by omega) hL
  have v2 := lw_in (N := N) (k := 2) 2 rfl (show N + 2 < L by omega) hL
  obtain ⟨s1, s2, same, J1⟩ := perform_j J (n := 50) (Nat.le_refl _) (xs (nI N + 1).toNatClampNeg) (xs (nI N + 2).toNatClampNeg)
  have ex : Oth M (F_N_perform cs 50 M s.heap.size (xs (nI N + 1).toNatClampNeg) (xs (nI N + 2).toNatClampNeg)).2.2 := (x_N_perform cs _ 50 M _ (xs (nI N + 1).toNatClampNeg) (xs (nI N + 2).toNatClampNeg) J.mok s1).oth (by decide)
  rw [← hN]
  show GW p l e room_1 s m #[Value.ref b] below meth c 7 (gA s.heap.size) (lw_Z below #[Value.ref b] s) (gR D gcl s.heap.size M) (M.2.1 - (lwM0 s.heap.size).2.1) (M.2.2 - (lwM0 s.heap.size).2.2) 740 (lvI b s.heap.size mo o (nI N)) []
  refine g_aload_n C d_law_740 rfl ?_
  refine g_aload_n C d_law_741 rfl ?_
  refine g_iload C d_law_742 rfl ?_
  refine g_iconst (v := 1) C d_law_744 (by decide) ?_
  refine g_iadd C d_law_745 ?_
  refine g_sld C hX hbl hbA v1 d_law_746 ?_
  refine g_aload_n C d_law_747 rfl ?_
  refine g_iload C d_law_748 rfl ?_
  refine g_iconst (v := 2) C d_law_750 (by decide) ?_
  refine g_iadd C d_law_751 ?_
  refine g_sld C hX hbl hbA v2 d_law_752 ?_
  refine g_aload_n C d_law_753 rfl ?_
  refine c_callH (av := [.ref s.heap.size, .int (xs (nI N + 1).toNatClampNeg), .int (xs (nI N + 2).toNatClampNeg), .ref o]) (rest := []) C hE (fun _ h => h) hRm hle (lw_perform l hf D cs s.heap.size dE _ 50 M s.heap.size (xs (nI N + 1).toNatClampNeg) (xs (nI N + 2).toNatClampNeg) s1 J.x0 same.w o f0 (ex o _ ho oC_ne)) (fun _ h => h) kw_L_perform ki_L (Nat.le_of_ble_eq_true rfl) (Nat.le_of_ble_eq_true rfl) d_law_754 (Nat.le_of_ble_eq_true rfl) (c_fSH (n := 4) C km_L_114 ks_L_perform ki_L kw_L_perform ⟨by decide, by decide, by decide⟩ rfl rfl d_law_754) (fun v M1 hv hle1 => ?_) (fun E M1 hv hle1 => ?_)
  rotate_left
  · obtain ⟨hx, -⟩ := hv
    cases hx
  obtain ⟨hx, J2, hrep2, f1, ho2, hf0⟩ := l_out hv J1 (hrep.oth ex) (ex o _ ho oC_ne)
  cases hx
  refine g_istore C d_law_757 (by decide) rfl ?_
  refine g_aload_n C d_law_759 rfl ?_
  refine g_aload_n C d_law_760 rfl ?_
  refine g_iload C d_law_761 rfl ?_
  refine g_iconst (v := 1) C d_law_763 (by decide) ?_
  refine g_iadd C d_law_764 ?_
  refine g_sld C hX hbl hbA v1 d_law_765 ?_
  refine g_aload_n C d_law_766 rfl ?_
  refine g_iload C d_law_767 rfl ?_
  refine g_iconst (v := 2) C d_law_769 (by decide) ?_
  refine g_iadd C d_law_770 ?_
  refine g_sld C hX hbl hbA v2 d_law_771 ?_
  refine l_callM (av := [.int (xs (nI N + 1).toNatClampNeg), .int (xs (nI N + 2).toNatClampNeg)]) (n := 2) (rest := []) C hE hRm hle1 J2.mok hrep2 (mc_Mo_perform l D cs s.heap.size dE mo ad σ (xs (nI N + 1).toNatClampNeg) (xs (nI N + 2).toNatClampNeg) s2) km_L_116 kv_Mo_perform kl_Mo_perform kd_Mo_perform ⟨rfl, by decide, by decide, by decide⟩ rfl (Nat.le_of_ble_eq_true rfl) (Nat.le_of_ble_eq_true rfl) d_law_772 (Nat.le_of_ble_eq_true rfl) rfl (fun v σ3 M3 hK hrep3 hst3 hs3 hk3 hle3 => ?_)
  obtain ⟨rfl, rfl⟩ := hK
  have J3 := J2.still hst3 hs3
  have ho3 := hk3 o _ ho2 two_moR
  refine g_istore C d_law_775 (by decide) rfl ?_
  rw [hN]
  exact lc_fin6 d_law_777 (by decide) X0 hq J3 hrep3 ho3 hle3 go
set_option maxHeartbeats 4000000 in
theorem lc_check {n n2 : Nat} (hn : 700 ≤ n) (hn2 : 3000 ≤ n2) (X : LCtx p l s m c D cs dE b L xs) (hq : q + 1 ≤ 512) (hi : 6 * (512 - (q + 1)) + 6 ≤ L) (hI : LInv cs dE s.heap.size mo o ad (q + 1) σ M) (go : LGo p l e s m below meth c D cs dE b mo o ad q) : LW p l e s m below meth c D b 780 (lvI b s.heap.size mo o (nI (6 * (512 - (q + 1))))) M := by
  have X0 := X
  obtain ⟨C, hE, hX, hbl, hL, hf⟩ := X
  obtain ⟨J, hrep, ⟨f0, ho⟩, hle⟩ := hI
  have hbA : ¬ gA s.heap.size b := Nat.not_le.mpr hbl
  have hRm := lw_rm s.heap.size
  obtain ⟨N, hN⟩ : ∃ N, N = 6 * (512 - (q + 1)) := ⟨_, rfl⟩
  rw [← hN] at hi
  have v1 := lw_in (N := N) (k := 1) 1 rfl (show N + 1 < L by omega) hL
  obtain ⟨s1, s2, same, J1⟩ := check_j J (n := n) hn (n2 := n2) hn2 (xs (nI N + 1).toNatClampNeg)
  have ex : Oth M (F_N_check cs n M s.heap.size (xs (nI N + 1).toNatClampNeg)).2.2 := check_o J hn _
  rw [← hN]
  show GW p l e room_1 s m #[Value.ref b] below meth c 7 (gA s.heap.size) (lw_Z below #[Value.ref b] s) (gR D gcl s.heap.size M) (M.2.1 - (lwM0 s.heap.size).2.1) (M.2.2 - (lwM0 s.heap.size).2.2) 780 (lvI b s.heap.size mo o (nI N)) []
  refine g_aload_n C d_law_780 rfl ?_
  refine g_aload_n C d_law_781 rfl ?_
  refine g_iload C d_law_782 rfl ?_
  refine g_iconst (v := 1) C d_law_784 (by decide) ?_
  refine g_iadd C d_law_785 ?_
  refine g_sld C hX hbl hbA v1 d_law_786 ?_
  refine g_aload_n C d_law_787 rfl ?_
  refine c_callH (av := [.ref s.heap.size, .int (xs (nI N + 1).toNatClampNeg), .ref o]) (rest := []) C hE (fun _ h => h) hRm hle (lw_check l hf D cs s.heap.size dE _ n M s.heap.size (xs (nI N + 1).toNatClampNeg) s1 J.x0 same.w o f0 (ex o _ ho oC_ne)) (fun _ h => h) kw_L_check ki_L (Nat.le_of_ble_eq_true rfl) (Nat.le_of_ble_eq_true rfl) d_law_788 (Nat.le_of_ble_eq_true rfl) (c_fSH (n := 3) C km_L_117 ks_L_check ki_L kw_L_check ⟨by decide, by decide, by decide⟩ rfl rfl d_law_788) (fun v M1 hv hle1 => ?_) (fun E M1 hv hle1 => ?_)
  rotate_left
  · obtain ⟨hx, -⟩ := hv
    cases hx
  obtain ⟨hx, J2, hrep2, f1, ho2, hf0⟩ := l_out hv J1 (hrep.oth ex) (ex o _ ho oC_ne)
  cases hx
  refine g_istore C d_law_791 (by decide) rfl ?_
  refine g_aload_n C d_law_793 rfl ?_
  refine g_aload_n C d_law_794 rfl ?_
  refine g_iload C d_law_795 rfl ?_
  refine g_iconst (v := 1) C d_law_797 (by decide) ?_
  refine g_iadd C d_law_798 ?_
  refine g_sld C hX hbl hbA v1 d_law_799 ?_
  refine l_callM (av := [.int (xs (nI N + 1).toNatClampNeg)]) (n := 1) (rest := []) C hE hRm hle1 J2.mok hrep2 (mc_Mo_check l D cs s.heap.size dE mo ad n2 σ (xs (nI N + 1).toNatClampNeg) s2) km_L_120 kv_Mo_check kl_Mo_check kd_Mo_check ⟨rfl, by decide, by decide, by decide⟩ rfl (Nat.le_of_ble_eq_true rfl) (Nat.le_of_ble_eq_true rfl) d_law_800 (Nat.le_of_ble_eq_true rfl) rfl (fun v σ3 M3 hK hrep3 hst3 hs3 hk3 hle3 => ?_)
  obtain ⟨rfl, rfl⟩ := hK
  have J3 := J2.still hst3 hs3
  have ho3 := hk3 o _ ho2 two_moR
  refine g_istore C d_law_803 (by decide) rfl ?_
  rw [hN]
  exact lc_fin6 d_law_805 (by decide) X0 hq J3 hrep3 ho3 hle3 go
set_option maxHeartbeats 4000000 in
theorem lc_fault (X : LCtx p l s m c D cs dE b L xs) (hq : q + 1 ≤ 512) (hi : 6 * (512 - (q + 1)) + 6 ≤ L) (hI : LInv cs dE s.heap.size mo o ad (q + 1) σ M) (go : LGo p l e s m below meth c D cs dE b mo o ad q) : LW p l e s m below meth c D b 808 (lvI b s.heap.size mo o (nI (6 * (512 - (q + 1))))) M := by
  have X0 := X
  obtain ⟨C, hE, hX, hbl, hL, hf⟩ := X
  obtain ⟨J, hrep, ⟨f0, ho⟩, hle⟩ := hI
  have hbA : ¬ gA s.heap.size b := Nat.not_le.mpr hbl
  have hRm := lw_rm s.heap.size
  obtain ⟨N, hN⟩ : ∃ N, N = 6 * (512 - (q + 1)) := ⟨_, rfl⟩
  rw [← hN] at hi
  have v1 := lw_in (N := N) (k := 1) 1 rfl (show N + 1 < L by omega) hL
  obtain ⟨s1, s2, J1⟩ := fault_j J (xs (nI N + 1).toNatClampNeg)
  rw [← hN]
  show GW p l e room_1 s m #[Value.ref b] below meth c 7 (gA s.heap.size) (lw_Z below #[Value.ref b] s) (gR D gcl s.heap.size M) (M.2.1 - (lwM0 s.heap.size).2.1) (M.2.2 - (lwM0 s.heap.size).2.2) 808 (lvI b s.heap.size mo o (nI N)) []
  refine g_aload_n C d_law_808 rfl ?_
  refine g_aload_n C d_law_809 rfl ?_
  refine g_iload C d_law_810 rfl ?_
  refine g_iconst (v := 1) C d_law_812 (by decide) ?_
  refine g_iadd C d_law_813 ?_
  refine g_sld C hX hbl hbA v1 d_law_814 ?_
  refine c_call (av := [.ref s.heap.size, .int (xs (nI N + 1).toNatClampNeg)]) (rest := []) C hE (fun _ h => h) hRm hle (cc_N_fault l hf D cs s.heap.size dE _ M s.heap.size (xs (nI N + 1).toNatClampNeg) s1) (fun _ h => h.elim) kd_N_fault ki_N (Nat.le_of_ble_eq_true rfl) (Nat.le_of_ble_eq_true rfl) d_law_815 (Nat.le_of_ble_eq_true rfl) (c_fV (n := 1) (ci := 0) C hE.1 rfl km_L_121 kv_N_fault kl_N_fault kd_N_fault ⟨by decide, by decide, by decide⟩ rfl rfl d_law_815 J.x0) (fun v M1 hv hle1 => ?_) (fun E M1 hv hle1 => ?_)
  rotate_left
  · obtain ⟨hx, -⟩ := hv
    cases hx
  obtain ⟨hx, rfl⟩ := hv
  cases hx
  have J2 := J1
  have hrep2 := hrep
  have ho2 := ho
  refine g_pop C d_law_818 rfl ?_
  refine g_aload_n C d_law_819 rfl ?_
  refine g_aload_n C d_law_820 rfl ?_
  refine g_iload C d_law_821 rfl ?_
  refine g_iconst (v := 1) C d_law_823 (by decide) ?_
  refine g_iadd C d_law_824 ?_
  refine g_sld C hX hbl hbA v1 d_law_825 ?_
  refine l_callM (av := [.int (xs (nI N + 1).toNatClampNeg)]) (n := 1) (rest := []) C hE hRm hle1 J2.mok hrep2 (mc_Mo_fault l D cs s.heap.size dE mo ad σ (xs (nI N + 1).toNatClampNeg) s2) km_L_124 kv_Mo_fault kl_Mo_fault kd_Mo_fault ⟨rfl, by decide, by decide, by decide⟩ rfl (Nat.le_of_ble_eq_true rfl) (Nat.le_of_ble_eq_true rfl) d_law_826 (Nat.le_of_ble_eq_true rfl) rfl (fun v σ3 M3 hK hrep3 hst3 hs3 hk3 hle3 => ?_)
  obtain ⟨rfl, rfl⟩ := hK
  have J3 := J2.still hst3 hs3
  have ho3 := hk3 o _ ho2 two_moR
  refine g_pop C d_law_829 rfl ?_
  rw [hN]
  exact lc_fin0 d_law_830 (by decide) X0 hq J3 hrep3 ho3 hle3 go
set_option maxHeartbeats 4000000 in
theorem lc_type (X : LCtx p l s m c D cs dE b L xs) (hq : q + 1 ≤ 512) (hi : 6 * (512 - (q + 1)) + 6 ≤ L) (hI : LInv cs dE s.heap.size mo o ad (q + 1) σ M) (go : LGo p l e s m below meth c D cs dE b mo o ad q) : LW p l e s m below meth c D b 833 (lvI b s.heap.size mo o (nI (6 * (512 - (q + 1))))) M := by
  have X0 := X
  obtain ⟨C, hE, hX, hbl, hL, hf⟩ := X
  obtain ⟨J, hrep, ⟨f0, ho⟩, hle⟩ := hI
  have hbA : ¬ gA s.heap.size b := Nat.not_le.mpr hbl
  have hRm := lw_rm s.heap.size
  obtain ⟨N, hN⟩ : ∃ N, N = 6 * (512 - (q + 1)) := ⟨_, rfl⟩
  rw [← hN] at hi
  have v1 := lw_in (N := N) (k := 1) 1 rfl (show N + 1 < L by omega) hL
  have v2 := lw_in (N := N) (k := 2) 2 rfl (show N + 2 < L by omega) hL
  obtain ⟨s1, s2, same, J1⟩ := type_j J (xs (nI N + 1).toNatClampNeg) (xs (nI N + 2).toNatClampNeg)
  rw [← hN]
  show GW p l e room_1 s m #[Value.ref b] below meth c 7 (gA s.heap.size) (lw_Z below #[Value.ref b] s) (gR D gcl s.heap.size M) (M.2.1 - (lwM0 s.heap.size).2.1) (M.2.2 - (lwM0 s.heap.size).2.2) 833 (lvI b s.heap.size mo o (nI N)) []
  refine g_aload_n C d_law_833 rfl ?_
  refine g_aload_n C d_law_834 rfl ?_
  refine g_iload C d_law_835 rfl ?_
  refine g_iconst (v := 1) C d_law_837 (by decide) ?_
  refine g_iadd C d_law_838 ?_
  refine g_sld C hX hbl hbA v1 d_law_839 ?_
  refine g_aload_n C d_law_840 rfl ?_
  refine g_iload C d_law_841 rfl ?_
  refine g_iconst (v := 2) C d_law_843 (by decide) ?_
  refine g_iadd C d_law_844 ?_
  refine g_sld C hX hbl hbA v2 d_law_845 ?_
  refine c_call (av := [.ref s.heap.size, .int (xs (nI N + 1).toNatClampNeg), .int (xs (nI N + 2).toNatClampNeg)]) (rest := []) C hE (fun _ h => h) hRm hle (cc_N_type l hf D cs s.heap.size dE _ M s.heap.size (xs (nI N + 1).toNatClampNeg) (xs (nI N + 2).toNatClampNeg) s1) (fun _ h => h.elim) kd_N_type ki_N (Nat.le_of_ble_eq_true rfl) (Nat.le_of_ble_eq_true rfl) d_law_846 (Nat.le_of_ble_eq_true rfl) (c_fV (n := 2) (ci := 0) C hE.1 rfl km_L_125 kv_N_type kl_N_type kd_N_type ⟨by decide, by decide, by decide⟩ rfl rfl d_law_846 J.x0) (fun v M1 hv hle1 => ?_) (fun E M1 hv hle1 => ?_)
  rotate_left
  · obtain ⟨hx, -⟩ := hv
    cases hx
  obtain ⟨hx, rfl⟩ := hv
  cases hx
  have J2 := J1
  have hrep2 := hrep
  have ho2 := ho
  refine g_pop C d_law_849 rfl ?_
  refine g_aload_n C d_law_850 rfl ?_
  refine g_aload_n C d_law_851 rfl ?_
  refine g_iload C d_law_852 rfl ?_
  refine g_iconst (v := 1) C d_law_854 (by decide) ?_
  refine g_iadd C d_law_855 ?_
  refine g_sld C hX hbl hbA v1 d_law_856 ?_
  refine g_aload_n C d_law_857 rfl ?_
  refine g_iload C d_law_858 rfl ?_
  refine g_iconst (v := 2) C d_law_860 (by decide) ?_
  refine g_iadd C d_law_861 ?_
  refine g_sld C hX hbl hbA v2 d_law_862 ?_
  refine l_callM (av := [.int (xs (nI N + 1).toNatClampNeg), .int (xs (nI N + 2).toNatClampNeg)]) (n := 2) (rest := []) C hE hRm hle1 J2.mok hrep2 (mc_Mo_type l D cs s.heap.size dE mo ad σ (xs (nI N + 1).toNatClampNeg) (xs (nI N + 2).toNatClampNeg) s2) km_L_128 kv_Mo_type kl_Mo_type kd_Mo_type ⟨rfl, by decide, by decide, by decide⟩ rfl (Nat.le_of_ble_eq_true rfl) (Nat.le_of_ble_eq_true rfl) d_law_863 (Nat.le_of_ble_eq_true rfl) rfl (fun v σ3 M3 hK hrep3 hst3 hs3 hk3 hle3 => ?_)
  obtain ⟨rfl, rfl⟩ := hK
  have J3 := J2.still hst3 hs3
  have ho3 := hk3 o _ ho2 two_moR
  refine g_pop C d_law_866 rfl ?_
  rw [hN]
  exact lc_fin0 d_law_867 (by decide) X0 hq J3 hrep3 ho3 hle3 go
set_option maxHeartbeats 4000000 in
theorem lc_fits (X : LCtx p l s m c D cs dE b L xs) (hq : q + 1 ≤ 512) (hi : 6 * (512 - (q + 1)) + 6 ≤ L) (hI : LInv cs dE s.heap.size mo o ad (q + 1) σ M) (go : LGo p l e s m below meth c D cs dE b mo o ad q) : LW p l e s m below meth c D b 870 (lvI b s.heap.size mo o (nI (6 * (512 - (q + 1))))) M := by
  have X0 := X
  obtain ⟨C, hE, hX, hbl, hL, hf⟩ := X
  obtain ⟨J, hrep, ⟨f0, ho⟩, hle⟩ := hI
  have hbA : ¬ gA s.heap.size b := Nat.not_le.mpr hbl
  have hRm := lw_rm s.heap.size
  obtain ⟨N, hN⟩ : ∃ N, N = 6 * (512 - (q + 1)) := ⟨_, rfl⟩
  rw [← hN] at hi
  have v1 := lw_in (N := N) (k := 1) 1 rfl (show N + 1 < L by omega) hL
  have v2 := lw_in (N := N) (k := 2) 2 rfl (show N + 2 < L by omega) hL
  obtain ⟨s1, s2, same, J1⟩ := fits_j J (xs (nI N + 1).toNatClampNeg) (xs (nI N + 2).toNatClampNeg)
  rw [← hN]
  show GW p l e room_1 s m #[Value.ref b] below meth c 7 (gA s.heap.size) (lw_Z below #[Value.ref b] s) (gR D gcl s.heap.size M) (M.2.1 - (lwM0 s.heap.size).2.1) (M.2.2 - (lwM0 s.heap.size).2.2) 870 (lvI b s.heap.size mo o (nI N)) []
  refine g_aload_n C d_law_870 rfl ?_
  refine g_aload_n C d_law_871 rfl ?_
  refine g_iload C d_law_872 rfl ?_
  refine g_iconst (v := 1) C d_law_874 (by decide) ?_
  refine g_iadd C d_law_875 ?_
  refine g_sld C hX hbl hbA v1 d_law_876 ?_
  refine g_aload_n C d_law_877 rfl ?_
  refine g_iload C d_law_878 rfl ?_
  refine g_iconst (v := 2) C d_law_880 (by decide) ?_
  refine g_iadd C d_law_881 ?_
  refine g_sld C hX hbl hbA v2 d_law_882 ?_
  refine c_call (av := [.ref s.heap.size, .int (xs (nI N + 1).toNatClampNeg), .int (xs (nI N + 2).toNatClampNeg)]) (rest := []) C hE (fun _ h => h) hRm hle (cc_N_fits l hf D cs s.heap.size dE _ M s.heap.size (xs (nI N + 1).toNatClampNeg) (xs (nI N + 2).toNatClampNeg) s1) (fun _ h => h.elim) kd_N_fits ki_N (Nat.le_of_ble_eq_true rfl) (Nat.le_of_ble_eq_true rfl) d_law_883 (Nat.le_of_ble_eq_true rfl) (c_fV (n := 2) (ci := 0) C hE.1 rfl km_L_129 kv_N_fits kl_N_fits kd_N_fits ⟨by decide, by decide, by decide⟩ rfl rfl d_law_883 J.x0) (fun v M1 hv hle1 => ?_) (fun E M1 hv hle1 => ?_)
  rotate_left
  · obtain ⟨hx, -⟩ := hv
    cases hx
  obtain ⟨hx, rfl⟩ := hv
  cases hx
  have J2 := J1
  have hrep2 := hrep
  have ho2 := ho
  refine g_pop C d_law_886 rfl ?_
  refine g_aload_n C d_law_887 rfl ?_
  refine g_aload_n C d_law_888 rfl ?_
  refine g_iload C d_law_889 rfl ?_
  refine g_iconst (v := 1) C d_law_891 (by decide) ?_
  refine g_iadd C d_law_892 ?_
  refine g_sld C hX hbl hbA v1 d_law_893 ?_
  refine g_aload_n C d_law_894 rfl ?_
  refine g_iload C d_law_895 rfl ?_
  refine g_iconst (v := 2) C d_law_897 (by decide) ?_
  refine g_iadd C d_law_898 ?_
  refine g_sld C hX hbl hbA v2 d_law_899 ?_
  refine l_callM (av := [.int (xs (nI N + 1).toNatClampNeg), .int (xs (nI N + 2).toNatClampNeg)]) (n := 2) (rest := []) C hE hRm hle1 J2.mok hrep2 (mc_Mo_fits l D cs s.heap.size dE mo ad σ (xs (nI N + 1).toNatClampNeg) (xs (nI N + 2).toNatClampNeg) s2) km_L_133 kv_Mo_fits kl_Mo_fits kd_Mo_fits ⟨rfl, by decide, by decide, by decide⟩ rfl (Nat.le_of_ble_eq_true rfl) (Nat.le_of_ble_eq_true rfl) d_law_900 (Nat.le_of_ble_eq_true rfl) rfl (fun v σ3 M3 hK hrep3 hst3 hs3 hk3 hle3 => ?_)
  obtain ⟨rfl, rfl⟩ := hK
  have J3 := J2.still hst3 hs3
  have ho3 := hk3 o _ ho2 two_moR
  refine g_pop C d_law_903 rfl ?_
  rw [hN]
  exact lc_fin0 d_law_904 (by decide) X0 hq J3 hrep3 ho3 hle3 go
set_option maxHeartbeats 4000000 in
theorem lc_start (X : LCtx p l s m c D cs dE b L xs) (hq : q + 1 ≤ 512) (hi : 6 * (512 - (q + 1)) + 6 ≤ L) (hI : LInv cs dE s.heap.size mo o ad (q + 1) σ M) (go : LGo p l e s m below meth c D cs dE b mo o ad q) : LW p l e s m below meth c D b 907 (lvI b s.heap.size mo o (nI (6 * (512 - (q + 1))))) M := by
  have X0 := X
  obtain ⟨C, hE, hX, hbl, hL, hf⟩ := X
  obtain ⟨J, hrep, ⟨f0, ho⟩, hle⟩ := hI
  have hbA : ¬ gA s.heap.size b := Nat.not_le.mpr hbl
  have hRm := lw_rm s.heap.size
  obtain ⟨s1, s2, same, J1⟩ := start_j J
  have ex : Oth M (F_N_start cs dE M s.heap.size).2 := (x_N_start cs _ _ M _ J.mok s1).oth (by decide)
  show GW p l e room_1 s m #[Value.ref b] below meth c 7 (gA s.heap.size) (lw_Z below #[Value.ref b] s) (gR D gcl s.heap.size M) (M.2.1 - (lwM0 s.heap.size).2.1) (M.2.2 - (lwM0 s.heap.size).2.2) 907 (lvI b s.heap.size mo o (nI (6 * (512 - (q + 1))))) []
  refine g_aload_n C d_law_907 rfl ?_
  refine c_callH (av := [.ref s.heap.size]) (rest := []) C hE (fun _ h => h) hRm hle (lw_start l hf D cs s.heap.size dE _ M s.heap.size s1 J.x0 (same.imp And.left And.left)) (fun _ h => h) kw_L_start ki_L (Nat.le_of_ble_eq_true rfl) (Nat.le_of_ble_eq_true rfl) d_law_908 (Nat.le_of_ble_eq_true rfl) (c_fSH (n := 1) C km_L_134 ks_L_start ki_L kw_L_start ⟨by decide, by decide, by decide⟩ rfl rfl d_law_908) (fun v M1 hv hle1 => ?_) (fun E M1 hv hle1 => ?_)
  rotate_left
  · obtain ⟨hx, -⟩ := hv
    cases hx
  obtain ⟨hx, rfl⟩ := hv
  cases hx
  have J2 := J1
  have hrep2 := hrep.oth ex
  have ho2 := ex o _ ho oC_ne
  refine g_istore C d_law_911 (by decide) rfl ?_
  refine g_aload_n C d_law_913 rfl ?_
  refine l_callM (av := []) (n := 0) (rest := []) C hE hRm hle1 J2.mok hrep2 (mc_Mo_start l D cs s.heap.size dE mo ad σ s2) km_L_137 kv_Mo_start kl_Mo_start kd_Mo_start ⟨rfl, by decide, by decide, by decide⟩ rfl (Nat.le_of_ble_eq_true rfl) (Nat.le_of_ble_eq_true rfl) d_law_914 (Nat.le_of_ble_eq_true rfl) rfl (fun v σ3 M3 hK hrep3 hst3 hs3 hk3 hle3 => ?_)
  obtain ⟨rfl, rfl⟩ := hK
  have J3 := J2.still hst3 hs3
  have ho3 := hk3 o _ ho2 two_moR
  refine g_aload_n C d_law_917 rfl ?_
  refine l_callM (av := []) (n := 0) (rest := []) C hE hRm hle3 J3.mok hrep3 (mc_Mo_thrown l D cs s.heap.size dE mo ad _ trivial) km_L_138 kv_Mo_thrown kl_Mo_thrown kd_Mo_thrown ⟨rfl, by decide, by decide, by decide⟩ rfl (Nat.le_of_ble_eq_true rfl) (Nat.le_of_ble_eq_true rfl) d_law_918 (Nat.le_of_ble_eq_true rfl) rfl (fun v σ4 M4 hK hrep4 hst4 hs4 hk4 hle4 => ?_)
  obtain ⟨rfl, rfl⟩ := hK
  have J4 := J3.still hst4 hs4
  have ho4 := hk4 o _ ho3 two_moR
  refine g_iload C d_law_921 rfl ?_
  refine g_icmp_eq C 928 d_law_923 (by decide) (fun _ => ?_) (fun h => absurd (ws_s same) h)
  exact lc_fin5 d_law_928 (by decide) X0 hq J4 hrep4 ho4 hle4 go
set_option maxHeartbeats 4000000 in
theorem lc_run {n n2 : Nat} (hn : 4100000 ≤ n) (hn2 : 11000000000 ≤ n2) (X : LCtx p l s m c D cs dE b L xs) (hq : q + 1 ≤ 512) (hi : 6 * (512 - (q + 1)) + 6 ≤ L) (hI : LInv cs dE s.heap.size mo o ad (q + 1) σ M) (go : LGo p l e s m below meth c D cs dE b mo o ad q) : LW p l e s m below meth c D b 931 (lvI b s.heap.size mo o (nI (6 * (512 - (q + 1))))) M := by
  have X0 := X
  obtain ⟨C, hE, hX, hbl, hL, hf⟩ := X
  obtain ⟨J, hrep, ⟨f0, ho⟩, hle⟩ := hI
  have hbA : ¬ gA s.heap.size b := Nat.not_le.mpr hbl
  have hRm := lw_rm s.heap.size
  obtain ⟨N, hN⟩ : ∃ N, N = 6 * (512 - (q + 1)) := ⟨_, rfl⟩
  rw [← hN] at hi
  have v1 := lw_in (N := N) (k := 1) 1 rfl (show N + 1 < L by omega) hL
  obtain ⟨s1, s2, same, J1⟩ := run_j J hq (n := n) hn (n2 := n2) hn2 (xs (nI N + 1).toNatClampNeg)
  have ex : Oth M (F_N_run cs dE n M s.heap.size (xs (nI N + 1).toNatClampNeg)).2.2 := (x_N_run cs _ _ n M _ (xs (nI N + 1).toNatClampNeg) J.mok s1).oth (by decide)
  rw [← hN]
  show GW p l e room_1 s m #[Value.ref b] below meth c 7 (gA s.heap.size) (lw_Z below #[Value.ref b] s) (gR D gcl s.heap.size M) (M.2.1 - (lwM0 s.heap.size).2.1) (M.2.2 - (lwM0 s.heap.size).2.2) 931 (lvI b s.heap.size mo o (nI N)) []
  refine g_aload_n C d_law_931 rfl ?_
  refine g_aload_n C d_law_932 rfl ?_
  refine g_iload C d_law_933 rfl ?_
  refine g_iconst (v := 1) C d_law_935 (by decide) ?_
  refine g_iadd C d_law_936 ?_
  refine g_sld C hX hbl hbA v1 d_law_937 ?_
  refine g_aload_n C d_law_938 rfl ?_
  refine c_callH (av := [.ref s.heap.size, .int (xs (nI N + 1).toNatClampNeg), .ref o]) (rest := []) C hE (fun _ h => h) hRm hle (lw_run l hf D cs s.heap.size dE _ n M s.heap.size (xs (nI N + 1).toNatClampNeg) s1 J.x0 same o f0 (ex o _ ho oC_ne)) (fun _ h => h) kw_L_run ki_L (Nat.le_of_ble_eq_true rfl) (Nat.le_of_ble_eq_true rfl) d_law_939 (Nat.le_of_ble_eq_true rfl) (c_fSH (n := 3) C km_L_142 ks_L_run ki_L kw_L_run ⟨by decide, by decide, by decide⟩ rfl rfl d_law_939) (fun v M1 hv hle1 => ?_) (fun E M1 hv hle1 => ?_)
  rotate_left
  · obtain ⟨hx, -⟩ := hv
    cases hx
  obtain ⟨hx, J2, hrep2, f1, ho2, hf0⟩ := l_out hv J1 (hrep.oth ex) (ex o _ ho oC_ne)
  cases hx
  refine g_istore C d_law_942 (by decide) rfl ?_
  refine g_aload_n C d_law_944 rfl ?_
  refine g_aload_n C d_law_945 rfl ?_
  refine g_iload C d_law_946 rfl ?_
  refine g_iconst (v := 1) C d_law_948 (by decide) ?_
  refine g_iadd C d_law_949 ?_
  refine g_sld C hX hbl hbA v1 d_law_950 ?_
  refine l_callM (av := [.int (xs (nI N + 1).toNatClampNeg)]) (n := 1) (rest := []) C hE hRm hle1 J2.mok hrep2 (mc_Mo_run l D cs s.heap.size dE mo ad n2 σ (xs (nI N + 1).toNatClampNeg) s2) km_L_144 kv_Mo_run kl_Mo_run kd_Mo_run ⟨rfl, by decide, by decide, by decide⟩ rfl (Nat.le_of_ble_eq_true rfl) (Nat.le_of_ble_eq_true rfl) d_law_951 (Nat.le_of_ble_eq_true rfl) rfl (fun v σ3 M3 hK hrep3 hst3 hs3 hk3 hle3 => ?_)
  obtain ⟨rfl, rfl⟩ := hK
  have J3 := J2.still hst3 hs3
  have ho3 := hk3 o _ ho2 two_moR
  refine g_istore C d_law_954 (by decide) rfl ?_
  rw [hN]
  exact lc_fin6 d_law_956 (by decide) X0 hq J3 hrep3 ho3 hle3 go
set_option maxHeartbeats 4000000 in
theorem lc_state (X : LCtx p l s m c D cs dE b L xs) (hq : q + 1 ≤ 512) (hi : 6 * (512 - (q + 1)) + 6 ≤ L) (hI : LInv cs dE s.heap.size mo o ad (q + 1) σ M) (go : LGo p l e s m below meth c D cs dE b mo o ad q) : LW p l e s m below meth c D b 959 (lvI b s.heap.size mo o (nI (6 * (512 - (q + 1))))) M := by
  have X0 := X
  obtain ⟨C, hE, hX, hbl, hL, hf⟩ := X
  obtain ⟨J, hrep, ⟨f0, ho⟩, hle⟩ := hI
  have hbA : ¬ gA s.heap.size b := Nat.not_le.mpr hbl
  have hRm := lw_rm s.heap.size
  obtain ⟨N, hN⟩ : ∃ N, N = 6 * (512 - (q + 1)) := ⟨_, rfl⟩
  rw [← hN] at hi
  have v1 := lw_in (N := N) (k := 1) 1 rfl (show N + 1 < L by omega) hL
  obtain ⟨s1, s2, J1⟩ := state_j J (xs (nI N + 1).toNatClampNeg)
  rw [← hN]
  show GW p l e room_1 s m #[Value.ref b] below meth c 7 (gA s.heap.size) (lw_Z below #[Value.ref b] s) (gR D gcl s.heap.size M) (M.2.1 - (lwM0 s.heap.size).2.1) (M.2.2 - (lwM0 s.heap.size).2.2) 959 (lvI b s.heap.size mo o (nI N)) []
  refine g_aload_n C d_law_959 rfl ?_
  refine g_aload_n C d_law_960 rfl ?_
  refine g_iload C d_law_961 rfl ?_
  refine g_iconst (v := 1) C d_law_963 (by decide) ?_
  refine g_iadd C d_law_964 ?_
  refine g_sld C hX hbl hbA v1 d_law_965 ?_
  refine c_call (av := [.ref s.heap.size, .int (xs (nI N + 1).toNatClampNeg)]) (rest := []) C hE (fun _ h => h) hRm hle (cc_N_state l hf D cs s.heap.size dE _ M s.heap.size (xs (nI N + 1).toNatClampNeg) s1) (fun _ h => h.elim) kd_N_state ki_N (Nat.le_of_ble_eq_true rfl) (Nat.le_of_ble_eq_true rfl) d_law_966 (Nat.le_of_ble_eq_true rfl) (c_fV (n := 1) (ci := 0) C hE.1 rfl km_L_145 kv_N_state kl_N_state kd_N_state ⟨by decide, by decide, by decide⟩ rfl rfl d_law_966 J.x0) (fun v M1 hv hle1 => ?_) (fun E M1 hv hle1 => ?_)
  rotate_left
  · obtain ⟨hx, -⟩ := hv
    cases hx
  obtain ⟨hx, rfl⟩ := hv
  cases hx
  have J2 := J1
  have hrep2 := hrep
  have ho2 := ho
  refine g_pop C d_law_969 rfl ?_
  refine g_aload_n C d_law_970 rfl ?_
  refine g_aload_n C d_law_971 rfl ?_
  refine g_iload C d_law_972 rfl ?_
  refine g_iconst (v := 1) C d_law_974 (by decide) ?_
  refine g_iadd C d_law_975 ?_
  refine g_sld C hX hbl hbA v1 d_law_976 ?_
  refine l_callM (av := [.int (xs (nI N + 1).toNatClampNeg)]) (n := 1) (rest := []) C hE hRm hle1 J2.mok hrep2 (mc_Mo_state l D cs s.heap.size dE mo ad σ (xs (nI N + 1).toNatClampNeg) s2) km_L_148 kv_Mo_state kl_Mo_state kd_Mo_state ⟨rfl, by decide, by decide, by decide⟩ rfl (Nat.le_of_ble_eq_true rfl) (Nat.le_of_ble_eq_true rfl) d_law_977 (Nat.le_of_ble_eq_true rfl) rfl (fun v σ3 M3 hK hrep3 hst3 hs3 hk3 hle3 => ?_)
  obtain ⟨rfl, rfl⟩ := hK
  have J3 := J2.still hst3 hs3
  have ho3 := hk3 o _ ho2 two_moR
  refine g_pop C d_law_980 rfl ?_
  rw [hN]
  exact lc_fin0 d_law_981 (by decide) X0 hq J3 hrep3 ho3 hle3 go
end LW2
