/-! the law: its beginning -/
def mo_df (j : Nat) : Value := if mo_isA j = true then .null else if mo_kd j = 0 ∨ mo_kd j = 5 then .int 0 else .long 0
theorem mo_df_ok : ∀ j, j < 67 → defaultValue (t_Mo j) = mo_df j := by decide +kernel
theorem mo_kd_ok : ∀ j, j < 67 → mo_isA j = false → mo_kd j = 0 ∨ mo_kd j = 5 ∨ mo_kd j = 4 := by decide +kernel
theorem mo_gf_df {ad : Nat → Nat} {j : Nat} (hj : j < 67) : mo_gf ad 0 j = mo_df j := by
  unfold mo_gf mo_df
  by_cases hA : mo_isA j = true
  · rw [if_pos ⟨Nat.zero_le _, hA⟩, if_pos hA]
  · rw [if_neg (fun z => hA z.2), if_neg hA]
    unfold mo_f
    rcases mo_kd_ok j hj (by simpa using hA) with h | h | h
    · rw [if_pos (Or.inl h), if_pos (Or.inl h)]; rfl
    · rw [if_pos (Or.inr h), if_pos (Or.inr h)]; rfl
    · rw [if_neg (by omega), if_pos h, if_neg (by omega)]; rfl
theorem mo_g_fs (ad : Nat → Nat) : ∀ j, j < 67 → defaultValue (t_Mo j) = vp_V (mo_g ad 0) j := fun j hj => by
  unfold vp_V
  rw [List.getD_eq_getElem?_getD, mo_g_at hj, Option.getD_some, mo_gf_df hj]
  exact mo_df_ok j hj
theorem mo_rk67 : mo_rk 67 = 41 := by decide +kernel
theorem mo_sm67 : mo_sm 67 = 1056976 := by decide +kernel
theorem Tbits0 : Tbits mo0 := fun _ => Or.inl rfl
theorem moB.mok {cs : Nat → ClassId} {mo : Nat} {M0 M : gMem} (hmo : mo < M0.2.1) (h : moB cs mo M0 67 M) : MOk M := fun a ha => by
  obtain ⟨h1, h2, h3, h4, h5⟩ := h
  rw [h5] at ha
  have ha' : M0.2.1 + mo_rk 67 ≤ a := ha
  refine h4 a (by omega) (fun j hj hA e => ?_)
  have := mo_rk_lt hj hA
  have e' : a = M0.2.1 + mo_rk j := e
  omega
theorem moB.stl {cs : Nat → ClassId} {mo : Nat} {M0 M : gMem} (hok : MOk M0) (hmo : mo < M0.2.1) (h0 : ∃ x, M0.1 mo = some (600, x)) (h : moB cs mo M0 67 M) : Stl M0 M := by
  have hm := h.mok hmo
  obtain ⟨h1, h2, h3, h4, h5⟩ := h
  obtain ⟨x0, h0⟩ := h0
  refine ⟨fun a y e1 e2 => ?_, fun a y e1 e2 => ?_, fun a e1 e2 => ?_, ⟨by rw [h5]; exact Nat.le_add_right _ _, by rw [h5]; exact Nat.le_add_right _ _⟩, hm⟩
  · rw [h3 a (hok.lt e1) (fun z => by subst z; rw [h0] at e1; cases e1; exact absurd (show (600 : Nat) = 1 from e2) (by decide))]
    exact e1
  · rcases Nat.lt_or_ge a M0.2.1 with g | g
    · rw [h3 a g (fun z => by subst z; rw [h1] at e1; cases e1; exact absurd (show (600 : Nat) = 1 from e2) (by decide))] at e1
      exact e1
    · exfalso
      by_cases hj : ∃ j, j < 67 ∧ mo_isA j = true ∧ a = mo_ad M0 j
      · obtain ⟨j, j1, j2, rfl⟩ := hj
        rw [h2 j j1 j2] at e1
        cases e1
        have : 601 + j = 1 := e2
        omega
      · rw [h4 a g (fun j j1 j2 z => hj ⟨j, j1, j2, z⟩)] at e1
        cases e1
  · rcases Nat.lt_or_ge a M0.2.1 with g | g
    · by_cases z : a = mo
      · subst z; rw [h0] at e1; cases e1
      · rw [h3 a g z] at e2
        exact (e2 e1).elim
    · exact g
theorem RepMo.new {cs : Nat → ClassId} {mo : Nat} {ad : Nat → Nat} {σ : mSt} {M : gMem} (hM : MOk M) (h : RepMo cs mo ad σ M) {x : Nat × va_E} {n : Nat} : RepMo cs mo ad σ (gnw M x n) := by
  have ne : ∀ a z, M.1 a = some z → a ≠ M.2.1 := fun a z h1 => Nat.ne_of_lt (hM.lt h1)
  refine ⟨by rw [gnw_n (ne _ _ h.1)]; exact h.1, fun k hk ha => ?_⟩
  rw [gnw_n (ne _ _ (h.2 k hk ha))]
  exact h.2 k hk ha
theorem lm_start {B : Nat} {e : va_E} {n : Nat} : gnw (lwM0 B) (1, e) n = lm B n [e] := by
  have h0 : lwM0 B = lm B 0 [] := by
    unfold lwM0 lm
    refine Prod.ext ?_ rfl
    funext a
    show none = if B ≤ a then _ else none
    split
    · simp
    · rfl
  rw [h0, lm_newE (c' := [e]) rfl, Nat.zero_add]
section LX
variable {p : Program} {l : Launch} {e : Env} {R : Room} {s : State} {m : MethodId} {args : Array Value} {below : List Frame} {meth : Method} {c : Code} {nL : Nat} {D : va_G} {cs : Nat → ClassId} {B : Nat} {dE : Nat × Nat} {A : Nat → Prop} {Q : State → Prop} {M M0 M' : gMem} {lim : Nat × Nat} {pc : Nat} {lv : List (Nat × Value)} {cc : ByteArray} {own : String} {st : List Value}
theorem GW.eqM (h : M = M') (k : GW p l e R s m args below meth c nL A Q (gR D gcl B M') (M'.2.1 - M0.2.1) (M'.2.2 - M0.2.2) pc lv st) : GW p l e R s m args below meth c nL A Q (gR D gcl B M) (M.2.1 - M0.2.1) (M.2.2 - M0.2.2) pc lv st := by
  subst h
  exact k
/-- a new object of another region -/
theorem c_newR (r : Nat) (C : CallFix p m c cc nL s args gT own) (hK : va_K D gcl (gtys cs) s) (hRm : R.cells = lim.1 - M0.2.1 ∧ R.slots = lim.2 - M0.2.2) (hle : cLe lim M0 M) {ci index N : Nat} {Cn : String} {T : u_T} {fs : List Value} (hin : ∀ w ∈ u_ws Cn T N, w ∈ gT) (hc : gcl[ci]? = some (Cn, T, N)) (ty : Nat → FieldType) (hty : ∀ k, k < N → parseFieldDescriptor (T k).2.2.1 = some (ty k)) (hcl : Cond.classLink own index Cn ∈ gT) (hinst : Cond.instantiable Cn N ∈ gT) (hini : Cond.initialized Cn ∈ gT) (hfs : ∀ j, j < N → defaultValue (ty j) = vp_V fs j) (hd : decode cc pc = .ok (.new index, 3)) (hl : M.2.1 + 1 ≤ lim.1 ∧ M.2.2 + N ≤ lim.2) (kk : cLe lim M0 (gnw M (r, .inr (ci, fs)) N) → GW p l e R s m args below meth c nL A Q (gR D gcl B (gnw M (r, .inr (ci, fs)) N)) ((gnw M (r, .inr (ci, fs)) N).2.1 - M0.2.1) ((gnw M (r, .inr (ci, fs)) N).2.2 - M0.2.2) (pc + 3) lv (.ref M.2.1 :: st)) : GW p l e R s m args below meth c nL A Q (gR D gcl B M) (M.2.1 - M0.2.1) (M.2.2 - M0.2.2) pc lv st := by
  obtain ⟨h1, h2, h3, h4⟩ := hle
  have kk := kk ⟨Nat.le_succ_of_le h1, hl.1, Nat.le_trans h3 (Nat.le_add_right _ _), hl.2⟩
  rw [show (gnw M (r, .inr (ci, fs)) N).2.1 - M0.2.1 = M.2.1 - M0.2.1 + 1 by show M.2.1 + 1 - M0.2.1 = _; omega, show (gnw M (r, .inr (ci, fs)) N).2.2 - M0.2.2 = M.2.2 - M0.2.2 + N by show M.2.2 + N - M0.2.2 = _; omega] at kk
  exact g_new C hK hin hc ty hty hcl hinst hini hfs hd (by rw [hRm.1]; omega) (by rw [hRm.2]; omega) r kk
/-- a new array of longs of another region -/
theorem c_newlR (r : Nat) (C : CallFix p m c cc nL s args gT own) (hK : va_K D gcl (gtys cs) s) (hRm : R.cells = lim.1 - M0.2.1 ∧ R.slots = lim.2 - M0.2.2) (hle : cLe lim M0 M) {n : Int32} {N : Nat} (hn : ¬ n < 0) (hN : n.toNatClampNeg = N) (hby : N * 8 ≤ 536870912) (hd : decode cc pc = .ok (.newarray .long, 2)) (hl : M.2.1 + 1 ≤ lim.1 ∧ M.2.2 + N ≤ lim.2) (kk : cLe lim M0 (gnw M (r, .inl (cs 2, N, .inr (.inl (fun _ => 0)))) N) → GW p l e R s m args below meth c nL A Q (gR D gcl B (gnw M (r, .inl (cs 2, N, .inr (.inl (fun _ => 0)))) N)) ((gnw M (r, .inl (cs 2, N, .inr (.inl (fun _ => 0)))) N).2.1 - M0.2.1) ((gnw M (r, .inl (cs 2, N, .inr (.inl (fun _ => 0)))) N).2.2 - M0.2.2) (pc + 2) lv (.ref M.2.1 :: st)) : GW p l e R s m args below meth c nL A Q (gR D gcl B M) (M.2.1 - M0.2.1) (M.2.2 - M0.2.2) pc lv (.int n :: st) := by
  obtain ⟨h1, h2, h3, h4⟩ := hle
  have kk := kk ⟨Nat.le_succ_of_le h1, hl.1, Nat.le_trans h3 (Nat.le_add_right _ _), hl.2⟩
  rw [show (gnw M (r, .inl (cs 2, N, .inr (.inl (fun _ => 0)))) N).2.1 - M0.2.1 = M.2.1 - M0.2.1 + 1 by show M.2.1 + 1 - M0.2.1 = _; omega, show (gnw M (r, .inl (cs 2, N, .inr (.inl (fun _ => 0)))) N).2.2 - M0.2.2 = M.2.2 - M0.2.2 + N by show M.2.2 + N - M0.2.2 = _; omega] at kk
  exact g_newl C hK (t0 := 2) rfl ka_long hn hN hby hd (by rw [hRm.1]; omega) (by rw [hRm.2]; omega) r kk
end LX
section LY
variable {p : Program} {l : Launch} {e : Env} {s : State} {m : MethodId} {below : List Frame} {meth : Method} {c : Code} {D : va_G} {cs : Nat → ClassId} {dE : Nat × Nat} {b L : Nat} {xs : Nat → Int32}
theorem lw_b3 {mo : Nat} {ad : Nat → Nat} {M3 : gMem} (X : LCtx p l s m c D cs dE b L xs) (hd : dE.1 < s.heap.size) (hr : meth.sig.returnType = ret) (hlocks : meth.locks = false) (st3 : Stl (MZ cs dE s.heap.size) M3) (rep3 : RepMo cs mo ad (F_Mo_clear 9 mo0) M3) (h1 : s.heap.size ≤ M3.2.1) (h2 : M3.2.1 ≤ s.heap.size + 900) (h3 : M3.2.2 ≤ 1059000) : GW p l e room_1 s m #[Value.ref b] below meth c 7 (gA s.heap.size) (lw_Z below #[Value.ref b] s) (gR D gcl s.heap.size M3) (M3.2.1 - (lwM0 s.heap.size).2.1) (M3.2.2 - (lwM0 s.heap.size).2.2) (12 + 3) [(1, .ref s.heap.size), (0, .ref b)] [.ref mo] := by
  have X0 := X
  obtain ⟨C, hE, hX, hbl, hL, hf⟩ := X
  have hRm := lw_rm s.heap.size
  have ok3 := st3.ok
  have la : (lwL s.heap.size).1 = s.heap.size + 601024 := rfl
  have lb : (lwL s.heap.size).2 = 7293034 := rfl
  have hle4 : cLe (lwL s.heap.size) (lwM0 s.heap.size) M3 := ⟨h1, by rw [la]; omega, Nat.zero_le _, by rw [lb]; omega⟩
  refine g_astore_n (lv' := [(2, .ref mo), (1, .ref s.heap.size), (0, .ref b)]) C d_law_15 (by decide) rfl ?_
  refine g_iconst (v := 1) C d_law_16 (by decide) ?_
  refine c_newlR 2 (N := 1) C hE.1 hRm hle4 (by decide) rfl (by decide) d_law_17 ⟨by rw [la]; omega, by rw [lb]; omega⟩ (fun hle5 => ?_)
  refine g_astore_n (lv' := [(3, .ref M3.2.1), (2, .ref mo), (1, .ref s.heap.size), (0, .ref b)]) C d_law_19 (by decide) rfl ?_
  refine g_iconst (v := 0) C d_law_20 (by decide) ?_
  refine g_istore (lv' := lvI b s.heap.size mo M3.2.1 0) C d_law_21 (by decide) rfl ?_
  have st4 : Stl (MZ cs dE s.heap.size) (gnw M3 (2, .inl (cs 2, 1, .inr (.inl (fun _ => 0)))) 1) := st3.trans (Stl.new ok3 (by show (2 : Nat) ≠ 1; decide))
  have e41 : (gnw M3 (2, .inl (cs 2, 1, .inr (.inl (fun _ => 0)))) 1).2.1 = M3.2.1 + 1 := rfl
  have e42 : (gnw M3 (2, .inl (cs 2, 1, .inr (.inl (fun _ => 0)))) 1).2.2 = M3.2.2 + 1 := rfl
  have n0 : nI (6 * (512 - 512)) = 0 := rfl
  have k := lw_loop (e := e) (below := below) (meth := meth) (mo := mo) (o := M3.2.1) (ad := ad) X0 hr hlocks 512 (Nat.le_refl _) (F_Mo_clear 9 mo0) (gnw M3 (2, .inl (cs 2, 1, .inr (.inl (fun _ => 0)))) 1) ⟨JX.start hd (by rw [la]; omega) (by rw [lb]; omega) st4 (by rw [e41]; omega) (by rw [e42]; omega) Tbits0, RepMo.new ok3 rep3, ⟨fun _ => 0, gnw_s⟩, hle5⟩
  rw [n0] at k
  exact k
theorem lw_b2 {mo : Nat} {M2 : gMem} (X : LCtx p l s m c D cs dE b L xs) (hd : dE.1 < s.heap.size) (hr : meth.sig.returnType = ret) (hlocks : meth.locks = false) (ok2 : MOk M2) (st2 : Stl (MZ cs dE s.heap.size) M2) (h1 : s.heap.size ≤ M2.2.1) (h2 : M2.2.1 ≤ s.heap.size + 100) (h3 : M2.2.2 ≤ 1000) (lt2 : mo < M2.2.1) (mo2 : M2.1 mo = some (600, .inr (12, mo_g (mo_ad M2) 0))) : GW p l e room_1 s m #[Value.ref b] below meth c 7 (gA s.heap.size) (lw_Z below #[Value.ref b] s) (gR D gcl s.heap.size M2) (M2.2.1 - (lwM0 s.heap.size).2.1) (M2.2.2 - (lwM0 s.heap.size).2.2) 12 [(1, .ref s.heap.size), (0, .ref b)] [.ref mo, .ref mo] := by
  have X0 := X
  obtain ⟨C, hE, hX, hbl, hL, hf⟩ := X
  have b0 : (lwM0 s.heap.size).2.1 = s.heap.size := rfl
  have b1 : (lwM0 s.heap.size).2.2 = 0 := rfl
  have r0 : room_1.cells = 601024 := rfl
  have r1 : room_1.slots = 7293034 := rfl
  have hS : S_Mo_clear 9 mo0 := (MoI.clear Tbits0 (Nat.le_refl _)).1
  refine g_call C hE (fun _ h => h) (mc_Mo_init l D cs s.heap.size dE mo M2 hS ok2 lt2 mo2) (fun _ h => h) (gT_goodc kd_Mo_init) (gcode_of C.2.2.2.2 (fun w hw => by rw [List.mem_singleton.mp hw]; exact gT_good _ kd_Mo_init)) ki_Mo (Nat.le_of_ble_eq_true rfl) (Nat.le_of_ble_eq_true rfl) (by rw [b0, r0]; show M2.2.1 - s.heap.size + 41 ≤ 601024; omega) (by rw [b1, r1]; show M2.2.2 - 0 + 1056976 ≤ 7293034; omega) d_law_12 (Nat.le_of_ble_eq_true rfl) (c_fI (n := 0) (av := []) (rest := [.ref mo]) C rfl km_L_69 kv_Mo_init kd_Mo_init ⟨by decide, by decide, by decide⟩ rfl rfl d_law_12) ?_ ?_
  rotate_left
  · intro E M' k n hP
    obtain ⟨hx, -⟩ := hP
    cases hx
  intro v M' k n hP
  obtain ⟨hx, rfl, rfl, Mb, hB, hT⟩ := hP
  cases hx
  have okb := hB.mok lt2
  have eb : Mb.2 = (M2.2.1 + mo_rk 67, M2.2.2 + mo_sm 67) := hB.2.2.2.2
  have st3 : Stl (MZ cs dE s.heap.size) (rs Mb M') := (st2.trans (hB.stl ok2 lt2 ⟨_, mo2⟩)).trans (rs_stl okb hT.2.1 hT.2.2)
  have rep3 : RepMo cs mo (mo_ad M2) (F_Mo_clear 9 mo0) (rs Mb M') := rs_rep hB.rep hT.1
  have e31 : (rs Mb M').2.1 = M2.2.1 + mo_rk 67 := by
    show M'.2.1 = _
    rw [hT.2.2, eb]
  have e32 : (rs Mb M').2.2 = M2.2.2 + mo_sm 67 := by
    show M'.2.2 = _
    rw [hT.2.2, eb]
  have k3 := lw_b3 (e := e) (below := below) (meth := meth) X0 hd hr hlocks st3 rep3 (by rw [e31]; omega) (by rw [e31, mo_rk67]; omega) (by rw [e32, mo_sm67]; omega)
  refine fun H locs ls hR hS hl => ?_
  have c1 : M2.2.1 - (lwM0 s.heap.size).2.1 + mo_rk 67 = (rs Mb M').2.1 - (lwM0 s.heap.size).2.1 := by
    rw [e31, b0]
    omega
  have c2 : M2.2.2 - (lwM0 s.heap.size).2.2 + mo_sm 67 = (rs Mb M').2.2 - (lwM0 s.heap.size).2.2 := by
    rw [e32, b1, Nat.sub_zero, Nat.sub_zero]
  rw [c1, c2]
  exact k3 H locs ls (rs_gR hR) hS hl
theorem lw_b1 (X : LCtx p l s m c D cs dE b L xs) (hd : dE.1 < s.heap.size) (hr : meth.sig.returnType = ret) (hlocks : meth.locks = false) (hle2 : cLe (lwL s.heap.size) (lwM0 s.heap.size) (MZ cs dE s.heap.size)) : GW p l e room_1 s m #[Value.ref b] below meth c 7 (gA s.heap.size) (lw_Z below #[Value.ref b] s) (gR D gcl s.heap.size (MZ cs dE s.heap.size)) ((MZ cs dE s.heap.size).2.1 - (lwM0 s.heap.size).2.1) ((MZ cs dE s.heap.size).2.2 - (lwM0 s.heap.size).2.2) 8 [(1, .ref s.heap.size), (0, .ref b)] [] := by
  have X0 := X
  obtain ⟨C, hE, hX, hbl, hL, hf⟩ := X
  have hRm := lw_rm s.heap.size
  have la : (lwL s.heap.size).1 = s.heap.size + 601024 := rfl
  have lb : (lwL s.heap.size).2 = 7293034 := rfl
  have z1 : (MZ cs dE s.heap.size).2.1 = s.heap.size + 26 := rfl
  have z2 : (MZ cs dE s.heap.size).2.2 = 421 := rfl
  have okZ : MOk (MZ cs dE s.heap.size) := lm_mok
  generalize hZ : MZ cs dE s.heap.size = Z at hle2 z1 z2 okZ ⊢
  refine c_newR 600 (ci := 12) (fs := mo_g (fun j => Z.2.1 + 1 + mo_rk j) 0) C hE.1 hRm hle2 i_Mo rfl t_Mo t_Mo_ok kc_L_67 kn_Mo ki_Mo (mo_g_fs _) d_law_8 ⟨by rw [z1, la]; omega, by rw [z2, lb]; omega⟩ (fun hle3 => ?_)
  refine g_dup C d_law_11 rfl ?_
  have st2 : Stl Z (gnw Z (600, .inr (12, mo_g (fun j => Z.2.1 + 1 + mo_rk j) 0)) 67) := Stl.new okZ (by show (600 : Nat) ≠ 1; decide)
  have e1 : (gnw Z (600, .inr (12, mo_g (fun j => Z.2.1 + 1 + mo_rk j) 0)) 67).2.1 = Z.2.1 + 1 := rfl
  have e2 : (gnw Z (600, .inr (12, mo_g (fun j => Z.2.1 + 1 + mo_rk j) 0)) 67).2.2 = Z.2.2 + 67 := rfl
  exact lw_b2 (mo := Z.2.1) X0 hd hr hlocks st2.ok (by rw [hZ]; exact st2) (by rw [e1]; omega) (by rw [e1]; omega) (by rw [e2]; omega) (by rw [e1]; omega) gnw_s
theorem lw_begin (X : LCtx p l s m c D cs dE b L xs) (hd : dE.1 < s.heap.size) (hr : meth.sig.returnType = ret) (hlocks : meth.locks = false) : LW p l e s m below meth c D b 0 [(0, .ref b)] (lwM0 s.heap.size) := by
  have X0 := X
  obtain ⟨C, hE, hX, hbl, hL, hf⟩ := X
  have hRm := lw_rm s.heap.size
  have la : (lwL s.heap.size).1 = s.heap.size + 601024 := rfl
  have lb : (lwL s.heap.size).2 = 7293034 := rfl
  have b0 : (lwM0 s.heap.size).2.1 = s.heap.size := rfl
  have b1 : (lwM0 s.heap.size).2.2 = 0 := rfl
  have hle0 : cLe (lwL s.heap.size) (lwM0 s.heap.size) (lwM0 s.heap.size) := ⟨Nat.le_refl _, Nat.le_add_right _ _, Nat.le_refl _, Nat.zero_le _⟩
  refine c_newR 1 (ci := 0) (fs := [.null, .null, .null, .null, .null, .null, .null]) C hE.1 hRm hle0 i_N rfl t_N t_N_ok kc_L_8 kn_N ki_N (by decide) d_law_0 ⟨by rw [b0, la]; omega, by rw [b1, lb]; omega⟩ (fun hle1 => ?_)
  refine GW.eqM (M' := lm s.heap.size 7 (kA cs dE s.heap.size)) lm_start ?_
  rw [lm_start] at hle1
  refine g_dup C d_law_3 rfl ?_
  obtain ⟨s1, f1⟩ := n_init_c (cs := cs) (dE := dE) (lim := lwL s.heap.size) (b := s.heap.size) (by rw [la]; omega) (by rw [lb]; omega)
  refine c_call (av := [.ref s.heap.size]) (rest := [.ref s.heap.size]) C hE (fun _ h => h) hRm hle1 (cc_N_init l hf D cs s.heap.size dE _ _ _ s1) (fun _ h => h) kd_N_init ki_N (Nat.le_of_ble_eq_true rfl) (Nat.le_of_ble_eq_true rfl) d_law_4 (Nat.le_of_ble_eq_true rfl) (c_fI (n := 0) (av := []) C rfl km_L_66 kv_N_init kd_N_init ⟨by decide, by decide, by decide⟩ rfl rfl d_law_4) (fun v M1 hv hle2 => ?_) (fun E M1 hv hle2 => ?_)
  rotate_left
  · obtain ⟨hx, -⟩ := hv
    cases hx
  obtain ⟨hx, hM1⟩ := hv
  cases hx
  have hZ : M1 = MZ cs dE s.heap.size := hM1.trans f1
  clear hM1 f1
  subst hZ
  refine g_astore_n (lv' := [(1, .ref s.heap.size), (0, .ref b)]) C d_law_7 (by decide) rfl ?_
  exact lw_b1 X0 hd hr hlocks hle2
/-- from the entry, for every script of at most 3072 ints, the law comes to its end with true -/
theorem whole_start (hf : l.flags = pinnedFlags ++ [noTraceFlag]) (hL : L ≤ 3072) (C0 : lw_At p s m meth c b L xs) : W p l e room_1 s m #[Value.ref b] below meth c s.heap [] 0 0 (lw_Z below #[Value.ref b] s) (entryFrame m ([Value.ref b] : List Value).toArray 7) := by
  obtain ⟨h1, h2, h3, h4, h5, h6, h7, h8, h9, h10⟩ := C0
  obtain ⟨D, cs, dE, hE, hd⟩ := lw_env h6 h10
  have X : LCtx p l s m c D cs dE b L xs := ⟨⟨h1, h2, h4, h5, fun w h => h6 w (List.mem_filter.mp h).1⟩, hE, h7, h8, hL, hf⟩
  have k := lw_begin (p := p) (l := l) (e := e) (s := s) (m := m) (below := below) (meth := meth) (c := c) X hd h3 h9
  have hR : gR D gcl s.heap.size (lwM0 s.heap.size) s.heap := ⟨⟨Nat.le_refl _, rfl⟩, fun a x hx => by cases hx⟩
  have hl := lv_entry [Value.ref b] (n := 7) (Nat.le_of_ble_eq_true rfl)
  have k2 := k s.heap [] _ hR va_S.rf hl
  rw [← lg_entry_eq] at k2
  have z : (lwM0 s.heap.size).2.1 - (lwM0 s.heap.size).2.1 = 0 := Nat.sub_self _
  rw [z] at k2
  exact k2
end LY
