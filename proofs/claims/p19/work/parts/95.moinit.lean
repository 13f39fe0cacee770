/-! the reference's constructor -/
def mo0 : mSt := (fun _ => 0, 0, fun _ _ => 0, fun _ _ => 0)
def mo_isA (i : Nat) : Bool := mo_kd i == 1 || mo_kd i == 2 || mo_kd i == 3
def mo_rk : Nat → Nat
  | 0 => 0
  | k + 1 => mo_rk k + (if mo_isA k = true then 1 else 0)
def mo_sm : Nat → Nat
  | 0 => 0
  | k + 1 => mo_sm k + (if mo_isA k = true then mo_len k else 0)
def mo_gf (ad : Nat → Nat) (K i : Nat) : Value := if K ≤ i ∧ mo_isA i = true then .null else mo_f ad mo0 i
def mo_g (ad : Nat → Nat) (K : Nat) : List Value := (List.range 67).map (mo_gf ad K)
theorem mo_g_at {ad : Nat → Nat} {K i : Nat} (h : i < 67) : (mo_g ad K)[i]? = some (mo_gf ad K i) := by
  simp [mo_g, List.getElem?_map, List.getElem?_range h]
theorem mo_g_len {ad : Nat → Nat} {K : Nat} : (mo_g ad K).length = 67 := by simp [mo_g]
theorem mo_isA_ref {ad : Nat → Nat} {K : Nat} (h : mo_isA K = true) : mo_f ad mo0 K = .ref (ad K) := by
  unfold mo_isA at h
  simp only [Bool.or_eq_true, beq_iff_eq] at h
  unfold mo_f
  rw [if_neg (by omega), if_neg (by omega)]
theorem mo_g_set {ad : Nat → Nat} {K K' : Nat} (hK : K < 67) (hA : mo_isA K = true) (hlt : K < K') (hK' : ∀ j, j < 67 → K < j → j < K' → mo_isA j = false) : (mo_g ad K).set K (.ref (ad K)) = mo_g ad K' := by
  apply List.ext_getElem?
  intro i
  by_cases hi : i < 67
  · by_cases hik : i = K
    · subst hik
      rw [List.getElem?_set_self (by rw [mo_g_len]; exact hi), mo_g_at hi]
      unfold mo_gf
      rw [if_neg (by omega), mo_isA_ref hA]
    · rw [List.getElem?_set_ne (Ne.symm hik), mo_g_at hi, mo_g_at hi]
      unfold mo_gf
      by_cases h1 : K' ≤ i
      · by_cases h2 : mo_isA i = true
        · rw [if_pos ⟨by omega, h2⟩, if_pos ⟨h1, h2⟩]
        · rw [if_neg (fun z => h2 z.2), if_neg (fun z => h2 z.2)]
      · by_cases h3 : K ≤ i
        · have := hK' i hi (by omega) (by omega)
          rw [if_neg (fun z => by rw [this] at z; cases z.2), if_neg (fun z => h1 z.1)]
        · rw [if_neg (fun z => h3 z.1), if_neg (fun z => h1 z.1)]
  · rw [List.getElem?_eq_none (by rw [List.length_set, mo_g_len]; omega), List.getElem?_eq_none (by rw [mo_g_len]; omega)]
theorem mo_g_end {ad : Nat → Nat} : mo_g ad 67 = mo_fs ad mo0 := by
  apply List.ext_getElem?
  intro i
  by_cases hi : i < 67
  · rw [mo_g_at hi, mo_at hi]
    unfold mo_gf
    rw [if_neg (by omega)]
  · rw [List.getElem?_eq_none (by rw [mo_g_len]; omega), List.getElem?_eq_none (by rw [mo_fl]; omega)]
theorem mo_rk_le {j K : Nat} (h : j ≤ K) : mo_rk j ≤ mo_rk K := by
  induction K with
  | zero => rw [Nat.le_zero.mp h]; exact Nat.le_refl _
  | succ K ih =>
    rcases Nat.lt_or_ge K j with z | z
    · rw [show j = K + 1 by omega]; exact Nat.le_refl _
    · exact Nat.le_trans (ih z) (Nat.le_add_right _ _)
theorem mo_rk_lt {j K : Nat} (h : j < K) (hA : mo_isA j = true) : mo_rk j < mo_rk K := by
  have h1 : mo_rk (j + 1) = mo_rk j + 1 := by
    show mo_rk j + (if mo_isA j = true then 1 else 0) = _
    rw [if_pos hA]
  have h2 := mo_rk_le (show j + 1 ≤ K from h)
  omega
abbrev mo_ad (M0 : gMem) (j : Nat) : Nat := M0.2.1 + mo_rk j
/-- arrays below K are made -/
def moB (cs : Nat → ClassId) (mo : Nat) (M0 : gMem) (K : Nat) (M : gMem) : Prop := M.1 mo = some (600, .inr (12, mo_g (mo_ad M0) K)) ∧ (∀ j, j < K → mo_isA j = true → M.1 (mo_ad M0 j) = some (601 + j, mo_e cs mo0 j)) ∧ (∀ a, a < M0.2.1 → a ≠ mo → M.1 a = M0.1 a) ∧ (∀ a, M0.2.1 ≤ a → (∀ j, j < K → mo_isA j = true → a ≠ mo_ad M0 j) → M.1 a = none) ∧ M.2 = (M0.2.1 + mo_rk K, M0.2.2 + mo_sm K)
abbrev moP (D : va_G) (B : Nat) (cs : Nat → ClassId) (mo : Nat) (M0 : gMem) (K : Nat) : Jvm.Heap → Prop := fun H => ∃ M, moB cs mo M0 K M ∧ gR D gcl B M H
/-- no array between K and K' -/
def mo_nx (K K' : Nat) : Bool := decide (K < K') && (List.range 67).all (fun j => !(decide (K < j) && decide (j < K') && mo_isA j))
theorem mo_nx_of {K K' : Nat} (h : mo_nx K K' = true) : K < K' ∧ ∀ j, j < 67 → K < j → j < K' → mo_isA j = false := by
  unfold mo_nx at h
  simp only [Bool.and_eq_true, decide_eq_true_eq, List.all_eq_true, List.mem_range] at h
  refine ⟨h.1, fun j h1 h2 h3 => ?_⟩
  have := h.2 j h1
  cases hc : mo_isA j with
  | false => rfl
  | true => simp [h2, h3, hc] at this
section MI
variable {p : Program} {l : Launch} {e : Env} {R : Room} {s : State} {m : MethodId} {args : Array Value} {below : List Frame} {meth : Method} {c : Code} {nL : Nat} {D : va_G} {B : Nat} {dE : Nat × Nat} {Q : State → Prop} {pc : Nat} {lv : List (Nat × Value)} {st : List Value} {cc : ByteArray} {cs : Nat → ClassId} {mo : Nat} {M0 M : gMem}
theorem moB.step (hmo : mo < M0.2.1) {K K' : Nat} (hK : K < 67) (hK' : K' ≤ 67) (hA : mo_isA K = true) (hn : mo_nx K K' = true) (hrk : mo_rk K' = mo_rk K + 1) (hsm : mo_sm K' = mo_sm K + mo_len K) (h : moB cs mo M0 K M) : moB cs mo M0 K' (gup (gnw M (601 + K, mo_e cs mo0 K) (mo_len K)) mo (600, .inr (12, (mo_g (mo_ad M0) K).set K (.ref M.2.1)))) := by
  obtain ⟨h1, h2, h3, h4, h5⟩ := h
  obtain ⟨n1, n2⟩ := mo_nx_of hn
  have e1 : M.2.1 = M0.2.1 + mo_rk K := congrArg Prod.fst h5
  have e2 : M.2.2 = M0.2.2 + mo_sm K := congrArg Prod.snd h5
  refine ⟨?_, ?_, ?_, ?_, ?_⟩
  · rw [gup_s, e1, mo_g_set hK hA n1 n2]
  · intro j hj hj2
    have g1 : mo_ad M0 j ≠ mo := by show M0.2.1 + mo_rk j ≠ mo; omega
    rw [gup_n g1]
    by_cases hjK : j = K
    · subst hjK
      have : mo_ad M0 j = M.2.1 := e1.symm
      rw [this, gnw_s]
    · have hlt : j < K := by
        rcases Nat.lt_or_ge j K with z | z
        · exact z
        · have := n2 j (by omega) (by omega) hj
          rw [this] at hj2; cases hj2
      have := mo_rk_lt hlt hj2
      rw [gnw_n (by show M0.2.1 + mo_rk j ≠ M.2.1; omega)]
      exact h2 j hlt hj2
  · intro a ha hne
    rw [gup_n hne, gnw_n (by omega)]
    exact h3 a ha hne
  · intro a ha hne
    rw [gup_n (by omega), gnw_n (by rw [e1]; exact hne K n1 hA)]
    exact h4 a ha (fun j hj hj2 => hne j (by omega) hj2)
  · show (M.2.1 + 1, M.2.2 + mo_len K) = _
    rw [hrk, hsm, e1, e2, Nat.add_assoc, Nat.add_assoc]
theorem mi_i (C : CallFix p m c cc nL s args gT R_Mo) (hE : gEnv D gcl (gtys cs) gz B dE s) (hname : meth.name = "<init>") (hmo : mo < M0.2.1) (K K' : Nat) (hK : K < 67) (hK' : K' ≤ 67) (h1 : mo_kd K = 1) (hn : mo_nx K K' = true) (hrk : mo_rk K' = mo_rk K + 1) (hsm : mo_sm K' = mo_sm K + mo_len K) {x : Int32} (hx : ¬ x < 0) (hN : x.toNatClampNeg = mo_len K) (hby : mo_len K * 4 ≤ 536870912) {index : Nat} (hlink : Cond.fieldLink R_Mo index (F_Mo K).1 (F_Mo K).2.1 (F_Mo K).2.2.1 ∈ gT) (hfin : (F_Mo K).2.2.2 = true) (hdecl : (F_Mo K).1 = R_Mo) (ht : t_Mo K = .array .int) (hd1 : decode cc pc = .ok (.newarray .int, 2)) (hd2 : decode cc (pc + 2) = .ok (.putfield index, 3)) (hc : mo_rk K + 1 ≤ R.cells) (hs : mo_sm K + mo_len K ≤ R.slots) (kk : GW p l e R s m args below meth c nL (gA B) Q (moP D B cs mo M0 K') (mo_rk K') (mo_sm K') (pc + 5) lv st) : GW p l e R s m args below meth c nL (gA B) Q (moP D B cs mo M0 K) (mo_rk K) (mo_sm K) pc lv (.int x :: .ref mo :: st) := by
  refine GW.ex (fun M hM => ?_)
  have hA : mo_isA K = true := by unfold mo_isA; rw [h1]; rfl
  have he : mo_e cs mo0 K = .inl (cs 0, mo_len K, .inl (fun _ => 0)) := by unfold mo_e; rw [h1]; rfl
  have hst := moB.step hmo hK hK' hA hn hrk hsm hM
  rw [he] at hst
  refine g_newi C hE.1 (t0 := 0) rfl ka_int hx hN hby hd1 hc hs (601 + K) ?_
  have g1 : (gnw M (601 + K, .inl (cs 0, mo_len K, .inl (fun _ => 0))) (mo_len K)).1 mo = some (600, .inr (12, mo_g (mo_ad M0) K)) := by
    have e1 : M.2.1 = M0.2.1 + mo_rk K := congrArg Prod.fst hM.2.2.2.2
    rw [gnw_n (by omega)]
    exact hM.1
  rw [← hrk, ← hsm]
  exact g_putF C hE.1 (ci := 12) i_Mo rfl K hK hlink t_Mo t_Mo_ok n_Mo hfin hname hdecl (by rw [ht]; rfl) (by rw [ht]; rfl) hd2 g1 (by rw [mo_g_len]; exact hK) (GW.inx (T := moB cs mo M0 K') _ hst kk)
theorem mi_z (C : CallFix p m c cc nL s args gT R_Mo) (hE : gEnv D gcl (gtys cs) gz B dE s) (hname : meth.name = "<init>") (hmo : mo < M0.2.1) (K K' : Nat) (hK : K < 67) (hK' : K' ≤ 67) (h1 : mo_kd K = 2) (hn : mo_nx K K' = true) (hrk : mo_rk K' = mo_rk K + 1) (hsm : mo_sm K' = mo_sm K + mo_len K) {x : Int32} (hx : ¬ x < 0) (hN : x.toNatClampNeg = mo_len K) (hby : mo_len K * 1 ≤ 536870912) {index : Nat} (hlink : Cond.fieldLink R_Mo index (F_Mo K).1 (F_Mo K).2.1 (F_Mo K).2.2.1 ∈ gT) (hfin : (F_Mo K).2.2.2 = true) (hdecl : (F_Mo K).1 = R_Mo) (ht : t_Mo K = .array .boolean) (hd1 : decode cc pc = .ok (.newarray .boolean, 2)) (hd2 : decode cc (pc + 2) = .ok (.putfield index, 3)) (hc : mo_rk K + 1 ≤ R.cells) (hs : mo_sm K + mo_len K ≤ R.slots) (kk : GW p l e R s m args below meth c nL (gA B) Q (moP D B cs mo M0 K') (mo_rk K') (mo_sm K') (pc + 5) lv st) : GW p l e R s m args below meth c nL (gA B) Q (moP D B cs mo M0 K) (mo_rk K) (mo_sm K) pc lv (.int x :: .ref mo :: st) := by
  refine GW.ex (fun M hM => ?_)
  have hA : mo_isA K = true := by unfold mo_isA; rw [h1]; rfl
  have he : mo_e cs mo0 K = .inl (cs 1, mo_len K, .inl (fun _ => 0)) := by unfold mo_e; rw [h1]; rfl
  have hst := moB.step hmo hK hK' hA hn hrk hsm hM
  rw [he] at hst
  refine g_newz C hE.1 (t0 := 1) rfl ka_boolean hx hN hby hd1 hc hs (601 + K) ?_
  have g1 : (gnw M (601 + K, .inl (cs 1, mo_len K, .inl (fun _ => 0))) (mo_len K)).1 mo = some (600, .inr (12, mo_g (mo_ad M0) K)) := by
    have e1 : M.2.1 = M0.2.1 + mo_rk K := congrArg Prod.fst hM.2.2.2.2
    rw [gnw_n (by omega)]
    exact hM.1
  rw [← hrk, ← hsm]
  exact g_putF C hE.1 (ci := 12) i_Mo rfl K hK hlink t_Mo t_Mo_ok n_Mo hfin hname hdecl (by rw [ht]; rfl) (by rw [ht]; rfl) hd2 g1 (by rw [mo_g_len]; exact hK) (GW.inx (T := moB cs mo M0 K') _ hst kk)
theorem mi_l (C : CallFix p m c cc nL s args gT R_Mo) (hE : gEnv D gcl (gtys cs) gz B dE s) (hname : meth.name = "<init>") (hmo : mo < M0.2.1) (K K' : Nat) (hK : K < 67) (hK' : K' ≤ 67) (h1 : mo_kd K = 3) (hn : mo_nx K K' = true) (hrk : mo_rk K' = mo_rk K + 1) (hsm : mo_sm K' = mo_sm K + mo_len K) {x : Int32} (hx : ¬ x < 0) (hN : x.toNatClampNeg = mo_len K) (hby : mo_len K * 8 ≤ 536870912) {index : Nat} (hlink : Cond.fieldLink R_Mo index (F_Mo K).1 (F_Mo K).2.1 (F_Mo K).2.2.1 ∈ gT) (hfin : (F_Mo K).2.2.2 = true) (hdecl : (F_Mo K).1 = R_Mo) (ht : t_Mo K = .array .long) (hd1 : decode cc pc = .ok (.newarray .long, 2)) (hd2 : decode cc (pc + 2) = .ok (.putfield index, 3)) (hc : mo_rk K + 1 ≤ R.cells) (hs : mo_sm K + mo_len K ≤ R.slots) (kk : GW p l e R s m args below meth c nL (gA B) Q (moP D B cs mo M0 K') (mo_rk K') (mo_sm K') (pc + 5) lv st) : GW p l e R s m args below meth c nL (gA B) Q (moP D B cs mo M0 K) (mo_rk K) (mo_sm K) pc lv (.int x :: .ref mo :: st) := by
  refine GW.ex (fun M hM => ?_)
  have hA : mo_isA K = true := by unfold mo_isA; rw [h1]; rfl
  have he : mo_e cs mo0 K = .inl (cs 2, mo_len K, .inr (.inl (fun _ => 0))) := by unfold mo_e; rw [h1]; rfl
  have hst := moB.step hmo hK hK' hA hn hrk hsm hM
  rw [he] at hst
  refine g_newl C hE.1 (t0 := 2) rfl ka_long hx hN hby hd1 hc hs (601 + K) ?_
  have g1 : (gnw M (601 + K, .inl (cs 2, mo_len K, .inr (.inl (fun _ => 0)))) (mo_len K)).1 mo = some (600, .inr (12, mo_g (mo_ad M0) K)) := by
    have e1 : M.2.1 = M0.2.1 + mo_rk K := congrArg Prod.fst hM.2.2.2.2
    rw [gnw_n (by omega)]
    exact hM.1
  rw [← hrk, ← hsm]
  exact g_putF C hE.1 (ci := 12) i_Mo rfl K hK hlink t_Mo t_Mo_ok n_Mo hfin hname hdecl (by rw [ht]; rfl) (by rw [ht]; rfl) hd2 g1 (by rw [mo_g_len]; exact hK) (GW.inx (T := moB cs mo M0 K') _ hst kk)
end MI
theorem moB.rep {cs : Nat → ClassId} {mo : Nat} {M0 M : gMem} (h : moB cs mo M0 67 M) : RepMo cs mo (mo_ad M0) mo0 M := by
  refine ⟨by rw [h.1, mo_g_end], fun k hk ha => h.2.1 k hk ?_⟩
  unfold mo_isA
  rcases ha with z | z | z <;> rw [z] <;> rfl
theorem mo_g_skip {ad : Nat → Nat} : mo_g ad 5 = mo_g ad 0 := by
  apply List.ext_getElem?
  intro i
  by_cases hi : i < 67
  · rw [mo_g_at hi, mo_g_at hi]
    unfold mo_gf
    have h0 : ∀ i, i < 5 → mo_isA i = false := by decide
    by_cases h5 : 5 ≤ i
    · by_cases h2 : mo_isA i = true
      · rw [if_pos ⟨h5, h2⟩, if_pos ⟨Nat.zero_le _, h2⟩]
      · rw [if_neg (fun z => h2 z.2), if_neg (fun z => h2 z.2)]
    · have := h0 i (by omega)
      rw [if_neg (fun z => h5 z.1), if_neg (fun z => by rw [this] at z; cases z.2)]
  · rw [List.getElem?_eq_none (by rw [mo_g_len]; omega), List.getElem?_eq_none (by rw [mo_g_len]; omega)]
/-- what the constructor leaves -/
def moI (cs : Nat → ClassId) (mo : Nat) (M0 : gMem) (x : gOut) (M' : gMem) (k n : Nat) : Prop := x = .inl none ∧ k = mo_rk 67 ∧ n = mo_sm 67 ∧ ∃ M, moB cs mo M0 67 M ∧ mo_T cs mo (mo_ad M0) M (F_Mo_clear 9 mo0) M'
set_option maxRecDepth 100000 in
set_option maxHeartbeats 8000000 in
theorem mc_Mo_init (l : Launch) (D : va_G) (cs : Nat → ClassId) (B : Nat) (dE : Nat × Nat) (mo : Nat) (M0 : gMem) (hS : S_Mo_clear 9 mo0) (hok : ∀ a, M0.2.1 ≤ a → M0.1 a = none) (hmo : mo < M0.2.1) (h0 : M0.1 mo = some (600, .inr (12, mo_g (mo_ad M0) 0))) : gMet l y_Mo_init (Cond.code y_Mo_init c_Mo_init 1 none :: gT) ({ frames := 1, cells := 41, slots := 1056976, locals := 40 } : Room) D gcl (gtys cs) gz B dE (gA B) M0 [.ref mo] (moI cs mo M0) := by
  refine gMet.ofW (by decide) rfl (Nat.le_of_ble_eq_true rfl) (lv0 := [(0, .ref mo)]) rfl ?_
  intro p e s m args below meth c C hE hR hr hlocks hex hname _
  replace hname : meth.name = "<init>" := hname
  have h5 : ∀ i, i < 5 → mo_isA i = false := by decide
  have hb0 : moB cs mo M0 5 M0 := ⟨by rw [mo_g_skip]; exact h0, fun j hj hj2 => absurd hj2 (by rw [h5 j hj]; decide), fun a _ _ => rfl, fun a ha _ => hok a ha, rfl⟩
  refine GW.inx (F := fun M => gR D gcl B M) (T := moB cs mo M0 5) M0 hb0 ?_
  refine g_aload_n C d_Mo_init_0 rfl ?_
  refine g_objInit C km_Mo_1 kv_Ob_init kd_Ob_init d_Mo_init_1 (Nat.le_of_ble_eq_true rfl) (Nat.le_of_ble_eq_true rfl) ?_
  refine g_aload_n C d_Mo_init_4 rfl ?_
  refine g_sipush (v := 200) C d_Mo_init_5 (by decide) ?_
  refine mi_i C hE hname hmo 5 6 (by decide) (by decide) (by decide) (by decide +kernel) (by decide +kernel) (by decide +kernel) (by decide) (by decide) (by decide) kf_Mo_7 (by decide) (by decide) (by decide) d_Mo_init_8 d_Mo_init_10 (by decide +kernel) (by decide +kernel) ?_
  refine g_aload_n C d_Mo_init_13 rfl ?_
  refine g_sipush (v := 200) C d_Mo_init_14 (by decide) ?_
  refine mi_i C hE hname hmo 6 7 (by decide) (by decide) (by decide) (by decide +kernel) (by decide +kernel) (by decide +kernel) (by decide) (by decide) (by decide) kf_Mo_13 (by decide) (by decide) (by decide) d_Mo_init_17 d_Mo_init_19 (by decide +kernel) (by decide +kernel) ?_
  refine g_aload_n C d_Mo_init_22 rfl ?_
  refine g_sipush (v := 200) C d_Mo_init_23 (by decide) ?_
  refine mi_i C hE hname hmo 7 8 (by decide) (by decide) (by decide) (by decide +kernel) (by decide +kernel) (by decide +kernel) (by decide) (by decide) (by decide) kf_Mo_16 (by decide) (by decide) (by decide) d_Mo_init_26 d_Mo_init_28 (by decide +kernel) (by decide +kernel) ?_
  refine g_aload_n C d_Mo_init_31 rfl ?_
  refine g_sipush (v := 200) C d_Mo_init_32 (by decide) ?_
  refine mi_i C hE hname hmo 8 9 (by decide) (by decide) (by decide) (by decide +kernel) (by decide +kernel) (by decide +kernel) (by decide) (by decide) (by decide) kf_Mo_19 (by decide) (by decide) (by decide) d_Mo_init_35 d_Mo_init_37 (by decide +kernel) (by decide +kernel) ?_
  refine g_aload_n C d_Mo_init_40 rfl ?_
  refine g_sipush (v := 200) C d_Mo_init_41 (by decide) ?_
  refine mi_i C hE hname hmo 9 10 (by decide) (by decide) (by decide) (by decide +kernel) (by decide +kernel) (by decide +kernel) (by decide) (by decide) (by decide) kf_Mo_22 (by decide) (by decide) (by decide) d_Mo_init_44 d_Mo_init_46 (by decide +kernel) (by decide +kernel) ?_
  refine g_aload_n C d_Mo_init_49 rfl ?_
  refine g_sipush (v := 200) C d_Mo_init_50 (by decide) ?_
  refine mi_i C hE hname hmo 10 11 (by decide) (by decide) (by decide) (by decide +kernel) (by decide +kernel) (by decide +kernel) (by decide) (by decide) (by decide) kf_Mo_25 (by decide) (by decide) (by decide) d_Mo_init_53 d_Mo_init_55 (by decide +kernel) (by decide +kernel) ?_
  refine g_aload_n C d_Mo_init_58 rfl ?_
  refine g_sipush (v := 200) C d_Mo_init_59 (by decide) ?_
  refine mi_i C hE hname hmo 11 12 (by decide) (by decide) (by decide) (by decide +kernel) (by decide +kernel) (by decide +kernel) (by decide) (by decide) (by decide) kf_Mo_28 (by decide) (by decide) (by decide) d_Mo_init_62 d_Mo_init_64 (by decide +kernel) (by decide +kernel) ?_
  refine g_aload_n C d_Mo_init_67 rfl ?_
  refine g_sipush (v := 200) C d_Mo_init_68 (by decide) ?_
  refine mi_i C hE hname hmo 12 13 (by decide) (by decide) (by decide) (by decide +kernel) (by decide +kernel) (by decide +kernel) (by decide) (by decide) (by decide) kf_Mo_31 (by decide) (by decide) (by decide) d_Mo_init_71 d_Mo_init_73 (by decide +kernel) (by decide +kernel) ?_
  refine g_aload_n C d_Mo_init_76 rfl ?_
  refine g_sipush (v := 200) C d_Mo_init_77 (by decide) ?_
  refine mi_i C hE hname hmo 13 14 (by decide) (by decide) (by decide) (by decide +kernel) (by decide +kernel) (by decide +kernel) (by decide) (by decide) (by decide) kf_Mo_34 (by decide) (by decide) (by decide) d_Mo_init_80 d_Mo_init_82 (by decide +kernel) (by decide +kernel) ?_
  refine g_aload_n C d_Mo_init_85 rfl ?_
  refine g_sipush (v := 200) C d_Mo_init_86 (by decide) ?_
  refine mi_i C hE hname hmo 14 15 (by decide) (by decide) (by decide) (by decide +kernel) (by decide +kernel) (by decide +kernel) (by decide) (by decide) (by decide) kf_Mo_37 (by decide) (by decide) (by decide) d_Mo_init_89 d_Mo_init_91 (by decide +kernel) (by decide +kernel) ?_
  refine g_aload_n C d_Mo_init_94 rfl ?_
  refine g_sipush (v := 200) C d_Mo_init_95 (by decide) ?_
  refine mi_i C hE hname hmo 15 16 (by decide) (by decide) (by decide) (by decide +kernel) (by decide +kernel) (by decide +kernel) (by decide) (by decide) (by decide) kf_Mo_40 (by decide) (by decide) (by decide) d_Mo_init_98 d_Mo_init_100 (by decide +kernel) (by decide +kernel) ?_
  refine g_aload_n C d_Mo_init_103 rfl ?_
  refine g_bipush (v := 40) C d_Mo_init_104 (by decide) ?_
  refine mi_i C hE hname hmo 16 17 (by decide) (by decide) (by decide) (by decide +kernel) (by decide +kernel) (by decide +kernel) (by decide) (by decide) (by decide) kf_Mo_43 (by decide) (by decide) (by decide) d_Mo_init_106 d_Mo_init_108 (by decide +kernel) (by decide +kernel) ?_
  refine g_aload_n C d_Mo_init_111 rfl ?_
  refine g_bipush (v := 40) C d_Mo_init_112 (by decide) ?_
  refine mi_i C hE hname hmo 17 18 (by decide) (by decide) (by decide) (by decide +kernel) (by decide +kernel) (by decide +kernel) (by decide) (by decide) (by decide) kf_Mo_46 (by decide) (by decide) (by decide) d_Mo_init_114 d_Mo_init_116 (by decide +kernel) (by decide +kernel) ?_
  refine g_aload_n C d_Mo_init_119 rfl ?_
  refine g_bipush (v := 40) C d_Mo_init_120 (by decide) ?_
  refine mi_i C hE hname hmo 18 19 (by decide) (by decide) (by decide) (by decide +kernel) (by decide +kernel) (by decide +kernel) (by decide) (by decide) (by decide) kf_Mo_49 (by decide) (by decide) (by decide) d_Mo_init_122 d_Mo_init_124 (by decide +kernel) (by decide +kernel) ?_
  refine g_aload_n C d_Mo_init_127 rfl ?_
  refine g_bipush (v := 40) C d_Mo_init_128 (by decide) ?_
  refine mi_i C hE hname hmo 19 20 (by decide) (by decide) (by decide) (by decide +kernel) (by decide +kernel) (by decide +kernel) (by decide) (by decide) (by decide) kf_Mo_52 (by decide) (by decide) (by decide) d_Mo_init_130 d_Mo_init_132 (by decide +kernel) (by decide +kernel) ?_
  refine g_aload_n C d_Mo_init_135 rfl ?_
  refine g_sipush (v := 520) C d_Mo_init_136 (by decide) ?_
  refine mi_i C hE hname hmo 20 21 (by decide) (by decide) (by decide) (by decide +kernel) (by decide +kernel) (by decide +kernel) (by decide) (by decide) (by decide) kf_Mo_55 (by decide) (by decide) (by decide) d_Mo_init_139 d_Mo_init_141 (by decide +kernel) (by decide +kernel) ?_
  refine g_aload_n C d_Mo_init_144 rfl ?_
  refine g_sipush (v := 520) C d_Mo_init_145 (by decide) ?_
  refine mi_i C hE hname hmo 21 22 (by decide) (by decide) (by decide) (by decide +kernel) (by decide +kernel) (by decide +kernel) (by decide) (by decide) (by decide) kf_Mo_58 (by decide) (by decide) (by decide) d_Mo_init_148 d_Mo_init_150 (by decide +kernel) (by decide +kernel) ?_
  refine g_aload_n C d_Mo_init_153 rfl ?_
  refine g_sipush (v := 520) C d_Mo_init_154 (by decide) ?_
  refine mi_i C hE hname hmo 22 23 (by decide) (by decide) (by decide) (by decide +kernel) (by decide +kernel) (by decide +kernel) (by decide) (by decide) (by decide) kf_Mo_61 (by decide) (by decide) (by decide) d_Mo_init_157 d_Mo_init_159 (by decide +kernel) (by decide +kernel) ?_
  refine g_aload_n C d_Mo_init_162 rfl ?_
  refine g_ldc (v := 270400) C kk_Mo_64 d_Mo_init_163 ?_
  refine mi_z C hE hname hmo 23 24 (by decide) (by decide) (by decide) (by decide +kernel) (by decide +kernel) (by decide +kernel) (by decide) (by decide) (by decide) kf_Mo_65 (by decide) (by decide) (by decide) d_Mo_init_165 d_Mo_init_167 (by decide +kernel) (by decide +kernel) ?_
  refine g_aload_n C d_Mo_init_170 rfl ?_
  refine g_bipush (v := 8) C d_Mo_init_171 (by decide) ?_
  refine mi_i C hE hname hmo 24 25 (by decide) (by decide) (by decide) (by decide +kernel) (by decide +kernel) (by decide +kernel) (by decide) (by decide) (by decide) kf_Mo_69 (by decide) (by decide) (by decide) d_Mo_init_173 d_Mo_init_175 (by decide +kernel) (by decide +kernel) ?_
  refine g_aload_n C d_Mo_init_178 rfl ?_
  refine g_bipush (v := 8) C d_Mo_init_179 (by decide) ?_
  refine mi_i C hE hname hmo 25 26 (by decide) (by decide) (by decide) (by decide +kernel) (by decide +kernel) (by decide +kernel) (by decide) (by decide) (by decide) kf_Mo_72 (by decide) (by decide) (by decide) d_Mo_init_181 d_Mo_init_183 (by decide +kernel) (by decide +kernel) ?_
  refine g_aload_n C d_Mo_init_186 rfl ?_
  refine g_bipush (v := 45) C d_Mo_init_187 (by decide) ?_
  refine mi_i C hE hname hmo 26 27 (by decide) (by decide) (by decide) (by decide +kernel) (by decide +kernel) (by decide +kernel) (by decide) (by decide) (by decide) kf_Mo_75 (by decide) (by decide) (by decide) d_Mo_init_189 d_Mo_init_191 (by decide +kernel) (by decide +kernel) ?_
  refine g_aload_n C d_Mo_init_194 rfl ?_
  refine g_bipush (v := 45) C d_Mo_init_195 (by decide) ?_
  refine mi_i C hE hname hmo 27 28 (by decide) (by decide) (by decide) (by decide +kernel) (by decide +kernel) (by decide +kernel) (by decide) (by decide) (by decide) kf_Mo_78 (by decide) (by decide) (by decide) d_Mo_init_197 d_Mo_init_199 (by decide +kernel) (by decide +kernel) ?_
  refine g_aload_n C d_Mo_init_202 rfl ?_
  refine g_bipush (v := 45) C d_Mo_init_203 (by decide) ?_
  refine mi_i C hE hname hmo 28 29 (by decide) (by decide) (by decide) (by decide +kernel) (by decide +kernel) (by decide +kernel) (by decide) (by decide) (by decide) kf_Mo_81 (by decide) (by decide) (by decide) d_Mo_init_205 d_Mo_init_207 (by decide +kernel) (by decide +kernel) ?_
  refine g_aload_n C d_Mo_init_210 rfl ?_
  refine g_bipush (v := 45) C d_Mo_init_211 (by decide) ?_
  refine mi_i C hE hname hmo 29 30 (by decide) (by decide) (by decide) (by decide +kernel) (by decide +kernel) (by decide +kernel) (by decide) (by decide) (by decide) kf_Mo_84 (by decide) (by decide) (by decide) d_Mo_init_213 d_Mo_init_215 (by decide +kernel) (by decide +kernel) ?_
  refine g_aload_n C d_Mo_init_218 rfl ?_
  refine g_sipush (v := 450) C d_Mo_init_219 (by decide) ?_
  refine mi_i C hE hname hmo 30 40 (by decide) (by decide) (by decide) (by decide +kernel) (by decide +kernel) (by decide +kernel) (by decide) (by decide) (by decide) kf_Mo_87 (by decide) (by decide) (by decide) d_Mo_init_222 d_Mo_init_224 (by decide +kernel) (by decide +kernel) ?_
  refine g_aload_n C d_Mo_init_227 rfl ?_
  refine g_sipush (v := 17000) C d_Mo_init_228 (by decide) ?_
  refine mi_i C hE hname hmo 40 41 (by decide) (by decide) (by decide) (by decide +kernel) (by decide +kernel) (by decide +kernel) (by decide) (by decide) (by decide) kf_Mo_90 (by decide) (by decide) (by decide) d_Mo_init_231 d_Mo_init_233 (by decide +kernel) (by decide +kernel) ?_
  refine g_aload_n C d_Mo_init_236 rfl ?_
  refine g_sipush (v := 17000) C d_Mo_init_237 (by decide) ?_
  refine mi_i C hE hname hmo 41 42 (by decide) (by decide) (by decide) (by decide +kernel) (by decide +kernel) (by decide +kernel) (by decide) (by decide) (by decide) kf_Mo_93 (by decide) (by decide) (by decide) d_Mo_init_240 d_Mo_init_242 (by decide +kernel) (by decide +kernel) ?_
  refine g_aload_n C d_Mo_init_245 rfl ?_
  refine g_sipush (v := 17000) C d_Mo_init_246 (by decide) ?_
  refine mi_l C hE hname hmo 42 43 (by decide) (by decide) (by decide) (by decide +kernel) (by decide +kernel) (by decide +kernel) (by decide) (by decide) (by decide) kf_Mo_96 (by decide) (by decide) (by decide) d_Mo_init_249 d_Mo_init_251 (by decide +kernel) (by decide +kernel) ?_
  refine g_aload_n C d_Mo_init_254 rfl ?_
  refine g_ldc (v := 170000) C kk_Mo_100 d_Mo_init_255 ?_
  refine mi_l C hE hname hmo 43 53 (by decide) (by decide) (by decide) (by decide +kernel) (by decide +kernel) (by decide +kernel) (by decide) (by decide) (by decide) kf_Mo_101 (by decide) (by decide) (by decide) d_Mo_init_257 d_Mo_init_259 (by decide +kernel) (by decide +kernel) ?_
  refine g_aload_n C d_Mo_init_262 rfl ?_
  refine g_bipush (v := 10) C d_Mo_init_263 (by decide) ?_
  refine mi_l C hE hname hmo 53 54 (by decide) (by decide) (by decide) (by decide +kernel) (by decide +kernel) (by decide +kernel) (by decide) (by decide) (by decide) kf_Mo_104 (by decide) (by decide) (by decide) d_Mo_init_265 d_Mo_init_267 (by decide +kernel) (by decide +kernel) ?_
  refine g_aload_n C d_Mo_init_270 rfl ?_
  refine g_sipush (v := 1000) C d_Mo_init_271 (by decide) ?_
  refine mi_i C hE hname hmo 54 55 (by decide) (by decide) (by decide) (by decide +kernel) (by decide +kernel) (by decide +kernel) (by decide) (by decide) (by decide) kf_Mo_107 (by decide) (by decide) (by decide) d_Mo_init_274 d_Mo_init_276 (by decide +kernel) (by decide +kernel) ?_
  refine g_aload_n C d_Mo_init_279 rfl ?_
  refine g_sipush (v := 10000) C d_Mo_init_280 (by decide) ?_
  refine mi_l C hE hname hmo 55 57 (by decide) (by decide) (by decide) (by decide +kernel) (by decide +kernel) (by decide +kernel) (by decide) (by decide) (by decide) kf_Mo_110 (by decide) (by decide) (by decide) d_Mo_init_283 d_Mo_init_285 (by decide +kernel) (by decide +kernel) ?_
  refine g_aload_n C d_Mo_init_288 rfl ?_
  refine g_sipush (v := 1000) C d_Mo_init_289 (by decide) ?_
  refine mi_i C hE hname hmo 57 58 (by decide) (by decide) (by decide) (by decide +kernel) (by decide +kernel) (by decide +kernel) (by decide) (by decide) (by decide) kf_Mo_113 (by decide) (by decide) (by decide) d_Mo_init_292 d_Mo_init_294 (by decide +kernel) (by decide +kernel) ?_
  refine g_aload_n C d_Mo_init_297 rfl ?_
  refine g_sipush (v := 1000) C d_Mo_init_298 (by decide) ?_
  refine mi_i C hE hname hmo 58 59 (by decide) (by decide) (by decide) (by decide +kernel) (by decide +kernel) (by decide +kernel) (by decide) (by decide) (by decide) kf_Mo_116 (by decide) (by decide) (by decide) d_Mo_init_301 d_Mo_init_303 (by decide +kernel) (by decide +kernel) ?_
  refine g_aload_n C d_Mo_init_306 rfl ?_
  refine g_sipush (v := 1000) C d_Mo_init_307 (by decide) ?_
  refine mi_i C hE hname hmo 59 60 (by decide) (by decide) (by decide) (by decide +kernel) (by decide +kernel) (by decide +kernel) (by decide) (by decide) (by decide) kf_Mo_119 (by decide) (by decide) (by decide) d_Mo_init_310 d_Mo_init_312 (by decide +kernel) (by decide +kernel) ?_
  refine g_aload_n C d_Mo_init_315 rfl ?_
  refine g_sipush (v := 1000) C d_Mo_init_316 (by decide) ?_
  refine mi_z C hE hname hmo 60 63 (by decide) (by decide) (by decide) (by decide +kernel) (by decide +kernel) (by decide +kernel) (by decide) (by decide) (by decide) kf_Mo_122 (by decide) (by decide) (by decide) d_Mo_init_319 d_Mo_init_321 (by decide +kernel) (by decide +kernel) ?_
  refine g_aload_n C d_Mo_init_324 rfl ?_
  refine g_ldc (v := 42000) C kk_Mo_125 d_Mo_init_325 ?_
  refine mi_i C hE hname hmo 63 64 (by decide) (by decide) (by decide) (by decide +kernel) (by decide +kernel) (by decide +kernel) (by decide) (by decide) (by decide) kf_Mo_126 (by decide) (by decide) (by decide) d_Mo_init_327 d_Mo_init_329 (by decide +kernel) (by decide +kernel) ?_
  refine g_aload_n C d_Mo_init_332 rfl ?_
  refine g_ldc (v := 42000) C kk_Mo_125 d_Mo_init_333 ?_
  refine mi_i C hE hname hmo 64 65 (by decide) (by decide) (by decide) (by decide +kernel) (by decide +kernel) (by decide +kernel) (by decide) (by decide) (by decide) kf_Mo_129 (by decide) (by decide) (by decide) d_Mo_init_335 d_Mo_init_337 (by decide +kernel) (by decide +kernel) ?_
  refine g_aload_n C d_Mo_init_340 rfl ?_
  refine g_ldc (v := 42000) C kk_Mo_125 d_Mo_init_341 ?_
  refine mi_l C hE hname hmo 65 66 (by decide) (by decide) (by decide) (by decide +kernel) (by decide +kernel) (by decide +kernel) (by decide) (by decide) (by decide) kf_Mo_132 (by decide) (by decide) (by decide) d_Mo_init_343 d_Mo_init_345 (by decide +kernel) (by decide +kernel) ?_
  refine g_aload_n C d_Mo_init_348 rfl ?_
  refine g_ldc (v := 420000) C kk_Mo_135 d_Mo_init_349 ?_
  refine mi_l C hE hname hmo 66 67 (by decide) (by decide) (by decide) (by decide +kernel) (by decide +kernel) (by decide +kernel) (by decide) (by decide) (by decide) kf_Mo_136 (by decide) (by decide) (by decide) d_Mo_init_351 d_Mo_init_353 (by decide +kernel) (by decide +kernel) ?_
  refine g_aload_n C d_Mo_init_356 rfl ?_
  refine GW.ex (fun M hM => ?_)
  have hrep := hM.rep
  refine g_call C hE (fun _ h => h) (mc_Mo_clear l D cs B dE mo (mo_ad M0) 9 mo0 hS M hrep) (fun _ h => h) (gT_goodc kd_Mo_clear) (gcode_of C.2.2.2.2 (fun w hw => by rw [List.mem_singleton.mp hw]; exact gT_good _ kd_Mo_clear)) ki_Mo (by decide) (by decide) (by decide +kernel) (by decide +kernel) d_Mo_init_357 (Nat.le_of_ble_eq_true rfl) ?_ ?_ ?_ (rest := []) (st0 := [.ref mo])
  · intro H ls hR
    obtain ⟨cellB, hc1, hc2, hc3⟩ := g_recv hE.1 hR (ci := 12) (q := (R_Mo, F_Mo, 67)) rfl hrep.1
    exact Front.V C.1 C.2.2.2.1 (C.2.2.2.2 _ km_Mo_139) (C.2.2.2.2 _ kv_Mo_clear) (C.2.2.2.2 _ kl_Mo_clear) (C.2.2.2.2 _ kd_Mo_clear) ⟨by decide, by decide⟩ hc1 hc2 hc3 rfl (hlen_of (n := 0) (by decide) rfl) rfl (by rw [C.2.1]; exact d_Mo_init_357)
  · intro v M' k n hP
    obtain ⟨rfl, rfl, r, σ', hx, ⟨rfl, rfl⟩, hT⟩ := hP
    cases hx
    refine g_vret C hr hlocks d_Mo_init_360 ?_
    exact ⟨rfl, rfl, rfl, M, hM, hT⟩
  · intro E M' k n hP
    obtain ⟨-, -, r, σ', hx, -⟩ := hP
    cases hx
