-- pure rows: GI
section
/-! pure rows: clear, class and reference together -/
theorem clear_ef {σ : mSt} {n : Nat} (hn : 9 ≤ n) : ∀ e, e < 8 → (F_Mo_clear n σ).2.2.1 24 e = 0 ∧ (F_Mo_clear n σ).2.2.1 25 e = 0 := by
  obtain ⟨k, rfl⟩ : ∃ k, n = k + 9 := ⟨n - 9, by omega⟩
  simp only [F_Mo_clear, mbind_eq, (clear_27_eq k _).2, (clear_55_eq k _).2]
  generalize mo_si (mo_si (mo_si (mo_si (mo_si σ 4 0) 0 0) 1 0) 2 0) 3 3 = σ1
  generalize hσ2 : mo_ai (mo_ai (mo_ai (mo_ai (mo_ai (mo_ai (mo_ai (mo_ai (mo_ai (mo_ai (mo_ai (mo_ai (mo_ai (mo_ai (mo_ai (mo_ai σ1 24 0 0) 25 0 0) 24 1 0) 25 1 0) 24 2 0) 25 2 0) 24 3 0) 25 3 0) 24 4 0) 25 4 0) 24 5 0) 25 5 0) 24 6 0) 25 6 0) 24 7 0) 25 7 0 = σ2
  have e8 : ∀ e, e < 8 → σ2.2.2.1 24 e = 0 ∧ σ2.2.2.1 25 e = 0 := by
    subst hσ2
    intro e he
    match e, he with
    | 0, _ => simp [si_1, si_2, sl_1, sl_2, sl_3, ai_1, ai_2, ai_3, ai_4, al_1, al_2, al_3, al_4]
    | 1, _ => simp [si_1, si_2, sl_1, sl_2, sl_3, ai_1, ai_2, ai_3, ai_4, al_1, al_2, al_3, al_4]
    | 2, _ => simp [si_1, si_2, sl_1, sl_2, sl_3, ai_1, ai_2, ai_3, ai_4, al_1, al_2, al_3, al_4]
    | 3, _ => simp [si_1, si_2, sl_1, sl_2, sl_3, ai_1, ai_2, ai_3, ai_4, al_1, al_2, al_3, al_4]
    | 4, _ => simp [si_1, si_2, sl_1, sl_2, sl_3, ai_1, ai_2, ai_3, ai_4, al_1, al_2, al_3, al_4]
    | 5, _ => simp [si_1, si_2, sl_1, sl_2, sl_3, ai_1, ai_2, ai_3, ai_4, al_1, al_2, al_3, al_4]
    | 6, _ => simp [si_1, si_2, sl_1, sl_2, sl_3, ai_1, ai_2, ai_3, ai_4, al_1, al_2, al_3, al_4]
    | 7, _ => simp [si_1, si_2, sl_1, sl_2, sl_3, ai_1, ai_2, ai_3, ai_4, al_1, al_2, al_3, al_4]
  generalize hσ3 : mo_ai (mo_ai (mo_ai (mo_ai (mo_ai (mo_ai (mo_ai (mo_ai (mo_ai σ2 23 0 1) 23 1 0) 23 2 0) 23 520 0) 23 521 1) 23 522 0) 23 1040 0) 23 1041 0) 23 1042 1 = σ3
  have h24 : σ3.2.2.1 24 = σ2.2.2.1 24 := by subst hσ3; funext i; simp [si_1, si_2, sl_1, sl_2, sl_3, ai_1, ai_2, ai_3, ai_4, al_1, al_2, al_3, al_4]
  have h25 : σ3.2.2.1 25 = σ2.2.2.1 25 := by subst hσ3; funext i; simp [si_1, si_2, sl_1, sl_2, sl_3, ai_1, ai_2, ai_3, ai_4, al_1, al_2, al_3, al_4]
  intro e he
  have := e8 e he
  simp only [sl_3, si_2, h24, h25, this.1, this.2]
  exact ⟨trivial, trivial⟩
section
variable {cs : Nat → ClassId} {lim dE : Nat × Nat} {A : Ad} {M M' : gMem} {q : Nat} {σ : mSt} {n : Nat}
theorem ar_fill0 {b len : Nat} {V : List (Nat × Nat)} {y : Int32} {r : Option Nat} (hr : r = some b) (hlen : len < 1000) (hn : len < n) (hM : MOk M) (ha : aIk (cs 0) M b) (hl : aL M b = len) (hv : ¬ NotV V M b) : S_Ar_fill cs lim n M r y ∧ Ext [] V false M (F_Ar_fill cs n M r y) ∧ (∀ j, j < len → aF (F_Ar_fill cs n M r y) b j = y) ∧ ∀ c, c ≠ b → (F_Ar_fill cs n M r y).1 c = M.1 c := by
  subst hr
  have i0 : (nI len).toInt = (len : Nat) := nI_toI (by omega)
  obtain ⟨s4, x4, v4, o4⟩ := ar_fill (cs := cs) (lim := lim) (b := b) (len := len) (V := V) (y := y) hlen len 0 0 (nI len) n M rfl (Nat.zero_le _) rfl i0 (by omega) hM ha hl hv
  have fF : F_Ar_fill cs n M (some b) y = F_Ar_fill_5 cs n M (some b) y 0 (nI len) := by
    unfold F_Ar_fill
    simp only [Option.getD_some, hl]
  rw [fF]
  refine ⟨?_, x4, fun j hj => by rw [v4 j, if_pos ⟨Nat.zero_le _, hj⟩], o4⟩
  unfold S_Ar_fill
  simp only [Option.getD_some, hl]
  exact ⟨⟨trivial, ⟨_, ha.eq⟩⟩, s4⟩
theorem clear_j (J : JX cs lim dE A (q + 1) σ M) (hn : 20 ≤ n) {n2 : Nat} (hn2 : 9 ≤ n2) : S_N_clear cs lim n M A.x ∧ S_Mo_clear n2 σ ∧ JX cs lim dE A q (F_Mo_clear n2 σ) (F_N_clear cs n M A.x) ∧ Oth M (F_N_clear cs n M A.x) := by
  obtain ⟨τ, N, C, R, J⟩ := J
  obtain ⟨s2, mi⟩ := MoI.clear (σ := σ) J.moi.tok.bits hn2
  obtain ⟨-, tk, nk, -, z36, z46⟩ := clear_ok (σ := σ) J.moi.tok.bits hn2
  have ef := clear_ef (σ := σ) hn2
  obtain ⟨r1, r2, g4, k4, K, Fs, Ts, hh, t, b1, b2, b3⟩ := J.kc.hs
  have L := hh.lay
  have L0 := L
  have co := J.kc.co
  unfold S_N_clear F_N_clear
  refine (fun (h : _ ∧ (fun M' => JX cs lim dE A q (F_Mo_clear n2 σ) M' ∧ Oth M M') _) => (⟨h.1, s2, h.2⟩ : _ ∧ _ ∧ _)) ?_
  -- the types
  have q0 : (cQ M A.x 0).getD 0 = A.ty := by rw [L.x_ty.2]; rfl
  rw [q0]
  have sd : S_Ty_dropBack cs lim M A.ty 3 := ⟨L.ty_0.1, trivial⟩
  have e1 := x_Ty_dropBack cs lim M A.ty 3 L.mok sd
  have v1 : cI (F_Ty_dropBack cs M A.ty 3) A.ty 4 = 3 := cI_put L.ty_0.1 (by decide)
  have t1 : TyA cs A (F_Ty_dropBack cs M A.ty 3) [] K := t.drop e1 (by decide) (by decide) List.nil_prefix (by rw [v1]; rfl)
  refine and1 L.x_ty.1 (and1 ⟨_, L.x_ty.2, L.ty_0.1⟩ (and1 sd (mbQ (Q := fun M' => JX cs lim dE A q (F_Mo_clear n2 σ) M' ∧ Oth M M') ?_)))
  have L1 := L.ext e1 (by decide)
  have E1 : Ext [(1, 4), (3, 4), (3, 5), (3, 6), (6, 5), (6, 6), (6, 7)] [(0, 2), (0, 3)] false M (F_Ty_dropBack cs M A.ty 3) := e1.mono (by decide) (by decide) (by decide)
  generalize F_Ty_dropBack cs M A.ty 3 = M1 at t1 L1 E1 ⊢
  -- the nodes
  have q1 : (cQ M1 A.x 1).getD 0 = A.ns := by rw [L1.x_ns.2]; rfl
  rw [q1]
  have o3 := L1.ns_0.1
  have p1 : cOk 3 (cP 3 M1 A.ns 4 (.int 0)) A.ns := cOk_putI (by decide) o3 o3
  have p2 : cOk 3 (cP 3 (cP 3 M1 A.ns 4 (.int 0)) A.ns 5 (.int 0)) A.ns := cOk_putI (by decide) p1 p1
  have sn : S_Ns_dropAll cs lim M1 A.ns := ⟨o3, p1, p2, trivial⟩
  have e2 := x_Ns_dropAll cs lim M1 A.ns L1.mok sn
  have n4 : cI (F_Ns_dropAll cs M1 A.ns) A.ns 4 = 0 := by unfold F_Ns_dropAll; rw [cI_put_ne (Or.inr (by decide)), cI_put_ne (Or.inr (by decide)), cI_put o3 (by decide)]
  have n5 : cI (F_Ns_dropAll cs M1 A.ns) A.ns 5 = 0 := by unfold F_Ns_dropAll; rw [cI_put_ne (Or.inr (by decide)), cI_put p1 (by decide)]
  have n6 : cI (F_Ns_dropAll cs M1 A.ns) A.ns 6 = 0 := by unfold F_Ns_dropAll; rw [cI_put p2 (by decide)]
  have ns2 : NsIs A (F_Ns_dropAll cs M1 A.ns) 0 0 0 (ndOf (F_Mo_clear n2 σ).2.2.1) (cdOf (F_Mo_clear n2 σ).2.2.1) := ⟨by rw [n4]; rfl, by omega, by rw [n5]; rfl, by omega, by rw [n6]; rfl, by omega, fun i hi => absurd hi (Nat.not_lt_zero _), fun i hi => absurd hi (Nat.not_lt_zero _)⟩
  refine and1 L1.x_ns.1 (and1 ⟨_, L1.x_ns.2, o3⟩ (and1 sn (mbQ (Q := fun M' => JX cs lim dE A q (F_Mo_clear n2 σ) M' ∧ Oth M M') ?_)))
  have L2 := L1.ext e2 (by decide)
  have t2 := t1.ext L1 e2 (by decide) (by decide) (by decide)
  have E2 := Ext.then L0.mok E1 e2 (by decide) (by decide) (by decide)
  generalize F_Ns_dropAll cs M1 A.ns = M2 at ns2 L2 t2 E2 ⊢
  -- what the effects take
  have nvg : ¬ NotV [(0, 2)] M2 A.gv := fun z => z A.x 0 2 (by decide) (by decide) L2.x_gv.1 L2.x_gv.2
  obtain ⟨s3, e3, v3, o3'⟩ := ar_fill0 (cs := cs) (lim := lim) (n := n) (y := 0) (V := [(0, 2)]) L2.x_gv.2 (by decide) (by omega) L2.mok L2.gv.1 L2.gv.2 nvg
  refine and1 L2.x_gv.1 (and1 s3 (mbQ (Q := fun M' => JX cs lim dE A q (F_Mo_clear n2 σ) M' ∧ Oth M M') ?_))
  have L3 := L2.ext e3 (by decide)
  have t3 := t2.ext L2 e3 (by decide) (by decide) (by decide)
  have ns3 := ns2.ext L2 e3 (by decide) (by decide) (by decide)
  have E3 := Ext.then L0.mok E2 e3 (by decide) (by decide) (by decide)
  generalize F_Ar_fill cs n M2 (cQ M2 A.x 2) 0 = M3 at L3 t3 ns3 E3 v3 ⊢
  -- what they give
  have nvr : ¬ NotV [(0, 3)] M3 A.rs := fun z => z A.x 0 3 (by decide) (by decide) L3.x_rs.1 L3.x_rs.2
  obtain ⟨s4, e4, v4, o4⟩ := ar_fill0 (cs := cs) (lim := lim) (n := n) (y := 0) (V := [(0, 3)]) L3.x_rs.2 (by decide) (by omega) L3.mok L3.rs.1 L3.rs.2 nvr
  refine and1 L3.x_rs.1 (and1 s4 (mbQ (Q := fun M' => JX cs lim dE A q (F_Mo_clear n2 σ) M' ∧ Oth M M') ?_))
  have L4 := L3.ext e4 (by decide)
  have t4 := t3.ext L3 e4 (by decide) (by decide) (by decide)
  have ns4 := ns3.ext L3 e4 (by decide) (by decide) (by decide)
  have E4 := Ext.then L0.mok E3 e4 (by decide) (by decide) (by decide)
  have w4 : EfIs A (F_Ar_fill cs n M3 (cQ M3 A.x 3) 0) ((F_Mo_clear n2 σ).2.2.1 24) ((F_Mo_clear n2 σ).2.2.1 25) := fun i hi => by
    rw [(ef i hi).1, (ef i hi).2]
    refine ⟨?_, v4 i hi⟩
    rw [aF_cong (o4 A.gv L3.gv_rs)]
    exact v3 i hi
  generalize F_Ar_fill cs n M3 (cQ M3 A.x 3) 0 = M4 at L4 t4 ns4 E4 w4 ⊢
  -- the checker
  have q4 : (cQ M4 A.x 4).getD 0 = A.ck := by rw [L4.x_ck.2]; rfl
  rw [q4]
  have o6 := L4.ck_0.1
  have p3 : cOk 6 (cP 6 M4 A.ck 5 (.int 0)) A.ck := cOk_putI (by decide) o6 o6
  have p4 : cOk 6 (cP 6 (cP 6 M4 A.ck 5 (.int 0)) A.ck 6 (.int (-1))) A.ck := cOk_putI (by decide) p3 p3
  have sf : S_Ck_forget cs lim M4 A.ck := ⟨o6, p3, p4, trivial⟩
  have e5 := x_Ck_forget cs lim M4 A.ck L4.mok sf
  refine and1 L4.x_ck.1 (and1 ⟨_, L4.x_ck.2, o6⟩ (and1 sf (mbQ (Q := fun M' => JX cs lim dE A q (F_Mo_clear n2 σ) M' ∧ Oth M M') ?_)))
  have L5 := L4.ext e5 (by decide)
  have t5 := t4.ext L4 e5 (by decide) (by decide) (by decide)
  have ns5 := ns4.ext L4 e5 (by decide) (by decide) (by decide)
  have w5 := w4.ext L4 e5 (by decide)
  have E5 := Ext.then L0.mok E4 e5 (by decide) (by decide) (by decide)
  generalize F_Ck_forget cs M4 A.ck = M5 at L5 t5 ns5 w5 E5 ⊢
  -- the machine
  have sz5 := E5.sz.2.2 rfl
  have h5 := hh.step (r1' := r1) (r2' := r2) E5 (by decide) (by decide) (hh.c4.ext E5 (by decide) (by decide)) (by rw [sz5]; omega) (by rw [sz5]; omega)
  have co5 : ∃ l : Nat, (cI M5 A.co 2).toInt = l := by rw [E5.xcI L0.co_0.1 (by decide)]; exact co
  have q6 : (cQ M5 A.x 6).getD 0 = A.ma := by rw [L5.x_ma.2]; rfl
  rw [q6]
  obtain ⟨su, h6, zz6, v2, v4'⟩ := ma_unload h5
  have e6 := x_Ma_unload cs lim M5 A.ma L5.mok su
  refine and1 L5.x_ma.1 (and1 ⟨_, L5.x_ma.2, L5.ma_0.1⟩ (and1 su (mbQ (Q := fun M' => JX cs lim dE A q (F_Mo_clear n2 σ) M' ∧ Oth M M') ⟨trivial, ?_⟩)))
  have t6 := t5.ext L5 e6 (by decide) (by decide) (by decide)
  have kc : KC cs lim dE A (q + 1) [] (F_Ma_unload cs M5 A.ma) := ⟨⟨r1, r2, g4, k4, K, Fs, Ts, h6, t6, b1, b2, b3⟩, Or.inl v4', by rw [e6.xcI L5.co_0.1 (by decide)]; exact co5⟩
  refine ⟨⟨[], 0, 0, 0, kc.less, ns5.ext L5 e6 (by decide) (by decide) (by decide), w5.ext L5 e6 (by decide), (fun x hx => absurd hx List.not_mem_nil), by decide, ⟨tk, fun t h1 h2 => absurd h2 (by show ¬ t < 3 + 0; omega), fun t h1 h2 => absurd h2 (by show ¬ t < 3 + 0; omega), fun t h1 h2 => absurd h2 (by show ¬ t < 3 + 0; omega)⟩, mi, fun i hi => absurd hi (Nat.not_lt_zero _), ?_⟩, fun a y h k => e6.oth (by decide) a y (E5.oth (by decide) a y h k) k⟩
  rw [v2, z36]
  exact ⟨fun _ => rfl, fun _ => rfl⟩
end
end
