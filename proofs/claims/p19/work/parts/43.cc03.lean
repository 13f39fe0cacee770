def F_Ck_lookFn (cs : Nat → ClassId) (n : Nat) (Lf : gMem → Nat → Int32 → Int32 → Int32 × gMem) (M : gMem) (a0 : Nat) (x1 : Option Nat) (x2 : Int32) : Int32 × gMem := mbind (F_Ck_rename cs M a0 (cI M (x1.getD 0) 2) (cI M (x1.getD 0) 1)) (fun w5 => mbind (Lf w5.2 a0 (cI w5.2 (x1.getD 0) 4) (x2 + 1)) (fun w9 => mbind (F_Ck_rename cs w9.2 a0 (cI w9.2 (x1.getD 0) 2) w5.1) (fun w13 => if w9.1 = (-1) then (((-1), w13.2)) else (mbind (F_Ck_typeIn cs w13.2 w9.1) (fun w18 => mbind (F_Ck_effectsIn cs w13.2 w9.1) (fun w20 => mbind (F_Ty_numberOf cs n w13.2 ((cQ w13.2 a0 1).getD 0) (cI w13.2 (x1.getD 0) 1) w18 w20) (fun w23 => mbind (F_Ck_seenAs cs w23.2 w23.1 0) (fun w25 => (w25, w23.2)))))))))
def S_Ck_lookFn (cs : Nat → ClassId) (lim : Nat × Nat) (n : Nat) (Lf : gMem → Nat → Int32 → Int32 → Int32 × gMem) (Ls : gMem → Nat → Int32 → Int32 → Prop) (M : gMem) (a0 : Nat) (x1 : Option Nat) (x2 : Int32) : Prop := (cOq 4 M x1) ∧ ((cOq 4 M x1) ∧ ((cOk 6 M a0) ∧ ((S_Ck_rename cs lim M a0 (cI M (x1.getD 0) 2) (cI M (x1.getD 0) 1)) ∧ (mbind (F_Ck_rename cs M a0 (cI M (x1.getD 0) 2) (cI M (x1.getD 0) 1)) (fun w5 => (cOq 4 w5.2 x1) ∧ ((cOk 6 w5.2 a0) ∧ ((Ls w5.2 a0 (cI w5.2 (x1.getD 0) 4) (x2 + 1)) ∧ (mbind (Lf w5.2 a0 (cI w5.2 (x1.getD 0) 4) (x2 + 1)) (fun w9 => (cOq 4 w9.2 x1) ∧ ((cOk 6 w9.2 a0) ∧ ((S_Ck_rename cs lim w9.2 a0 (cI w9.2 (x1.getD 0) 2) w5.1) ∧ (mbind (F_Ck_rename cs w9.2 a0 (cI w9.2 (x1.getD 0) 2) w5.1) (fun w13 => if w9.1 = (-1) then (True) else ((cOk 6 w13.2 a0) ∧ ((cOq 4 w13.2 x1) ∧ ((S_Ck_typeIn cs lim w13.2 w9.1) ∧ (mbind (F_Ck_typeIn cs w13.2 w9.1) (fun w18 => (S_Ck_effectsIn cs lim w13.2 w9.1) ∧ (mbind (F_Ck_effectsIn cs w13.2 w9.1) (fun w20 => (cOq 1 w13.2 (cQ w13.2 a0 1)) ∧ ((S_Ty_numberOf cs lim n w13.2 ((cQ w13.2 a0 1).getD 0) (cI w13.2 (x1.getD 0) 1) w18 w20) ∧ (mbind (F_Ty_numberOf cs n w13.2 ((cQ w13.2 a0 1).getD 0) (cI w13.2 (x1.getD 0) 1) w18 w20) (fun w23 => (S_Ck_seenAs cs lim w23.2 w23.1 0) ∧ (mbind (F_Ck_seenAs cs w23.2 w23.1 0) (fun w25 => True)))))))))))))))))))))))))
set_option maxRecDepth 100000 in
set_option maxHeartbeats 4000000 in
theorem cc_Ck_lookFn (l : Launch) (hf : l.flags = pinnedFlags ++ [noTraceFlag]) (D : va_G) (cs : Nat → ClassId) (B : Nat) (dE : Nat × Nat) (lim : Nat × Nat) (n : Nat) (Lf : gMem → Nat → Int32 → Int32 → Int32 × gMem) (Ls : gMem → Nat → Int32 → Int32 → Prop) (frL loL : Nat) (hL : ∀ (M : gMem) (a0 : Nat) (x1 x2 : Int32), Ls M a0 x1 x2 → cMet l y_Ck_look (Cond.code y_Ck_look c_Ck_look 4 (some .int)) frL loL D cs B dE (gA B) lim [.ref a0, .int x1, .int x2] M (fun x M' => x = .inl (some (.int ((Lf M a0 x1 x2).1))) ∧ M' = (Lf M a0 x1 x2).2)) (M : gMem) (a0 : Nat) (x1 : Option Nat) (x2 : Int32) (hS : S_Ck_lookFn cs lim n Lf Ls M a0 x1 x2) : cMet l y_Ck_lookFn (Cond.code y_Ck_lookFn c_Ck_lookFn 5 (some .int)) (frL + 8) (loL + 280) D cs B dE (gA B) lim [.ref a0, va_rf x1, .int x2] M (fun x M' => x = .inl (some (.int ((F_Ck_lookFn cs n Lf M a0 x1 x2).1))) ∧ M' = (F_Ck_lookFn cs n Lf M a0 x1 x2).2) := by
  refine cMet.ofW (by decide) (by cases x1 <;> exact Nat.le_of_ble_eq_true rfl) (lv0 := [(0, .ref a0), (1, va_rf x1), (2, .int x2)]) (by cases x1 <;> rfl) ?_
  intro p e s m args below meth c C hE hR0 hle hr hlocks hex hn
  generalize hF : F_Ck_lookFn cs n Lf M a0 x1 x2 = Fv
  unfold F_Ck_lookFn at hF
  unfold S_Ck_lookFn at hS
  refine g_aload_n C d_Ck_lookFn_0 rfl ?_
  refine q_aload_n (r := x1) C d_Ck_lookFn_1 rfl ?_
  obtain ⟨ho1, hS⟩ := hS
  refine GW.known1 (a := x1.getD 0) (cOq.at ho1).1 ?_
  refine c_geti C hE.1 (ci := 4) i_No rfl 2 (by decide) (by decide) (by decide) kf_Ck_120 d_Ck_lookFn_2 (cOq.at ho1).2 ?_
  refine q_aload_n (r := x1) C d_Ck_lookFn_5 rfl ?_
  obtain ⟨ho2, hS⟩ := hS
  refine GW.known1 (a := x1.getD 0) (cOq.at ho2).1 ?_
  refine c_geti C hE.1 (ci := 4) i_No rfl 1 (by decide) (by decide) (by decide) kf_Ck_114 d_Ck_lookFn_6 (cOq.at ho2).2 ?_
  refine GW.more (A' := gA B) (fun _ h => h.elim) ?_
  obtain ⟨ho3, hS⟩ := hS
  obtain ⟨hs4, hS⟩ := hS
  refine c_call (av := [.ref a0, .int (cI M (x1.getD 0) 2), .int (cI M (x1.getD 0) 1)]) (rest := []) C hE (fun _ h => h) ⟨rfl, rfl⟩ hle (cc_Ck_rename l hf D cs B dE lim _ a0 (cI M (x1.getD 0) 2) (cI M (x1.getD 0) 1) hs4) (fun _ h => h) kd_Ck_rename ki_Ck (by dsimp only; omega) (by dsimp only; omega) d_Ck_lookFn_9 (Nat.le_of_ble_eq_true rfl) (c_fV (n := 2) (ci := 6) C hE.1 rfl km_Ck_123 kv_Ck_rename kl_Ck_rename kd_Ck_rename ⟨by decide, by decide, by decide⟩ rfl rfl d_Ck_lookFn_9 ho3) (fun v1 M1 hv hle => ?_) (fun E1 M1 hv hle => ?_)
  · rw [mbind_eq] at hF hS
    obtain ⟨hx, hM1⟩ := hv
    have hM2 := hM1.symm
    subst hM2
    generalize hq_w5 : F_Ck_rename cs M a0 (cI M (x1.getD 0) 2) (cI M (x1.getD 0) 1) = w5 at hF hS hx hle ⊢
    cases hx
    refine GW.eqs (st' := [.int w5.1]) rfl ?_
    refine g_istore_n (lv' := [(3, .int w5.1), (0, .ref a0), (1, va_rf x1), (2, .int x2)]) C d_Ck_lookFn_12 (by decide) rfl ?_
    refine g_aload_n C d_Ck_lookFn_13 rfl ?_
    refine q_aload_n (r := x1) C d_Ck_lookFn_14 rfl ?_
    obtain ⟨ho6, hS⟩ := hS
    refine GW.known1 (a := x1.getD 0) (cOq.at ho6).1 ?_
    refine c_geti C hE.1 (ci := 4) i_No rfl 4 (by decide) (by decide) (by decide) kf_Ck_117 d_Ck_lookFn_15 (cOq.at ho6).2 ?_
    refine g_iload_n C d_Ck_lookFn_18 rfl ?_
    refine g_iconst (v := 1) C d_Ck_lookFn_19 (by decide) ?_
    refine g_iadd C d_Ck_lookFn_20 ?_
    obtain ⟨ho7, hS⟩ := hS
    obtain ⟨hs8, hS⟩ := hS
    refine c_call (av := [.ref a0, .int (cI w5.2 (x1.getD 0) 4), .int (x2 + 1)]) (rest := []) C hE (fun _ h => h) ⟨rfl, rfl⟩ hle (hL _ a0 (cI w5.2 (x1.getD 0) 4) (x2 + 1) hs8) (fun _ h => h) kd_Ck_look ki_Ck (by dsimp only; omega) (by dsimp only; omega) d_Ck_lookFn_21 (Nat.le_of_ble_eq_true rfl) (c_fV (n := 2) (ci := 6) C hE.1 rfl km_Ck_54 kv_Ck_look kl_Ck_look kd_Ck_look ⟨by decide, by decide, by decide⟩ rfl rfl d_Ck_lookFn_21 ho7) (fun v1 M1 hv hle => ?_) (fun E1 M1 hv hle => ?_)
    · rw [mbind_eq] at hF hS
      obtain ⟨hx, hM1⟩ := hv
      have hM2 := hM1.symm
      subst hM2
      generalize hq_w9 : Lf w5.2 a0 (cI w5.2 (x1.getD 0) 4) (x2 + 1) = w9 at hF hS hx hle ⊢
      cases hx
      refine GW.eqs (st' := [.int w9.1]) rfl ?_
      refine g_istore (lv' := [(4, .int w9.1), (3, .int w5.1), (0, .ref a0), (1, va_rf x1), (2, .int x2)]) C d_Ck_lookFn_24 (by decide) rfl ?_
      refine g_aload_n C d_Ck_lookFn_26 rfl ?_
      refine q_aload_n (r := x1) C d_Ck_lookFn_27 rfl ?_
      obtain ⟨ho10, hS⟩ := hS
      refine GW.known1 (a := x1.getD 0) (cOq.at ho10).1 ?_
      refine c_geti C hE.1 (ci := 4) i_No rfl 2 (by decide) (by decide) (by decide) kf_Ck_120 d_Ck_lookFn_28 (cOq.at ho10).2 ?_
      refine g_iload_n C d_Ck_lookFn_31 rfl ?_
      obtain ⟨ho11, hS⟩ := hS
      obtain ⟨hs12, hS⟩ := hS
      refine c_call (av := [.ref a0, .int (cI w9.2 (x1.getD 0) 2), .int w5.1]) (rest := []) C hE (fun _ h => h) ⟨rfl, rfl⟩ hle (cc_Ck_rename l hf D cs B dE lim _ a0 (cI w9.2 (x1.getD 0) 2) w5.1 hs12) (fun _ h => h) kd_Ck_rename ki_Ck (by dsimp only; omega) (by dsimp only; omega) d_Ck_lookFn_32 (Nat.le_of_ble_eq_true rfl) (c_fV (n := 2) (ci := 6) C hE.1 rfl km_Ck_123 kv_Ck_rename kl_Ck_rename kd_Ck_rename ⟨by decide, by decide, by decide⟩ rfl rfl d_Ck_lookFn_32 ho11) (fun v1 M1 hv hle => ?_) (fun E1 M1 hv hle => ?_)
      · rw [mbind_eq] at hF hS
        obtain ⟨hx, hM1⟩ := hv
        have hM2 := hM1.symm
        subst hM2
        generalize hq_w13 : F_Ck_rename cs w9.2 a0 (cI w9.2 (x1.getD 0) 2) w5.1 = w13 at hF hS hx hle ⊢
        cases hx
        refine GW.eqs (st' := [.int w13.1]) rfl ?_
        refine g_pop C d_Ck_lookFn_35 rfl ?_
        refine g_iload C d_Ck_lookFn_36 rfl ?_
        refine g_iconst (v := (-1)) C d_Ck_lookFn_38 (by decide) ?_
        refine g_icmp_ne C 44 d_Ck_lookFn_39 (by decide) (fun hc14 => ?_) (fun hc14 => ?_)
        · rw [if_neg hc14] at hF hS
          refine g_aload_n C d_Ck_lookFn_44 rfl ?_
          obtain ⟨ho15, hS⟩ := hS
          refine c_getq C hE.1 (ci := 6) i_Ck rfl 1 (by decide) (by decide) (by decide) kf_Ck_19 d_Ck_lookFn_45 ho15 ?_
          refine q_aload_n (r := x1) C d_Ck_lookFn_48 rfl ?_
          obtain ⟨ho16, hS⟩ := hS
          refine GW.known1 (a := x1.getD 0) (cOq.at ho16).1 ?_
          refine c_geti C hE.1 (ci := 4) i_No rfl 1 (by decide) (by decide) (by decide) kf_Ck_114 d_Ck_lookFn_49 (cOq.at ho16).2 ?_
          refine g_iload C d_Ck_lookFn_52 rfl ?_
          obtain ⟨hs17, hS⟩ := hS
          refine c_call (av := [.int w9.1]) (rest := [.int (cI w13.2 (x1.getD 0) 1), va_rf (cQ w13.2 a0 1)]) C hE (fun _ h => h) ⟨rfl, rfl⟩ hle (cc_Ck_typeIn l hf D cs B dE lim _ w9.1 hs17) (fun _ h => h.elim) kd_Ck_typeIn ki_Ck (by dsimp only; omega) (by dsimp only; omega) d_Ck_lookFn_54 (by simp only [List.map_cons, List.map_nil, rf_cat, List.sum_cons, List.sum_nil]; exact Nat.le_of_ble_eq_true rfl) (c_fS (n := 1) C km_Ck_69 ks_Ck_typeIn ki_Ck kd_Ck_typeIn ⟨by decide, by decide, by decide⟩ rfl rfl d_Ck_lookFn_54) (fun v1 M1 hv hle => ?_) (fun E1 M1 hv hle => ?_)
          · rw [mbind_eq] at hF hS
            obtain ⟨hx, hM1⟩ := hv
            have hM2 := hM1.symm
            subst hM2
            generalize hq_w18 : F_Ck_typeIn cs w13.2 w9.1 = w18 at hF hS hx hle ⊢
            cases hx
            refine GW.eqs (st' := [.int w18, .int (cI w13.2 (x1.getD 0) 1), va_rf (cQ w13.2 a0 1)]) rfl ?_
            refine g_iload C d_Ck_lookFn_57 rfl ?_
            obtain ⟨hs19, hS⟩ := hS
            refine c_call (av := [.int w9.1]) (rest := [.int w18, .int (cI w13.2 (x1.getD 0) 1), va_rf (cQ w13.2 a0 1)]) C hE (fun _ h => h) ⟨rfl, rfl⟩ hle (cc_Ck_effectsIn l hf D cs B dE lim _ w9.1 hs19) (fun _ h => h.elim) kd_Ck_effectsIn ki_Ck (by dsimp only; omega) (by dsimp only; omega) d_Ck_lookFn_59 (by simp only [List.map_cons, List.map_nil, rf_cat, List.sum_cons, List.sum_nil]; exact Nat.le_of_ble_eq_true rfl) (c_fS (n := 1) C km_Ck_65 ks_Ck_effectsIn ki_Ck kd_Ck_effectsIn ⟨by decide, by decide, by decide⟩ rfl rfl d_Ck_lookFn_59) (fun v1 M1 hv hle => ?_) (fun E1 M1 hv hle => ?_)
            · rw [mbind_eq] at hF hS
              obtain ⟨hx, hM1⟩ := hv
              have hM2 := hM1.symm
              subst hM2
              generalize hq_w20 : F_Ck_effectsIn cs w13.2 w9.1 = w20 at hF hS hx hle ⊢
              cases hx
              refine GW.eqs (st' := [.int w20, .int w18, .int (cI w13.2 (x1.getD 0) 1), va_rf (cQ w13.2 a0 1)]) rfl ?_
              obtain ⟨ho21, hS⟩ := hS
              refine GW.known4 (a := (cQ w13.2 a0 1).getD 0) (cOq.at ho21).1 ?_
              obtain ⟨hs22, hS⟩ := hS
              refine c_call (av := [.ref ((cQ w13.2 a0 1).getD 0), .int (cI w13.2 (x1.getD 0) 1), .int w18, .int w20]) (rest := []) C hE (fun _ h => h) ⟨rfl, rfl⟩ hle (cc_Ty_numberOf l hf D cs B dE lim n _ ((cQ w13.2 a0 1).getD 0) (cI w13.2 (x1.getD 0) 1) w18 w20 hs22) (fun _ h => h) kd_Ty_numberOf ki_Ty (by dsimp only; omega) (by dsimp only; omega) d_Ck_lookFn_62 (Nat.le_of_ble_eq_true rfl) (c_fV (n := 3) (ci := 1) C hE.1 rfl km_Ck_155 kv_Ty_numberOf kl_Ty_numberOf kd_Ty_numberOf ⟨by decide, by decide, by decide⟩ rfl rfl d_Ck_lookFn_62 (cOq.at ho21).2) (fun v1 M1 hv hle => ?_) (fun E1 M1 hv hle => ?_)
              · rw [mbind_eq] at hF hS
                obtain ⟨hx, hM1⟩ := hv
                have hM2 := hM1.symm
                subst hM2
                generalize hq_w23 : F_Ty_numberOf cs n w13.2 ((cQ w13.2 a0 1).getD 0) (cI w13.2 (x1.getD 0) 1) w18 w20 = w23 at hF hS hx hle ⊢
                cases hx
                refine GW.eqs (st' := [.int w23.1]) rfl ?_
                refine g_iconst (v := 0) C d_Ck_lookFn_65 (by decide) ?_
                obtain ⟨hs24, hS⟩ := hS
                refine c_call (av := [.int w23.1, .int 0]) (rest := []) C hE (fun _ h => h) ⟨rfl, rfl⟩ hle (cc_Ck_seenAs l hf D cs B dE lim _ w23.1 0 hs24) (fun _ h => h.elim) kd_Ck_seenAs ki_Ck (by dsimp only; omega) (by dsimp only; omega) d_Ck_lookFn_66 (Nat.le_of_ble_eq_true rfl) (c_fS (n := 2) C km_Ck_83 ks_Ck_seenAs ki_Ck kd_Ck_seenAs ⟨by decide, by decide, by decide⟩ rfl rfl d_Ck_lookFn_66) (fun v1 M1 hv hle => ?_) (fun E1 M1 hv hle => ?_)
                · rw [mbind_eq] at hF hS
                  obtain ⟨hx, hM1⟩ := hv
                  have hM2 := hM1.symm
                  subst hM2
                  generalize hq_w25 : F_Ck_seenAs cs w23.2 w23.1 0 = w25 at hF hS hx hle ⊢
                  cases hx
                  refine GW.eqs (st' := [.int w25]) rfl ?_
                  exact c_iret (M := w23.2) C hr hlocks hle d_Ck_lookFn_69 (by rw [← hF]; exact ⟨rfl, rfl⟩)
                · cases hv.1
              · cases hv.1
            · cases hv.1
          · cases hv.1
        · rw [if_pos hc14] at hF hS
          refine g_iconst (v := (-1)) C d_Ck_lookFn_42 (by decide) ?_
          exact c_iret (M := w13.2) C hr hlocks hle d_Ck_lookFn_43 (by rw [← hF]; exact ⟨rfl, rfl⟩)
      · cases hv.1
    · cases hv.1
  · cases hv.1
def F_Ck_clauseKeepsTo (cs : Nat → ClassId) (n : Nat) (Lf : gMem → Nat → Int32 → Int32 → Int32 × gMem) (M : gMem) (a0 : Nat) (x1 : Option Nat) (x2 : Int32) (x3 : Int32) (x4 : Int32) : Int32 × gMem := if (cI M (x1.getD 0) 0) < 0 then ((0, M)) else (if (cI M (x1.getD 0) 0) < 8 then (mbind (F_Ty_numberOf cs n M ((cQ M a0 1).getD 0) (aF M ((cQ M a0 3).getD 0) (cI M (x1.getD 0) 0).toNatClampNeg) x2 x3) (fun w10 => mbind (F_Ck_rename cs w10.2 a0 (cI w10.2 (x1.getD 0) 1) (aF w10.2 ((cQ w10.2 a0 2).getD 0) (cI M (x1.getD 0) 0).toNatClampNeg)) (fun w17 => mbind (F_Ck_rename cs w17.2 a0 (cI w17.2 (x1.getD 0) 2) w10.1) (fun w21 => mbind (Lf w21.2 a0 (cI w21.2 (x1.getD 0) 3) (x4 + 1)) (fun w25 => mbind (F_Ck_rename cs w25.2 a0 (cI w25.2 (x1.getD 0) 2) w21.1) (fun w29 => mbind (F_Ck_rename cs w29.2 a0 (cI w29.2 (x1.getD 0) 1) w17.1) (fun w33 => if w25.1 = (-1) then ((0, w33.2)) else (mbind (F_Ck_typeIn cs w33.2 w25.1) (fun w37 => mbind (F_Ty_suits cs w33.2 ((cQ w33.2 a0 1).getD 0) w37 x2) (fun w40 => if w40 = 0 then (mbind (F_Ck_blame cs w33.2 a0 6 (cI w33.2 (x1.getD 0) 3)) (fun w54 => (0, w54.2))) else (mbind (F_Ck_effectsIn cs w33.2 w25.1) (fun w43 => mbind (F_N_isWithin cs w33.2 w43 x3) (fun w45 => if w45 = 0 then (mbind (F_Ck_blame cs w33.2 a0 7 (cI w33.2 (x1.getD 0) 3)) (fun w50 => (0, w50.2))) else ((1, w33.2))))))))))))))) else ((0, M)))
def S_Ck_clauseKeepsTo (cs : Nat → ClassId) (lim : Nat × Nat) (n : Nat) (Lf : gMem → Nat → Int32 → Int32 → Int32 × gMem) (Ls : gMem → Nat → Int32 → Int32 → Prop) (M : gMem) (a0 : Nat) (x1 : Option Nat) (x2 : Int32) (x3 : Int32) (x4 : Int32) : Prop := (cOq 5 M x1) ∧ (if (cI M (x1.getD 0) 0) < 0 then (True) else (if (cI M (x1.getD 0) 0) < 8 then ((cOk 6 M a0) ∧ ((cOk 6 M a0) ∧ ((cQ M a0 3 = some ((cQ M a0 3).getD 0) ∧ aIk (cs 0) M ((cQ M a0 3).getD 0)) ∧ ((vp_in (cI M (x1.getD 0) 0) (aL M ((cQ M a0 3).getD 0))) ∧ ((cOq 1 M (cQ M a0 1)) ∧ ((S_Ty_numberOf cs lim n M ((cQ M a0 1).getD 0) (aF M ((cQ M a0 3).getD 0) (cI M (x1.getD 0) 0).toNatClampNeg) x2 x3) ∧ (mbind (F_Ty_numberOf cs n M ((cQ M a0 1).getD 0) (aF M ((cQ M a0 3).getD 0) (cI M (x1.getD 0) 0).toNatClampNeg) x2 x3) (fun w10 => (cOq 5 w10.2 x1) ∧ ((cOk 6 w10.2 a0) ∧ ((cQ w10.2 a0 2 = some ((cQ w10.2 a0 2).getD 0) ∧ aIk (cs 0) w10.2 ((cQ w10.2 a0 2).getD 0)) ∧ ((vp_in (cI M (x1.getD 0) 0) (aL w10.2 ((cQ w10.2 a0 2).getD 0))) ∧ ((cOk 6 w10.2 a0) ∧ ((S_Ck_rename cs lim w10.2 a0 (cI w10.2 (x1.getD 0) 1) (aF w10.2 ((cQ w10.2 a0 2).getD 0) (cI M (x1.getD 0) 0).toNatClampNeg)) ∧ (mbind (F_Ck_rename cs w10.2 a0 (cI w10.2 (x1.getD 0) 1) (aF w10.2 ((cQ w10.2 a0 2).getD 0) (cI M (x1.getD 0) 0).toNatClampNeg)) (fun w17 => (cOq 5 w17.2 x1) ∧ ((cOk 6 w17.2 a0) ∧ ((S_Ck_rename cs lim w17.2 a0 (cI w17.2 (x1.getD 0) 2) w10.1) ∧ (mbind (F_Ck_rename cs w17.2 a0 (cI w17.2 (x1.getD 0) 2) w10.1) (fun w21 => (cOq 5 w21.2 x1) ∧ ((cOk 6 w21.2 a0) ∧ ((Ls w21.2 a0 (cI w21.2 (x1.getD 0) 3) (x4 + 1)) ∧ (mbind (Lf w21.2 a0 (cI w21.2 (x1.getD 0) 3) (x4 + 1)) (fun w25 => (cOq 5 w25.2 x1) ∧ ((cOk 6 w25.2 a0) ∧ ((S_Ck_rename cs lim w25.2 a0 (cI w25.2 (x1.getD 0) 2) w21.1) ∧ (mbind (F_Ck_rename cs w25.2 a0 (cI w25.2 (x1.getD 0) 2) w21.1) (fun w29 => (cOq 5 w29.2 x1) ∧ ((cOk 6 w29.2 a0) ∧ ((S_Ck_rename cs lim w29.2 a0 (cI w29.2 (x1.getD 0) 1) w17.1) ∧ (mbind (F_Ck_rename cs w29.2 a0 (cI w29.2 (x1.getD 0) 1) w17.1) (fun w33 => if w25.1 = (-1) then (True) else ((cOk 6 w33.2 a0) ∧ ((S_Ck_typeIn cs lim w33.2 w25.1) ∧ (mbind (F_Ck_typeIn cs w33.2 w25.1) (fun w37 => (cOq 1 w33.2 (cQ w33.2 a0 1)) ∧ ((S_Ty_suits cs lim w33.2 ((cQ w33.2 a0 1).getD 0) w37 x2) ∧ (mbind (F_Ty_suits cs w33.2 ((cQ w33.2 a0 1).getD 0) w37 x2) (fun w40 => if w40 = 0 then ((cOq 5 w33.2 x1) ∧ ((cOk 6 w33.2 a0) ∧ ((S_Ck_blame cs lim w33.2 a0 6 (cI w33.2 (x1.getD 0) 3)) ∧ (mbind (F_Ck_blame cs w33.2 a0 6 (cI w33.2 (x1.getD 0) 3)) (fun w54 => True))))) else ((S_Ck_effectsIn cs lim w33.2 w25.1) ∧ (mbind (F_Ck_effectsIn cs w33.2 w25.1) (fun w43 => (S_N_isWithin cs lim w33.2 w43 x3) ∧ (mbind (F_N_isWithin cs w33.2 w43 x3) (fun w45 => if w45 = 0 then ((cOq 5 w33.2 x1) ∧ ((cOk 6 w33.2 a0) ∧ ((S_Ck_blame cs lim w33.2 a0 7 (cI w33.2 (x1.getD 0) 3)) ∧ (mbind (F_Ck_blame cs w33.2 a0 7 (cI w33.2 (x1.getD 0) 3)) (fun w50 => True))))) else (True)))))))))))))))))))))))))))))))))))))))))))) else (True)))
set_option maxRecDepth 100000 in
set_option maxHeartbeats 4000000 in
theorem cc_Ck_clauseKeepsTo (l : Launch) (hf : l.flags = pinnedFlags ++ [noTraceFlag]) (D : va_G) (cs : Nat → ClassId) (B : Nat) (dE : Nat × Nat) (lim : Nat × Nat) (n : Nat) (Lf : gMem → Nat → Int32 → Int32 → Int32 × gMem) (Ls : gMem → Nat → Int32 → Int32 → Prop) (frL loL : Nat) (hL : ∀ (M : gMem) (a0 : Nat) (x1 x2 : Int32), Ls M a0 x1 x2 → cMet l y_Ck_look (Cond.code y_Ck_look c_Ck_look 4 (some .int)) frL loL D cs B dE (gA B) lim [.ref a0, .int x1, .int x2] M (fun x M' => x = .inl (some (.int ((Lf M a0 x1 x2).1))) ∧ M' = (Lf M a0 x1 x2).2)) (M : gMem) (a0 : Nat) (x1 : Option Nat) (x2 : Int32) (x3 : Int32) (x4 : Int32) (hS : S_Ck_clauseKeepsTo cs lim n Lf Ls M a0 x1 x2 x3 x4) : cMet l y_Ck_clauseKeepsTo (Cond.code y_Ck_clauseKeepsTo c_Ck_clauseKeepsTo 10 (some .boolean)) (frL + 8) (loL + 280) D cs B dE (gA B) lim [.ref a0, va_rf x1, .int x2, .int x3, .int x4] M (fun x M' => x = .inl (some (.int ((F_Ck_clauseKeepsTo cs n Lf M a0 x1 x2 x3 x4).1))) ∧ M' = (F_Ck_clauseKeepsTo cs n Lf M a0 x1 x2 x3 x4).2) := by
  refine cMet.ofW (by decide) (by cases x1 <;> exact Nat.le_of_ble_eq_true rfl) (lv0 := [(0, .ref a0), (1, va_rf x1), (2, .int x2), (3, .int x3), (4, .int x4)]) (by cases x1 <;> rfl) ?_
  intro p e s m args below meth c C hE hR0 hle hr hlocks hex hn
  generalize hF : F_Ck_clauseKeepsTo cs n Lf M a0 x1 x2 x3 x4 = Fv
  unfold F_Ck_clauseKeepsTo at hF
  unfold S_Ck_clauseKeepsTo at hS
  refine q_aload_n (r := x1) C d_Ck_clauseKeepsTo_0 rfl ?_
  obtain ⟨ho1, hS⟩ := hS
  refine GW.known1 (a := x1.getD 0) (cOq.at ho1).1 ?_
  refine c_geti C hE.1 (ci := 5) i_Cl rfl 0 (by decide) (by decide) (by decide) kf_Ck_173 d_Ck_clauseKeepsTo_1 (cOq.at ho1).2 ?_
  refine g_istore (lv' := [(5, .int (cI M (x1.getD 0) 0)), (0, .ref a0), (1, va_rf x1), (2, .int x2), (3, .int x3), (4, .int x4)]) C d_Ck_clauseKeepsTo_4 (by decide) rfl ?_
  refine g_iload C d_Ck_clauseKeepsTo_6 rfl ?_
  refine g_if_lt C 18 d_Ck_clauseKeepsTo_8 (by decide) (fun hc2 => ?_) (fun hc2 => ?_)
  · rw [if_pos hc2] at hF hS
    refine g_iconst (v := 0) C d_Ck_clauseKeepsTo_18 (by decide) ?_
    refine GW.more (A' := gA B) (fun _ h => h.elim) ?_
    exact c_zret (M := M) C hr hlocks hle (by decide) d_Ck_clauseKeepsTo_19 (by rw [← hF]; exact ⟨rfl, rfl⟩)
  · rw [if_neg hc2] at hF hS
    refine g_iload C d_Ck_clauseKeepsTo_11 rfl ?_
    refine g_bipush (v := 8) C d_Ck_clauseKeepsTo_13 (by decide) ?_
    refine g_icmp_lt C 20 d_Ck_clauseKeepsTo_15 (by decide) (fun hc3 => ?_) (fun hc3 => ?_)
    · rw [if_pos hc3] at hF hS
      refine g_aload_n C d_Ck_clauseKeepsTo_20 rfl ?_
      obtain ⟨ho4, hS⟩ := hS
      refine c_getq C hE.1 (ci := 6) i_Ck rfl 1 (by decide) (by decide) (by decide) kf_Ck_19 d_Ck_clauseKeepsTo_21 ho4 ?_
      refine g_aload_n C d_Ck_clauseKeepsTo_24 rfl ?_
      obtain ⟨ho5, hS⟩ := hS
      refine c_getq C hE.1 (ci := 6) i_Ck rfl 3 (by decide) (by decide) (by decide) kf_Ck_26 d_Ck_clauseKeepsTo_25 ho5 ?_
      refine g_iload C d_Ck_clauseKeepsTo_28 rfl ?_
      obtain ⟨ha6, hS⟩ := hS
      refine GW.known2 (a := (cQ M a0 3).getD 0) ha6.1 ?_
      obtain ⟨hi7, hS⟩ := hS
      refine c_iald C hE.1 d_Ck_clauseKeepsTo_30 ha6.2 hi7 ?_
      refine g_iload_n C d_Ck_clauseKeepsTo_31 rfl ?_
      refine g_iload_n C d_Ck_clauseKeepsTo_32 rfl ?_
      refine GW.more (A' := gA B) (fun _ h => h.elim) ?_
      obtain ⟨ho8, hS⟩ := hS
      refine GW.known4 (a := (cQ M a0 1).getD 0) (cOq.at ho8).1 ?_
      obtain ⟨hs9, hS⟩ := hS
      refine c_call (av := [.ref ((cQ M a0 1).getD 0), .int (aF M ((cQ M a0 3).getD 0) (cI M (x1.getD 0) 0).toNatClampNeg), .int x2, .int x3]) (rest := []) C hE (fun _ h => h) ⟨rfl, rfl⟩ hle (cc_Ty_numberOf l hf D cs B dE lim n _ ((cQ M a0 1).getD 0) (aF M ((cQ M a0 3).getD 0) (cI M (x1.getD 0) 0).toNatClampNeg) x2 x3 hs9) (fun _ h => h) kd_Ty_numberOf ki_Ty (by dsimp only; omega) (by dsimp only; omega) d_Ck_clauseKeepsTo_33 (Nat.le_of_ble_eq_true rfl) (c_fV (n := 3) (ci := 1) C hE.1 rfl km_Ck_155 kv_Ty_numberOf kl_Ty_numberOf kd_Ty_numberOf ⟨by decide, by decide, by decide⟩ rfl rfl d_Ck_clauseKeepsTo_33 (cOq.at ho8).2) (fun v1 M1 hv hle => ?_) (fun E1 M1 hv hle => ?_)
      · rw [mbind_eq] at hF hS
        obtain ⟨hx, hM1⟩ := hv
        have hM2 := hM1.symm
        subst hM2
        generalize hq_w10 : F_Ty_numberOf cs n M ((cQ M a0 1).getD 0) (aF M ((cQ M a0 3).getD 0) (cI M (x1.getD 0) 0).toNatClampNeg) x2 x3 = w10 at hF hS hx hle ⊢
        cases hx
        refine GW.eqs (st' := [.int w10.1]) rfl ?_
        refine g_istore (lv' := [(6, .int w10.1), (5, .int (cI M (x1.getD 0) 0)), (0, .ref a0), (1, va_rf x1), (2, .int x2), (3, .int x3), (4, .int x4)]) C d_Ck_clauseKeepsTo_36 (by decide) rfl ?_
        refine g_aload_n C d_Ck_clauseKeepsTo_38 rfl ?_
        refine q_aload_n (r := x1) C d_Ck_clauseKeepsTo_39 rfl ?_
        obtain ⟨ho11, hS⟩ := hS
        refine GW.known1 (a := x1.getD 0) (cOq.at ho11).1 ?_
        refine c_geti C hE.1 (ci := 5) i_Cl rfl 1 (by decide) (by decide) (by decide) kf_Ck_185 d_Ck_clauseKeepsTo_40 (cOq.at ho11).2 ?_
        refine g_aload_n C d_Ck_clauseKeepsTo_43 rfl ?_
        obtain ⟨ho12, hS⟩ := hS
        refine c_getq C hE.1 (ci := 6) i_Ck rfl 2 (by decide) (by decide) (by decide) kf_Ck_23 d_Ck_clauseKeepsTo_44 ho12 ?_
        refine g_iload C d_Ck_clauseKeepsTo_47 rfl ?_
        obtain ⟨ha13, hS⟩ := hS
        refine GW.known2 (a := (cQ w10.2 a0 2).getD 0) ha13.1 ?_
        obtain ⟨hi14, hS⟩ := hS
        refine c_iald C hE.1 d_Ck_clauseKeepsTo_49 ha13.2 hi14 ?_
        obtain ⟨ho15, hS⟩ := hS
        obtain ⟨hs16, hS⟩ := hS
        refine c_call (av := [.ref a0, .int (cI w10.2 (x1.getD 0) 1), .int (aF w10.2 ((cQ w10.2 a0 2).getD 0) (cI M (x1.getD 0) 0).toNatClampNeg)]) (rest := []) C hE (fun _ h => h) ⟨rfl, rfl⟩ hle (cc_Ck_rename l hf D cs B dE lim _ a0 (cI w10.2 (x1.getD 0) 1) (aF w10.2 ((cQ w10.2 a0 2).getD 0) (cI M (x1.getD 0) 0).toNatClampNeg) hs16) (fun _ h => h) kd_Ck_rename ki_Ck (by dsimp only; omega) (by dsimp only; omega) d_Ck_clauseKeepsTo_50 (Nat.le_of_ble_eq_true rfl) (c_fV (n := 2) (ci := 6) C hE.1 rfl km_Ck_123 kv_Ck_rename kl_Ck_rename kd_Ck_rename ⟨by decide, by decide, by decide⟩ rfl rfl d_Ck_clauseKeepsTo_50 ho15) (fun v1 M1 hv hle => ?_) (fun E1 M1 hv hle => ?_)
        · rw [mbind_eq] at hF hS
          obtain ⟨hx, hM1⟩ := hv
          have hM2 := hM1.symm
          subst hM2
          generalize hq_w17 : F_Ck_rename cs w10.2 a0 (cI w10.2 (x1.getD 0) 1) (aF w10.2 ((cQ w10.2 a0 2).getD 0) (cI M (x1.getD 0) 0).toNatClampNeg) = w17 at hF hS hx hle ⊢
          cases hx
          refine GW.eqs (st' := [.int w17.1]) rfl ?_
          refine g_istore (lv' := [(7, .int w17.1), (6, .int w10.1), (5, .int (cI M (x1.getD 0) 0)), (0, .ref a0), (1, va_rf x1), (2, .int x2), (3, .int x3), (4, .int x4)]) C d_Ck_clauseKeepsTo_53 (by decide) rfl ?_
          refine g_aload_n C d_Ck_clauseKeepsTo_55 rfl ?_
          refine q_aload_n (r := x1) C d_Ck_clauseKeepsTo_56 rfl ?_
          obtain ⟨ho18, hS⟩ := hS
          refine GW.known1 (a := x1.getD 0) (cOq.at ho18).1 ?_
          refine c_geti C hE.1 (ci := 5) i_Cl rfl 2 (by decide) (by decide) (by decide) kf_Ck_188 d_Ck_clauseKeepsTo_57 (cOq.at ho18).2 ?_
          refine g_iload C d_Ck_clauseKeepsTo_60 rfl ?_
          obtain ⟨ho19, hS⟩ := hS
          obtain ⟨hs20, hS⟩ := hS
          refine c_call (av := [.ref a0, .int (cI w17.2 (x1.getD 0) 2), .int w10.1]) (rest := []) C hE (fun _ h => h) ⟨rfl, rfl⟩ hle (cc_Ck_rename l hf D cs B dE lim _ a0 (cI w17.2 (x1.getD 0) 2) w10.1 hs20) (fun _ h => h) kd_Ck_rename ki_Ck (by dsimp only; omega) (by dsimp only; omega) d_Ck_clauseKeepsTo_62 (Nat.le_of_ble_eq_true rfl) (c_fV (n := 2) (ci := 6) C hE.1 rfl km_Ck_123 kv_Ck_rename kl_Ck_rename kd_Ck_rename ⟨by decide, by decide, by decide⟩ rfl rfl d_Ck_clauseKeepsTo_62 ho19) (fun v1 M1 hv hle => ?_) (fun E1 M1 hv hle => ?_)
          · rw [mbind_eq] at hF hS
            obtain ⟨hx, hM1⟩ := hv
            have hM2 := hM1.symm
            subst hM2
            generalize hq_w21 : F_Ck_rename cs w17.2 a0 (cI w17.2 (x1.getD 0) 2) w10.1 = w21 at hF hS hx hle ⊢
            cases hx
            refine GW.eqs (st' := [.int w21.1]) rfl ?_
            refine g_istore (lv' := [(8, .int w21.1), (7, .int w17.1), (6, .int w10.1), (5, .int (cI M (x1.getD 0) 0)), (0, .ref a0), (1, va_rf x1), (2, .int x2), (3, .int x3), (4, .int x4)]) C d_Ck_clauseKeepsTo_65 (by decide) rfl ?_
            refine g_aload_n C d_Ck_clauseKeepsTo_67 rfl ?_
            refine q_aload_n (r := x1) C d_Ck_clauseKeepsTo_68 rfl ?_
            obtain ⟨ho22, hS⟩ := hS
            refine GW.known1 (a := x1.getD 0) (cOq.at ho22).1 ?_
            refine c_geti C hE.1 (ci := 5) i_Cl rfl 3 (by decide) (by decide) (by decide) kf_Ck_178 d_Ck_clauseKeepsTo_69 (cOq.at ho22).2 ?_
            refine g_iload C d_Ck_clauseKeepsTo_72 rfl ?_
            refine g_iconst (v := 1) C d_Ck_clauseKeepsTo_74 (by decide) ?_
            refine g_iadd C d_Ck_clauseKeepsTo_75 ?_
            obtain ⟨ho23, hS⟩ := hS
            obtain ⟨hs24, hS⟩ := hS
            refine c_call (av := [.ref a0, .int (cI w21.2 (x1.getD 0) 3), .int (x4 + 1)]) (rest := []) C hE (fun _ h => h) ⟨rfl, rfl⟩ hle (hL _ a0 (cI w21.2 (x1.getD 0) 3) (x4 + 1) hs24) (fun _ h => h) kd_Ck_look ki_Ck (by dsimp only; omega) (by dsimp only; omega) d_Ck_clauseKeepsTo_76 (Nat.le_of_ble_eq_true rfl) (c_fV (n := 2) (ci := 6) C hE.1 rfl km_Ck_54 kv_Ck_look kl_Ck_look kd_Ck_look ⟨by decide, by decide, by decide⟩ rfl rfl d_Ck_clauseKeepsTo_76 ho23) (fun v1 M1 hv hle => ?_) (fun E1 M1 hv hle => ?_)
            · rw [mbind_eq] at hF hS
              obtain ⟨hx, hM1⟩ := hv
              have hM2 := hM1.symm
              subst hM2
              generalize hq_w25 : Lf w21.2 a0 (cI w21.2 (x1.getD 0) 3) (x4 + 1) = w25 at hF hS hx hle ⊢
              cases hx
              refine GW.eqs (st' := [.int w25.1]) rfl ?_
              refine g_istore (lv' := [(9, .int w25.1), (8, .int w21.1), (7, .int w17.1), (6, .int w10.1), (5, .int (cI M (x1.getD 0) 0)), (0, .ref a0), (1, va_rf x1), (2, .int x2), (3, .int x3), (4, .int x4)]) C d_Ck_clauseKeepsTo_79 (by decide) rfl ?_
              refine g_aload_n C d_Ck_clauseKeepsTo_81 rfl ?_
              refine q_aload_n (r := x1) C d_Ck_clauseKeepsTo_82 rfl ?_
              obtain ⟨ho26, hS⟩ := hS
              refine GW.known1 (a := x1.getD 0) (cOq.at ho26).1 ?_
              refine c_geti C hE.1 (ci := 5) i_Cl rfl 2 (by decide) (by decide) (by decide) kf_Ck_188 d_Ck_clauseKeepsTo_83 (cOq.at ho26).2 ?_
              refine g_iload C d_Ck_clauseKeepsTo_86 rfl ?_
              obtain ⟨ho27, hS⟩ := hS
              obtain ⟨hs28, hS⟩ := hS
              refine c_call (av := [.ref a0, .int (cI w25.2 (x1.getD 0) 2), .int w21.1]) (rest := []) C hE (fun _ h => h) ⟨rfl, rfl⟩ hle (cc_Ck_rename l hf D cs B dE lim _ a0 (cI w25.2 (x1.getD 0) 2) w21.1 hs28) (fun _ h => h) kd_Ck_rename ki_Ck (by dsimp only; omega) (by dsimp only; omega) d_Ck_clauseKeepsTo_88 (Nat.le_of_ble_eq_true rfl) (c_fV (n := 2) (ci := 6) C hE.1 rfl km_Ck_123 kv_Ck_rename kl_Ck_rename kd_Ck_rename ⟨by decide, by decide, by decide⟩ rfl rfl d_Ck_clauseKeepsTo_88 ho27) (fun v1 M1 hv hle => ?_) (fun E1 M1 hv hle => ?_)
              · rw [mbind_eq] at hF hS
                obtain ⟨hx, hM1⟩ := hv
                have hM2 := hM1.symm
                subst hM2
                generalize hq_w29 : F_Ck_rename cs w25.2 a0 (cI w25.2 (x1.getD 0) 2) w21.1 = w29 at hF hS hx hle ⊢
                cases hx
                refine GW.eqs (st' := [.int w29.1]) rfl ?_
                refine g_pop C d_Ck_clauseKeepsTo_91 rfl ?_
                refine g_aload_n C d_Ck_clauseKeepsTo_92 rfl ?_
                refine q_aload_n (r := x1) C d_Ck_clauseKeepsTo_93 rfl ?_
                obtain ⟨ho30, hS⟩ := hS
                refine GW.known1 (a := x1.getD 0) (cOq.at ho30).1 ?_
                refine c_geti C hE.1 (ci := 5) i_Cl rfl 1 (by decide) (by decide) (by decide) kf_Ck_185 d_Ck_clauseKeepsTo_94 (cOq.at ho30).2 ?_
                refine g_iload C d_Ck_clauseKeepsTo_97 rfl ?_
                obtain ⟨ho31, hS⟩ := hS
                obtain ⟨hs32, hS⟩ := hS
                refine c_call (av := [.ref a0, .int (cI w29.2 (x1.getD 0) 1), .int w17.1]) (rest := []) C hE (fun _ h => h) ⟨rfl, rfl⟩ hle (cc_Ck_rename l hf D cs B dE lim _ a0 (cI w29.2 (x1.getD 0) 1) w17.1 hs32) (fun _ h => h) kd_Ck_rename ki_Ck (by dsimp only; omega) (by dsimp only; omega) d_Ck_clauseKeepsTo_99 (Nat.le_of_ble_eq_true rfl) (c_fV (n := 2) (ci := 6) C hE.1 rfl km_Ck_123 kv_Ck_rename kl_Ck_rename kd_Ck_rename ⟨by decide, by decide, by decide⟩ rfl rfl d_Ck_clauseKeepsTo_99 ho31) (fun v1 M1 hv hle => ?_) (fun E1 M1 hv hle => ?_)
                · rw [mbind_eq] at hF hS
                  obtain ⟨hx, hM1⟩ := hv
                  have hM2 := hM1.symm
                  subst hM2
                  generalize hq_w33 : F_Ck_rename cs w29.2 a0 (cI w29.2 (x1.getD 0) 1) w17.1 = w33 at hF hS hx hle ⊢
                  cases hx
                  refine GW.eqs (st' := [.int w33.1]) rfl ?_
                  refine g_pop C d_Ck_clauseKeepsTo_102 rfl ?_
                  refine g_iload C d_Ck_clauseKeepsTo_103 rfl ?_
                  refine g_iconst (v := (-1)) C d_Ck_clauseKeepsTo_105 (by decide) ?_
                  refine g_icmp_ne C 111 d_Ck_clauseKeepsTo_106 (by decide) (fun hc34 => ?_) (fun hc34 => ?_)
                  · rw [if_neg hc34] at hF hS
                    refine g_aload_n C d_Ck_clauseKeepsTo_111 rfl ?_
                    obtain ⟨ho35, hS⟩ := hS
                    refine c_getq C hE.1 (ci := 6) i_Ck rfl 1 (by decide) (by decide) (by decide) kf_Ck_19 d_Ck_clauseKeepsTo_112 ho35 ?_
                    refine g_iload C d_Ck_clauseKeepsTo_115 rfl ?_
                    obtain ⟨hs36, hS⟩ := hS
                    refine c_call (av := [.int w25.1]) (rest := [va_rf (cQ w33.2 a0 1)]) C hE (fun _ h => h) ⟨rfl, rfl⟩ hle (cc_Ck_typeIn l hf D cs B dE lim _ w25.1 hs36) (fun _ h => h.elim) kd_Ck_typeIn ki_Ck (by dsimp only; omega) (by dsimp only; omega) d_Ck_clauseKeepsTo_117 (by simp only [List.map_cons, List.map_nil, rf_cat, List.sum_cons, List.sum_nil]; exact Nat.le_of_ble_eq_true rfl) (c_fS (n := 1) C km_Ck_69 ks_Ck_typeIn ki_Ck kd_Ck_typeIn ⟨by decide, by decide, by decide⟩ rfl rfl d_Ck_clauseKeepsTo_117) (fun v1 M1 hv hle => ?_) (fun E1 M1 hv hle => ?_)
                    · rw [mbind_eq] at hF hS
                      obtain ⟨hx, hM1⟩ := hv
                      have hM2 := hM1.symm
                      subst hM2
                      generalize hq_w37 : F_Ck_typeIn cs w33.2 w25.1 = w37 at hF hS hx hle ⊢
                      cases hx
                      refine GW.eqs (st' := [.int w37, va_rf (cQ w33.2 a0 1)]) rfl ?_
                      refine g_iload_n C d_Ck_clauseKeepsTo_120 rfl ?_
                      obtain ⟨ho38, hS⟩ := hS
                      refine GW.known3 (a := (cQ w33.2 a0 1).getD 0) (cOq.at ho38).1 ?_
                      obtain ⟨hs39, hS⟩ := hS
                      refine c_call (av := [.ref ((cQ w33.2 a0 1).getD 0), .int w37, .int x2]) (rest := []) C hE (fun _ h => h) ⟨rfl, rfl⟩ hle (cc_Ty_suits l hf D cs B dE lim _ ((cQ w33.2 a0 1).getD 0) w37 x2 hs39) (fun _ h => h.elim) kd_Ty_suits ki_Ty (by dsimp only; omega) (by dsimp only; omega) d_Ck_clauseKeepsTo_121 (Nat.le_of_ble_eq_true rfl) (c_fV (n := 2) (ci := 1) C hE.1 rfl km_Ck_142 kv_Ty_suits kl_Ty_suits kd_Ty_suits ⟨by decide, by decide, by decide⟩ rfl rfl d_Ck_clauseKeepsTo_121 (cOq.at ho38).2) (fun v1 M1 hv hle => ?_) (fun E1 M1 hv hle => ?_)
                      · rw [mbind_eq] at hF hS
                        obtain ⟨hx, hM1⟩ := hv
                        have hM2 := hM1.symm
                        subst hM2
                        generalize hq_w40 : F_Ty_suits cs w33.2 ((cQ w33.2 a0 1).getD 0) w37 x2 = w40 at hF hS hx hle ⊢
                        cases hx
                        refine GW.eqs (st' := [.int w40]) rfl ?_
                        refine g_if_ne C 140 d_Ck_clauseKeepsTo_124 (by decide) (fun hc41 => ?_) (fun hc41 => ?_)
                        · rw [if_neg hc41] at hF hS
                          refine g_iload C d_Ck_clauseKeepsTo_140 rfl ?_
                          obtain ⟨hs42, hS⟩ := hS
                          refine c_call (av := [.int w25.1]) (rest := []) C hE (fun _ h => h) ⟨rfl, rfl⟩ hle (cc_Ck_effectsIn l hf D cs B dE lim _ w25.1 hs42) (fun _ h => h.elim) kd_Ck_effectsIn ki_Ck (by dsimp only; omega) (by dsimp only; omega) d_Ck_clauseKeepsTo_142 (Nat.le_of_ble_eq_true rfl) (c_fS (n := 1) C km_Ck_65 ks_Ck_effectsIn ki_Ck kd_Ck_effectsIn ⟨by decide, by decide, by decide⟩ rfl rfl d_Ck_clauseKeepsTo_142) (fun v1 M1 hv hle => ?_) (fun E1 M1 hv hle => ?_)
                          · rw [mbind_eq] at hF hS
                            obtain ⟨hx, hM1⟩ := hv
                            have hM2 := hM1.symm
                            subst hM2
                            generalize hq_w43 : F_Ck_effectsIn cs w33.2 w25.1 = w43 at hF hS hx hle ⊢
                            cases hx
                            refine GW.eqs (st' := [.int w43]) rfl ?_
                            refine g_iload_n C d_Ck_clauseKeepsTo_145 rfl ?_
                            obtain ⟨hs44, hS⟩ := hS
                            refine c_call (av := [.int w43, .int x3]) (rest := []) C hE (fun _ h => h) ⟨rfl, rfl⟩ hle (cc_N_isWithin l hf D cs B dE lim _ w43 x3 hs44) (fun _ h => h.elim) kd_N_isWithin ki_N (by dsimp only; omega) (by dsimp only; omega) d_Ck_clauseKeepsTo_146 (Nat.le_of_ble_eq_true rfl) (c_fSN (n := 2) C (gE_mN hE km_Ck_149) ks_N_isWithin ki_N kd_N_isWithin ⟨by decide, by decide, by decide⟩ rfl rfl d_Ck_clauseKeepsTo_146) (fun v1 M1 hv hle => ?_) (fun E1 M1 hv hle => ?_)
                            · rw [mbind_eq] at hF hS
                              obtain ⟨hx, hM1⟩ := hv
                              have hM2 := hM1.symm
                              subst hM2
                              generalize hq_w45 : F_N_isWithin cs w33.2 w43 x3 = w45 at hF hS hx hle ⊢
                              cases hx
                              refine GW.eqs (st' := [.int w45]) rfl ?_
                              refine g_if_ne C 165 d_Ck_clauseKeepsTo_149 (by decide) (fun hc46 => ?_) (fun hc46 => ?_)
                              · rw [if_neg hc46] at hF hS
                                refine g_iconst (v := 1) C d_Ck_clauseKeepsTo_165 (by decide) ?_
                                exact c_zret (M := w33.2) C hr hlocks hle (by decide) d_Ck_clauseKeepsTo_166 (by rw [← hF]; exact ⟨rfl, rfl⟩)
                              · rw [if_pos hc46] at hF hS
                                refine g_aload_n C d_Ck_clauseKeepsTo_152 rfl ?_
                                refine g_bipush (v := 7) C d_Ck_clauseKeepsTo_153 (by decide) ?_
                                refine q_aload_n (r := x1) C d_Ck_clauseKeepsTo_155 rfl ?_
                                obtain ⟨ho47, hS⟩ := hS
                                refine GW.known1 (a := x1.getD 0) (cOq.at ho47).1 ?_
                                refine c_geti C hE.1 (ci := 5) i_Cl rfl 3 (by decide) (by decide) (by decide) kf_Ck_178 d_Ck_clauseKeepsTo_156 (cOq.at ho47).2 ?_
                                obtain ⟨ho48, hS⟩ := hS
                                obtain ⟨hs49, hS⟩ := hS
                                refine c_call (av := [.ref a0, .int 7, .int (cI w33.2 (x1.getD 0) 3)]) (rest := []) C hE (fun _ h => h) ⟨rfl, rfl⟩ hle (cc_Ck_blame l hf D cs B dE lim _ a0 7 (cI w33.2 (x1.getD 0) 3) hs49) (fun _ h => h) kd_Ck_blame ki_Ck (by dsimp only; omega) (by dsimp only; omega) d_Ck_clauseKeepsTo_159 (Nat.le_of_ble_eq_true rfl) (c_fV (n := 2) (ci := 6) C hE.1 rfl km_Ck_58 kv_Ck_blame kl_Ck_blame kd_Ck_blame ⟨by decide, by decide, by decide⟩ rfl rfl d_Ck_clauseKeepsTo_159 ho48) (fun v1 M1 hv hle => ?_) (fun E1 M1 hv hle => ?_)
                                · rw [mbind_eq] at hF hS
                                  obtain ⟨hx, hM1⟩ := hv
                                  have hM2 := hM1.symm
                                  subst hM2
                                  generalize hq_w50 : F_Ck_blame cs w33.2 a0 7 (cI w33.2 (x1.getD 0) 3) = w50 at hF hS hx hle ⊢
                                  cases hx
                                  refine GW.eqs (st' := [.int w50.1]) rfl ?_
                                  refine g_pop C d_Ck_clauseKeepsTo_162 rfl ?_
                                  refine g_iconst (v := 0) C d_Ck_clauseKeepsTo_163 (by decide) ?_
                                  exact c_zret (M := w50.2) C hr hlocks hle (by decide) d_Ck_clauseKeepsTo_164 (by rw [← hF]; exact ⟨rfl, rfl⟩)
                                · cases hv.1
                            · cases hv.1
                          · cases hv.1
                        · rw [if_pos hc41] at hF hS
                          refine g_aload_n C d_Ck_clauseKeepsTo_127 rfl ?_
                          refine g_bipush (v := 6) C d_Ck_clauseKeepsTo_128 (by decide) ?_
                          refine q_aload_n (r := x1) C d_Ck_clauseKeepsTo_130 rfl ?_
                          obtain ⟨ho51, hS⟩ := hS
                          refine GW.known1 (a := x1.getD 0) (cOq.at ho51).1 ?_
                          refine c_geti C hE.1 (ci := 5) i_Cl rfl 3 (by decide) (by decide) (by decide) kf_Ck_178 d_Ck_clauseKeepsTo_131 (cOq.at ho51).2 ?_
                          obtain ⟨ho52, hS⟩ := hS
                          obtain ⟨hs53, hS⟩ := hS
                          refine c_call (av := [.ref a0, .int 6, .int (cI w33.2 (x1.getD 0) 3)]) (rest := []) C hE (fun _ h => h) ⟨rfl, rfl⟩ hle (cc_Ck_blame l hf D cs B dE lim _ a0 6 (cI w33.2 (x1.getD 0) 3) hs53) (fun _ h => h) kd_Ck_blame ki_Ck (by dsimp only; omega) (by dsimp only; omega) d_Ck_clauseKeepsTo_134 (Nat.le_of_ble_eq_true rfl) (c_fV (n := 2) (ci := 6) C hE.1 rfl km_Ck_58 kv_Ck_blame kl_Ck_blame kd_Ck_blame ⟨by decide, by decide, by decide⟩ rfl rfl d_Ck_clauseKeepsTo_134 ho52) (fun v1 M1 hv hle => ?_) (fun E1 M1 hv hle => ?_)
                          · rw [mbind_eq] at hF hS
                            obtain ⟨hx, hM1⟩ := hv
                            have hM2 := hM1.symm
                            subst hM2
                            generalize hq_w54 : F_Ck_blame cs w33.2 a0 6 (cI w33.2 (x1.getD 0) 3) = w54 at hF hS hx hle ⊢
                            cases hx
                            refine GW.eqs (st' := [.int w54.1]) rfl ?_
                            refine g_pop C d_Ck_clauseKeepsTo_137 rfl ?_
                            refine g_iconst (v := 0) C d_Ck_clauseKeepsTo_138 (by decide) ?_
                            exact c_zret (M := w54.2) C hr hlocks hle (by decide) d_Ck_clauseKeepsTo_139 (by rw [← hF]; exact ⟨rfl, rfl⟩)
                          · cases hv.1
                      · cases hv.1
                    · cases hv.1
                  · rw [if_pos hc34] at hF hS
                    refine g_iconst (v := 0) C d_Ck_clauseKeepsTo_109 (by decide) ?_
                    exact c_zret (M := w33.2) C hr hlocks hle (by decide) d_Ck_clauseKeepsTo_110 (by rw [← hF]; exact ⟨rfl, rfl⟩)
                · cases hv.1
              · cases hv.1
            · cases hv.1
          · cases hv.1
        · cases hv.1
      · cases hv.1
    · rw [if_neg hc3] at hF hS
      refine g_iconst (v := 0) C d_Ck_clauseKeepsTo_18 (by decide) ?_
      refine GW.more (A' := gA B) (fun _ h => h.elim) ?_
      exact c_zret (M := M) C hr hlocks hle (by decide) d_Ck_clauseKeepsTo_19 (by rw [← hF]; exact ⟨rfl, rfl⟩)
def F_Ck_lookHandle_111 (cs : Nat → ClassId) (Lf : gMem → Nat → Int32 → Int32 → Int32 × gMem) : Nat → gMem → Nat → Option Nat → Int32 → Int32 → Int32 → Int32 → Int32 → Int32 → Int32 → Int32 → Int32 × gMem
  | 0, M, _, _, _, _, _, _, _, _, _, _ => (0, M)
  | n + 1, M, a0, x1, x2, x3, x4, x5, x6, x7, x8, x9 => if (cI M (x1.getD 0) 8) ≤ x9 then (mbind (F_Ck_effectsIn cs M x3) (fun w4 => mbind (F_N_isWithin cs M (w4 &&& (x8 ^^^ (-1))) x6) (fun w6 => if w6 = 0 then (mbind (F_Ck_blame cs M a0 7 (cI M (x1.getD 0) 4)) (fun w13 => (w13.1, w13.2))) else (mbind (F_Ck_seenAs cs M x7 x6) (fun w9 => (w9, M)))))) else (mbind (F_Ns_clauseAt cs M ((cQ M a0 0).getD 0) x9) (fun w17 => if (x8 &&& (1 <<< ((cI M (w17.getD 0) 0) &&& 31))) = 0 then (mbind (F_Ck_clauseKeepsTo cs n Lf M a0 w17 x7 x6 x2) (fun w22 => if w22.1 = 0 then (((-1), w22.2)) else (F_Ck_lookHandle_111 cs Lf n w22.2 a0 x1 x2 x3 x4 x5 x6 x7 (x8 ||| (1 <<< ((cI M (w17.getD 0) 0) &&& 31))) (x9 + 1)))) else (mbind (F_Ck_blame cs M a0 8 (cI M (w17.getD 0) 3)) (fun w27 => (w27.1, w27.2)))))
def S_Ck_lookHandle_111 (cs : Nat → ClassId) (lim : Nat × Nat) (Lf : gMem → Nat → Int32 → Int32 → Int32 × gMem) (Ls : gMem → Nat → Int32 → Int32 → Prop) : Nat → gMem → Nat → Option Nat → Int32 → Int32 → Int32 → Int32 → Int32 → Int32 → Int32 → Int32 → Prop
  | 0, _, _, _, _, _, _, _, _, _, _, _ => False
  | n + 1, M, a0, x1, x2, x3, x4, x5, x6, x7, x8, x9 => (cOq 4 M x1) ∧ (if (cI M (x1.getD 0) 8) ≤ x9 then ((S_Ck_effectsIn cs lim M x3) ∧ (mbind (F_Ck_effectsIn cs M x3) (fun w4 => (S_N_isWithin cs lim M (w4 &&& (x8 ^^^ (-1))) x6) ∧ (mbind (F_N_isWithin cs M (w4 &&& (x8 ^^^ (-1))) x6) (fun w6 => if w6 = 0 then ((cOq 4 M x1) ∧ ((cOk 6 M a0) ∧ ((S_Ck_blame cs lim M a0 7 (cI M (x1.getD 0) 4)) ∧ (mbind (F_Ck_blame cs M a0 7 (cI M (x1.getD 0) 4)) (fun w13 => True))))) else ((S_Ck_seenAs cs lim M x7 x6) ∧ (mbind (F_Ck_seenAs cs M x7 x6) (fun w9 => True)))))))) else ((cOk 6 M a0) ∧ ((cOq 3 M (cQ M a0 0)) ∧ ((S_Ns_clauseAt cs lim M ((cQ M a0 0).getD 0) x9) ∧ (mbind (F_Ns_clauseAt cs M ((cQ M a0 0).getD 0) x9) (fun w17 => (cOq 5 M w17) ∧ (if (x8 &&& (1 <<< ((cI M (w17.getD 0) 0) &&& 31))) = 0 then ((cOk 6 M a0) ∧ ((S_Ck_clauseKeepsTo cs lim n Lf Ls M a0 w17 x7 x6 x2) ∧ (mbind (F_Ck_clauseKeepsTo cs n Lf M a0 w17 x7 x6 x2) (fun w22 => if w22.1 = 0 then (True) else (S_Ck_lookHandle_111 cs lim Lf Ls n w22.2 a0 x1 x2 x3 x4 x5 x6 x7 (x8 ||| (1 <<< ((cI M (w17.getD 0) 0) &&& 31))) (x9 + 1)))))) else ((cOq 5 M w17) ∧ ((cOk 6 M a0) ∧ ((S_Ck_blame cs lim M a0 8 (cI M (w17.getD 0) 3)) ∧ (mbind (F_Ck_blame cs M a0 8 (cI M (w17.getD 0) 3)) (fun w27 => True))))))))))))
set_option maxRecDepth 100000 in
set_option maxHeartbeats 4000000 in
theorem w_Ck_lookHandle_111 {p : Program} {l : Launch} {e : Env} {s : State} {m : MethodId} {args : Array Value} {below : List Frame} {meth : Method} {c : Code} {D : va_G} {cs : Nat → ClassId} {B : Nat} {dE : Nat × Nat} {lim : Nat × Nat} {M0 : gMem} (C : CallFix p m c c_Ck_lookHandle 12 s args gT y_Ck_lookHandle.cls) (hE : gEnv D gcl (gtys cs) gz B dE s) (hf : l.flags = pinnedFlags ++ [noTraceFlag]) (hr : meth.sig.returnType = (some .int)) (hlocks : meth.locks = false) (hex : c.exceptionTable.isEmpty = true) (hn : meth.name = y_Ck_lookHandle.name) {Lf : gMem → Nat → Int32 → Int32 → Int32 × gMem} {Ls : gMem → Nat → Int32 → Int32 → Prop} {frL loL : Nat} (hL : ∀ (M : gMem) (a0 : Nat) (x1 x2 : Int32), Ls M a0 x1 x2 → cMet l y_Ck_look (Cond.code y_Ck_look c_Ck_look 4 (some .int)) frL loL D cs B dE (gA B) lim [.ref a0, .int x1, .int x2] M (fun x M' => x = .inl (some (.int ((Lf M a0 x1 x2).1))) ∧ M' = (Lf M a0 x1 x2).2)) : ∀ (n : Nat) (M : gMem) (a0 : Nat) (x1 : Option Nat) (x2 : Int32) (x3 : Int32) (x4 : Int32) (x5 : Int32) (x6 : Int32) (x7 : Int32) (x8 : Int32) (x9 : Int32) (Fv : Int32 × gMem) (hle : cLe lim M0 M) (hS : S_Ck_lookHandle_111 cs lim Lf Ls n M a0 x1 x2 x3 x4 x5 x6 x7 x8 x9) (hF : F_Ck_lookHandle_111 cs Lf n M a0 x1 x2 x3 x4 x5 x6 x7 x8 x9 = Fv), GW p l e ({ frames := frL + 10, cells := lim.1 - M0.2.1, slots := lim.2 - M0.2.2, locals := loL + 340 } : Room) s m args below meth c 12 (gA B) (cQ0 below D B (gA B) lim M0 (fun x M' => x = .inl (some (.int Fv.1)) ∧ M' = Fv.2) args s) (gR D gcl B M) (M.2.1 - M0.2.1) (M.2.2 - M0.2.2) 111 [(0, .ref a0), (1, va_rf x1), (2, .int x2), (3, .int x3), (4, .int x4), (5, .int x5), (6, .int x6), (7, .int x7), (8, .int x8), (9, .int x9)] [] := by
  intro n
  induction n with
  | zero =>
    intro M a0 x1 x2 x3 x4 x5 x6 x7 x8 x9 Fv hle hS hF
    exact hS.elim
  | succ n ih =>
    intro M a0 x1 x2 x3 x4 x5 x6 x7 x8 x9 Fv hle hS hF
    simp only [S_Ck_lookHandle_111] at hS
    simp only [F_Ck_lookHandle_111] at hF
    refine g_iload C d_Ck_lookHandle_111 rfl ?_
    refine q_aload_n (r := x1) C d_Ck_lookHandle_113 rfl ?_
    obtain ⟨ho1, hS⟩ := hS
    refine GW.known1 (a := x1.getD 0) (cOq.at ho1).1 ?_
    refine c_geti C hE.1 (ci := 4) i_No rfl 8 (by decide) (by decide) (by decide) kf_Ck_166 d_Ck_lookHandle_114 (cOq.at ho1).2 ?_
    refine g_icmp_ge C 189 d_Ck_lookHandle_117 (by decide) (fun hc2 => ?_) (fun hc2 => ?_)
    · rw [if_pos hc2] at hF hS
      refine g_iload_n C d_Ck_lookHandle_189 rfl ?_
      obtain ⟨hs3, hS⟩ := hS
      refine c_call (av := [.int x3]) (rest := []) C hE (fun _ h => h) ⟨rfl, rfl⟩ hle (cc_Ck_effectsIn l hf D cs B dE lim _ x3 hs3) (fun _ h => h.elim) kd_Ck_effectsIn ki_Ck (by dsimp only; omega) (by dsimp only; omega) d_Ck_lookHandle_190 (Nat.le_of_ble_eq_true rfl) (c_fS (n := 1) C km_Ck_65 ks_Ck_effectsIn ki_Ck kd_Ck_effectsIn ⟨by decide, by decide, by decide⟩ rfl rfl d_Ck_lookHandle_190) (fun v1 M1 hv hle => ?_) (fun E1 M1 hv hle => ?_)
      · rw [mbind_eq] at hF hS
        obtain ⟨hx, hM1⟩ := hv
        have hM2 := hM1.symm
        subst hM2
        generalize hq_w4 : F_Ck_effectsIn cs M x3 = w4 at hF hS hx hle ⊢
        cases hx
        refine GW.eqs (st' := [.int w4]) rfl ?_
        refine g_iload C d_Ck_lookHandle_193 rfl ?_
        refine g_iconst (v := (-1)) C d_Ck_lookHandle_195 (by decide) ?_
        refine g_ixor C d_Ck_lookHandle_196 ?_
        refine g_iand C d_Ck_lookHandle_197 ?_
        refine g_iload C d_Ck_lookHandle_198 rfl ?_
        obtain ⟨hs5, hS⟩ := hS
        refine c_call (av := [.int (w4 &&& (x8 ^^^ (-1))), .int x6]) (rest := []) C hE (fun _ h => h) ⟨rfl, rfl⟩ hle (cc_N_isWithin l hf D cs B dE lim _ (w4 &&& (x8 ^^^ (-1))) x6 hs5) (fun _ h => h.elim) kd_N_isWithin ki_N (by dsimp only; omega) (by dsimp only; omega) d_Ck_lookHandle_200 (Nat.le_of_ble_eq_true rfl) (c_fSN (n := 2) C (gE_mN hE km_Ck_149) ks_N_isWithin ki_N kd_N_isWithin ⟨by decide, by decide, by decide⟩ rfl rfl d_Ck_lookHandle_200) (fun v1 M1 hv hle => ?_) (fun E1 M1 hv hle => ?_)
        · rw [mbind_eq] at hF hS
          obtain ⟨hx, hM1⟩ := hv
          have hM2 := hM1.symm
          subst hM2
          generalize hq_w6 : F_N_isWithin cs M (w4 &&& (x8 ^^^ (-1))) x6 = w6 at hF hS hx hle ⊢
          cases hx
          refine GW.eqs (st' := [.int w6]) rfl ?_
          refine g_if_ne C 217 d_Ck_lookHandle_203 (by decide) (fun hc7 => ?_) (fun hc7 => ?_)
          · rw [if_neg hc7] at hF hS
            refine g_iload C d_Ck_lookHandle_217 rfl ?_
            refine g_iload C d_Ck_lookHandle_219 rfl ?_
            obtain ⟨hs8, hS⟩ := hS
            refine c_call (av := [.int x7, .int x6]) (rest := []) C hE (fun _ h => h) ⟨rfl, rfl⟩ hle (cc_Ck_seenAs l hf D cs B dE lim _ x7 x6 hs8) (fun _ h => h.elim) kd_Ck_seenAs ki_Ck (by dsimp only; omega) (by dsimp only; omega) d_Ck_lookHandle_221 (Nat.le_of_ble_eq_true rfl) (c_fS (n := 2) C km_Ck_83 ks_Ck_seenAs ki_Ck kd_Ck_seenAs ⟨by decide, by decide, by decide⟩ rfl rfl d_Ck_lookHandle_221) (fun v1 M1 hv hle => ?_) (fun E1 M1 hv hle => ?_)
            · rw [mbind_eq] at hF hS
              obtain ⟨hx, hM1⟩ := hv
              have hM2 := hM1.symm
              subst hM2
              generalize hq_w9 : F_Ck_seenAs cs M x7 x6 = w9 at hF hS hx hle ⊢
              cases hx
              refine GW.eqs (st' := [.int w9]) rfl ?_
              exact c_iret (M := M) C hr hlocks hle d_Ck_lookHandle_224 (by rw [← hF]; exact ⟨rfl, rfl⟩)
            · cases hv.1
          · rw [if_pos hc7] at hF hS
            refine g_aload_n C d_Ck_lookHandle_206 rfl ?_
            refine g_bipush (v := 7) C d_Ck_lookHandle_207 (by decide) ?_
            refine q_aload_n (r := x1) C d_Ck_lookHandle_209 rfl ?_
            obtain ⟨ho10, hS⟩ := hS
            refine GW.known1 (a := x1.getD 0) (cOq.at ho10).1 ?_
            refine c_geti C hE.1 (ci := 4) i_No rfl 4 (by decide) (by decide) (by decide) kf_Ck_117 d_Ck_lookHandle_210 (cOq.at ho10).2 ?_
            obtain ⟨ho11, hS⟩ := hS
            obtain ⟨hs12, hS⟩ := hS
            refine c_call (av := [.ref a0, .int 7, .int (cI M (x1.getD 0) 4)]) (rest := []) C hE (fun _ h => h) ⟨rfl, rfl⟩ hle (cc_Ck_blame l hf D cs B dE lim _ a0 7 (cI M (x1.getD 0) 4) hs12) (fun _ h => h) kd_Ck_blame ki_Ck (by dsimp only; omega) (by dsimp only; omega) d_Ck_lookHandle_213 (Nat.le_of_ble_eq_true rfl) (c_fV (n := 2) (ci := 6) C hE.1 rfl km_Ck_58 kv_Ck_blame kl_Ck_blame kd_Ck_blame ⟨by decide, by decide, by decide⟩ rfl rfl d_Ck_lookHandle_213 ho11) (fun v1 M1 hv hle => ?_) (fun E1 M1 hv hle => ?_)
            · rw [mbind_eq] at hF hS
              obtain ⟨hx, hM1⟩ := hv
              have hM2 := hM1.symm
              subst hM2
              generalize hq_w13 : F_Ck_blame cs M a0 7 (cI M (x1.getD 0) 4) = w13 at hF hS hx hle ⊢
              cases hx
              refine GW.eqs (st' := [.int w13.1]) rfl ?_
              exact c_iret (M := w13.2) C hr hlocks hle d_Ck_lookHandle_216 (by rw [← hF]; exact ⟨rfl, rfl⟩)
            · cases hv.1
        · cases hv.1
      · cases hv.1
    · rw [if_neg hc2] at hF hS
      refine g_aload_n C d_Ck_lookHandle_120 rfl ?_
      obtain ⟨ho14, hS⟩ := hS
      refine c_getq C hE.1 (ci := 6) i_Ck rfl 0 (by decide) (by decide) (by decide) kf_Ck_15 d_Ck_lookHandle_121 ho14 ?_
      refine g_iload C d_Ck_lookHandle_124 rfl ?_
      obtain ⟨ho15, hS⟩ := hS
      refine GW.known2 (a := (cQ M a0 0).getD 0) (cOq.at ho15).1 ?_
      obtain ⟨hs16, hS⟩ := hS
      refine c_call (av := [.ref ((cQ M a0 0).getD 0), .int x9]) (rest := []) C hE (fun _ h => h) ⟨rfl, rfl⟩ hle (cc_Ns_clauseAt l hf D cs B dE lim _ ((cQ M a0 0).getD 0) x9 hs16) (fun _ h => h.elim) kd_Ns_clauseAt ki_Ns (by dsimp only; omega) (by dsimp only; omega) d_Ck_lookHandle_126 (Nat.le_of_ble_eq_true rfl) (c_fV (n := 1) (ci := 3) C hE.1 rfl km_Ck_169 kv_Ns_clauseAt kl_Ns_clauseAt kd_Ns_clauseAt ⟨by decide, by decide, by decide⟩ rfl rfl d_Ck_lookHandle_126 (cOq.at ho15).2) (fun v1 M1 hv hle => ?_) (fun E1 M1 hv hle => ?_)
      · rw [mbind_eq] at hF hS
        obtain ⟨hx, hM1⟩ := hv
        have hM2 := hM1.symm
        subst hM2
        generalize hq_w17 : F_Ns_clauseAt cs M ((cQ M a0 0).getD 0) x9 = w17 at hF hS hx hle ⊢
        cases hx
        refine GW.eqs (st' := [va_rf w17]) rfl ?_
        refine q_astore (r := w17) (lv' := [(10, va_rf w17), (0, .ref a0), (1, va_rf x1), (2, .int x2), (3, .int x3), (4, .int x4), (5, .int x5), (6, .int x6), (7, .int x7), (8, .int x8), (9, .int x9)]) C d_Ck_lookHandle_129 (by decide) rfl ?_
        refine g_iconst (v := 1) C d_Ck_lookHandle_131 (by decide) ?_
        refine q_aload (r := w17) C d_Ck_lookHandle_132 rfl ?_
        obtain ⟨ho18, hS⟩ := hS
        refine GW.known1 (a := w17.getD 0) (cOq.at ho18).1 ?_
        refine c_geti C hE.1 (ci := 5) i_Cl rfl 0 (by decide) (by decide) (by decide) kf_Ck_173 d_Ck_lookHandle_134 (cOq.at ho18).2 ?_
        refine g_ishl C d_Ck_lookHandle_137 ?_
        refine g_istore (lv' := [(11, .int (1 <<< ((cI M (w17.getD 0) 0) &&& 31))), (10, va_rf w17), (0, .ref a0), (1, va_rf x1), (2, .int x2), (3, .int x3), (4, .int x4), (5, .int x5), (6, .int x6), (7, .int x7), (8, .int x8), (9, .int x9)]) C d_Ck_lookHandle_138 (by decide) (by first | rfl | (simp only [lvs, List.filter, rf_cat]; rfl) | simp [lvs, List.filter, rf_cat]) ?_
        refine g_iload C d_Ck_lookHandle_140 rfl ?_
        refine g_iload C d_Ck_lookHandle_142 rfl ?_
        refine g_iand C d_Ck_lookHandle_144 ?_
        refine g_if_eq C 160 d_Ck_lookHandle_145 (by decide) (fun hc19 => ?_) (fun hc19 => ?_)
        · rw [if_pos hc19] at hF hS
          refine g_iload C d_Ck_lookHandle_160 rfl ?_
          refine g_iload C d_Ck_lookHandle_162 rfl ?_
          refine g_ior C d_Ck_lookHandle_164 ?_
          refine g_istore (lv' := [(8, .int (x8 ||| (1 <<< ((cI M (w17.getD 0) 0) &&& 31)))), (11, .int (1 <<< ((cI M (w17.getD 0) 0) &&& 31))), (10, va_rf w17), (0, .ref a0), (1, va_rf x1), (2, .int x2), (3, .int x3), (4, .int x4), (5, .int x5), (6, .int x6), (7, .int x7), (9, .int x9)]) C d_Ck_lookHandle_165 (by decide) rfl ?_
          refine g_aload_n C d_Ck_lookHandle_167 rfl ?_
          refine q_aload (r := w17) C d_Ck_lookHandle_168 rfl ?_
          refine g_iload C d_Ck_lookHandle_170 rfl ?_
          refine g_iload C d_Ck_lookHandle_172 rfl ?_
          refine g_iload_n C d_Ck_lookHandle_174 rfl ?_
          obtain ⟨ho20, hS⟩ := hS
          obtain ⟨hs21, hS⟩ := hS
          refine c_call (av := [.ref a0, va_rf w17, .int x7, .int x6, .int x2]) (rest := []) C hE (fun _ h => h) ⟨rfl, rfl⟩ hle (cc_Ck_clauseKeepsTo l hf D cs B dE lim n Lf Ls frL loL hL _ a0 w17 x7 x6 x2 hs21) (fun _ h => h) kd_Ck_clauseKeepsTo ki_Ck (by dsimp only; omega) (by dsimp only; omega) d_Ck_lookHandle_175 (Nat.le_of_ble_eq_true rfl) (c_fV (n := 4) (ci := 6) C hE.1 rfl km_Ck_181 kv_Ck_clauseKeepsTo kl_Ck_clauseKeepsTo kd_Ck_clauseKeepsTo ⟨by decide, by decide, by decide⟩ rfl rfl d_Ck_lookHandle_175 ho20) (fun v1 M1 hv hle => ?_) (fun E1 M1 hv hle => ?_)
          · rw [mbind_eq] at hF hS
            obtain ⟨hx, hM1⟩ := hv
            have hM2 := hM1.symm
            subst hM2
            generalize hq_w22 : F_Ck_clauseKeepsTo cs n Lf M a0 w17 x7 x6 x2 = w22 at hF hS hx hle ⊢
            cases hx
            refine GW.eqs (st' := [.int w22.1]) rfl ?_
            refine g_if_ne C 183 d_Ck_lookHandle_178 (by decide) (fun hc23 => ?_) (fun hc23 => ?_)
            · rw [if_neg hc23] at hF hS
              refine g_iinc (v := x9 + 1) (lv' := [(9, .int (x9 + 1)), (8, .int (x8 ||| (1 <<< ((cI M (w17.getD 0) 0) &&& 31)))), (11, .int (1 <<< ((cI M (w17.getD 0) 0) &&& 31))), (10, va_rf w17), (0, .ref a0), (1, va_rf x1), (2, .int x2), (3, .int x3), (4, .int x4), (5, .int x5), (6, .int x6), (7, .int x7)]) C d_Ck_lookHandle_183 rfl rfl (by decide) rfl ?_
              refine g_goto C 111 d_Ck_lookHandle_186 (by decide) ?_
              refine GW.subl [4, 5, 6, 7, 8, 9, 10, 11, 1, 0] rfl ?_
              exact ih w22.2 a0 x1 x2 x3 x4 x5 x6 x7 (x8 ||| (1 <<< ((cI M (w17.getD 0) 0) &&& 31))) (x9 + 1) Fv hle hS hF
            · rw [if_pos hc23] at hF hS
              refine g_iconst (v := (-1)) C d_Ck_lookHandle_181 (by decide) ?_
              exact c_iret (M := w22.2) C hr hlocks hle d_Ck_lookHandle_182 (by rw [← hF]; exact ⟨rfl, rfl⟩)
          · cases hv.1
        · rw [if_neg hc19] at hF hS
          refine g_aload_n C d_Ck_lookHandle_148 rfl ?_
          refine g_bipush (v := 8) C d_Ck_lookHandle_149 (by decide) ?_
          refine q_aload (r := w17) C d_Ck_lookHandle_151 rfl ?_
          obtain ⟨ho24, hS⟩ := hS
          refine GW.known1 (a := w17.getD 0) (cOq.at ho24).1 ?_
          refine c_geti C hE.1 (ci := 5) i_Cl rfl 3 (by decide) (by decide) (by decide) kf_Ck_178 d_Ck_lookHandle_153 (cOq.at ho24).2 ?_
          obtain ⟨ho25, hS⟩ := hS
          obtain ⟨hs26, hS⟩ := hS
          refine c_call (av := [.ref a0, .int 8, .int (cI M (w17.getD 0) 3)]) (rest := []) C hE (fun _ h => h) ⟨rfl, rfl⟩ hle (cc_Ck_blame l hf D cs B dE lim _ a0 8 (cI M (w17.getD 0) 3) hs26) (fun _ h => h) kd_Ck_blame ki_Ck (by dsimp only; omega) (by dsimp only; omega) d_Ck_lookHandle_156 (Nat.le_of_ble_eq_true rfl) (c_fV (n := 2) (ci := 6) C hE.1 rfl km_Ck_58 kv_Ck_blame kl_Ck_blame kd_Ck_blame ⟨by decide, by decide, by decide⟩ rfl rfl d_Ck_lookHandle_156 ho25) (fun v1 M1 hv hle => ?_) (fun E1 M1 hv hle => ?_)
          · rw [mbind_eq] at hF hS
            obtain ⟨hx, hM1⟩ := hv
            have hM2 := hM1.symm
            subst hM2
            generalize hq_w27 : F_Ck_blame cs M a0 8 (cI M (w17.getD 0) 3) = w27 at hF hS hx hle ⊢
            cases hx
            refine GW.eqs (st' := [.int w27.1]) rfl ?_
            exact c_iret (M := w27.2) C hr hlocks hle d_Ck_lookHandle_159 (by rw [← hF]; exact ⟨rfl, rfl⟩)
          · cases hv.1
      · cases hv.1
def F_Ck_lookHandle (cs : Nat → ClassId) (n : Nat) (Lf : gMem → Nat → Int32 → Int32 → Int32 × gMem) (M : gMem) (a0 : Nat) (x1 : Option Nat) (x2 : Int32) : Int32 × gMem := mbind (Lf M a0 (cI M (x1.getD 0) 4) (x2 + 1)) (fun w4 => if w4.1 = (-1) then (((-1), w4.2)) else (mbind (F_Ck_typeIn cs w4.2 w4.1) (fun w8 => mbind (F_Ck_rename cs w4.2 a0 (cI w4.2 (x1.getD 0) 2) w8) (fun w11 => mbind (Lf w11.2 a0 (cI w11.2 (x1.getD 0) 5) (x2 + 1)) (fun w15 => mbind (F_Ck_rename cs w15.2 a0 (cI w15.2 (x1.getD 0) 2) w11.1) (fun w19 => if w15.1 = (-1) then (((-1), w19.2)) else (mbind (F_Ck_typeIn cs w19.2 w15.1) (fun w23 => mbind (F_Ck_effectsIn cs w19.2 w15.1) (fun w25 => mbind (F_N_isWithin cs w19.2 w25 (cI w19.2 (x1.getD 0) 1)) (fun w27 => if w27 = 0 then (mbind (F_Ck_blame cs w19.2 a0 7 (cI w19.2 (x1.getD 0) 5)) (fun w33 => (w33.1, w33.2))) else (F_Ck_lookHandle_111 cs Lf n w19.2 a0 x1 x2 w4.1 w11.1 w15.1 (cI w19.2 (x1.getD 0) 1) w23 0 (cI w19.2 (x1.getD 0) 7))))))))))))
def S_Ck_lookHandle (cs : Nat → ClassId) (lim : Nat × Nat) (n : Nat) (Lf : gMem → Nat → Int32 → Int32 → Int32 × gMem) (Ls : gMem → Nat → Int32 → Int32 → Prop) (M : gMem) (a0 : Nat) (x1 : Option Nat) (x2 : Int32) : Prop := (cOq 4 M x1) ∧ ((cOk 6 M a0) ∧ ((Ls M a0 (cI M (x1.getD 0) 4) (x2 + 1)) ∧ (mbind (Lf M a0 (cI M (x1.getD 0) 4) (x2 + 1)) (fun w4 => if w4.1 = (-1) then (True) else ((cOq 4 w4.2 x1) ∧ ((S_Ck_typeIn cs lim w4.2 w4.1) ∧ (mbind (F_Ck_typeIn cs w4.2 w4.1) (fun w8 => (cOk 6 w4.2 a0) ∧ ((S_Ck_rename cs lim w4.2 a0 (cI w4.2 (x1.getD 0) 2) w8) ∧ (mbind (F_Ck_rename cs w4.2 a0 (cI w4.2 (x1.getD 0) 2) w8) (fun w11 => (cOq 4 w11.2 x1) ∧ ((cOk 6 w11.2 a0) ∧ ((Ls w11.2 a0 (cI w11.2 (x1.getD 0) 5) (x2 + 1)) ∧ (mbind (Lf w11.2 a0 (cI w11.2 (x1.getD 0) 5) (x2 + 1)) (fun w15 => (cOq 4 w15.2 x1) ∧ ((cOk 6 w15.2 a0) ∧ ((S_Ck_rename cs lim w15.2 a0 (cI w15.2 (x1.getD 0) 2) w11.1) ∧ (mbind (F_Ck_rename cs w15.2 a0 (cI w15.2 (x1.getD 0) 2) w11.1) (fun w19 => if w15.1 = (-1) then (True) else ((cOq 4 w19.2 x1) ∧ ((S_Ck_typeIn cs lim w19.2 w15.1) ∧ (mbind (F_Ck_typeIn cs w19.2 w15.1) (fun w23 => (S_Ck_effectsIn cs lim w19.2 w15.1) ∧ (mbind (F_Ck_effectsIn cs w19.2 w15.1) (fun w25 => (S_N_isWithin cs lim w19.2 w25 (cI w19.2 (x1.getD 0) 1)) ∧ (mbind (F_N_isWithin cs w19.2 w25 (cI w19.2 (x1.getD 0) 1)) (fun w27 => if w27 = 0 then ((cOq 4 w19.2 x1) ∧ ((cOk 6 w19.2 a0) ∧ ((S_Ck_blame cs lim w19.2 a0 7 (cI w19.2 (x1.getD 0) 5)) ∧ (mbind (F_Ck_blame cs w19.2 a0 7 (cI w19.2 (x1.getD 0) 5)) (fun w33 => True))))) else ((cOq 4 w19.2 x1) ∧ (S_Ck_lookHandle_111 cs lim Lf Ls n w19.2 a0 x1 x2 w4.1 w11.1 w15.1 (cI w19.2 (x1.getD 0) 1) w23 0 (cI w19.2 (x1.getD 0) 7))))))))))))))))))))))))))))))
set_option maxRecDepth 100000 in
set_option maxHeartbeats 4000000 in
theorem cc_Ck_lookHandle (l : Launch) (hf : l.flags = pinnedFlags ++ [noTraceFlag]) (D : va_G) (cs : Nat → ClassId) (B : Nat) (dE : Nat × Nat) (lim : Nat × Nat) (n : Nat) (Lf : gMem → Nat → Int32 → Int32 → Int32 × gMem) (Ls : gMem → Nat → Int32 → Int32 → Prop) (frL loL : Nat) (hL : ∀ (M : gMem) (a0 : Nat) (x1 x2 : Int32), Ls M a0 x1 x2 → cMet l y_Ck_look (Cond.code y_Ck_look c_Ck_look 4 (some .int)) frL loL D cs B dE (gA B) lim [.ref a0, .int x1, .int x2] M (fun x M' => x = .inl (some (.int ((Lf M a0 x1 x2).1))) ∧ M' = (Lf M a0 x1 x2).2)) (M : gMem) (a0 : Nat) (x1 : Option Nat) (x2 : Int32) (hS : S_Ck_lookHandle cs lim n Lf Ls M a0 x1 x2) : cMet l y_Ck_lookHandle (Cond.code y_Ck_lookHandle c_Ck_lookHandle 12 (some .int)) (frL + 10) (loL + 340) D cs B dE (gA B) lim [.ref a0, va_rf x1, .int x2] M (fun x M' => x = .inl (some (.int ((F_Ck_lookHandle cs n Lf M a0 x1 x2).1))) ∧ M' = (F_Ck_lookHandle cs n Lf M a0 x1 x2).2) := by
  refine cMet.ofW (by decide) (by cases x1 <;> exact Nat.le_of_ble_eq_true rfl) (lv0 := [(0, .ref a0), (1, va_rf x1), (2, .int x2)]) (by cases x1 <;> rfl) ?_
  intro p e s m args below meth c C hE hR0 hle hr hlocks hex hn
  generalize hF : F_Ck_lookHandle cs n Lf M a0 x1 x2 = Fv
  unfold F_Ck_lookHandle at hF
  unfold S_Ck_lookHandle at hS
  refine g_aload_n C d_Ck_lookHandle_0 rfl ?_
  refine q_aload_n (r := x1) C d_Ck_lookHandle_1 rfl ?_
  obtain ⟨ho1, hS⟩ := hS
  refine GW.known1 (a := x1.getD 0) (cOq.at ho1).1 ?_
  refine c_geti C hE.1 (ci := 4) i_No rfl 4 (by decide) (by decide) (by decide) kf_Ck_117 d_Ck_lookHandle_2 (cOq.at ho1).2 ?_
  refine g_iload_n C d_Ck_lookHandle_5 rfl ?_
  refine g_iconst (v := 1) C d_Ck_lookHandle_6 (by decide) ?_
  refine g_iadd C d_Ck_lookHandle_7 ?_
  refine GW.more (A' := gA B) (fun _ h => h.elim) ?_
  obtain ⟨ho2, hS⟩ := hS
  obtain ⟨hs3, hS⟩ := hS
  refine c_call (av := [.ref a0, .int (cI M (x1.getD 0) 4), .int (x2 + 1)]) (rest := []) C hE (fun _ h => h) ⟨rfl, rfl⟩ hle (hL _ a0 (cI M (x1.getD 0) 4) (x2 + 1) hs3) (fun _ h => h) kd_Ck_look ki_Ck (by dsimp only; omega) (by dsimp only; omega) d_Ck_lookHandle_8 (Nat.le_of_ble_eq_true rfl) (c_fV (n := 2) (ci := 6) C hE.1 rfl km_Ck_54 kv_Ck_look kl_Ck_look kd_Ck_look ⟨by decide, by decide, by decide⟩ rfl rfl d_Ck_lookHandle_8 ho2) (fun v1 M1 hv hle => ?_) (fun E1 M1 hv hle => ?_)
  · rw [mbind_eq] at hF hS
    obtain ⟨hx, hM1⟩ := hv
    have hM2 := hM1.symm
    subst hM2
    generalize hq_w4 : Lf M a0 (cI M (x1.getD 0) 4) (x2 + 1) = w4 at hF hS hx hle ⊢
    cases hx
    refine GW.eqs (st' := [.int w4.1]) rfl ?_
    refine g_istore_n (lv' := [(3, .int w4.1), (0, .ref a0), (1, va_rf x1), (2, .int x2)]) C d_Ck_lookHandle_11 (by decide) rfl ?_
    refine g_iload_n C d_Ck_lookHandle_12 rfl ?_
    refine g_iconst (v := (-1)) C d_Ck_lookHandle_13 (by decide) ?_
    refine g_icmp_ne C 19 d_Ck_lookHandle_14 (by decide) (fun hc5 => ?_) (fun hc5 => ?_)
    · rw [if_neg hc5] at hF hS
      refine g_aload_n C d_Ck_lookHandle_19 rfl ?_
      refine q_aload_n (r := x1) C d_Ck_lookHandle_20 rfl ?_
      obtain ⟨ho6, hS⟩ := hS
      refine GW.known1 (a := x1.getD 0) (cOq.at ho6).1 ?_
      refine c_geti C hE.1 (ci := 4) i_No rfl 2 (by decide) (by decide) (by decide) kf_Ck_120 d_Ck_lookHandle_21 (cOq.at ho6).2 ?_
      refine g_iload_n C d_Ck_lookHandle_24 rfl ?_
      obtain ⟨hs7, hS⟩ := hS
      refine c_call (av := [.int w4.1]) (rest := [.int (cI w4.2 (x1.getD 0) 2), .ref a0]) C hE (fun _ h => h) ⟨rfl, rfl⟩ hle (cc_Ck_typeIn l hf D cs B dE lim _ w4.1 hs7) (fun _ h => h.elim) kd_Ck_typeIn ki_Ck (by dsimp only; omega) (by dsimp only; omega) d_Ck_lookHandle_25 (Nat.le_of_ble_eq_true rfl) (c_fS (n := 1) C km_Ck_69 ks_Ck_typeIn ki_Ck kd_Ck_typeIn ⟨by decide, by decide, by decide⟩ rfl rfl d_Ck_lookHandle_25) (fun v1 M1 hv hle => ?_) (fun E1 M1 hv hle => ?_)
      · rw [mbind_eq] at hF hS
        obtain ⟨hx, hM1⟩ := hv
        have hM2 := hM1.symm
        subst hM2
        generalize hq_w8 : F_Ck_typeIn cs w4.2 w4.1 = w8 at hF hS hx hle ⊢
        cases hx
        refine GW.eqs (st' := [.int w8, .int (cI w4.2 (x1.getD 0) 2), .ref a0]) rfl ?_
        obtain ⟨ho9, hS⟩ := hS
        obtain ⟨hs10, hS⟩ := hS
        refine c_call (av := [.ref a0, .int (cI w4.2 (x1.getD 0) 2), .int w8]) (rest := []) C hE (fun _ h => h) ⟨rfl, rfl⟩ hle (cc_Ck_rename l hf D cs B dE lim _ a0 (cI w4.2 (x1.getD 0) 2) w8 hs10) (fun _ h => h) kd_Ck_rename ki_Ck (by dsimp only; omega) (by dsimp only; omega) d_Ck_lookHandle_28 (Nat.le_of_ble_eq_true rfl) (c_fV (n := 2) (ci := 6) C hE.1 rfl km_Ck_123 kv_Ck_rename kl_Ck_rename kd_Ck_rename ⟨by decide, by decide, by decide⟩ rfl rfl d_Ck_lookHandle_28 ho9) (fun v1 M1 hv hle => ?_) (fun E1 M1 hv hle => ?_)
        · rw [mbind_eq] at hF hS
          obtain ⟨hx, hM1⟩ := hv
          have hM2 := hM1.symm
          subst hM2
          generalize hq_w11 : F_Ck_rename cs w4.2 a0 (cI w4.2 (x1.getD 0) 2) w8 = w11 at hF hS hx hle ⊢
          cases hx
          refine GW.eqs (st' := [.int w11.1]) rfl ?_
          refine g_istore (lv' := [(4, .int w11.1), (3, .int w4.1), (0, .ref a0), (1, va_rf x1), (2, .int x2)]) C d_Ck_lookHandle_31 (by decide) rfl ?_
          refine g_aload_n C d_Ck_lookHandle_33 rfl ?_
          refine q_aload_n (r := x1) C d_Ck_lookHandle_34 rfl ?_
          obtain ⟨ho12, hS⟩ := hS
          refine GW.known1 (a := x1.getD 0) (cOq.at ho12).1 ?_
          refine c_geti C hE.1 (ci := 4) i_No rfl 5 (by decide) (by decide) (by decide) kf_Ck_126 d_Ck_lookHandle_35 (cOq.at ho12).2 ?_
          refine g_iload_n C d_Ck_lookHandle_38 rfl ?_
          refine g_iconst (v := 1) C d_Ck_lookHandle_39 (by decide) ?_
          refine g_iadd C d_Ck_lookHandle_40 ?_
          obtain ⟨ho13, hS⟩ := hS
          obtain ⟨hs14, hS⟩ := hS
          refine c_call (av := [.ref a0, .int (cI w11.2 (x1.getD 0) 5), .int (x2 + 1)]) (rest := []) C hE (fun _ h => h) ⟨rfl, rfl⟩ hle (hL _ a0 (cI w11.2 (x1.getD 0) 5) (x2 + 1) hs14) (fun _ h => h) kd_Ck_look ki_Ck (by dsimp only; omega) (by dsimp only; omega) d_Ck_lookHandle_41 (Nat.le_of_ble_eq_true rfl) (c_fV (n := 2) (ci := 6) C hE.1 rfl km_Ck_54 kv_Ck_look kl_Ck_look kd_Ck_look ⟨by decide, by decide, by decide⟩ rfl rfl d_Ck_lookHandle_41 ho13) (fun v1 M1 hv hle => ?_) (fun E1 M1 hv hle => ?_)
          · rw [mbind_eq] at hF hS
            obtain ⟨hx, hM1⟩ := hv
            have hM2 := hM1.symm
            subst hM2
            generalize hq_w15 : Lf w11.2 a0 (cI w11.2 (x1.getD 0) 5) (x2 + 1) = w15 at hF hS hx hle ⊢
            cases hx
            refine GW.eqs (st' := [.int w15.1]) rfl ?_
            refine g_istore (lv' := [(5, .int w15.1), (4, .int w11.1), (3, .int w4.1), (0, .ref a0), (1, va_rf x1), (2, .int x2)]) C d_Ck_lookHandle_44 (by decide) rfl ?_
            refine g_aload_n C d_Ck_lookHandle_46 rfl ?_
            refine q_aload_n (r := x1) C d_Ck_lookHandle_47 rfl ?_
            obtain ⟨ho16, hS⟩ := hS
            refine GW.known1 (a := x1.getD 0) (cOq.at ho16).1 ?_
            refine c_geti C hE.1 (ci := 4) i_No rfl 2 (by decide) (by decide) (by decide) kf_Ck_120 d_Ck_lookHandle_48 (cOq.at ho16).2 ?_
            refine g_iload C d_Ck_lookHandle_51 rfl ?_
            obtain ⟨ho17, hS⟩ := hS
            obtain ⟨hs18, hS⟩ := hS
            refine c_call (av := [.ref a0, .int (cI w15.2 (x1.getD 0) 2), .int w11.1]) (rest := []) C hE (fun _ h => h) ⟨rfl, rfl⟩ hle (cc_Ck_rename l hf D cs B dE lim _ a0 (cI w15.2 (x1.getD 0) 2) w11.1 hs18) (fun _ h => h) kd_Ck_rename ki_Ck (by dsimp only; omega) (by dsimp only; omega) d_Ck_lookHandle_53 (Nat.le_of_ble_eq_true rfl) (c_fV (n := 2) (ci := 6) C hE.1 rfl km_Ck_123 kv_Ck_rename kl_Ck_rename kd_Ck_rename ⟨by decide, by decide, by decide⟩ rfl rfl d_Ck_lookHandle_53 ho17) (fun v1 M1 hv hle => ?_) (fun E1 M1 hv hle => ?_)
            · rw [mbind_eq] at hF hS
              obtain ⟨hx, hM1⟩ := hv
              have hM2 := hM1.symm
              subst hM2
              generalize hq_w19 : F_Ck_rename cs w15.2 a0 (cI w15.2 (x1.getD 0) 2) w11.1 = w19 at hF hS hx hle ⊢
              cases hx
              refine GW.eqs (st' := [.int w19.1]) rfl ?_
              refine g_pop C d_Ck_lookHandle_56 rfl ?_
              refine g_iload C d_Ck_lookHandle_57 rfl ?_
              refine g_iconst (v := (-1)) C d_Ck_lookHandle_59 (by decide) ?_
              refine g_icmp_ne C 65 d_Ck_lookHandle_60 (by decide) (fun hc20 => ?_) (fun hc20 => ?_)
              · rw [if_neg hc20] at hF hS
                refine q_aload_n (r := x1) C d_Ck_lookHandle_65 rfl ?_
                obtain ⟨ho21, hS⟩ := hS
                refine GW.known1 (a := x1.getD 0) (cOq.at ho21).1 ?_
                refine c_geti C hE.1 (ci := 4) i_No rfl 1 (by decide) (by decide) (by decide) kf_Ck_114 d_Ck_lookHandle_66 (cOq.at ho21).2 ?_
                refine g_istore (lv' := [(6, .int (cI w19.2 (x1.getD 0) 1)), (5, .int w15.1), (4, .int w11.1), (3, .int w4.1), (0, .ref a0), (1, va_rf x1), (2, .int x2)]) C d_Ck_lookHandle_69 (by decide) rfl ?_
                refine g_iload C d_Ck_lookHandle_71 rfl ?_
                obtain ⟨hs22, hS⟩ := hS
                refine c_call (av := [.int w15.1]) (rest := []) C hE (fun _ h => h) ⟨rfl, rfl⟩ hle (cc_Ck_typeIn l hf D cs B dE lim _ w15.1 hs22) (fun _ h => h.elim) kd_Ck_typeIn ki_Ck (by dsimp only; omega) (by dsimp only; omega) d_Ck_lookHandle_73 (Nat.le_of_ble_eq_true rfl) (c_fS (n := 1) C km_Ck_69 ks_Ck_typeIn ki_Ck kd_Ck_typeIn ⟨by decide, by decide, by decide⟩ rfl rfl d_Ck_lookHandle_73) (fun v1 M1 hv hle => ?_) (fun E1 M1 hv hle => ?_)
                · rw [mbind_eq] at hF hS
                  obtain ⟨hx, hM1⟩ := hv
                  have hM2 := hM1.symm
                  subst hM2
                  generalize hq_w23 : F_Ck_typeIn cs w19.2 w15.1 = w23 at hF hS hx hle ⊢
                  cases hx
                  refine GW.eqs (st' := [.int w23]) rfl ?_
                  refine g_istore (lv' := [(7, .int w23), (6, .int (cI w19.2 (x1.getD 0) 1)), (5, .int w15.1), (4, .int w11.1), (3, .int w4.1), (0, .ref a0), (1, va_rf x1), (2, .int x2)]) C d_Ck_lookHandle_76 (by decide) rfl ?_
                  refine g_iload C d_Ck_lookHandle_78 rfl ?_
                  obtain ⟨hs24, hS⟩ := hS
                  refine c_call (av := [.int w15.1]) (rest := []) C hE (fun _ h => h) ⟨rfl, rfl⟩ hle (cc_Ck_effectsIn l hf D cs B dE lim _ w15.1 hs24) (fun _ h => h.elim) kd_Ck_effectsIn ki_Ck (by dsimp only; omega) (by dsimp only; omega) d_Ck_lookHandle_80 (Nat.le_of_ble_eq_true rfl) (c_fS (n := 1) C km_Ck_65 ks_Ck_effectsIn ki_Ck kd_Ck_effectsIn ⟨by decide, by decide, by decide⟩ rfl rfl d_Ck_lookHandle_80) (fun v1 M1 hv hle => ?_) (fun E1 M1 hv hle => ?_)
                  · rw [mbind_eq] at hF hS
                    obtain ⟨hx, hM1⟩ := hv
                    have hM2 := hM1.symm
                    subst hM2
                    generalize hq_w25 : F_Ck_effectsIn cs w19.2 w15.1 = w25 at hF hS hx hle ⊢
                    cases hx
                    refine GW.eqs (st' := [.int w25]) rfl ?_
                    refine g_iload C d_Ck_lookHandle_83 rfl ?_
                    obtain ⟨hs26, hS⟩ := hS
                    refine c_call (av := [.int w25, .int (cI w19.2 (x1.getD 0) 1)]) (rest := []) C hE (fun _ h => h) ⟨rfl, rfl⟩ hle (cc_N_isWithin l hf D cs B dE lim _ w25 (cI w19.2 (x1.getD 0) 1) hs26) (fun _ h => h.elim) kd_N_isWithin ki_N (by dsimp only; omega) (by dsimp only; omega) d_Ck_lookHandle_85 (Nat.le_of_ble_eq_true rfl) (c_fSN (n := 2) C (gE_mN hE km_Ck_149) ks_N_isWithin ki_N kd_N_isWithin ⟨by decide, by decide, by decide⟩ rfl rfl d_Ck_lookHandle_85) (fun v1 M1 hv hle => ?_) (fun E1 M1 hv hle => ?_)
                    · rw [mbind_eq] at hF hS
                      obtain ⟨hx, hM1⟩ := hv
                      have hM2 := hM1.symm
                      subst hM2
                      generalize hq_w27 : F_N_isWithin cs w19.2 w25 (cI w19.2 (x1.getD 0) 1) = w27 at hF hS hx hle ⊢
                      cases hx
                      refine GW.eqs (st' := [.int w27]) rfl ?_
                      refine g_if_ne C 102 d_Ck_lookHandle_88 (by decide) (fun hc28 => ?_) (fun hc28 => ?_)
                      · rw [if_neg hc28] at hF hS
                        refine g_iconst (v := 0) C d_Ck_lookHandle_102 (by decide) ?_
                        refine g_istore (lv' := [(8, .int 0), (7, .int w23), (6, .int (cI w19.2 (x1.getD 0) 1)), (5, .int w15.1), (4, .int w11.1), (3, .int w4.1), (0, .ref a0), (1, va_rf x1), (2, .int x2)]) C d_Ck_lookHandle_103 (by decide) rfl ?_
                        refine q_aload_n (r := x1) C d_Ck_lookHandle_105 rfl ?_
                        obtain ⟨ho29, hS⟩ := hS
                        refine GW.known1 (a := x1.getD 0) (cOq.at ho29).1 ?_
                        refine c_geti C hE.1 (ci := 4) i_No rfl 7 (by decide) (by decide) (by decide) kf_Ck_163 d_Ck_lookHandle_106 (cOq.at ho29).2 ?_
                        refine g_istore (lv' := [(9, .int (cI w19.2 (x1.getD 0) 7)), (8, .int 0), (7, .int w23), (6, .int (cI w19.2 (x1.getD 0) 1)), (5, .int w15.1), (4, .int w11.1), (3, .int w4.1), (0, .ref a0), (1, va_rf x1), (2, .int x2)]) C d_Ck_lookHandle_109 (by decide) rfl ?_
                        refine GW.subl [7, 8, 9, 6, 5, 4, 3, 2, 1, 0] rfl ?_
                        exact w_Ck_lookHandle_111 C hE hf hr hlocks hex hn hL n w19.2 a0 x1 x2 w4.1 w11.1 w15.1 (cI w19.2 (x1.getD 0) 1) w23 0 (cI w19.2 (x1.getD 0) 7) Fv hle hS hF
                      · rw [if_pos hc28] at hF hS
                        refine g_aload_n C d_Ck_lookHandle_91 rfl ?_
                        refine g_bipush (v := 7) C d_Ck_lookHandle_92 (by decide) ?_
                        refine q_aload_n (r := x1) C d_Ck_lookHandle_94 rfl ?_
                        obtain ⟨ho30, hS⟩ := hS
                        refine GW.known1 (a := x1.getD 0) (cOq.at ho30).1 ?_
                        refine c_geti C hE.1 (ci := 4) i_No rfl 5 (by decide) (by decide) (by decide) kf_Ck_126 d_Ck_lookHandle_95 (cOq.at ho30).2 ?_
                        obtain ⟨ho31, hS⟩ := hS
                        obtain ⟨hs32, hS⟩ := hS
                        refine c_call (av := [.ref a0, .int 7, .int (cI w19.2 (x1.getD 0) 5)]) (rest := []) C hE (fun _ h => h) ⟨rfl, rfl⟩ hle (cc_Ck_blame l hf D cs B dE lim _ a0 7 (cI w19.2 (x1.getD 0) 5) hs32) (fun _ h => h) kd_Ck_blame ki_Ck (by dsimp only; omega) (by dsimp only; omega) d_Ck_lookHandle_98 (Nat.le_of_ble_eq_true rfl) (c_fV (n := 2) (ci := 6) C hE.1 rfl km_Ck_58 kv_Ck_blame kl_Ck_blame kd_Ck_blame ⟨by decide, by decide, by decide⟩ rfl rfl d_Ck_lookHandle_98 ho31) (fun v1 M1 hv hle => ?_) (fun E1 M1 hv hle => ?_)
                        · rw [mbind_eq] at hF hS
                          obtain ⟨hx, hM1⟩ := hv
                          have hM2 := hM1.symm
                          subst hM2
                          generalize hq_w33 : F_Ck_blame cs w19.2 a0 7 (cI w19.2 (x1.getD 0) 5) = w33 at hF hS hx hle ⊢
                          cases hx
                          refine GW.eqs (st' := [.int w33.1]) rfl ?_
                          exact c_iret (M := w33.2) C hr hlocks hle d_Ck_lookHandle_101 (by rw [← hF]; exact ⟨rfl, rfl⟩)
                        · cases hv.1
                    · cases hv.1
                  · cases hv.1
                · cases hv.1
              · rw [if_pos hc20] at hF hS
                refine g_iconst (v := (-1)) C d_Ck_lookHandle_63 (by decide) ?_
                exact c_iret (M := w19.2) C hr hlocks hle d_Ck_lookHandle_64 (by rw [← hF]; exact ⟨rfl, rfl⟩)
            · cases hv.1
          · cases hv.1
        · cases hv.1
      · cases hv.1
    · rw [if_pos hc5] at hF hS
      refine g_iconst (v := (-1)) C d_Ck_lookHandle_17 (by decide) ?_
      exact c_iret (M := w4.2) C hr hlocks hle d_Ck_lookHandle_18 (by rw [← hF]; exact ⟨rfl, rfl⟩)
  · cases hv.1
def F_Ck_lookTwo (cs : Nat → ClassId) (n : Nat) (Lf : gMem → Nat → Int32 → Int32 → Int32 × gMem) (M : gMem) (a0 : Nat) (x1 : Option Nat) (x2 : Int32) : Int32 × gMem := mbind (Lf M a0 (cI M (x1.getD 0) 4) (x2 + 1)) (fun w4 => if w4.1 = (-1) then (if ((-1) : Int32) = (-1) then (((-1), w4.2)) else (mbind (F_Ck_typeIn cs w4.2 w4.1) (fun w41 => if w41 = 0 then (mbind (F_Ck_typeIn cs w4.2 (-1)) (fun w44 => if w44 = 0 then (if 2 < (cI w4.2 (x1.getD 0) 1) then (mbind (F_Ck_effectsIn cs w4.2 w4.1) (fun w49 => mbind (F_Ck_effectsIn cs w4.2 (-1)) (fun w51 => mbind (F_Ck_seenAs cs w4.2 1 (w49 ||| w51)) (fun w53 => (w53, w4.2))))) else (mbind (F_Ck_effectsIn cs w4.2 w4.1) (fun w55 => mbind (F_Ck_effectsIn cs w4.2 (-1)) (fun w57 => mbind (F_Ck_seenAs cs w4.2 0 (w55 ||| w57)) (fun w59 => (w59, w4.2)))))) else (mbind (F_Ck_blame cs w4.2 a0 6 (cI w4.2 (x1.getD 0) 5)) (fun w63 => (w63.1, w63.2))))) else (mbind (F_Ck_blame cs w4.2 a0 6 (cI w4.2 (x1.getD 0) 4)) (fun w67 => (w67.1, w67.2)))))) else (mbind (Lf w4.2 a0 (cI w4.2 (x1.getD 0) 5) (x2 + 1)) (fun w9 => if w9.1 = (-1) then (((-1), w9.2)) else (mbind (F_Ck_typeIn cs w9.2 w4.1) (fun w12 => if w12 = 0 then (mbind (F_Ck_typeIn cs w9.2 w9.1) (fun w15 => if w15 = 0 then (if 2 < (cI w9.2 (x1.getD 0) 1) then (mbind (F_Ck_effectsIn cs w9.2 w4.1) (fun w20 => mbind (F_Ck_effectsIn cs w9.2 w9.1) (fun w22 => mbind (F_Ck_seenAs cs w9.2 1 (w20 ||| w22)) (fun w24 => (w24, w9.2))))) else (mbind (F_Ck_effectsIn cs w9.2 w4.1) (fun w26 => mbind (F_Ck_effectsIn cs w9.2 w9.1) (fun w28 => mbind (F_Ck_seenAs cs w9.2 0 (w26 ||| w28)) (fun w30 => (w30, w9.2)))))) else (mbind (F_Ck_blame cs w9.2 a0 6 (cI w9.2 (x1.getD 0) 5)) (fun w34 => (w34.1, w34.2))))) else (mbind (F_Ck_blame cs w9.2 a0 6 (cI w9.2 (x1.getD 0) 4)) (fun w38 => (w38.1, w38.2))))))))
def S_Ck_lookTwo (cs : Nat → ClassId) (lim : Nat × Nat) (n : Nat) (Lf : gMem → Nat → Int32 → Int32 → Int32 × gMem) (Ls : gMem → Nat → Int32 → Int32 → Prop) (M : gMem) (a0 : Nat) (x1 : Option Nat) (x2 : Int32) : Prop := (cOq 4 M x1) ∧ ((cOk 6 M a0) ∧ ((Ls M a0 (cI M (x1.getD 0) 4) (x2 + 1)) ∧ (mbind (Lf M a0 (cI M (x1.getD 0) 4) (x2 + 1)) (fun w4 => if w4.1 = (-1) then (if ((-1) : Int32) = (-1) then (True) else ((S_Ck_typeIn cs lim w4.2 w4.1) ∧ (mbind (F_Ck_typeIn cs w4.2 w4.1) (fun w41 => if w41 = 0 then ((S_Ck_typeIn cs lim w4.2 (-1)) ∧ (mbind (F_Ck_typeIn cs w4.2 (-1)) (fun w44 => if w44 = 0 then ((cOq 4 w4.2 x1) ∧ (if 2 < (cI w4.2 (x1.getD 0) 1) then ((S_Ck_effectsIn cs lim w4.2 w4.1) ∧ (mbind (F_Ck_effectsIn cs w4.2 w4.1) (fun w49 => (S_Ck_effectsIn cs lim w4.2 (-1)) ∧ (mbind (F_Ck_effectsIn cs w4.2 (-1)) (fun w51 => (S_Ck_seenAs cs lim w4.2 1 (w49 ||| w51)) ∧ (mbind (F_Ck_seenAs cs w4.2 1 (w49 ||| w51)) (fun w53 => True))))))) else ((S_Ck_effectsIn cs lim w4.2 w4.1) ∧ (mbind (F_Ck_effectsIn cs w4.2 w4.1) (fun w55 => (S_Ck_effectsIn cs lim w4.2 (-1)) ∧ (mbind (F_Ck_effectsIn cs w4.2 (-1)) (fun w57 => (S_Ck_seenAs cs lim w4.2 0 (w55 ||| w57)) ∧ (mbind (F_Ck_seenAs cs w4.2 0 (w55 ||| w57)) (fun w59 => True))))))))) else ((cOq 4 w4.2 x1) ∧ ((cOk 6 w4.2 a0) ∧ ((S_Ck_blame cs lim w4.2 a0 6 (cI w4.2 (x1.getD 0) 5)) ∧ (mbind (F_Ck_blame cs w4.2 a0 6 (cI w4.2 (x1.getD 0) 5)) (fun w63 => True)))))))) else ((cOq 4 w4.2 x1) ∧ ((cOk 6 w4.2 a0) ∧ ((S_Ck_blame cs lim w4.2 a0 6 (cI w4.2 (x1.getD 0) 4)) ∧ (mbind (F_Ck_blame cs w4.2 a0 6 (cI w4.2 (x1.getD 0) 4)) (fun w67 => True))))))))) else ((cOq 4 w4.2 x1) ∧ ((cOk 6 w4.2 a0) ∧ ((Ls w4.2 a0 (cI w4.2 (x1.getD 0) 5) (x2 + 1)) ∧ (mbind (Lf w4.2 a0 (cI w4.2 (x1.getD 0) 5) (x2 + 1)) (fun w9 => if w9.1 = (-1) then (True) else ((S_Ck_typeIn cs lim w9.2 w4.1) ∧ (mbind (F_Ck_typeIn cs w9.2 w4.1) (fun w12 => if w12 = 0 then ((S_Ck_typeIn cs lim w9.2 w9.1) ∧ (mbind (F_Ck_typeIn cs w9.2 w9.1) (fun w15 => if w15 = 0 then ((cOq 4 w9.2 x1) ∧ (if 2 < (cI w9.2 (x1.getD 0) 1) then ((S_Ck_effectsIn cs lim w9.2 w4.1) ∧ (mbind (F_Ck_effectsIn cs w9.2 w4.1) (fun w20 => (S_Ck_effectsIn cs lim w9.2 w9.1) ∧ (mbind (F_Ck_effectsIn cs w9.2 w9.1) (fun w22 => (S_Ck_seenAs cs lim w9.2 1 (w20 ||| w22)) ∧ (mbind (F_Ck_seenAs cs w9.2 1 (w20 ||| w22)) (fun w24 => True))))))) else ((S_Ck_effectsIn cs lim w9.2 w4.1) ∧ (mbind (F_Ck_effectsIn cs w9.2 w4.1) (fun w26 => (S_Ck_effectsIn cs lim w9.2 w9.1) ∧ (mbind (F_Ck_effectsIn cs w9.2 w9.1) (fun w28 => (S_Ck_seenAs cs lim w9.2 0 (w26 ||| w28)) ∧ (mbind (F_Ck_seenAs cs w9.2 0 (w26 ||| w28)) (fun w30 => True))))))))) else ((cOq 4 w9.2 x1) ∧ ((cOk 6 w9.2 a0) ∧ ((S_Ck_blame cs lim w9.2 a0 6 (cI w9.2 (x1.getD 0) 5)) ∧ (mbind (F_Ck_blame cs w9.2 a0 6 (cI w9.2 (x1.getD 0) 5)) (fun w34 => True)))))))) else ((cOq 4 w9.2 x1) ∧ ((cOk 6 w9.2 a0) ∧ ((S_Ck_blame cs lim w9.2 a0 6 (cI w9.2 (x1.getD 0) 4)) ∧ (mbind (F_Ck_blame cs w9.2 a0 6 (cI w9.2 (x1.getD 0) 4)) (fun w38 => True)))))))))))))))))
set_option maxRecDepth 100000 in
set_option maxHeartbeats 4000000 in
theorem cc_Ck_lookTwo (l : Launch) (hf : l.flags = pinnedFlags ++ [noTraceFlag]) (D : va_G) (cs : Nat → ClassId) (B : Nat) (dE : Nat × Nat) (lim : Nat × Nat) (n : Nat) (Lf : gMem → Nat → Int32 → Int32 → Int32 × gMem) (Ls : gMem → Nat → Int32 → Int32 → Prop) (frL loL : Nat) (hL : ∀ (M : gMem) (a0 : Nat) (x1 x2 : Int32), Ls M a0 x1 x2 → cMet l y_Ck_look (Cond.code y_Ck_look c_Ck_look 4 (some .int)) frL loL D cs B dE (gA B) lim [.ref a0, .int x1, .int x2] M (fun x M' => x = .inl (some (.int ((Lf M a0 x1 x2).1))) ∧ M' = (Lf M a0 x1 x2).2)) (M : gMem) (a0 : Nat) (x1 : Option Nat) (x2 : Int32) (hS : S_Ck_lookTwo cs lim n Lf Ls M a0 x1 x2) : cMet l y_Ck_lookTwo (Cond.code y_Ck_lookTwo c_Ck_lookTwo 5 (some .int)) (frL + 8) (loL + 280) D cs B dE (gA B) lim [.ref a0, va_rf x1, .int x2] M (fun x M' => x = .inl (some (.int ((F_Ck_lookTwo cs n Lf M a0 x1 x2).1))) ∧ M' = (F_Ck_lookTwo cs n Lf M a0 x1 x2).2) := by
  refine cMet.ofW (by decide) (by cases x1 <;> exact Nat.le_of_ble_eq_true rfl) (lv0 := [(0, .ref a0), (1, va_rf x1), (2, .int x2)]) (by cases x1 <;> rfl) ?_
  intro p e s m args below meth c C hE hR0 hle hr hlocks hex hn
  generalize hF : F_Ck_lookTwo cs n Lf M a0 x1 x2 = Fv
  unfold F_Ck_lookTwo at hF
  unfold S_Ck_lookTwo at hS
  refine g_aload_n C d_Ck_lookTwo_0 rfl ?_
  refine q_aload_n (r := x1) C d_Ck_lookTwo_1 rfl ?_
  obtain ⟨ho1, hS⟩ := hS
  refine GW.known1 (a := x1.getD 0) (cOq.at ho1).1 ?_
  refine c_geti C hE.1 (ci := 4) i_No rfl 4 (by decide) (by decide) (by decide) kf_Ck_117 d_Ck_lookTwo_2 (cOq.at ho1).2 ?_
  refine g_iload_n C d_Ck_lookTwo_5 rfl ?_
  refine g_iconst (v := 1) C d_Ck_lookTwo_6 (by decide) ?_
  refine g_iadd C d_Ck_lookTwo_7 ?_
  refine GW.more (A' := gA B) (fun _ h => h.elim) ?_
  obtain ⟨ho2, hS⟩ := hS
  obtain ⟨hs3, hS⟩ := hS
  refine c_call (av := [.ref a0, .int (cI M (x1.getD 0) 4), .int (x2 + 1)]) (rest := []) C hE (fun _ h => h) ⟨rfl, rfl⟩ hle (hL _ a0 (cI M (x1.getD 0) 4) (x2 + 1) hs3) (fun _ h => h) kd_Ck_look ki_Ck (by dsimp only; omega) (by dsimp only; omega) d_Ck_lookTwo_8 (Nat.le_of_ble_eq_true rfl) (c_fV (n := 2) (ci := 6) C hE.1 rfl km_Ck_54 kv_Ck_look kl_Ck_look kd_Ck_look ⟨by decide, by decide, by decide⟩ rfl rfl d_Ck_lookTwo_8 ho2) (fun v1 M1 hv hle => ?_) (fun E1 M1 hv hle => ?_)
  · rw [mbind_eq] at hF hS
    obtain ⟨hx, hM1⟩ := hv
    have hM2 := hM1.symm
    subst hM2
    generalize hq_w4 : Lf M a0 (cI M (x1.getD 0) 4) (x2 + 1) = w4 at hF hS hx hle ⊢
    cases hx
    refine GW.eqs (st' := [.int w4.1]) rfl ?_
    refine g_istore_n (lv' := [(3, .int w4.1), (0, .ref a0), (1, va_rf x1), (2, .int x2)]) C d_Ck_lookTwo_11 (by decide) rfl ?_
    refine g_iload_n C d_Ck_lookTwo_12 rfl ?_
    refine g_iconst (v := (-1)) C d_Ck_lookTwo_13 (by decide) ?_
    refine g_icmp_ne C 21 d_Ck_lookTwo_14 (by decide) (fun hc5 => ?_) (fun hc5 => ?_)
    · rw [if_neg hc5] at hF hS
      refine g_aload_n C d_Ck_lookTwo_21 rfl ?_
      refine q_aload_n (r := x1) C d_Ck_lookTwo_22 rfl ?_
      obtain ⟨ho6, hS⟩ := hS
      refine GW.known1 (a := x1.getD 0) (cOq.at ho6).1 ?_
      refine c_geti C hE.1 (ci := 4) i_No rfl 5 (by decide) (by decide) (by decide) kf_Ck_126 d_Ck_lookTwo_23 (cOq.at ho6).2 ?_
      refine g_iload_n C d_Ck_lookTwo_26 rfl ?_
      refine g_iconst (v := 1) C d_Ck_lookTwo_27 (by decide) ?_
      refine g_iadd C d_Ck_lookTwo_28 ?_
      obtain ⟨ho7, hS⟩ := hS
      obtain ⟨hs8, hS⟩ := hS
      refine c_call (av := [.ref a0, .int (cI w4.2 (x1.getD 0) 5), .int (x2 + 1)]) (rest := []) C hE (fun _ h => h) ⟨rfl, rfl⟩ hle (hL _ a0 (cI w4.2 (x1.getD 0) 5) (x2 + 1) hs8) (fun _ h => h) kd_Ck_look ki_Ck (by dsimp only; omega) (by dsimp only; omega) d_Ck_lookTwo_29 (Nat.le_of_ble_eq_true rfl) (c_fV (n := 2) (ci := 6) C hE.1 rfl km_Ck_54 kv_Ck_look kl_Ck_look kd_Ck_look ⟨by decide, by decide, by decide⟩ rfl rfl d_Ck_lookTwo_29 ho7) (fun v1 M1 hv hle => ?_) (fun E1 M1 hv hle => ?_)
      · rw [mbind_eq] at hF hS
        obtain ⟨hx, hM1⟩ := hv
        have hM2 := hM1.symm
        subst hM2
        generalize hq_w9 : Lf w4.2 a0 (cI w4.2 (x1.getD 0) 5) (x2 + 1) = w9 at hF hS hx hle ⊢
        cases hx
        refine GW.eqs (st' := [.int w9.1]) rfl ?_
        refine g_istore (lv' := [(4, .int w9.1), (3, .int w4.1), (0, .ref a0), (1, va_rf x1), (2, .int x2)]) C d_Ck_lookTwo_32 (by decide) rfl ?_
        refine g_iload C d_Ck_lookTwo_34 rfl ?_
        refine g_iconst (v := (-1)) C d_Ck_lookTwo_36 (by decide) ?_
        refine g_icmp_ne C 42 d_Ck_lookTwo_37 (by decide) (fun hc10 => ?_) (fun hc10 => ?_)
        · rw [if_neg hc10] at hF hS
          refine g_iload_n C d_Ck_lookTwo_42 rfl ?_
          obtain ⟨hs11, hS⟩ := hS
          refine c_call (av := [.int w4.1]) (rest := []) C hE (fun _ h => h) ⟨rfl, rfl⟩ hle (cc_Ck_typeIn l hf D cs B dE lim _ w4.1 hs11) (fun _ h => h.elim) kd_Ck_typeIn ki_Ck (by dsimp only; omega) (by dsimp only; omega) d_Ck_lookTwo_43 (Nat.le_of_ble_eq_true rfl) (c_fS (n := 1) C km_Ck_69 ks_Ck_typeIn ki_Ck kd_Ck_typeIn ⟨by decide, by decide, by decide⟩ rfl rfl d_Ck_lookTwo_43) (fun v1 M1 hv hle => ?_) (fun E1 M1 hv hle => ?_)
          · rw [mbind_eq] at hF hS
            obtain ⟨hx, hM1⟩ := hv
            have hM2 := hM1.symm
            subst hM2
            generalize hq_w12 : F_Ck_typeIn cs w9.2 w4.1 = w12 at hF hS hx hle ⊢
            cases hx
            refine GW.eqs (st' := [.int w12]) rfl ?_
            refine g_if_eq C 60 d_Ck_lookTwo_46 (by decide) (fun hc13 => ?_) (fun hc13 => ?_)
            · rw [if_pos hc13] at hF hS
              refine g_iload C d_Ck_lookTwo_60 rfl ?_
              obtain ⟨hs14, hS⟩ := hS
              refine c_call (av := [.int w9.1]) (rest := []) C hE (fun _ h => h) ⟨rfl, rfl⟩ hle (cc_Ck_typeIn l hf D cs B dE lim _ w9.1 hs14) (fun _ h => h.elim) kd_Ck_typeIn ki_Ck (by dsimp only; omega) (by dsimp only; omega) d_Ck_lookTwo_62 (Nat.le_of_ble_eq_true rfl) (c_fS (n := 1) C km_Ck_69 ks_Ck_typeIn ki_Ck kd_Ck_typeIn ⟨by decide, by decide, by decide⟩ rfl rfl d_Ck_lookTwo_62) (fun v1 M1 hv hle => ?_) (fun E1 M1 hv hle => ?_)
              · rw [mbind_eq] at hF hS
                obtain ⟨hx, hM1⟩ := hv
                have hM2 := hM1.symm
                subst hM2
                generalize hq_w15 : F_Ck_typeIn cs w9.2 w9.1 = w15 at hF hS hx hle ⊢
                cases hx
                refine GW.eqs (st' := [.int w15]) rfl ?_
                refine g_if_eq C 79 d_Ck_lookTwo_65 (by decide) (fun hc16 => ?_) (fun hc16 => ?_)
                · rw [if_pos hc16] at hF hS
                  refine q_aload_n (r := x1) C d_Ck_lookTwo_79 rfl ?_
                  obtain ⟨ho17, hS⟩ := hS
                  refine GW.known1 (a := x1.getD 0) (cOq.at ho17).1 ?_
                  refine c_geti C hE.1 (ci := 4) i_No rfl 1 (by decide) (by decide) (by decide) kf_Ck_114 d_Ck_lookTwo_80 (cOq.at ho17).2 ?_
                  refine g_iconst (v := 2) C d_Ck_lookTwo_83 (by decide) ?_
                  refine g_icmp_gt C 91 d_Ck_lookTwo_84 (by decide) (fun hc18 => ?_) (fun hc18 => ?_)
                  · rw [if_pos hc18] at hF hS
                    refine g_iconst (v := 1) C d_Ck_lookTwo_91 (by decide) ?_
                    refine g_iload_n C d_Ck_lookTwo_92 rfl ?_
                    obtain ⟨hs19, hS⟩ := hS
                    refine c_call (av := [.int w4.1]) (rest := [.int 1]) C hE (fun _ h => h) ⟨rfl, rfl⟩ hle (cc_Ck_effectsIn l hf D cs B dE lim _ w4.1 hs19) (fun _ h => h.elim) kd_Ck_effectsIn ki_Ck (by dsimp only; omega) (by dsimp only; omega) d_Ck_lookTwo_93 (Nat.le_of_ble_eq_true rfl) (c_fS (n := 1) C km_Ck_65 ks_Ck_effectsIn ki_Ck kd_Ck_effectsIn ⟨by decide, by decide, by decide⟩ rfl rfl d_Ck_lookTwo_93) (fun v1 M1 hv hle => ?_) (fun E1 M1 hv hle => ?_)
                    · rw [mbind_eq] at hF hS
                      obtain ⟨hx, hM1⟩ := hv
                      have hM2 := hM1.symm
                      subst hM2
                      generalize hq_w20 : F_Ck_effectsIn cs w9.2 w4.1 = w20 at hF hS hx hle ⊢
                      cases hx
                      refine GW.eqs (st' := [.int w20, .int 1]) rfl ?_
                      refine g_iload C d_Ck_lookTwo_96 rfl ?_
                      obtain ⟨hs21, hS⟩ := hS
                      refine c_call (av := [.int w9.1]) (rest := [.int w20, .int 1]) C hE (fun _ h => h) ⟨rfl, rfl⟩ hle (cc_Ck_effectsIn l hf D cs B dE lim _ w9.1 hs21) (fun _ h => h.elim) kd_Ck_effectsIn ki_Ck (by dsimp only; omega) (by dsimp only; omega) d_Ck_lookTwo_98 (Nat.le_of_ble_eq_true rfl) (c_fS (n := 1) C km_Ck_65 ks_Ck_effectsIn ki_Ck kd_Ck_effectsIn ⟨by decide, by decide, by decide⟩ rfl rfl d_Ck_lookTwo_98) (fun v1 M1 hv hle => ?_) (fun E1 M1 hv hle => ?_)
                      · rw [mbind_eq] at hF hS
                        obtain ⟨hx, hM1⟩ := hv
                        have hM2 := hM1.symm
                        subst hM2
                        generalize hq_w22 : F_Ck_effectsIn cs w9.2 w9.1 = w22 at hF hS hx hle ⊢
                        cases hx
                        refine GW.eqs (st' := [.int w22, .int w20, .int 1]) rfl ?_
                        refine g_ior C d_Ck_lookTwo_101 ?_
                        obtain ⟨hs23, hS⟩ := hS
                        refine c_call (av := [.int 1, .int (w20 ||| w22)]) (rest := []) C hE (fun _ h => h) ⟨rfl, rfl⟩ hle (cc_Ck_seenAs l hf D cs B dE lim _ 1 (w20 ||| w22) hs23) (fun _ h => h.elim) kd_Ck_seenAs ki_Ck (by dsimp only; omega) (by dsimp only; omega) d_Ck_lookTwo_102 (Nat.le_of_ble_eq_true rfl) (c_fS (n := 2) C km_Ck_83 ks_Ck_seenAs ki_Ck kd_Ck_seenAs ⟨by decide, by decide, by decide⟩ rfl rfl d_Ck_lookTwo_102) (fun v1 M1 hv hle => ?_) (fun E1 M1 hv hle => ?_)
                        · rw [mbind_eq] at hF hS
                          obtain ⟨hx, hM1⟩ := hv
                          have hM2 := hM1.symm
                          subst hM2
                          generalize hq_w24 : F_Ck_seenAs cs w9.2 1 (w20 ||| w22) = w24 at hF hS hx hle ⊢
                          cases hx
                          refine GW.eqs (st' := [.int w24]) rfl ?_
                          exact c_iret (M := w9.2) C hr hlocks hle d_Ck_lookTwo_105 (by rw [← hF]; exact ⟨rfl, rfl⟩)
                        · cases hv.1
                      · cases hv.1
                    · cases hv.1
                  · rw [if_neg hc18] at hF hS
                    refine g_iconst (v := 0) C d_Ck_lookTwo_87 (by decide) ?_
                    refine g_goto C 92 d_Ck_lookTwo_88 (by decide) ?_
                    refine g_iload_n C d_Ck_lookTwo_92 rfl ?_
                    obtain ⟨hs25, hS⟩ := hS
                    refine c_call (av := [.int w4.1]) (rest := [.int 0]) C hE (fun _ h => h) ⟨rfl, rfl⟩ hle (cc_Ck_effectsIn l hf D cs B dE lim _ w4.1 hs25) (fun _ h => h.elim) kd_Ck_effectsIn ki_Ck (by dsimp only; omega) (by dsimp only; omega) d_Ck_lookTwo_93 (Nat.le_of_ble_eq_true rfl) (c_fS (n := 1) C km_Ck_65 ks_Ck_effectsIn ki_Ck kd_Ck_effectsIn ⟨by decide, by decide, by decide⟩ rfl rfl d_Ck_lookTwo_93) (fun v1 M1 hv hle => ?_) (fun E1 M1 hv hle => ?_)
                    · rw [mbind_eq] at hF hS
                      obtain ⟨hx, hM1⟩ := hv
                      have hM2 := hM1.symm
                      subst hM2
                      generalize hq_w26 : F_Ck_effectsIn cs w9.2 w4.1 = w26 at hF hS hx hle ⊢
                      cases hx
                      refine GW.eqs (st' := [.int w26, .int 0]) rfl ?_
                      refine g_iload C d_Ck_lookTwo_96 rfl ?_
                      obtain ⟨hs27, hS⟩ := hS
                      refine c_call (av := [.int w9.1]) (rest := [.int w26, .int 0]) C hE (fun _ h => h) ⟨rfl, rfl⟩ hle (cc_Ck_effectsIn l hf D cs B dE lim _ w9.1 hs27) (fun _ h => h.elim) kd_Ck_effectsIn ki_Ck (by dsimp only; omega) (by dsimp only; omega) d_Ck_lookTwo_98 (Nat.le_of_ble_eq_true rfl) (c_fS (n := 1) C km_Ck_65 ks_Ck_effectsIn ki_Ck kd_Ck_effectsIn ⟨by decide, by decide, by decide⟩ rfl rfl d_Ck_lookTwo_98) (fun v1 M1 hv hle => ?_) (fun E1 M1 hv hle => ?_)
                      · rw [mbind_eq] at hF hS
                        obtain ⟨hx, hM1⟩ := hv
                        have hM2 := hM1.symm
                        subst hM2
                        generalize hq_w28 : F_Ck_effectsIn cs w9.2 w9.1 = w28 at hF hS hx hle ⊢
                        cases hx
                        refine GW.eqs (st' := [.int w28, .int w26, .int 0]) rfl ?_
                        refine g_ior C d_Ck_lookTwo_101 ?_
                        obtain ⟨hs29, hS⟩ := hS
                        refine c_call (av := [.int 0, .int (w26 ||| w28)]) (rest := []) C hE (fun _ h => h) ⟨rfl, rfl⟩ hle (cc_Ck_seenAs l hf D cs B dE lim _ 0 (w26 ||| w28) hs29) (fun _ h => h.elim) kd_Ck_seenAs ki_Ck (by dsimp only; omega) (by dsimp only; omega) d_Ck_lookTwo_102 (Nat.le_of_ble_eq_true rfl) (c_fS (n := 2) C km_Ck_83 ks_Ck_seenAs ki_Ck kd_Ck_seenAs ⟨by decide, by decide, by decide⟩ rfl rfl d_Ck_lookTwo_102) (fun v1 M1 hv hle => ?_) (fun E1 M1 hv hle => ?_)
                        · rw [mbind_eq] at hF hS
                          obtain ⟨hx, hM1⟩ := hv
                          have hM2 := hM1.symm
                          subst hM2
                          generalize hq_w30 : F_Ck_seenAs cs w9.2 0 (w26 ||| w28) = w30 at hF hS hx hle ⊢
                          cases hx
                          refine GW.eqs (st' := [.int w30]) rfl ?_
                          exact c_iret (M := w9.2) C hr hlocks hle d_Ck_lookTwo_105 (by rw [← hF]; exact ⟨rfl, rfl⟩)
                        · cases hv.1
                      · cases hv.1
                    · cases hv.1
                · rw [if_neg hc16] at hF hS
                  refine g_aload_n C d_Ck_lookTwo_68 rfl ?_
                  refine g_bipush (v := 6) C d_Ck_lookTwo_69 (by decide) ?_
                  refine q_aload_n (r := x1) C d_Ck_lookTwo_71 rfl ?_
                  obtain ⟨ho31, hS⟩ := hS
                  refine GW.known1 (a := x1.getD 0) (cOq.at ho31).1 ?_
                  refine c_geti C hE.1 (ci := 4) i_No rfl 5 (by decide) (by decide) (by decide) kf_Ck_126 d_Ck_lookTwo_72 (cOq.at ho31).2 ?_
                  obtain ⟨ho32, hS⟩ := hS
                  obtain ⟨hs33, hS⟩ := hS
                  refine c_call (av := [.ref a0, .int 6, .int (cI w9.2 (x1.getD 0) 5)]) (rest := []) C hE (fun _ h => h) ⟨rfl, rfl⟩ hle (cc_Ck_blame l hf D cs B dE lim _ a0 6 (cI w9.2 (x1.getD 0) 5) hs33) (fun _ h => h) kd_Ck_blame ki_Ck (by dsimp only; omega) (by dsimp only; omega) d_Ck_lookTwo_75 (Nat.le_of_ble_eq_true rfl) (c_fV (n := 2) (ci := 6) C hE.1 rfl km_Ck_58 kv_Ck_blame kl_Ck_blame kd_Ck_blame ⟨by decide, by decide, by decide⟩ rfl rfl d_Ck_lookTwo_75 ho32) (fun v1 M1 hv hle => ?_) (fun E1 M1 hv hle => ?_)
                  · rw [mbind_eq] at hF hS
                    obtain ⟨hx, hM1⟩ := hv
                    have hM2 := hM1.symm
                    subst hM2
                    generalize hq_w34 : F_Ck_blame cs w9.2 a0 6 (cI w9.2 (x1.getD 0) 5) = w34 at hF hS hx hle ⊢
                    cases hx
                    refine GW.eqs (st' := [.int w34.1]) rfl ?_
                    exact c_iret (M := w34.2) C hr hlocks hle d_Ck_lookTwo_78 (by rw [← hF]; exact ⟨rfl, rfl⟩)
                  · cases hv.1
              · cases hv.1
            · rw [if_neg hc13] at hF hS
              refine g_aload_n C d_Ck_lookTwo_49 rfl ?_
              refine g_bipush (v := 6) C d_Ck_lookTwo_50 (by decide) ?_
              refine q_aload_n (r := x1) C d_Ck_lookTwo_52 rfl ?_
              obtain ⟨ho35, hS⟩ := hS
              refine GW.known1 (a := x1.getD 0) (cOq.at ho35).1 ?_
              refine c_geti C hE.1 (ci := 4) i_No rfl 4 (by decide) (by decide) (by decide) kf_Ck_117 d_Ck_lookTwo_53 (cOq.at ho35).2 ?_
              obtain ⟨ho36, hS⟩ := hS
              obtain ⟨hs37, hS⟩ := hS
              refine c_call (av := [.ref a0, .int 6, .int (cI w9.2 (x1.getD 0) 4)]) (rest := []) C hE (fun _ h => h) ⟨rfl, rfl⟩ hle (cc_Ck_blame l hf D cs B dE lim _ a0 6 (cI w9.2 (x1.getD 0) 4) hs37) (fun _ h => h) kd_Ck_blame ki_Ck (by dsimp only; omega) (by dsimp only; omega) d_Ck_lookTwo_56 (Nat.le_of_ble_eq_true rfl) (c_fV (n := 2) (ci := 6) C hE.1 rfl km_Ck_58 kv_Ck_blame kl_Ck_blame kd_Ck_blame ⟨by decide, by decide, by decide⟩ rfl rfl d_Ck_lookTwo_56 ho36) (fun v1 M1 hv hle => ?_) (fun E1 M1 hv hle => ?_)
              · rw [mbind_eq] at hF hS
                obtain ⟨hx, hM1⟩ := hv
                have hM2 := hM1.symm
                subst hM2
                generalize hq_w38 : F_Ck_blame cs w9.2 a0 6 (cI w9.2 (x1.getD 0) 4) = w38 at hF hS hx hle ⊢
                cases hx
                refine GW.eqs (st' := [.int w38.1]) rfl ?_
                exact c_iret (M := w38.2) C hr hlocks hle d_Ck_lookTwo_59 (by rw [← hF]; exact ⟨rfl, rfl⟩)
              · cases hv.1
          · cases hv.1
        · rw [if_pos hc10] at hF hS
          refine g_iconst (v := (-1)) C d_Ck_lookTwo_40 (by decide) ?_
          exact c_iret (M := w9.2) C hr hlocks hle d_Ck_lookTwo_41 (by rw [← hF]; exact ⟨rfl, rfl⟩)
      · cases hv.1
    · rw [if_pos hc5] at hF hS
      refine g_iconst (v := (-1)) C d_Ck_lookTwo_17 (by decide) ?_
      refine g_goto C 32 d_Ck_lookTwo_18 (by decide) ?_
      refine g_istore (lv' := [(4, .int (-1)), (3, .int w4.1), (0, .ref a0), (1, va_rf x1), (2, .int x2)]) C d_Ck_lookTwo_32 (by decide) rfl ?_
      refine g_iload C d_Ck_lookTwo_34 rfl ?_
      refine g_iconst (v := (-1)) C d_Ck_lookTwo_36 (by decide) ?_
      refine g_icmp_ne C 42 d_Ck_lookTwo_37 (by decide) (fun hc39 => ?_) (fun hc39 => ?_)
      · rw [if_neg hc39] at hF hS
        refine g_iload_n C d_Ck_lookTwo_42 rfl ?_
        obtain ⟨hs40, hS⟩ := hS
        refine c_call (av := [.int w4.1]) (rest := []) C hE (fun _ h => h) ⟨rfl, rfl⟩ hle (cc_Ck_typeIn l hf D cs B dE lim _ w4.1 hs40) (fun _ h => h.elim) kd_Ck_typeIn ki_Ck (by dsimp only; omega) (by dsimp only; omega) d_Ck_lookTwo_43 (Nat.le_of_ble_eq_true rfl) (c_fS (n := 1) C km_Ck_69 ks_Ck_typeIn ki_Ck kd_Ck_typeIn ⟨by decide, by decide, by decide⟩ rfl rfl d_Ck_lookTwo_43) (fun v1 M1 hv hle => ?_) (fun E1 M1 hv hle => ?_)
        · rw [mbind_eq] at hF hS
          obtain ⟨hx, hM1⟩ := hv
          have hM2 := hM1.symm
          subst hM2
          generalize hq_w41 : F_Ck_typeIn cs w4.2 w4.1 = w41 at hF hS hx hle ⊢
          cases hx
          refine GW.eqs (st' := [.int w41]) rfl ?_
          refine g_if_eq C 60 d_Ck_lookTwo_46 (by decide) (fun hc42 => ?_) (fun hc42 => ?_)
          · rw [if_pos hc42] at hF hS
            refine g_iload C d_Ck_lookTwo_60 rfl ?_
            obtain ⟨hs43, hS⟩ := hS
            refine c_call (av := [.int (-1)]) (rest := []) C hE (fun _ h => h) ⟨rfl, rfl⟩ hle (cc_Ck_typeIn l hf D cs B dE lim _ (-1) hs43) (fun _ h => h.elim) kd_Ck_typeIn ki_Ck (by dsimp only; omega) (by dsimp only; omega) d_Ck_lookTwo_62 (Nat.le_of_ble_eq_true rfl) (c_fS (n := 1) C km_Ck_69 ks_Ck_typeIn ki_Ck kd_Ck_typeIn ⟨by decide, by decide, by decide⟩ rfl rfl d_Ck_lookTwo_62) (fun v1 M1 hv hle => ?_) (fun E1 M1 hv hle => ?_)
            · rw [mbind_eq] at hF hS
              obtain ⟨hx, hM1⟩ := hv
              have hM2 := hM1.symm
              subst hM2
              generalize hq_w44 : F_Ck_typeIn cs w4.2 (-1) = w44 at hF hS hx hle ⊢
              cases hx
              refine GW.eqs (st' := [.int w44]) rfl ?_
              refine g_if_eq C 79 d_Ck_lookTwo_65 (by decide) (fun hc45 => ?_) (fun hc45 => ?_)
              · rw [if_pos hc45] at hF hS
                refine q_aload_n (r := x1) C d_Ck_lookTwo_79 rfl ?_
                obtain ⟨ho46, hS⟩ := hS
                refine GW.known1 (a := x1.getD 0) (cOq.at ho46).1 ?_
                refine c_geti C hE.1 (ci := 4) i_No rfl 1 (by decide) (by decide) (by decide) kf_Ck_114 d_Ck_lookTwo_80 (cOq.at ho46).2 ?_
                refine g_iconst (v := 2) C d_Ck_lookTwo_83 (by decide) ?_
                refine g_icmp_gt C 91 d_Ck_lookTwo_84 (by decide) (fun hc47 => ?_) (fun hc47 => ?_)
                · rw [if_pos hc47] at hF hS
                  refine g_iconst (v := 1) C d_Ck_lookTwo_91 (by decide) ?_
                  refine g_iload_n C d_Ck_lookTwo_92 rfl ?_
                  obtain ⟨hs48, hS⟩ := hS
                  refine c_call (av := [.int w4.1]) (rest := [.int 1]) C hE (fun _ h => h) ⟨rfl, rfl⟩ hle (cc_Ck_effectsIn l hf D cs B dE lim _ w4.1 hs48) (fun _ h => h.elim) kd_Ck_effectsIn ki_Ck (by dsimp only; omega) (by dsimp only; omega) d_Ck_lookTwo_93 (Nat.le_of_ble_eq_true rfl) (c_fS (n := 1) C km_Ck_65 ks_Ck_effectsIn ki_Ck kd_Ck_effectsIn ⟨by decide, by decide, by decide⟩ rfl rfl d_Ck_lookTwo_93) (fun v1 M1 hv hle => ?_) (fun E1 M1 hv hle => ?_)
                  · rw [mbind_eq] at hF hS
                    obtain ⟨hx, hM1⟩ := hv
                    have hM2 := hM1.symm
                    subst hM2
                    generalize hq_w49 : F_Ck_effectsIn cs w4.2 w4.1 = w49 at hF hS hx hle ⊢
                    cases hx
                    refine GW.eqs (st' := [.int w49, .int 1]) rfl ?_
                    refine g_iload C d_Ck_lookTwo_96 rfl ?_
                    obtain ⟨hs50, hS⟩ := hS
                    refine c_call (av := [.int (-1)]) (rest := [.int w49, .int 1]) C hE (fun _ h => h) ⟨rfl, rfl⟩ hle (cc_Ck_effectsIn l hf D cs B dE lim _ (-1) hs50) (fun _ h => h.elim) kd_Ck_effectsIn ki_Ck (by dsimp only; omega) (by dsimp only; omega) d_Ck_lookTwo_98 (Nat.le_of_ble_eq_true rfl) (c_fS (n := 1) C km_Ck_65 ks_Ck_effectsIn ki_Ck kd_Ck_effectsIn ⟨by decide, by decide, by decide⟩ rfl rfl d_Ck_lookTwo_98) (fun v1 M1 hv hle => ?_) (fun E1 M1 hv hle => ?_)
                    · rw [mbind_eq] at hF hS
                      obtain ⟨hx, hM1⟩ := hv
                      have hM2 := hM1.symm
                      subst hM2
                      generalize hq_w51 : F_Ck_effectsIn cs w4.2 (-1) = w51 at hF hS hx hle ⊢
                      cases hx
                      refine GW.eqs (st' := [.int w51, .int w49, .int 1]) rfl ?_
                      refine g_ior C d_Ck_lookTwo_101 ?_
                      obtain ⟨hs52, hS⟩ := hS
                      refine c_call (av := [.int 1, .int (w49 ||| w51)]) (rest := []) C hE (fun _ h => h) ⟨rfl, rfl⟩ hle (cc_Ck_seenAs l hf D cs B dE lim _ 1 (w49 ||| w51) hs52) (fun _ h => h.elim) kd_Ck_seenAs ki_Ck (by dsimp only; omega) (by dsimp only; omega) d_Ck_lookTwo_102 (Nat.le_of_ble_eq_true rfl) (c_fS (n := 2) C km_Ck_83 ks_Ck_seenAs ki_Ck kd_Ck_seenAs ⟨by decide, by decide, by decide⟩ rfl rfl d_Ck_lookTwo_102) (fun v1 M1 hv hle => ?_) (fun E1 M1 hv hle => ?_)
                      · rw [mbind_eq] at hF hS
                        obtain ⟨hx, hM1⟩ := hv
                        have hM2 := hM1.symm
                        subst hM2
                        generalize hq_w53 : F_Ck_seenAs cs w4.2 1 (w49 ||| w51) = w53 at hF hS hx hle ⊢
                        cases hx
                        refine GW.eqs (st' := [.int w53]) rfl ?_
                        exact c_iret (M := w4.2) C hr hlocks hle d_Ck_lookTwo_105 (by rw [← hF]; exact ⟨rfl, rfl⟩)
                      · cases hv.1
                    · cases hv.1
                  · cases hv.1
                · rw [if_neg hc47] at hF hS
                  refine g_iconst (v := 0) C d_Ck_lookTwo_87 (by decide) ?_
                  refine g_goto C 92 d_Ck_lookTwo_88 (by decide) ?_
                  refine g_iload_n C d_Ck_lookTwo_92 rfl ?_
                  obtain ⟨hs54, hS⟩ := hS
                  refine c_call (av := [.int w4.1]) (rest := [.int 0]) C hE (fun _ h => h) ⟨rfl, rfl⟩ hle (cc_Ck_effectsIn l hf D cs B dE lim _ w4.1 hs54) (fun _ h => h.elim) kd_Ck_effectsIn ki_Ck (by dsimp only; omega) (by dsimp only; omega) d_Ck_lookTwo_93 (Nat.le_of_ble_eq_true rfl) (c_fS (n := 1) C km_Ck_65 ks_Ck_effectsIn ki_Ck kd_Ck_effectsIn ⟨by decide, by decide, by decide⟩ rfl rfl d_Ck_lookTwo_93) (fun v1 M1 hv hle => ?_) (fun E1 M1 hv hle => ?_)
                  · rw [mbind_eq] at hF hS
                    obtain ⟨hx, hM1⟩ := hv
                    have hM2 := hM1.symm
                    subst hM2
                    generalize hq_w55 : F_Ck_effectsIn cs w4.2 w4.1 = w55 at hF hS hx hle ⊢
                    cases hx
                    refine GW.eqs (st' := [.int w55, .int 0]) rfl ?_
                    refine g_iload C d_Ck_lookTwo_96 rfl ?_
                    obtain ⟨hs56, hS⟩ := hS
                    refine c_call (av := [.int (-1)]) (rest := [.int w55, .int 0]) C hE (fun _ h => h) ⟨rfl, rfl⟩ hle (cc_Ck_effectsIn l hf D cs B dE lim _ (-1) hs56) (fun _ h => h.elim) kd_Ck_effectsIn ki_Ck (by dsimp only; omega) (by dsimp only; omega) d_Ck_lookTwo_98 (Nat.le_of_ble_eq_true rfl) (c_fS (n := 1) C km_Ck_65 ks_Ck_effectsIn ki_Ck kd_Ck_effectsIn ⟨by decide, by decide, by decide⟩ rfl rfl d_Ck_lookTwo_98) (fun v1 M1 hv hle => ?_) (fun E1 M1 hv hle => ?_)
                    · rw [mbind_eq] at hF hS
                      obtain ⟨hx, hM1⟩ := hv
                      have hM2 := hM1.symm
                      subst hM2
                      generalize hq_w57 : F_Ck_effectsIn cs w4.2 (-1) = w57 at hF hS hx hle ⊢
                      cases hx
                      refine GW.eqs (st' := [.int w57, .int w55, .int 0]) rfl ?_
                      refine g_ior C d_Ck_lookTwo_101 ?_
                      obtain ⟨hs58, hS⟩ := hS
                      refine c_call (av := [.int 0, .int (w55 ||| w57)]) (rest := []) C hE (fun _ h => h) ⟨rfl, rfl⟩ hle (cc_Ck_seenAs l hf D cs B dE lim _ 0 (w55 ||| w57) hs58) (fun _ h => h.elim) kd_Ck_seenAs ki_Ck (by dsimp only; omega) (by dsimp only; omega) d_Ck_lookTwo_102 (Nat.le_of_ble_eq_true rfl) (c_fS (n := 2) C km_Ck_83 ks_Ck_seenAs ki_Ck kd_Ck_seenAs ⟨by decide, by decide, by decide⟩ rfl rfl d_Ck_lookTwo_102) (fun v1 M1 hv hle => ?_) (fun E1 M1 hv hle => ?_)
                      · rw [mbind_eq] at hF hS
                        obtain ⟨hx, hM1⟩ := hv
                        have hM2 := hM1.symm
                        subst hM2
                        generalize hq_w59 : F_Ck_seenAs cs w4.2 0 (w55 ||| w57) = w59 at hF hS hx hle ⊢
                        cases hx
                        refine GW.eqs (st' := [.int w59]) rfl ?_
                        exact c_iret (M := w4.2) C hr hlocks hle d_Ck_lookTwo_105 (by rw [← hF]; exact ⟨rfl, rfl⟩)
                      · cases hv.1
                    · cases hv.1
                  · cases hv.1
              · rw [if_neg hc45] at hF hS
                refine g_aload_n C d_Ck_lookTwo_68 rfl ?_
                refine g_bipush (v := 6) C d_Ck_lookTwo_69 (by decide) ?_
                refine q_aload_n (r := x1) C d_Ck_lookTwo_71 rfl ?_
                obtain ⟨ho60, hS⟩ := hS
                refine GW.known1 (a := x1.getD 0) (cOq.at ho60).1 ?_
                refine c_geti C hE.1 (ci := 4) i_No rfl 5 (by decide) (by decide) (by decide) kf_Ck_126 d_Ck_lookTwo_72 (cOq.at ho60).2 ?_
                obtain ⟨ho61, hS⟩ := hS
                obtain ⟨hs62, hS⟩ := hS
                refine c_call (av := [.ref a0, .int 6, .int (cI w4.2 (x1.getD 0) 5)]) (rest := []) C hE (fun _ h => h) ⟨rfl, rfl⟩ hle (cc_Ck_blame l hf D cs B dE lim _ a0 6 (cI w4.2 (x1.getD 0) 5) hs62) (fun _ h => h) kd_Ck_blame ki_Ck (by dsimp only; omega) (by dsimp only; omega) d_Ck_lookTwo_75 (Nat.le_of_ble_eq_true rfl) (c_fV (n := 2) (ci := 6) C hE.1 rfl km_Ck_58 kv_Ck_blame kl_Ck_blame kd_Ck_blame ⟨by decide, by decide, by decide⟩ rfl rfl d_Ck_lookTwo_75 ho61) (fun v1 M1 hv hle => ?_) (fun E1 M1 hv hle => ?_)
                · rw [mbind_eq] at hF hS
                  obtain ⟨hx, hM1⟩ := hv
                  have hM2 := hM1.symm
                  subst hM2
                  generalize hq_w63 : F_Ck_blame cs w4.2 a0 6 (cI w4.2 (x1.getD 0) 5) = w63 at hF hS hx hle ⊢
                  cases hx
                  refine GW.eqs (st' := [.int w63.1]) rfl ?_
                  exact c_iret (M := w63.2) C hr hlocks hle d_Ck_lookTwo_78 (by rw [← hF]; exact ⟨rfl, rfl⟩)
                · cases hv.1
            · cases hv.1
          · rw [if_neg hc42] at hF hS
            refine g_aload_n C d_Ck_lookTwo_49 rfl ?_
            refine g_bipush (v := 6) C d_Ck_lookTwo_50 (by decide) ?_
            refine q_aload_n (r := x1) C d_Ck_lookTwo_52 rfl ?_
            obtain ⟨ho64, hS⟩ := hS
            refine GW.known1 (a := x1.getD 0) (cOq.at ho64).1 ?_
            refine c_geti C hE.1 (ci := 4) i_No rfl 4 (by decide) (by decide) (by decide) kf_Ck_117 d_Ck_lookTwo_53 (cOq.at ho64).2 ?_
            obtain ⟨ho65, hS⟩ := hS
            obtain ⟨hs66, hS⟩ := hS
            refine c_call (av := [.ref a0, .int 6, .int (cI w4.2 (x1.getD 0) 4)]) (rest := []) C hE (fun _ h => h) ⟨rfl, rfl⟩ hle (cc_Ck_blame l hf D cs B dE lim _ a0 6 (cI w4.2 (x1.getD 0) 4) hs66) (fun _ h => h) kd_Ck_blame ki_Ck (by dsimp only; omega) (by dsimp only; omega) d_Ck_lookTwo_56 (Nat.le_of_ble_eq_true rfl) (c_fV (n := 2) (ci := 6) C hE.1 rfl km_Ck_58 kv_Ck_blame kl_Ck_blame kd_Ck_blame ⟨by decide, by decide, by decide⟩ rfl rfl d_Ck_lookTwo_56 ho65) (fun v1 M1 hv hle => ?_) (fun E1 M1 hv hle => ?_)
            · rw [mbind_eq] at hF hS
              obtain ⟨hx, hM1⟩ := hv
              have hM2 := hM1.symm
              subst hM2
              generalize hq_w67 : F_Ck_blame cs w4.2 a0 6 (cI w4.2 (x1.getD 0) 4) = w67 at hF hS hx hle ⊢
              cases hx
              refine GW.eqs (st' := [.int w67.1]) rfl ?_
              exact c_iret (M := w67.2) C hr hlocks hle d_Ck_lookTwo_59 (by rw [← hF]; exact ⟨rfl, rfl⟩)
            · cases hv.1
        · cases hv.1
      · rw [if_pos hc39] at hF hS
        refine g_iconst (v := (-1)) C d_Ck_lookTwo_40 (by decide) ?_
        exact c_iret (M := w4.2) C hr hlocks hle d_Ck_lookTwo_41 (by rw [← hF]; exact ⟨rfl, rfl⟩)
  · cases hv.1
