def F_Ck_lookCall (cs : Nat → ClassId) (n : Nat) (Lf : gMem → Nat → Int32 → Int32 → Int32 × gMem) (M : gMem) (a0 : Nat) (x1 : Option Nat) (x2 : Int32) : Int32 × gMem := mbind (Lf M a0 (cI M (x1.getD 0) 4) (x2 + 1)) (fun w4 => if w4.1 = (-1) then (((-1), w4.2)) else (mbind (F_Ck_typeIn cs w4.2 w4.1) (fun w7 => mbind (F_Ty_isFunction cs w4.2 ((cQ w4.2 a0 1).getD 0) w7) (fun w11 => if w11 = 0 then (mbind (F_Ck_blame cs w4.2 a0 6 (cI w4.2 (x1.getD 0) 4)) (fun w50 => (w50.1, w50.2))) else (mbind (Lf w4.2 a0 (cI w4.2 (x1.getD 0) 5) (x2 + 1)) (fun w16 => if w16.1 = (-1) then (((-1), w16.2)) else (mbind (F_Ck_typeIn cs w16.2 w16.1) (fun w20 => mbind (F_Ty_argumentOf cs w16.2 ((cQ w16.2 a0 1).getD 0) w7) (fun w24 => mbind (F_Ty_suits cs w16.2 ((cQ w16.2 a0 1).getD 0) w20 w24) (fun w27 => if w27 = 0 then (mbind (F_Ck_blame cs w16.2 a0 6 (cI w16.2 (x1.getD 0) 5)) (fun w46 => (w46.1, w46.2))) else (mbind (F_Ck_effectsIn cs w16.2 w4.1) (fun w30 => mbind (F_Ck_effectsIn cs w16.2 w16.1) (fun w32 => mbind (F_Ty_rowOf cs w16.2 ((cQ w16.2 a0 1).getD 0) w7) (fun w36 => mbind (F_Ty_resultOf cs w16.2 ((cQ w16.2 a0 1).getD 0) w7) (fun w40 => mbind (F_Ck_seenAs cs w16.2 w40 ((w30 ||| w32) ||| w36)) (fun w42 => (w42, w16.2)))))))))))))))))
def S_Ck_lookCall (cs : Nat → ClassId) (lim : Nat × Nat) (n : Nat) (Lf : gMem → Nat → Int32 → Int32 → Int32 × gMem) (Ls : gMem → Nat → Int32 → Int32 → Prop) (M : gMem) (a0 : Nat) (x1 : Option Nat) (x2 : Int32) : Prop := (cOq 4 M x1) ∧ ((cOk 6 M a0) ∧ ((Ls M a0 (cI M (x1.getD 0) 4) (x2 + 1)) ∧ (mbind (Lf M a0 (cI M (x1.getD 0) 4) (x2 + 1)) (fun w4 => if w4.1 = (-1) then (True) else ((S_Ck_typeIn cs lim w4.2 w4.1) ∧ (mbind (F_Ck_typeIn cs w4.2 w4.1) (fun w7 => (cOk 6 w4.2 a0) ∧ ((cOq 1 w4.2 (cQ w4.2 a0 1)) ∧ ((S_Ty_isFunction cs lim w4.2 ((cQ w4.2 a0 1).getD 0) w7) ∧ (mbind (F_Ty_isFunction cs w4.2 ((cQ w4.2 a0 1).getD 0) w7) (fun w11 => if w11 = 0 then ((cOq 4 w4.2 x1) ∧ ((cOk 6 w4.2 a0) ∧ ((S_Ck_blame cs lim w4.2 a0 6 (cI w4.2 (x1.getD 0) 4)) ∧ (mbind (F_Ck_blame cs w4.2 a0 6 (cI w4.2 (x1.getD 0) 4)) (fun w50 => True))))) else ((cOq 4 w4.2 x1) ∧ ((cOk 6 w4.2 a0) ∧ ((Ls w4.2 a0 (cI w4.2 (x1.getD 0) 5) (x2 + 1)) ∧ (mbind (Lf w4.2 a0 (cI w4.2 (x1.getD 0) 5) (x2 + 1)) (fun w16 => if w16.1 = (-1) then (True) else ((cOk 6 w16.2 a0) ∧ ((S_Ck_typeIn cs lim w16.2 w16.1) ∧ (mbind (F_Ck_typeIn cs w16.2 w16.1) (fun w20 => (cOk 6 w16.2 a0) ∧ ((cOq 1 w16.2 (cQ w16.2 a0 1)) ∧ ((S_Ty_argumentOf cs lim w16.2 ((cQ w16.2 a0 1).getD 0) w7) ∧ (mbind (F_Ty_argumentOf cs w16.2 ((cQ w16.2 a0 1).getD 0) w7) (fun w24 => (cOq 1 w16.2 (cQ w16.2 a0 1)) ∧ ((S_Ty_suits cs lim w16.2 ((cQ w16.2 a0 1).getD 0) w20 w24) ∧ (mbind (F_Ty_suits cs w16.2 ((cQ w16.2 a0 1).getD 0) w20 w24) (fun w27 => if w27 = 0 then ((cOq 4 w16.2 x1) ∧ ((cOk 6 w16.2 a0) ∧ ((S_Ck_blame cs lim w16.2 a0 6 (cI w16.2 (x1.getD 0) 5)) ∧ (mbind (F_Ck_blame cs w16.2 a0 6 (cI w16.2 (x1.getD 0) 5)) (fun w46 => True))))) else ((S_Ck_effectsIn cs lim w16.2 w4.1) ∧ (mbind (F_Ck_effectsIn cs w16.2 w4.1) (fun w30 => (S_Ck_effectsIn cs lim w16.2 w16.1) ∧ (mbind (F_Ck_effectsIn cs w16.2 w16.1) (fun w32 => (cOk 6 w16.2 a0) ∧ ((cOq 1 w16.2 (cQ w16.2 a0 1)) ∧ ((S_Ty_rowOf cs lim w16.2 ((cQ w16.2 a0 1).getD 0) w7) ∧ (mbind (F_Ty_rowOf cs w16.2 ((cQ w16.2 a0 1).getD 0) w7) (fun w36 => (cOk 6 w16.2 a0) ∧ ((cOq 1 w16.2 (cQ w16.2 a0 1)) ∧ ((S_Ty_resultOf cs lim w16.2 ((cQ w16.2 a0 1).getD 0) w7) ∧ (mbind (F_Ty_resultOf cs w16.2 ((cQ w16.2 a0 1).getD 0) w7) (fun w40 => (S_Ck_seenAs cs lim w16.2 w40 ((w30 ||| w32) ||| w36)) ∧ (mbind (F_Ck_seenAs cs w16.2 w40 ((w30 ||| w32) ||| w36)) (fun w42 => True))))))))))))))))))))))))))))))))))))))))))
set_option maxRecDepth 100000 in
set_option maxHeartbeats 4000000 in
theorem cc_Ck_lookCall (l : Launch) (hf : l.flags = pinnedFlags ++ [noTraceFlag]) (D : va_G) (cs : Nat → ClassId) (B : Nat) (dE : Nat × Nat) (lim : Nat × Nat) (n : Nat) (Lf : gMem → Nat → Int32 → Int32 → Int32 × gMem) (Ls : gMem → Nat → Int32 → Int32 → Prop) (frL loL : Nat) (hL : ∀ (M : gMem) (a0 : Nat) (x1 x2 : Int32), Ls M a0 x1 x2 → cMet l y_Ck_look (Cond.code y_Ck_look c_Ck_look 4 (some .int)) frL loL D cs B dE (gA B) lim [.ref a0, .int x1, .int x2] M (fun x M' => x = .inl (some (.int ((Lf M a0 x1 x2).1))) ∧ M' = (Lf M a0 x1 x2).2)) (M : gMem) (a0 : Nat) (x1 : Option Nat) (x2 : Int32) (hS : S_Ck_lookCall cs lim n Lf Ls M a0 x1 x2) : cMet l y_Ck_lookCall (Cond.code y_Ck_lookCall c_Ck_lookCall 7 (some .int)) (frL + 8) (loL + 280) D cs B dE (gA B) lim [.ref a0, va_rf x1, .int x2] M (fun x M' => x = .inl (some (.int ((F_Ck_lookCall cs n Lf M a0 x1 x2).1))) ∧ M' = (F_Ck_lookCall cs n Lf M a0 x1 x2).2) := by
  refine cMet.ofW (by decide) (by cases x1 <;> exact Nat.le_of_ble_eq_true rfl) (lv0 := [(0, .ref a0), (1, va_rf x1), (2, .int x2)]) (by cases x1 <;> rfl) ?_
  intro p e s m args below meth c C hE hR0 hle hr hlocks hex hn
  generalize hF : F_Ck_lookCall cs n Lf M a0 x1 x2 = Fv
  unfold F_Ck_lookCall at hF
  unfold S_Ck_lookCall at hS
  refine g_aload_n C d_Ck_lookCall_0 rfl ?_
  refine q_aload_n (r := x1) C d_Ck_lookCall_1 rfl ?_
  obtain ⟨ho1, hS⟩ := hS
  refine GW.known1 (a := x1.getD 0) (cOq.at ho1).1 ?_
  refine c_geti C hE.1 (ci := 4) i_No rfl 4 (by decide) (by decide) (by decide) kf_Ck_117 d_Ck_lookCall_2 (cOq.at ho1).2 ?_
  refine g_iload_n C d_Ck_lookCall_5 rfl ?_
  refine g_iconst (v := 1) C d_Ck_lookCall_6 (by decide) ?_
  refine g_iadd C d_Ck_lookCall_7 ?_
  refine GW.more (A' := gA B) (fun _ h => h.elim) ?_
  obtain ⟨ho2, hS⟩ := hS
  obtain ⟨hs3, hS⟩ := hS
  refine c_call (av := [.ref a0, .int (cI M (x1.getD 0) 4), .int (x2 + 1)]) (rest := []) C hE (fun _ h => h) ⟨rfl, rfl⟩ hle (hL _ a0 (cI M (x1.getD 0) 4) (x2 + 1) hs3) (fun _ h => h) kd_Ck_look ki_Ck (by dsimp only; omega) (by dsimp only; omega) d_Ck_lookCall_8 (Nat.le_of_ble_eq_true rfl) (c_fV (n := 2) (ci := 6) C hE.1 rfl km_Ck_54 kv_Ck_look kl_Ck_look kd_Ck_look ⟨by decide, by decide, by decide⟩ rfl rfl d_Ck_lookCall_8 ho2) (fun v1 M1 hv hle => ?_) (fun E1 M1 hv hle => ?_)
  · rw [mbind_eq] at hF hS
    obtain ⟨hx, hM1⟩ := hv
    have hM2 := hM1.symm
    subst hM2
    generalize hq_w4 : Lf M a0 (cI M (x1.getD 0) 4) (x2 + 1) = w4 at hF hS hx hle ⊢
    cases hx
    refine GW.eqs (st' := [.int w4.1]) rfl ?_
    refine g_istore_n (lv' := [(3, .int w4.1), (0, .ref a0), (1, va_rf x1), (2, .int x2)]) C d_Ck_lookCall_11 (by decide) rfl ?_
    refine g_iload_n C d_Ck_lookCall_12 rfl ?_
    refine g_iconst (v := (-1)) C d_Ck_lookCall_13 (by decide) ?_
    refine g_icmp_ne C 19 d_Ck_lookCall_14 (by decide) (fun hc5 => ?_) (fun hc5 => ?_)
    · rw [if_neg hc5] at hF hS
      refine g_iload_n C d_Ck_lookCall_19 rfl ?_
      obtain ⟨hs6, hS⟩ := hS
      refine c_call (av := [.int w4.1]) (rest := []) C hE (fun _ h => h) ⟨rfl, rfl⟩ hle (cc_Ck_typeIn l hf D cs B dE lim _ w4.1 hs6) (fun _ h => h.elim) kd_Ck_typeIn ki_Ck (by dsimp only; omega) (by dsimp only; omega) d_Ck_lookCall_20 (Nat.le_of_ble_eq_true rfl) (c_fS (n := 1) C km_Ck_69 ks_Ck_typeIn ki_Ck kd_Ck_typeIn ⟨by decide, by decide, by decide⟩ rfl rfl d_Ck_lookCall_20) (fun v1 M1 hv hle => ?_) (fun E1 M1 hv hle => ?_)
      · rw [mbind_eq] at hF hS
        obtain ⟨hx, hM1⟩ := hv
        have hM2 := hM1.symm
        subst hM2
        generalize hq_w7 : F_Ck_typeIn cs w4.2 w4.1 = w7 at hF hS hx hle ⊢
        cases hx
        refine GW.eqs (st' := [.int w7]) rfl ?_
        refine g_istore (lv' := [(4, .int w7), (3, .int w4.1), (0, .ref a0), (1, va_rf x1), (2, .int x2)]) C d_Ck_lookCall_23 (by decide) rfl ?_
        refine g_aload_n C d_Ck_lookCall_25 rfl ?_
        obtain ⟨ho8, hS⟩ := hS
        refine c_getq C hE.1 (ci := 6) i_Ck rfl 1 (by decide) (by decide) (by decide) kf_Ck_19 d_Ck_lookCall_26 ho8 ?_
        refine g_iload C d_Ck_lookCall_29 rfl ?_
        obtain ⟨ho9, hS⟩ := hS
        refine GW.known2 (a := (cQ w4.2 a0 1).getD 0) (cOq.at ho9).1 ?_
        obtain ⟨hs10, hS⟩ := hS
        refine c_call (av := [.ref ((cQ w4.2 a0 1).getD 0), .int w7]) (rest := []) C hE (fun _ h => h) ⟨rfl, rfl⟩ hle (cc_Ty_isFunction l hf D cs B dE lim _ ((cQ w4.2 a0 1).getD 0) w7 hs10) (fun _ h => h.elim) kd_Ty_isFunction ki_Ty (by dsimp only; omega) (by dsimp only; omega) d_Ck_lookCall_31 (Nat.le_of_ble_eq_true rfl) (c_fV (n := 1) (ci := 1) C hE.1 rfl km_Ck_159 kv_Ty_isFunction kl_Ty_isFunction kd_Ty_isFunction ⟨by decide, by decide, by decide⟩ rfl rfl d_Ck_lookCall_31 (cOq.at ho9).2) (fun v1 M1 hv hle => ?_) (fun E1 M1 hv hle => ?_)
        · rw [mbind_eq] at hF hS
          obtain ⟨hx, hM1⟩ := hv
          have hM2 := hM1.symm
          subst hM2
          generalize hq_w11 : F_Ty_isFunction cs w4.2 ((cQ w4.2 a0 1).getD 0) w7 = w11 at hF hS hx hle ⊢
          cases hx
          refine GW.eqs (st' := [.int w11]) rfl ?_
          refine g_if_ne C 48 d_Ck_lookCall_34 (by decide) (fun hc12 => ?_) (fun hc12 => ?_)
          · rw [if_neg hc12] at hF hS
            refine g_aload_n C d_Ck_lookCall_48 rfl ?_
            refine q_aload_n (r := x1) C d_Ck_lookCall_49 rfl ?_
            obtain ⟨ho13, hS⟩ := hS
            refine GW.known1 (a := x1.getD 0) (cOq.at ho13).1 ?_
            refine c_geti C hE.1 (ci := 4) i_No rfl 5 (by decide) (by decide) (by decide) kf_Ck_126 d_Ck_lookCall_50 (cOq.at ho13).2 ?_
            refine g_iload_n C d_Ck_lookCall_53 rfl ?_
            refine g_iconst (v := 1) C d_Ck_lookCall_54 (by decide) ?_
            refine g_iadd C d_Ck_lookCall_55 ?_
            obtain ⟨ho14, hS⟩ := hS
            obtain ⟨hs15, hS⟩ := hS
            refine c_call (av := [.ref a0, .int (cI w4.2 (x1.getD 0) 5), .int (x2 + 1)]) (rest := []) C hE (fun _ h => h) ⟨rfl, rfl⟩ hle (hL _ a0 (cI w4.2 (x1.getD 0) 5) (x2 + 1) hs15) (fun _ h => h) kd_Ck_look ki_Ck (by dsimp only; omega) (by dsimp only; omega) d_Ck_lookCall_56 (Nat.le_of_ble_eq_true rfl) (c_fV (n := 2) (ci := 6) C hE.1 rfl km_Ck_54 kv_Ck_look kl_Ck_look kd_Ck_look ⟨by decide, by decide, by decide⟩ rfl rfl d_Ck_lookCall_56 ho14) (fun v1 M1 hv hle => ?_) (fun E1 M1 hv hle => ?_)
            · rw [mbind_eq] at hF hS
              obtain ⟨hx, hM1⟩ := hv
              have hM2 := hM1.symm
              subst hM2
              generalize hq_w16 : Lf w4.2 a0 (cI w4.2 (x1.getD 0) 5) (x2 + 1) = w16 at hF hS hx hle ⊢
              cases hx
              refine GW.eqs (st' := [.int w16.1]) rfl ?_
              refine g_istore (lv' := [(5, .int w16.1), (4, .int w7), (3, .int w4.1), (0, .ref a0), (1, va_rf x1), (2, .int x2)]) C d_Ck_lookCall_59 (by decide) rfl ?_
              refine g_iload C d_Ck_lookCall_61 rfl ?_
              refine g_iconst (v := (-1)) C d_Ck_lookCall_63 (by decide) ?_
              refine g_icmp_ne C 69 d_Ck_lookCall_64 (by decide) (fun hc17 => ?_) (fun hc17 => ?_)
              · rw [if_neg hc17] at hF hS
                refine g_aload_n C d_Ck_lookCall_69 rfl ?_
                obtain ⟨ho18, hS⟩ := hS
                refine c_getq C hE.1 (ci := 6) i_Ck rfl 1 (by decide) (by decide) (by decide) kf_Ck_19 d_Ck_lookCall_70 ho18 ?_
                refine g_iload C d_Ck_lookCall_73 rfl ?_
                obtain ⟨hs19, hS⟩ := hS
                refine c_call (av := [.int w16.1]) (rest := [va_rf (cQ w16.2 a0 1)]) C hE (fun _ h => h) ⟨rfl, rfl⟩ hle (cc_Ck_typeIn l hf D cs B dE lim _ w16.1 hs19) (fun _ h => h.elim) kd_Ck_typeIn ki_Ck (by dsimp only; omega) (by dsimp only; omega) d_Ck_lookCall_75 (by simp only [List.map_cons, List.map_nil, rf_cat, List.sum_cons, List.sum_nil]; exact Nat.le_of_ble_eq_true rfl) (c_fS (n := 1) C km_Ck_69 ks_Ck_typeIn ki_Ck kd_Ck_typeIn ⟨by decide, by decide, by decide⟩ rfl rfl d_Ck_lookCall_75) (fun v1 M1 hv hle => ?_) (fun E1 M1 hv hle => ?_)
                · rw [mbind_eq] at hF hS
                  obtain ⟨hx, hM1⟩ := hv
                  have hM2 := hM1.symm
                  subst hM2
                  generalize hq_w20 : F_Ck_typeIn cs w16.2 w16.1 = w20 at hF hS hx hle ⊢
                  cases hx
                  refine GW.eqs (st' := [.int w20, va_rf (cQ w16.2 a0 1)]) rfl ?_
                  refine g_aload_n C d_Ck_lookCall_78 rfl ?_
                  obtain ⟨ho21, hS⟩ := hS
                  refine c_getq C hE.1 (ci := 6) i_Ck rfl 1 (by decide) (by decide) (by decide) kf_Ck_19 d_Ck_lookCall_79 ho21 ?_
                  refine g_iload C d_Ck_lookCall_82 rfl ?_
                  obtain ⟨ho22, hS⟩ := hS
                  refine GW.known2 (a := (cQ w16.2 a0 1).getD 0) (cOq.at ho22).1 ?_
                  obtain ⟨hs23, hS⟩ := hS
                  refine c_call (av := [.ref ((cQ w16.2 a0 1).getD 0), .int w7]) (rest := [.int w20, va_rf (cQ w16.2 a0 1)]) C hE (fun _ h => h) ⟨rfl, rfl⟩ hle (cc_Ty_argumentOf l hf D cs B dE lim _ ((cQ w16.2 a0 1).getD 0) w7 hs23) (fun _ h => h.elim) kd_Ty_argumentOf ki_Ty (by dsimp only; omega) (by dsimp only; omega) d_Ck_lookCall_84 (by simp only [List.map_cons, List.map_nil, rf_cat, List.sum_cons, List.sum_nil]; exact Nat.le_of_ble_eq_true rfl) (c_fV (n := 1) (ci := 1) C hE.1 rfl km_Ck_132 kv_Ty_argumentOf kl_Ty_argumentOf kd_Ty_argumentOf ⟨by decide, by decide, by decide⟩ rfl rfl d_Ck_lookCall_84 (cOq.at ho22).2) (fun v1 M1 hv hle => ?_) (fun E1 M1 hv hle => ?_)
                  · rw [mbind_eq] at hF hS
                    obtain ⟨hx, hM1⟩ := hv
                    have hM2 := hM1.symm
                    subst hM2
                    generalize hq_w24 : F_Ty_argumentOf cs w16.2 ((cQ w16.2 a0 1).getD 0) w7 = w24 at hF hS hx hle ⊢
                    cases hx
                    refine GW.eqs (st' := [.int w24, .int w20, va_rf (cQ w16.2 a0 1)]) rfl ?_
                    obtain ⟨ho25, hS⟩ := hS
                    refine GW.known3 (a := (cQ w16.2 a0 1).getD 0) (cOq.at ho25).1 ?_
                    obtain ⟨hs26, hS⟩ := hS
                    refine c_call (av := [.ref ((cQ w16.2 a0 1).getD 0), .int w20, .int w24]) (rest := []) C hE (fun _ h => h) ⟨rfl, rfl⟩ hle (cc_Ty_suits l hf D cs B dE lim _ ((cQ w16.2 a0 1).getD 0) w20 w24 hs26) (fun _ h => h.elim) kd_Ty_suits ki_Ty (by dsimp only; omega) (by dsimp only; omega) d_Ck_lookCall_87 (Nat.le_of_ble_eq_true rfl) (c_fV (n := 2) (ci := 1) C hE.1 rfl km_Ck_142 kv_Ty_suits kl_Ty_suits kd_Ty_suits ⟨by decide, by decide, by decide⟩ rfl rfl d_Ck_lookCall_87 (cOq.at ho25).2) (fun v1 M1 hv hle => ?_) (fun E1 M1 hv hle => ?_)
                    · rw [mbind_eq] at hF hS
                      obtain ⟨hx, hM1⟩ := hv
                      have hM2 := hM1.symm
                      subst hM2
                      generalize hq_w27 : F_Ty_suits cs w16.2 ((cQ w16.2 a0 1).getD 0) w20 w24 = w27 at hF hS hx hle ⊢
                      cases hx
                      refine GW.eqs (st' := [.int w27]) rfl ?_
                      refine g_if_ne C 104 d_Ck_lookCall_90 (by decide) (fun hc28 => ?_) (fun hc28 => ?_)
                      · rw [if_neg hc28] at hF hS
                        refine g_iload_n C d_Ck_lookCall_104 rfl ?_
                        obtain ⟨hs29, hS⟩ := hS
                        refine c_call (av := [.int w4.1]) (rest := []) C hE (fun _ h => h) ⟨rfl, rfl⟩ hle (cc_Ck_effectsIn l hf D cs B dE lim _ w4.1 hs29) (fun _ h => h.elim) kd_Ck_effectsIn ki_Ck (by dsimp only; omega) (by dsimp only; omega) d_Ck_lookCall_105 (Nat.le_of_ble_eq_true rfl) (c_fS (n := 1) C km_Ck_65 ks_Ck_effectsIn ki_Ck kd_Ck_effectsIn ⟨by decide, by decide, by decide⟩ rfl rfl d_Ck_lookCall_105) (fun v1 M1 hv hle => ?_) (fun E1 M1 hv hle => ?_)
                        · rw [mbind_eq] at hF hS
                          obtain ⟨hx, hM1⟩ := hv
                          have hM2 := hM1.symm
                          subst hM2
                          generalize hq_w30 : F_Ck_effectsIn cs w16.2 w4.1 = w30 at hF hS hx hle ⊢
                          cases hx
                          refine GW.eqs (st' := [.int w30]) rfl ?_
                          refine g_iload C d_Ck_lookCall_108 rfl ?_
                          obtain ⟨hs31, hS⟩ := hS
                          refine c_call (av := [.int w16.1]) (rest := [.int w30]) C hE (fun _ h => h) ⟨rfl, rfl⟩ hle (cc_Ck_effectsIn l hf D cs B dE lim _ w16.1 hs31) (fun _ h => h.elim) kd_Ck_effectsIn ki_Ck (by dsimp only; omega) (by dsimp only; omega) d_Ck_lookCall_110 (Nat.le_of_ble_eq_true rfl) (c_fS (n := 1) C km_Ck_65 ks_Ck_effectsIn ki_Ck kd_Ck_effectsIn ⟨by decide, by decide, by decide⟩ rfl rfl d_Ck_lookCall_110) (fun v1 M1 hv hle => ?_) (fun E1 M1 hv hle => ?_)
                          · rw [mbind_eq] at hF hS
                            obtain ⟨hx, hM1⟩ := hv
                            have hM2 := hM1.symm
                            subst hM2
                            generalize hq_w32 : F_Ck_effectsIn cs w16.2 w16.1 = w32 at hF hS hx hle ⊢
                            cases hx
                            refine GW.eqs (st' := [.int w32, .int w30]) rfl ?_
                            refine g_ior C d_Ck_lookCall_113 ?_
                            refine g_aload_n C d_Ck_lookCall_114 rfl ?_
                            obtain ⟨ho33, hS⟩ := hS
                            refine c_getq C hE.1 (ci := 6) i_Ck rfl 1 (by decide) (by decide) (by decide) kf_Ck_19 d_Ck_lookCall_115 ho33 ?_
                            refine g_iload C d_Ck_lookCall_118 rfl ?_
                            obtain ⟨ho34, hS⟩ := hS
                            refine GW.known2 (a := (cQ w16.2 a0 1).getD 0) (cOq.at ho34).1 ?_
                            obtain ⟨hs35, hS⟩ := hS
                            refine c_call (av := [.ref ((cQ w16.2 a0 1).getD 0), .int w7]) (rest := [.int (w30 ||| w32)]) C hE (fun _ h => h) ⟨rfl, rfl⟩ hle (cc_Ty_rowOf l hf D cs B dE lim _ ((cQ w16.2 a0 1).getD 0) w7 hs35) (fun _ h => h.elim) kd_Ty_rowOf ki_Ty (by dsimp only; omega) (by dsimp only; omega) d_Ck_lookCall_120 (Nat.le_of_ble_eq_true rfl) (c_fV (n := 1) (ci := 1) C hE.1 rfl km_Ck_146 kv_Ty_rowOf kl_Ty_rowOf kd_Ty_rowOf ⟨by decide, by decide, by decide⟩ rfl rfl d_Ck_lookCall_120 (cOq.at ho34).2) (fun v1 M1 hv hle => ?_) (fun E1 M1 hv hle => ?_)
                            · rw [mbind_eq] at hF hS
                              obtain ⟨hx, hM1⟩ := hv
                              have hM2 := hM1.symm
                              subst hM2
                              generalize hq_w36 : F_Ty_rowOf cs w16.2 ((cQ w16.2 a0 1).getD 0) w7 = w36 at hF hS hx hle ⊢
                              cases hx
                              refine GW.eqs (st' := [.int w36, .int (w30 ||| w32)]) rfl ?_
                              refine g_ior C d_Ck_lookCall_123 ?_
                              refine g_istore (lv' := [(6, .int ((w30 ||| w32) ||| w36)), (5, .int w16.1), (4, .int w7), (3, .int w4.1), (0, .ref a0), (1, va_rf x1), (2, .int x2)]) C d_Ck_lookCall_124 (by decide) rfl ?_
                              refine g_aload_n C d_Ck_lookCall_126 rfl ?_
                              obtain ⟨ho37, hS⟩ := hS
                              refine c_getq C hE.1 (ci := 6) i_Ck rfl 1 (by decide) (by decide) (by decide) kf_Ck_19 d_Ck_lookCall_127 ho37 ?_
                              refine g_iload C d_Ck_lookCall_130 rfl ?_
                              obtain ⟨ho38, hS⟩ := hS
                              refine GW.known2 (a := (cQ w16.2 a0 1).getD 0) (cOq.at ho38).1 ?_
                              obtain ⟨hs39, hS⟩ := hS
                              refine c_call (av := [.ref ((cQ w16.2 a0 1).getD 0), .int w7]) (rest := []) C hE (fun _ h => h) ⟨rfl, rfl⟩ hle (cc_Ty_resultOf l hf D cs B dE lim _ ((cQ w16.2 a0 1).getD 0) w7 hs39) (fun _ h => h.elim) kd_Ty_resultOf ki_Ty (by dsimp only; omega) (by dsimp only; omega) d_Ck_lookCall_132 (Nat.le_of_ble_eq_true rfl) (c_fV (n := 1) (ci := 1) C hE.1 rfl km_Ck_139 kv_Ty_resultOf kl_Ty_resultOf kd_Ty_resultOf ⟨by decide, by decide, by decide⟩ rfl rfl d_Ck_lookCall_132 (cOq.at ho38).2) (fun v1 M1 hv hle => ?_) (fun E1 M1 hv hle => ?_)
                              · rw [mbind_eq] at hF hS
                                obtain ⟨hx, hM1⟩ := hv
                                have hM2 := hM1.symm
                                subst hM2
                                generalize hq_w40 : F_Ty_resultOf cs w16.2 ((cQ w16.2 a0 1).getD 0) w7 = w40 at hF hS hx hle ⊢
                                cases hx
                                refine GW.eqs (st' := [.int w40]) rfl ?_
                                refine g_iload C d_Ck_lookCall_135 rfl ?_
                                obtain ⟨hs41, hS⟩ := hS
                                refine c_call (av := [.int w40, .int ((w30 ||| w32) ||| w36)]) (rest := []) C hE (fun _ h => h) ⟨rfl, rfl⟩ hle (cc_Ck_seenAs l hf D cs B dE lim _ w40 ((w30 ||| w32) ||| w36) hs41) (fun _ h => h.elim) kd_Ck_seenAs ki_Ck (by dsimp only; omega) (by dsimp only; omega) d_Ck_lookCall_137 (Nat.le_of_ble_eq_true rfl) (c_fS (n := 2) C km_Ck_83 ks_Ck_seenAs ki_Ck kd_Ck_seenAs ⟨by decide, by decide, by decide⟩ rfl rfl d_Ck_lookCall_137) (fun v1 M1 hv hle => ?_) (fun E1 M1 hv hle => ?_)
                                · rw [mbind_eq] at hF hS
                                  obtain ⟨hx, hM1⟩ := hv
                                  have hM2 := hM1.symm
                                  subst hM2
                                  generalize hq_w42 : F_Ck_seenAs cs w16.2 w40 ((w30 ||| w32) ||| w36) = w42 at hF hS hx hle ⊢
                                  cases hx
                                  refine GW.eqs (st' := [.int w42]) rfl ?_
                                  exact c_iret (M := w16.2) C hr hlocks hle d_Ck_lookCall_140 (by rw [← hF]; exact ⟨rfl, rfl⟩)
                                · cases hv.1
                              · cases hv.1
                            · cases hv.1
                          · cases hv.1
                        · cases hv.1
                      · rw [if_pos hc28] at hF hS
                        refine g_aload_n C d_Ck_lookCall_93 rfl ?_
                        refine g_bipush (v := 6) C d_Ck_lookCall_94 (by decide) ?_
                        refine q_aload_n (r := x1) C d_Ck_lookCall_96 rfl ?_
                        obtain ⟨ho43, hS⟩ := hS
                        refine GW.known1 (a := x1.getD 0) (cOq.at ho43).1 ?_
                        refine c_geti C hE.1 (ci := 4) i_No rfl 5 (by decide) (by decide) (by decide) kf_Ck_126 d_Ck_lookCall_97 (cOq.at ho43).2 ?_
                        obtain ⟨ho44, hS⟩ := hS
                        obtain ⟨hs45, hS⟩ := hS
                        refine c_call (av := [.ref a0, .int 6, .int (cI w16.2 (x1.getD 0) 5)]) (rest := []) C hE (fun _ h => h) ⟨rfl, rfl⟩ hle (cc_Ck_blame l hf D cs B dE lim _ a0 6 (cI w16.2 (x1.getD 0) 5) hs45) (fun _ h => h) kd_Ck_blame ki_Ck (by dsimp only; omega) (by dsimp only; omega) d_Ck_lookCall_100 (Nat.le_of_ble_eq_true rfl) (c_fV (n := 2) (ci := 6) C hE.1 rfl km_Ck_58 kv_Ck_blame kl_Ck_blame kd_Ck_blame ⟨by decide, by decide, by decide⟩ rfl rfl d_Ck_lookCall_100 ho44) (fun v1 M1 hv hle => ?_) (fun E1 M1 hv hle => ?_)
                        · rw [mbind_eq] at hF hS
                          obtain ⟨hx, hM1⟩ := hv
                          have hM2 := hM1.symm
                          subst hM2
                          generalize hq_w46 : F_Ck_blame cs w16.2 a0 6 (cI w16.2 (x1.getD 0) 5) = w46 at hF hS hx hle ⊢
                          cases hx
                          refine GW.eqs (st' := [.int w46.1]) rfl ?_
                          exact c_iret (M := w46.2) C hr hlocks hle d_Ck_lookCall_103 (by rw [← hF]; exact ⟨rfl, rfl⟩)
                        · cases hv.1
                    · cases hv.1
                  · cases hv.1
                · cases hv.1
              · rw [if_pos hc17] at hF hS
                refine g_iconst (v := (-1)) C d_Ck_lookCall_67 (by decide) ?_
                exact c_iret (M := w16.2) C hr hlocks hle d_Ck_lookCall_68 (by rw [← hF]; exact ⟨rfl, rfl⟩)
            · cases hv.1
          · rw [if_pos hc12] at hF hS
            refine g_aload_n C d_Ck_lookCall_37 rfl ?_
            refine g_bipush (v := 6) C d_Ck_lookCall_38 (by decide) ?_
            refine q_aload_n (r := x1) C d_Ck_lookCall_40 rfl ?_
            obtain ⟨ho47, hS⟩ := hS
            refine GW.known1 (a := x1.getD 0) (cOq.at ho47).1 ?_
            refine c_geti C hE.1 (ci := 4) i_No rfl 4 (by decide) (by decide) (by decide) kf_Ck_117 d_Ck_lookCall_41 (cOq.at ho47).2 ?_
            obtain ⟨ho48, hS⟩ := hS
            obtain ⟨hs49, hS⟩ := hS
            refine c_call (av := [.ref a0, .int 6, .int (cI w4.2 (x1.getD 0) 4)]) (rest := []) C hE (fun _ h => h) ⟨rfl, rfl⟩ hle (cc_Ck_blame l hf D cs B dE lim _ a0 6 (cI w4.2 (x1.getD 0) 4) hs49) (fun _ h => h) kd_Ck_blame ki_Ck (by dsimp only; omega) (by dsimp only; omega) d_Ck_lookCall_44 (Nat.le_of_ble_eq_true rfl) (c_fV (n := 2) (ci := 6) C hE.1 rfl km_Ck_58 kv_Ck_blame kl_Ck_blame kd_Ck_blame ⟨by decide, by decide, by decide⟩ rfl rfl d_Ck_lookCall_44 ho48) (fun v1 M1 hv hle => ?_) (fun E1 M1 hv hle => ?_)
            · rw [mbind_eq] at hF hS
              obtain ⟨hx, hM1⟩ := hv
              have hM2 := hM1.symm
              subst hM2
              generalize hq_w50 : F_Ck_blame cs w4.2 a0 6 (cI w4.2 (x1.getD 0) 4) = w50 at hF hS hx hle ⊢
              cases hx
              refine GW.eqs (st' := [.int w50.1]) rfl ?_
              exact c_iret (M := w50.2) C hr hlocks hle d_Ck_lookCall_47 (by rw [← hF]; exact ⟨rfl, rfl⟩)
            · cases hv.1
        · cases hv.1
      · cases hv.1
    · rw [if_pos hc5] at hF hS
      refine g_iconst (v := (-1)) C d_Ck_lookCall_17 (by decide) ?_
      exact c_iret (M := w4.2) C hr hlocks hle d_Ck_lookCall_18 (by rw [← hF]; exact ⟨rfl, rfl⟩)
  · cases hv.1
def F_Ck_lookPerform (cs : Nat → ClassId) (n : Nat) (Lf : gMem → Nat → Int32 → Int32 → Int32 × gMem) (M : gMem) (a0 : Nat) (x1 : Option Nat) (x2 : Int32) : Int32 × gMem := mbind (Lf M a0 (cI M (x1.getD 0) 4) (x2 + 1)) (fun w4 => if w4.1 = (-1) then (((-1), w4.2)) else (if (cI w4.2 (x1.getD 0) 1) < 0 then (((-1), w4.2)) else (if (cI w4.2 (x1.getD 0) 1) < 8 then (mbind (F_Ck_typeIn cs w4.2 w4.1) (fun w11 => mbind (F_Ty_suits cs w4.2 ((cQ w4.2 a0 1).getD 0) w11 (aF w4.2 ((cQ w4.2 a0 2).getD 0) (cI w4.2 (x1.getD 0) 1).toNatClampNeg)) (fun w17 => if w17 = 0 then (mbind (F_Ck_blame cs w4.2 a0 6 (cI w4.2 (x1.getD 0) 4)) (fun w29 => (w29.1, w29.2))) else (mbind (F_Ck_effectsIn cs w4.2 w4.1) (fun w23 => mbind (F_Ck_seenAs cs w4.2 (aF w4.2 ((cQ w4.2 a0 3).getD 0) (cI w4.2 (x1.getD 0) 1).toNatClampNeg) (w23 ||| (1 <<< ((cI w4.2 (x1.getD 0) 1) &&& 31)))) (fun w25 => (w25, w4.2))))))) else (((-1), w4.2)))))
def S_Ck_lookPerform (cs : Nat → ClassId) (lim : Nat × Nat) (n : Nat) (Lf : gMem → Nat → Int32 → Int32 → Int32 × gMem) (Ls : gMem → Nat → Int32 → Int32 → Prop) (M : gMem) (a0 : Nat) (x1 : Option Nat) (x2 : Int32) : Prop := (cOq 4 M x1) ∧ ((cOk 6 M a0) ∧ ((Ls M a0 (cI M (x1.getD 0) 4) (x2 + 1)) ∧ (mbind (Lf M a0 (cI M (x1.getD 0) 4) (x2 + 1)) (fun w4 => (cOq 4 w4.2 x1) ∧ (if w4.1 = (-1) then (True) else (if (cI w4.2 (x1.getD 0) 1) < 0 then (True) else (if (cI w4.2 (x1.getD 0) 1) < 8 then ((cOk 6 w4.2 a0) ∧ ((S_Ck_typeIn cs lim w4.2 w4.1) ∧ (mbind (F_Ck_typeIn cs w4.2 w4.1) (fun w11 => (cOk 6 w4.2 a0) ∧ ((cQ w4.2 a0 2 = some ((cQ w4.2 a0 2).getD 0) ∧ aIk (cs 0) w4.2 ((cQ w4.2 a0 2).getD 0)) ∧ ((vp_in (cI w4.2 (x1.getD 0) 1) (aL w4.2 ((cQ w4.2 a0 2).getD 0))) ∧ ((cOq 1 w4.2 (cQ w4.2 a0 1)) ∧ ((S_Ty_suits cs lim w4.2 ((cQ w4.2 a0 1).getD 0) w11 (aF w4.2 ((cQ w4.2 a0 2).getD 0) (cI w4.2 (x1.getD 0) 1).toNatClampNeg)) ∧ (mbind (F_Ty_suits cs w4.2 ((cQ w4.2 a0 1).getD 0) w11 (aF w4.2 ((cQ w4.2 a0 2).getD 0) (cI w4.2 (x1.getD 0) 1).toNatClampNeg)) (fun w17 => if w17 = 0 then ((cOq 4 w4.2 x1) ∧ ((cOk 6 w4.2 a0) ∧ ((S_Ck_blame cs lim w4.2 a0 6 (cI w4.2 (x1.getD 0) 4)) ∧ (mbind (F_Ck_blame cs w4.2 a0 6 (cI w4.2 (x1.getD 0) 4)) (fun w29 => True))))) else ((cOk 6 w4.2 a0) ∧ ((cQ w4.2 a0 3 = some ((cQ w4.2 a0 3).getD 0) ∧ aIk (cs 0) w4.2 ((cQ w4.2 a0 3).getD 0)) ∧ ((vp_in (cI w4.2 (x1.getD 0) 1) (aL w4.2 ((cQ w4.2 a0 3).getD 0))) ∧ ((S_Ck_effectsIn cs lim w4.2 w4.1) ∧ (mbind (F_Ck_effectsIn cs w4.2 w4.1) (fun w23 => (S_Ck_seenAs cs lim w4.2 (aF w4.2 ((cQ w4.2 a0 3).getD 0) (cI w4.2 (x1.getD 0) 1).toNatClampNeg) (w23 ||| (1 <<< ((cI w4.2 (x1.getD 0) 1) &&& 31)))) ∧ (mbind (F_Ck_seenAs cs w4.2 (aF w4.2 ((cQ w4.2 a0 3).getD 0) (cI w4.2 (x1.getD 0) 1).toNatClampNeg) (w23 ||| (1 <<< ((cI w4.2 (x1.getD 0) 1) &&& 31)))) (fun w25 => True)))))))))))))))))) else (True))))))))
set_option maxRecDepth 100000 in
set_option maxHeartbeats 4000000 in
theorem cc_Ck_lookPerform (l : Launch) (hf : l.flags = pinnedFlags ++ [noTraceFlag]) (D : va_G) (cs : Nat → ClassId) (B : Nat) (dE : Nat × Nat) (lim : Nat × Nat) (n : Nat) (Lf : gMem → Nat → Int32 → Int32 → Int32 × gMem) (Ls : gMem → Nat → Int32 → Int32 → Prop) (frL loL : Nat) (hL : ∀ (M : gMem) (a0 : Nat) (x1 x2 : Int32), Ls M a0 x1 x2 → cMet l y_Ck_look (Cond.code y_Ck_look c_Ck_look 4 (some .int)) frL loL D cs B dE (gA B) lim [.ref a0, .int x1, .int x2] M (fun x M' => x = .inl (some (.int ((Lf M a0 x1 x2).1))) ∧ M' = (Lf M a0 x1 x2).2)) (M : gMem) (a0 : Nat) (x1 : Option Nat) (x2 : Int32) (hS : S_Ck_lookPerform cs lim n Lf Ls M a0 x1 x2) : cMet l y_Ck_lookPerform (Cond.code y_Ck_lookPerform c_Ck_lookPerform 5 (some .int)) (frL + 8) (loL + 280) D cs B dE (gA B) lim [.ref a0, va_rf x1, .int x2] M (fun x M' => x = .inl (some (.int ((F_Ck_lookPerform cs n Lf M a0 x1 x2).1))) ∧ M' = (F_Ck_lookPerform cs n Lf M a0 x1 x2).2) := by
  refine cMet.ofW (by decide) (by cases x1 <;> exact Nat.le_of_ble_eq_true rfl) (lv0 := [(0, .ref a0), (1, va_rf x1), (2, .int x2)]) (by cases x1 <;> rfl) ?_
  intro p e s m args below meth c C hE hR0 hle hr hlocks hex hn
  generalize hF : F_Ck_lookPerform cs n Lf M a0 x1 x2 = Fv
  unfold F_Ck_lookPerform at hF
  unfold S_Ck_lookPerform at hS
  refine g_aload_n C d_Ck_lookPerform_0 rfl ?_
  refine q_aload_n (r := x1) C d_Ck_lookPerform_1 rfl ?_
  obtain ⟨ho1, hS⟩ := hS
  refine GW.known1 (a := x1.getD 0) (cOq.at ho1).1 ?_
  refine c_geti C hE.1 (ci := 4) i_No rfl 4 (by decide) (by decide) (by decide) kf_Ck_117 d_Ck_lookPerform_2 (cOq.at ho1).2 ?_
  refine g_iload_n C d_Ck_lookPerform_5 rfl ?_
  refine g_iconst (v := 1) C d_Ck_lookPerform_6 (by decide) ?_
  refine g_iadd C d_Ck_lookPerform_7 ?_
  refine GW.more (A' := gA B) (fun _ h => h.elim) ?_
  obtain ⟨ho2, hS⟩ := hS
  obtain ⟨hs3, hS⟩ := hS
  refine c_call (av := [.ref a0, .int (cI M (x1.getD 0) 4), .int (x2 + 1)]) (rest := []) C hE (fun _ h => h) ⟨rfl, rfl⟩ hle (hL _ a0 (cI M (x1.getD 0) 4) (x2 + 1) hs3) (fun _ h => h) kd_Ck_look ki_Ck (by dsimp only; omega) (by dsimp only; omega) d_Ck_lookPerform_8 (Nat.le_of_ble_eq_true rfl) (c_fV (n := 2) (ci := 6) C hE.1 rfl km_Ck_54 kv_Ck_look kl_Ck_look kd_Ck_look ⟨by decide, by decide, by decide⟩ rfl rfl d_Ck_lookPerform_8 ho2) (fun v1 M1 hv hle => ?_) (fun E1 M1 hv hle => ?_)
  · rw [mbind_eq] at hF hS
    obtain ⟨hx, hM1⟩ := hv
    have hM2 := hM1.symm
    subst hM2
    generalize hq_w4 : Lf M a0 (cI M (x1.getD 0) 4) (x2 + 1) = w4 at hF hS hx hle ⊢
    cases hx
    refine GW.eqs (st' := [.int w4.1]) rfl ?_
    refine g_istore_n (lv' := [(3, .int w4.1), (0, .ref a0), (1, va_rf x1), (2, .int x2)]) C d_Ck_lookPerform_11 (by decide) rfl ?_
    refine q_aload_n (r := x1) C d_Ck_lookPerform_12 rfl ?_
    obtain ⟨ho5, hS⟩ := hS
    refine GW.known1 (a := x1.getD 0) (cOq.at ho5).1 ?_
    refine c_geti C hE.1 (ci := 4) i_No rfl 1 (by decide) (by decide) (by decide) kf_Ck_114 d_Ck_lookPerform_13 (cOq.at ho5).2 ?_
    refine g_istore (lv' := [(4, .int (cI w4.2 (x1.getD 0) 1)), (3, .int w4.1), (0, .ref a0), (1, va_rf x1), (2, .int x2)]) C d_Ck_lookPerform_16 (by decide) rfl ?_
    refine g_iload_n C d_Ck_lookPerform_18 rfl ?_
    refine g_iconst (v := (-1)) C d_Ck_lookPerform_19 (by decide) ?_
    refine g_icmp_eq C 35 d_Ck_lookPerform_20 (by decide) (fun hc6 => ?_) (fun hc6 => ?_)
    · rw [if_pos hc6] at hF hS
      refine g_iconst (v := (-1)) C d_Ck_lookPerform_35 (by decide) ?_
      exact c_iret (M := w4.2) C hr hlocks hle d_Ck_lookPerform_36 (by rw [← hF]; exact ⟨rfl, rfl⟩)
    · rw [if_neg hc6] at hF hS
      refine g_iload C d_Ck_lookPerform_23 rfl ?_
      refine g_if_lt C 35 d_Ck_lookPerform_25 (by decide) (fun hc7 => ?_) (fun hc7 => ?_)
      · rw [if_pos hc7] at hF hS
        refine g_iconst (v := (-1)) C d_Ck_lookPerform_35 (by decide) ?_
        exact c_iret (M := w4.2) C hr hlocks hle d_Ck_lookPerform_36 (by rw [← hF]; exact ⟨rfl, rfl⟩)
      · rw [if_neg hc7] at hF hS
        refine g_iload C d_Ck_lookPerform_28 rfl ?_
        refine g_bipush (v := 8) C d_Ck_lookPerform_30 (by decide) ?_
        refine g_icmp_lt C 37 d_Ck_lookPerform_32 (by decide) (fun hc8 => ?_) (fun hc8 => ?_)
        · rw [if_pos hc8] at hF hS
          refine g_aload_n C d_Ck_lookPerform_37 rfl ?_
          obtain ⟨ho9, hS⟩ := hS
          refine c_getq C hE.1 (ci := 6) i_Ck rfl 1 (by decide) (by decide) (by decide) kf_Ck_19 d_Ck_lookPerform_38 ho9 ?_
          refine g_iload_n C d_Ck_lookPerform_41 rfl ?_
          obtain ⟨hs10, hS⟩ := hS
          refine c_call (av := [.int w4.1]) (rest := [va_rf (cQ w4.2 a0 1)]) C hE (fun _ h => h) ⟨rfl, rfl⟩ hle (cc_Ck_typeIn l hf D cs B dE lim _ w4.1 hs10) (fun _ h => h.elim) kd_Ck_typeIn ki_Ck (by dsimp only; omega) (by dsimp only; omega) d_Ck_lookPerform_42 (by simp only [List.map_cons, List.map_nil, rf_cat, List.sum_cons, List.sum_nil]; exact Nat.le_of_ble_eq_true rfl) (c_fS (n := 1) C km_Ck_69 ks_Ck_typeIn ki_Ck kd_Ck_typeIn ⟨by decide, by decide, by decide⟩ rfl rfl d_Ck_lookPerform_42) (fun v1 M1 hv hle => ?_) (fun E1 M1 hv hle => ?_)
          · rw [mbind_eq] at hF hS
            obtain ⟨hx, hM1⟩ := hv
            have hM2 := hM1.symm
            subst hM2
            generalize hq_w11 : F_Ck_typeIn cs w4.2 w4.1 = w11 at hF hS hx hle ⊢
            cases hx
            refine GW.eqs (st' := [.int w11, va_rf (cQ w4.2 a0 1)]) rfl ?_
            refine g_aload_n C d_Ck_lookPerform_45 rfl ?_
            obtain ⟨ho12, hS⟩ := hS
            refine c_getq C hE.1 (ci := 6) i_Ck rfl 2 (by decide) (by decide) (by decide) kf_Ck_23 d_Ck_lookPerform_46 ho12 ?_
            refine g_iload C d_Ck_lookPerform_49 rfl ?_
            obtain ⟨ha13, hS⟩ := hS
            refine GW.known2 (a := (cQ w4.2 a0 2).getD 0) ha13.1 ?_
            obtain ⟨hi14, hS⟩ := hS
            refine c_iald C hE.1 d_Ck_lookPerform_51 ha13.2 hi14 ?_
            obtain ⟨ho15, hS⟩ := hS
            refine GW.known3 (a := (cQ w4.2 a0 1).getD 0) (cOq.at ho15).1 ?_
            obtain ⟨hs16, hS⟩ := hS
            refine c_call (av := [.ref ((cQ w4.2 a0 1).getD 0), .int w11, .int (aF w4.2 ((cQ w4.2 a0 2).getD 0) (cI w4.2 (x1.getD 0) 1).toNatClampNeg)]) (rest := []) C hE (fun _ h => h) ⟨rfl, rfl⟩ hle (cc_Ty_suits l hf D cs B dE lim _ ((cQ w4.2 a0 1).getD 0) w11 (aF w4.2 ((cQ w4.2 a0 2).getD 0) (cI w4.2 (x1.getD 0) 1).toNatClampNeg) hs16) (fun _ h => h.elim) kd_Ty_suits ki_Ty (by dsimp only; omega) (by dsimp only; omega) d_Ck_lookPerform_52 (Nat.le_of_ble_eq_true rfl) (c_fV (n := 2) (ci := 1) C hE.1 rfl km_Ck_142 kv_Ty_suits kl_Ty_suits kd_Ty_suits ⟨by decide, by decide, by decide⟩ rfl rfl d_Ck_lookPerform_52 (cOq.at ho15).2) (fun v1 M1 hv hle => ?_) (fun E1 M1 hv hle => ?_)
            · rw [mbind_eq] at hF hS
              obtain ⟨hx, hM1⟩ := hv
              have hM2 := hM1.symm
              subst hM2
              generalize hq_w17 : F_Ty_suits cs w4.2 ((cQ w4.2 a0 1).getD 0) w11 (aF w4.2 ((cQ w4.2 a0 2).getD 0) (cI w4.2 (x1.getD 0) 1).toNatClampNeg) = w17 at hF hS hx hle ⊢
              cases hx
              refine GW.eqs (st' := [.int w17]) rfl ?_
              refine g_if_ne C 69 d_Ck_lookPerform_55 (by decide) (fun hc18 => ?_) (fun hc18 => ?_)
              · rw [if_neg hc18] at hF hS
                refine g_aload_n C d_Ck_lookPerform_69 rfl ?_
                obtain ⟨ho19, hS⟩ := hS
                refine c_getq C hE.1 (ci := 6) i_Ck rfl 3 (by decide) (by decide) (by decide) kf_Ck_26 d_Ck_lookPerform_70 ho19 ?_
                refine g_iload C d_Ck_lookPerform_73 rfl ?_
                obtain ⟨ha20, hS⟩ := hS
                refine GW.known2 (a := (cQ w4.2 a0 3).getD 0) ha20.1 ?_
                obtain ⟨hi21, hS⟩ := hS
                refine c_iald C hE.1 d_Ck_lookPerform_75 ha20.2 hi21 ?_
                refine g_iload_n C d_Ck_lookPerform_76 rfl ?_
                obtain ⟨hs22, hS⟩ := hS
                refine c_call (av := [.int w4.1]) (rest := [.int (aF w4.2 ((cQ w4.2 a0 3).getD 0) (cI w4.2 (x1.getD 0) 1).toNatClampNeg)]) C hE (fun _ h => h) ⟨rfl, rfl⟩ hle (cc_Ck_effectsIn l hf D cs B dE lim _ w4.1 hs22) (fun _ h => h.elim) kd_Ck_effectsIn ki_Ck (by dsimp only; omega) (by dsimp only; omega) d_Ck_lookPerform_77 (Nat.le_of_ble_eq_true rfl) (c_fS (n := 1) C km_Ck_65 ks_Ck_effectsIn ki_Ck kd_Ck_effectsIn ⟨by decide, by decide, by decide⟩ rfl rfl d_Ck_lookPerform_77) (fun v1 M1 hv hle => ?_) (fun E1 M1 hv hle => ?_)
                · rw [mbind_eq] at hF hS
                  obtain ⟨hx, hM1⟩ := hv
                  have hM2 := hM1.symm
                  subst hM2
                  generalize hq_w23 : F_Ck_effectsIn cs w4.2 w4.1 = w23 at hF hS hx hle ⊢
                  cases hx
                  refine GW.eqs (st' := [.int w23, .int (aF w4.2 ((cQ w4.2 a0 3).getD 0) (cI w4.2 (x1.getD 0) 1).toNatClampNeg)]) rfl ?_
                  refine g_iconst (v := 1) C d_Ck_lookPerform_80 (by decide) ?_
                  refine g_iload C d_Ck_lookPerform_81 rfl ?_
                  refine g_ishl C d_Ck_lookPerform_83 ?_
                  refine g_ior C d_Ck_lookPerform_84 ?_
                  obtain ⟨hs24, hS⟩ := hS
                  refine c_call (av := [.int (aF w4.2 ((cQ w4.2 a0 3).getD 0) (cI w4.2 (x1.getD 0) 1).toNatClampNeg), .int (w23 ||| (1 <<< ((cI w4.2 (x1.getD 0) 1) &&& 31)))]) (rest := []) C hE (fun _ h => h) ⟨rfl, rfl⟩ hle (cc_Ck_seenAs l hf D cs B dE lim _ (aF w4.2 ((cQ w4.2 a0 3).getD 0) (cI w4.2 (x1.getD 0) 1).toNatClampNeg) (w23 ||| (1 <<< ((cI w4.2 (x1.getD 0) 1) &&& 31))) hs24) (fun _ h => h.elim) kd_Ck_seenAs ki_Ck (by dsimp only; omega) (by dsimp only; omega) d_Ck_lookPerform_85 (Nat.le_of_ble_eq_true rfl) (c_fS (n := 2) C km_Ck_83 ks_Ck_seenAs ki_Ck kd_Ck_seenAs ⟨by decide, by decide, by decide⟩ rfl rfl d_Ck_lookPerform_85) (fun v1 M1 hv hle => ?_) (fun E1 M1 hv hle => ?_)
                  · rw [mbind_eq] at hF hS
                    obtain ⟨hx, hM1⟩ := hv
                    have hM2 := hM1.symm
                    subst hM2
                    generalize hq_w25 : F_Ck_seenAs cs w4.2 (aF w4.2 ((cQ w4.2 a0 3).getD 0) (cI w4.2 (x1.getD 0) 1).toNatClampNeg) (w23 ||| (1 <<< ((cI w4.2 (x1.getD 0) 1) &&& 31))) = w25 at hF hS hx hle ⊢
                    cases hx
                    refine GW.eqs (st' := [.int w25]) rfl ?_
                    exact c_iret (M := w4.2) C hr hlocks hle d_Ck_lookPerform_88 (by rw [← hF]; exact ⟨rfl, rfl⟩)
                  · cases hv.1
                · cases hv.1
              · rw [if_pos hc18] at hF hS
                refine g_aload_n C d_Ck_lookPerform_58 rfl ?_
                refine g_bipush (v := 6) C d_Ck_lookPerform_59 (by decide) ?_
                refine q_aload_n (r := x1) C d_Ck_lookPerform_61 rfl ?_
                obtain ⟨ho26, hS⟩ := hS
                refine GW.known1 (a := x1.getD 0) (cOq.at ho26).1 ?_
                refine c_geti C hE.1 (ci := 4) i_No rfl 4 (by decide) (by decide) (by decide) kf_Ck_117 d_Ck_lookPerform_62 (cOq.at ho26).2 ?_
                obtain ⟨ho27, hS⟩ := hS
                obtain ⟨hs28, hS⟩ := hS
                refine c_call (av := [.ref a0, .int 6, .int (cI w4.2 (x1.getD 0) 4)]) (rest := []) C hE (fun _ h => h) ⟨rfl, rfl⟩ hle (cc_Ck_blame l hf D cs B dE lim _ a0 6 (cI w4.2 (x1.getD 0) 4) hs28) (fun _ h => h) kd_Ck_blame ki_Ck (by dsimp only; omega) (by dsimp only; omega) d_Ck_lookPerform_65 (Nat.le_of_ble_eq_true rfl) (c_fV (n := 2) (ci := 6) C hE.1 rfl km_Ck_58 kv_Ck_blame kl_Ck_blame kd_Ck_blame ⟨by decide, by decide, by decide⟩ rfl rfl d_Ck_lookPerform_65 ho27) (fun v1 M1 hv hle => ?_) (fun E1 M1 hv hle => ?_)
                · rw [mbind_eq] at hF hS
                  obtain ⟨hx, hM1⟩ := hv
                  have hM2 := hM1.symm
                  subst hM2
                  generalize hq_w29 : F_Ck_blame cs w4.2 a0 6 (cI w4.2 (x1.getD 0) 4) = w29 at hF hS hx hle ⊢
                  cases hx
                  refine GW.eqs (st' := [.int w29.1]) rfl ?_
                  exact c_iret (M := w29.2) C hr hlocks hle d_Ck_lookPerform_68 (by rw [← hF]; exact ⟨rfl, rfl⟩)
                · cases hv.1
            · cases hv.1
          · cases hv.1
        · rw [if_neg hc8] at hF hS
          refine g_iconst (v := (-1)) C d_Ck_lookPerform_35 (by decide) ?_
          exact c_iret (M := w4.2) C hr hlocks hle d_Ck_lookPerform_36 (by rw [← hF]; exact ⟨rfl, rfl⟩)
  · cases hv.1
def F_Ck_look (cs : Nat → ClassId) (n : Nat) : Nat → gMem → Nat → Int32 → Int32 → Int32 × gMem
  | 0, M, _, _, _ => (0, M)
  | d + 1, M, a0, x1, x2 => if x2 ≤ 40 then (mbind (F_Ns_at cs M ((cQ M a0 0).getD 0) x1) (fun w5 => if (cI M (w5.getD 0) 0) = 0 then (mbind (F_Ck_seenAs cs M 0 0) (fun w9 => (w9, M))) else (if (cI M (w5.getD 0) 0) = 1 then (mbind (F_Ck_seenAs cs M 1 0) (fun w12 => (w12, M))) else (if (cI M (w5.getD 0) 0) = 2 then (mbind (F_Ck_seenAs cs M 2 0) (fun w15 => (w15, M))) else (if (cI M (w5.getD 0) 0) = 3 then (mbind (F_Ck_lookName cs M a0 w5 x1) (fun w19 => (w19.1, w19.2))) else (if (cI M (w5.getD 0) 0) = 4 then (mbind (F_Ck_lookLet cs n (F_Ck_look cs n d) M a0 w5 x2) (fun w23 => (w23.1, w23.2))) else (if (cI M (w5.getD 0) 0) = 5 then (mbind (F_Ck_lookRec cs n (F_Ck_look cs n d) M a0 w5 x2) (fun w27 => (w27.1, w27.2))) else (if (cI M (w5.getD 0) 0) = 6 then (mbind (F_Ck_lookChoice cs n (F_Ck_look cs n d) M a0 w5 x2) (fun w31 => (w31.1, w31.2))) else (if (cI M (w5.getD 0) 0) = 7 then (mbind (F_Ck_lookFn cs n (F_Ck_look cs n d) M a0 w5 x2) (fun w35 => (w35.1, w35.2))) else (if (cI M (w5.getD 0) 0) = 8 then (mbind (F_Ck_lookHandle cs n (F_Ck_look cs n d) M a0 w5 x2) (fun w39 => (w39.1, w39.2))) else (if (cI M (w5.getD 0) 0) = 9 then (mbind (F_Ck_lookTwo cs n (F_Ck_look cs n d) M a0 w5 x2) (fun w43 => (w43.1, w43.2))) else (if (cI M (w5.getD 0) 0) = 10 then (mbind (F_Ck_lookCall cs n (F_Ck_look cs n d) M a0 w5 x2) (fun w47 => (w47.1, w47.2))) else (if (cI M (w5.getD 0) 0) = 11 then (mbind (F_Ck_lookPerform cs n (F_Ck_look cs n d) M a0 w5 x2) (fun w51 => (w51.1, w51.2))) else (mbind (F_Ck_seenAs cs M 2 0) (fun w53 => (w53, M)))))))))))))))) else (((-1), M))
def S_Ck_look (cs : Nat → ClassId) (lim : Nat × Nat) (n : Nat) : Nat → gMem → Nat → Int32 → Int32 → Prop
  | 0, _, _, _, _ => False
  | d + 1, M, a0, x1, x2 => if x2 ≤ 40 then ((cOk 6 M a0) ∧ ((cOq 3 M (cQ M a0 0)) ∧ ((S_Ns_at cs lim M ((cQ M a0 0).getD 0) x1) ∧ (mbind (F_Ns_at cs M ((cQ M a0 0).getD 0) x1) (fun w5 => (cOq 4 M w5) ∧ (if (cI M (w5.getD 0) 0) = 0 then ((S_Ck_seenAs cs lim M 0 0) ∧ (mbind (F_Ck_seenAs cs M 0 0) (fun w9 => True))) else (if (cI M (w5.getD 0) 0) = 1 then ((S_Ck_seenAs cs lim M 1 0) ∧ (mbind (F_Ck_seenAs cs M 1 0) (fun w12 => True))) else (if (cI M (w5.getD 0) 0) = 2 then ((S_Ck_seenAs cs lim M 2 0) ∧ (mbind (F_Ck_seenAs cs M 2 0) (fun w15 => True))) else (if (cI M (w5.getD 0) 0) = 3 then ((cOk 6 M a0) ∧ ((S_Ck_lookName cs lim M a0 w5 x1) ∧ (mbind (F_Ck_lookName cs M a0 w5 x1) (fun w19 => True)))) else (if (cI M (w5.getD 0) 0) = 4 then ((cOk 6 M a0) ∧ ((S_Ck_lookLet cs lim n (F_Ck_look cs n d) (S_Ck_look cs lim n d) M a0 w5 x2) ∧ (mbind (F_Ck_lookLet cs n (F_Ck_look cs n d) M a0 w5 x2) (fun w23 => True)))) else (if (cI M (w5.getD 0) 0) = 5 then ((cOk 6 M a0) ∧ ((S_Ck_lookRec cs lim n (F_Ck_look cs n d) (S_Ck_look cs lim n d) M a0 w5 x2) ∧ (mbind (F_Ck_lookRec cs n (F_Ck_look cs n d) M a0 w5 x2) (fun w27 => True)))) else (if (cI M (w5.getD 0) 0) = 6 then ((cOk 6 M a0) ∧ ((S_Ck_lookChoice cs lim n (F_Ck_look cs n d) (S_Ck_look cs lim n d) M a0 w5 x2) ∧ (mbind (F_Ck_lookChoice cs n (F_Ck_look cs n d) M a0 w5 x2) (fun w31 => True)))) else (if (cI M (w5.getD 0) 0) = 7 then ((cOk 6 M a0) ∧ ((S_Ck_lookFn cs lim n (F_Ck_look cs n d) (S_Ck_look cs lim n d) M a0 w5 x2) ∧ (mbind (F_Ck_lookFn cs n (F_Ck_look cs n d) M a0 w5 x2) (fun w35 => True)))) else (if (cI M (w5.getD 0) 0) = 8 then ((cOk 6 M a0) ∧ ((S_Ck_lookHandle cs lim n (F_Ck_look cs n d) (S_Ck_look cs lim n d) M a0 w5 x2) ∧ (mbind (F_Ck_lookHandle cs n (F_Ck_look cs n d) M a0 w5 x2) (fun w39 => True)))) else (if (cI M (w5.getD 0) 0) = 9 then ((cOk 6 M a0) ∧ ((S_Ck_lookTwo cs lim n (F_Ck_look cs n d) (S_Ck_look cs lim n d) M a0 w5 x2) ∧ (mbind (F_Ck_lookTwo cs n (F_Ck_look cs n d) M a0 w5 x2) (fun w43 => True)))) else (if (cI M (w5.getD 0) 0) = 10 then ((cOk 6 M a0) ∧ ((S_Ck_lookCall cs lim n (F_Ck_look cs n d) (S_Ck_look cs lim n d) M a0 w5 x2) ∧ (mbind (F_Ck_lookCall cs n (F_Ck_look cs n d) M a0 w5 x2) (fun w47 => True)))) else (if (cI M (w5.getD 0) 0) = 11 then ((cOk 6 M a0) ∧ ((S_Ck_lookPerform cs lim n (F_Ck_look cs n d) (S_Ck_look cs lim n d) M a0 w5 x2) ∧ (mbind (F_Ck_lookPerform cs n (F_Ck_look cs n d) M a0 w5 x2) (fun w51 => True)))) else ((S_Ck_seenAs cs lim M 2 0) ∧ (mbind (F_Ck_seenAs cs M 2 0) (fun w53 => True)))))))))))))))))))) else (True)
set_option maxRecDepth 100000 in
set_option maxHeartbeats 4000000 in
theorem cc_Ck_look (l : Launch) (hf : l.flags = pinnedFlags ++ [noTraceFlag]) (D : va_G) (cs : Nat → ClassId) (B : Nat) (dE : Nat × Nat) (lim : Nat × Nat) (n : Nat) : ∀ (d : Nat) (M : gMem) (a0 : Nat) (x1 x2 : Int32) (hS : S_Ck_look cs lim n d M a0 x1 x2), cMet l y_Ck_look (Cond.code y_Ck_look c_Ck_look 4 (some .int)) (12 * d) (400 * d) D cs B dE (gA B) lim [.ref a0, .int x1, .int x2] M (fun x M' => x = .inl (some (.int ((F_Ck_look cs n d M a0 x1 x2).1))) ∧ M' = (F_Ck_look cs n d M a0 x1 x2).2) := by
  intro d
  induction d with
  | zero =>
    intro M a0 x1 x2 hS
    exact hS.elim
  | succ d ih =>
    intro M a0 x1 x2 hS
    refine cMet.ofW (by decide) (Nat.le_of_ble_eq_true rfl) (lv0 := [(0, .ref a0), (1, .int x1), (2, .int x2)]) rfl ?_
    intro p e s m args below meth c C hE hR0 hle hr hlocks hex hn
    generalize hF : F_Ck_look cs n (d + 1) M a0 x1 x2 = Fv
    simp only [F_Ck_look] at hF
    simp only [S_Ck_look] at hS
    refine g_iload_n C d_Ck_look_0 rfl ?_
    refine g_bipush (v := 40) C d_Ck_look_1 (by decide) ?_
    refine g_icmp_le C 8 d_Ck_look_3 (by decide) (fun hc1 => ?_) (fun hc1 => ?_)
    · rw [if_pos hc1] at hF hS
      refine g_aload_n C d_Ck_look_8 rfl ?_
      obtain ⟨ho2, hS⟩ := hS
      refine c_getq C hE.1 (ci := 6) i_Ck rfl 0 (by decide) (by decide) (by decide) kf_Ck_15 d_Ck_look_9 ho2 ?_
      refine g_iload_n C d_Ck_look_12 rfl ?_
      obtain ⟨ho3, hS⟩ := hS
      refine GW.known2 (a := (cQ M a0 0).getD 0) (cOq.at ho3).1 ?_
      obtain ⟨hs4, hS⟩ := hS
      refine c_call (av := [.ref ((cQ M a0 0).getD 0), .int x1]) (rest := []) C hE (fun _ h => h.elim) ⟨rfl, rfl⟩ hle (cc_Ns_at l hf D cs B dE lim _ ((cQ M a0 0).getD 0) x1 hs4) (fun _ h => h.elim) kd_Ns_at ki_Ns (by dsimp only; omega) (by dsimp only; omega) d_Ck_look_13 (Nat.le_of_ble_eq_true rfl) (c_fV (n := 1) (ci := 3) C hE.1 rfl km_Ck_72 kv_Ns_at kl_Ns_at kd_Ns_at ⟨by decide, by decide, by decide⟩ rfl rfl d_Ck_look_13 (cOq.at ho3).2) (fun v1 M1 hv hle => ?_) (fun E1 M1 hv hle => ?_)
      · rw [mbind_eq] at hF hS
        obtain ⟨hx, hM1⟩ := hv
        have hM2 := hM1.symm
        subst hM2
        generalize hq_w5 : F_Ns_at cs M ((cQ M a0 0).getD 0) x1 = w5 at hF hS hx hle ⊢
        cases hx
        refine GW.eqs (st' := [va_rf w5]) rfl ?_
        refine q_astore_n (r := w5) (lv' := [(3, va_rf w5), (0, .ref a0), (1, .int x1), (2, .int x2)]) C d_Ck_look_16 (by decide) rfl ?_
        refine q_aload_n (r := w5) C d_Ck_look_17 rfl ?_
        obtain ⟨ho6, hS⟩ := hS
        refine GW.known1 (a := w5.getD 0) (cOq.at ho6).1 ?_
        refine c_geti C hE.1 (ci := 4) i_No rfl 0 (by decide) (by decide) (by decide) kf_Ck_78 d_Ck_look_18 (cOq.at ho6).2 ?_
        by_cases hc7 : (cI M (w5.getD 0) 0) = 0
        · rw [if_pos hc7] at hF hS
          refine g_tableIn C 84 d_Ck_look_21 (by rw [hc7]; decide) (by rw [hc7]; decide) (by rw [hc7]; rfl) (by decide) ?_
          refine g_iconst (v := 0) C d_Ck_look_84 (by decide) ?_
          refine g_iconst (v := 0) C d_Ck_look_85 (by decide) ?_
          obtain ⟨hs8, hS⟩ := hS
          refine c_call (av := [.int 0, .int 0]) (rest := []) C hE (fun _ h => h.elim) ⟨rfl, rfl⟩ hle (cc_Ck_seenAs l hf D cs B dE lim _ 0 0 hs8) (fun _ h => h.elim) kd_Ck_seenAs ki_Ck (by dsimp only; omega) (by dsimp only; omega) d_Ck_look_86 (Nat.le_of_ble_eq_true rfl) (c_fS (n := 2) C km_Ck_83 ks_Ck_seenAs ki_Ck kd_Ck_seenAs ⟨by decide, by decide, by decide⟩ rfl rfl d_Ck_look_86) (fun v1 M1 hv hle => ?_) (fun E1 M1 hv hle => ?_)
          · rw [mbind_eq] at hF hS
            obtain ⟨hx, hM1⟩ := hv
            have hM2 := hM1.symm
            subst hM2
            generalize hq_w9 : F_Ck_seenAs cs M 0 0 = w9 at hF hS hx hle ⊢
            cases hx
            refine GW.eqs (st' := [.int w9]) rfl ?_
            refine GW.more (A' := gA B) (fun _ h => h.elim) ?_
            exact c_iret (M := M) C hr hlocks hle d_Ck_look_89 (by rw [← hF]; exact ⟨rfl, rfl⟩)
          · cases hv.1
        · rw [if_neg hc7] at hF hS
          by_cases hc10 : (cI M (w5.getD 0) 0) = 1
          · rw [if_pos hc10] at hF hS
            refine g_tableIn C 90 d_Ck_look_21 (by rw [hc10]; decide) (by rw [hc10]; decide) (by rw [hc10]; rfl) (by decide) ?_
            refine g_iconst (v := 1) C d_Ck_look_90 (by decide) ?_
            refine g_iconst (v := 0) C d_Ck_look_91 (by decide) ?_
            obtain ⟨hs11, hS⟩ := hS
            refine c_call (av := [.int 1, .int 0]) (rest := []) C hE (fun _ h => h.elim) ⟨rfl, rfl⟩ hle (cc_Ck_seenAs l hf D cs B dE lim _ 1 0 hs11) (fun _ h => h.elim) kd_Ck_seenAs ki_Ck (by dsimp only; omega) (by dsimp only; omega) d_Ck_look_92 (Nat.le_of_ble_eq_true rfl) (c_fS (n := 2) C km_Ck_83 ks_Ck_seenAs ki_Ck kd_Ck_seenAs ⟨by decide, by decide, by decide⟩ rfl rfl d_Ck_look_92) (fun v1 M1 hv hle => ?_) (fun E1 M1 hv hle => ?_)
            · rw [mbind_eq] at hF hS
              obtain ⟨hx, hM1⟩ := hv
              have hM2 := hM1.symm
              subst hM2
              generalize hq_w12 : F_Ck_seenAs cs M 1 0 = w12 at hF hS hx hle ⊢
              cases hx
              refine GW.eqs (st' := [.int w12]) rfl ?_
              refine GW.more (A' := gA B) (fun _ h => h.elim) ?_
              exact c_iret (M := M) C hr hlocks hle d_Ck_look_95 (by rw [← hF]; exact ⟨rfl, rfl⟩)
            · cases hv.1
          · rw [if_neg hc10] at hF hS
            by_cases hc13 : (cI M (w5.getD 0) 0) = 2
            · rw [if_pos hc13] at hF hS
              refine g_tableIn C 159 d_Ck_look_21 (by rw [hc13]; decide) (by rw [hc13]; decide) (by rw [hc13]; rfl) (by decide) ?_
              refine g_iconst (v := 2) C d_Ck_look_159 (by decide) ?_
              refine g_iconst (v := 0) C d_Ck_look_160 (by decide) ?_
              obtain ⟨hs14, hS⟩ := hS
              refine c_call (av := [.int 2, .int 0]) (rest := []) C hE (fun _ h => h.elim) ⟨rfl, rfl⟩ hle (cc_Ck_seenAs l hf D cs B dE lim _ 2 0 hs14) (fun _ h => h.elim) kd_Ck_seenAs ki_Ck (by dsimp only; omega) (by dsimp only; omega) d_Ck_look_161 (Nat.le_of_ble_eq_true rfl) (c_fS (n := 2) C km_Ck_83 ks_Ck_seenAs ki_Ck kd_Ck_seenAs ⟨by decide, by decide, by decide⟩ rfl rfl d_Ck_look_161) (fun v1 M1 hv hle => ?_) (fun E1 M1 hv hle => ?_)
              · rw [mbind_eq] at hF hS
                obtain ⟨hx, hM1⟩ := hv
                have hM2 := hM1.symm
                subst hM2
                generalize hq_w15 : F_Ck_seenAs cs M 2 0 = w15 at hF hS hx hle ⊢
                cases hx
                refine GW.eqs (st' := [.int w15]) rfl ?_
                refine GW.more (A' := gA B) (fun _ h => h.elim) ?_
                exact c_iret (M := M) C hr hlocks hle d_Ck_look_164 (by rw [← hF]; exact ⟨rfl, rfl⟩)
              · cases hv.1
            · rw [if_neg hc13] at hF hS
              by_cases hc16 : (cI M (w5.getD 0) 0) = 3
              · rw [if_pos hc16] at hF hS
                refine g_tableIn C 96 d_Ck_look_21 (by rw [hc16]; decide) (by rw [hc16]; decide) (by rw [hc16]; rfl) (by decide) ?_
                refine g_aload_n C d_Ck_look_96 rfl ?_
                refine q_aload_n (r := w5) C d_Ck_look_97 rfl ?_
                refine g_iload_n C d_Ck_look_98 rfl ?_
                refine GW.more (A' := gA B) (fun _ h => h.elim) ?_
                obtain ⟨ho17, hS⟩ := hS
                obtain ⟨hs18, hS⟩ := hS
                refine c_call (av := [.ref a0, va_rf w5, .int x1]) (rest := []) C hE (fun _ h => h) ⟨rfl, rfl⟩ hle (cc_Ck_lookName l hf D cs B dE lim _ a0 w5 x1 hs18) (fun _ h => h) kd_Ck_lookName ki_Ck (by dsimp only; omega) (by dsimp only; omega) d_Ck_look_99 (Nat.le_of_ble_eq_true rfl) (c_fV (n := 2) (ci := 6) C hE.1 rfl km_Ck_86 kv_Ck_lookName kl_Ck_lookName kd_Ck_lookName ⟨by decide, by decide, by decide⟩ rfl rfl d_Ck_look_99 ho17) (fun v1 M1 hv hle => ?_) (fun E1 M1 hv hle => ?_)
                · rw [mbind_eq] at hF hS
                  obtain ⟨hx, hM1⟩ := hv
                  have hM2 := hM1.symm
                  subst hM2
                  generalize hq_w19 : F_Ck_lookName cs M a0 w5 x1 = w19 at hF hS hx hle ⊢
                  cases hx
                  refine GW.eqs (st' := [.int w19.1]) rfl ?_
                  exact c_iret (M := w19.2) C hr hlocks hle d_Ck_look_102 (by rw [← hF]; exact ⟨rfl, rfl⟩)
                · cases hv.1
              · rw [if_neg hc16] at hF hS
                by_cases hc20 : (cI M (w5.getD 0) 0) = 4
                · rw [if_pos hc20] at hF hS
                  refine g_tableIn C 103 d_Ck_look_21 (by rw [hc20]; decide) (by rw [hc20]; decide) (by rw [hc20]; rfl) (by decide) ?_
                  refine g_aload_n C d_Ck_look_103 rfl ?_
                  refine q_aload_n (r := w5) C d_Ck_look_104 rfl ?_
                  refine g_iload_n C d_Ck_look_105 rfl ?_
                  refine GW.more (A' := gA B) (fun _ h => h.elim) ?_
                  obtain ⟨ho21, hS⟩ := hS
                  obtain ⟨hs22, hS⟩ := hS
                  refine c_call (av := [.ref a0, va_rf w5, .int x2]) (rest := []) C hE (fun _ h => h) ⟨rfl, rfl⟩ hle (cc_Ck_lookLet l hf D cs B dE lim n (F_Ck_look cs n d) (S_Ck_look cs lim n d) (12 * d) (400 * d) ih _ a0 w5 x2 hs22) (fun _ h => h) kd_Ck_lookLet ki_Ck (by dsimp only; omega) (by dsimp only; omega) d_Ck_look_106 (Nat.le_of_ble_eq_true rfl) (c_fV (n := 2) (ci := 6) C hE.1 rfl km_Ck_90 kv_Ck_lookLet kl_Ck_lookLet kd_Ck_lookLet ⟨by decide, by decide, by decide⟩ rfl rfl d_Ck_look_106 ho21) (fun v1 M1 hv hle => ?_) (fun E1 M1 hv hle => ?_)
                  · rw [mbind_eq] at hF hS
                    obtain ⟨hx, hM1⟩ := hv
                    have hM2 := hM1.symm
                    subst hM2
                    generalize hq_w23 : F_Ck_lookLet cs n (F_Ck_look cs n d) M a0 w5 x2 = w23 at hF hS hx hle ⊢
                    cases hx
                    refine GW.eqs (st' := [.int w23.1]) rfl ?_
                    exact c_iret (M := w23.2) C hr hlocks hle d_Ck_look_109 (by rw [← hF]; exact ⟨rfl, rfl⟩)
                  · cases hv.1
                · rw [if_neg hc20] at hF hS
                  by_cases hc24 : (cI M (w5.getD 0) 0) = 5
                  · rw [if_pos hc24] at hF hS
                    refine g_tableIn C 110 d_Ck_look_21 (by rw [hc24]; decide) (by rw [hc24]; decide) (by rw [hc24]; rfl) (by decide) ?_
                    refine g_aload_n C d_Ck_look_110 rfl ?_
                    refine q_aload_n (r := w5) C d_Ck_look_111 rfl ?_
                    refine g_iload_n C d_Ck_look_112 rfl ?_
                    refine GW.more (A' := gA B) (fun _ h => h.elim) ?_
                    obtain ⟨ho25, hS⟩ := hS
                    obtain ⟨hs26, hS⟩ := hS
                    refine c_call (av := [.ref a0, va_rf w5, .int x2]) (rest := []) C hE (fun _ h => h) ⟨rfl, rfl⟩ hle (cc_Ck_lookRec l hf D cs B dE lim n (F_Ck_look cs n d) (S_Ck_look cs lim n d) (12 * d) (400 * d) ih _ a0 w5 x2 hs26) (fun _ h => h) kd_Ck_lookRec ki_Ck (by dsimp only; omega) (by dsimp only; omega) d_Ck_look_113 (Nat.le_of_ble_eq_true rfl) (c_fV (n := 2) (ci := 6) C hE.1 rfl km_Ck_93 kv_Ck_lookRec kl_Ck_lookRec kd_Ck_lookRec ⟨by decide, by decide, by decide⟩ rfl rfl d_Ck_look_113 ho25) (fun v1 M1 hv hle => ?_) (fun E1 M1 hv hle => ?_)
                    · rw [mbind_eq] at hF hS
                      obtain ⟨hx, hM1⟩ := hv
                      have hM2 := hM1.symm
                      subst hM2
                      generalize hq_w27 : F_Ck_lookRec cs n (F_Ck_look cs n d) M a0 w5 x2 = w27 at hF hS hx hle ⊢
                      cases hx
                      refine GW.eqs (st' := [.int w27.1]) rfl ?_
                      exact c_iret (M := w27.2) C hr hlocks hle d_Ck_look_116 (by rw [← hF]; exact ⟨rfl, rfl⟩)
                    · cases hv.1
                  · rw [if_neg hc24] at hF hS
                    by_cases hc28 : (cI M (w5.getD 0) 0) = 6
                    · rw [if_pos hc28] at hF hS
                      refine g_tableIn C 117 d_Ck_look_21 (by rw [hc28]; decide) (by rw [hc28]; decide) (by rw [hc28]; rfl) (by decide) ?_
                      refine g_aload_n C d_Ck_look_117 rfl ?_
                      refine q_aload_n (r := w5) C d_Ck_look_118 rfl ?_
                      refine g_iload_n C d_Ck_look_119 rfl ?_
                      refine GW.more (A' := gA B) (fun _ h => h.elim) ?_
                      obtain ⟨ho29, hS⟩ := hS
                      obtain ⟨hs30, hS⟩ := hS
                      refine c_call (av := [.ref a0, va_rf w5, .int x2]) (rest := []) C hE (fun _ h => h) ⟨rfl, rfl⟩ hle (cc_Ck_lookChoice l hf D cs B dE lim n (F_Ck_look cs n d) (S_Ck_look cs lim n d) (12 * d) (400 * d) ih _ a0 w5 x2 hs30) (fun _ h => h) kd_Ck_lookChoice ki_Ck (by dsimp only; omega) (by dsimp only; omega) d_Ck_look_120 (Nat.le_of_ble_eq_true rfl) (c_fV (n := 2) (ci := 6) C hE.1 rfl km_Ck_96 kv_Ck_lookChoice kl_Ck_lookChoice kd_Ck_lookChoice ⟨by decide, by decide, by decide⟩ rfl rfl d_Ck_look_120 ho29) (fun v1 M1 hv hle => ?_) (fun E1 M1 hv hle => ?_)
                      · rw [mbind_eq] at hF hS
                        obtain ⟨hx, hM1⟩ := hv
                        have hM2 := hM1.symm
                        subst hM2
                        generalize hq_w31 : F_Ck_lookChoice cs n (F_Ck_look cs n d) M a0 w5 x2 = w31 at hF hS hx hle ⊢
                        cases hx
                        refine GW.eqs (st' := [.int w31.1]) rfl ?_
                        exact c_iret (M := w31.2) C hr hlocks hle d_Ck_look_123 (by rw [← hF]; exact ⟨rfl, rfl⟩)
                      · cases hv.1
                    · rw [if_neg hc28] at hF hS
                      by_cases hc32 : (cI M (w5.getD 0) 0) = 7
                      · rw [if_pos hc32] at hF hS
                        refine g_tableIn C 124 d_Ck_look_21 (by rw [hc32]; decide) (by rw [hc32]; decide) (by rw [hc32]; rfl) (by decide) ?_
                        refine g_aload_n C d_Ck_look_124 rfl ?_
                        refine q_aload_n (r := w5) C d_Ck_look_125 rfl ?_
                        refine g_iload_n C d_Ck_look_126 rfl ?_
                        refine GW.more (A' := gA B) (fun _ h => h.elim) ?_
                        obtain ⟨ho33, hS⟩ := hS
                        obtain ⟨hs34, hS⟩ := hS
                        refine c_call (av := [.ref a0, va_rf w5, .int x2]) (rest := []) C hE (fun _ h => h) ⟨rfl, rfl⟩ hle (cc_Ck_lookFn l hf D cs B dE lim n (F_Ck_look cs n d) (S_Ck_look cs lim n d) (12 * d) (400 * d) ih _ a0 w5 x2 hs34) (fun _ h => h) kd_Ck_lookFn ki_Ck (by dsimp only; omega) (by dsimp only; omega) d_Ck_look_127 (Nat.le_of_ble_eq_true rfl) (c_fV (n := 2) (ci := 6) C hE.1 rfl km_Ck_99 kv_Ck_lookFn kl_Ck_lookFn kd_Ck_lookFn ⟨by decide, by decide, by decide⟩ rfl rfl d_Ck_look_127 ho33) (fun v1 M1 hv hle => ?_) (fun E1 M1 hv hle => ?_)
                        · rw [mbind_eq] at hF hS
                          obtain ⟨hx, hM1⟩ := hv
                          have hM2 := hM1.symm
                          subst hM2
                          generalize hq_w35 : F_Ck_lookFn cs n (F_Ck_look cs n d) M a0 w5 x2 = w35 at hF hS hx hle ⊢
                          cases hx
                          refine GW.eqs (st' := [.int w35.1]) rfl ?_
                          exact c_iret (M := w35.2) C hr hlocks hle d_Ck_look_130 (by rw [← hF]; exact ⟨rfl, rfl⟩)
                        · cases hv.1
                      · rw [if_neg hc32] at hF hS
                        by_cases hc36 : (cI M (w5.getD 0) 0) = 8
                        · rw [if_pos hc36] at hF hS
                          refine g_tableIn C 131 d_Ck_look_21 (by rw [hc36]; decide) (by rw [hc36]; decide) (by rw [hc36]; rfl) (by decide) ?_
                          refine g_aload_n C d_Ck_look_131 rfl ?_
                          refine q_aload_n (r := w5) C d_Ck_look_132 rfl ?_
                          refine g_iload_n C d_Ck_look_133 rfl ?_
                          refine GW.more (A' := gA B) (fun _ h => h.elim) ?_
                          obtain ⟨ho37, hS⟩ := hS
                          obtain ⟨hs38, hS⟩ := hS
                          refine c_call (av := [.ref a0, va_rf w5, .int x2]) (rest := []) C hE (fun _ h => h) ⟨rfl, rfl⟩ hle (cc_Ck_lookHandle l hf D cs B dE lim n (F_Ck_look cs n d) (S_Ck_look cs lim n d) (12 * d) (400 * d) ih _ a0 w5 x2 hs38) (fun _ h => h) kd_Ck_lookHandle ki_Ck (by dsimp only; omega) (by dsimp only; omega) d_Ck_look_134 (Nat.le_of_ble_eq_true rfl) (c_fV (n := 2) (ci := 6) C hE.1 rfl km_Ck_102 kv_Ck_lookHandle kl_Ck_lookHandle kd_Ck_lookHandle ⟨by decide, by decide, by decide⟩ rfl rfl d_Ck_look_134 ho37) (fun v1 M1 hv hle => ?_) (fun E1 M1 hv hle => ?_)
                          · rw [mbind_eq] at hF hS
                            obtain ⟨hx, hM1⟩ := hv
                            have hM2 := hM1.symm
                            subst hM2
                            generalize hq_w39 : F_Ck_lookHandle cs n (F_Ck_look cs n d) M a0 w5 x2 = w39 at hF hS hx hle ⊢
                            cases hx
                            refine GW.eqs (st' := [.int w39.1]) rfl ?_
                            exact c_iret (M := w39.2) C hr hlocks hle d_Ck_look_137 (by rw [← hF]; exact ⟨rfl, rfl⟩)
                          · cases hv.1
                        · rw [if_neg hc36] at hF hS
                          by_cases hc40 : (cI M (w5.getD 0) 0) = 9
                          · rw [if_pos hc40] at hF hS
                            refine g_tableIn C 138 d_Ck_look_21 (by rw [hc40]; decide) (by rw [hc40]; decide) (by rw [hc40]; rfl) (by decide) ?_
                            refine g_aload_n C d_Ck_look_138 rfl ?_
                            refine q_aload_n (r := w5) C d_Ck_look_139 rfl ?_
                            refine g_iload_n C d_Ck_look_140 rfl ?_
                            refine GW.more (A' := gA B) (fun _ h => h.elim) ?_
                            obtain ⟨ho41, hS⟩ := hS
                            obtain ⟨hs42, hS⟩ := hS
                            refine c_call (av := [.ref a0, va_rf w5, .int x2]) (rest := []) C hE (fun _ h => h) ⟨rfl, rfl⟩ hle (cc_Ck_lookTwo l hf D cs B dE lim n (F_Ck_look cs n d) (S_Ck_look cs lim n d) (12 * d) (400 * d) ih _ a0 w5 x2 hs42) (fun _ h => h) kd_Ck_lookTwo ki_Ck (by dsimp only; omega) (by dsimp only; omega) d_Ck_look_141 (Nat.le_of_ble_eq_true rfl) (c_fV (n := 2) (ci := 6) C hE.1 rfl km_Ck_105 kv_Ck_lookTwo kl_Ck_lookTwo kd_Ck_lookTwo ⟨by decide, by decide, by decide⟩ rfl rfl d_Ck_look_141 ho41) (fun v1 M1 hv hle => ?_) (fun E1 M1 hv hle => ?_)
                            · rw [mbind_eq] at hF hS
                              obtain ⟨hx, hM1⟩ := hv
                              have hM2 := hM1.symm
                              subst hM2
                              generalize hq_w43 : F_Ck_lookTwo cs n (F_Ck_look cs n d) M a0 w5 x2 = w43 at hF hS hx hle ⊢
                              cases hx
                              refine GW.eqs (st' := [.int w43.1]) rfl ?_
                              exact c_iret (M := w43.2) C hr hlocks hle d_Ck_look_144 (by rw [← hF]; exact ⟨rfl, rfl⟩)
                            · cases hv.1
                          · rw [if_neg hc40] at hF hS
                            by_cases hc44 : (cI M (w5.getD 0) 0) = 10
                            · rw [if_pos hc44] at hF hS
                              refine g_tableIn C 145 d_Ck_look_21 (by rw [hc44]; decide) (by rw [hc44]; decide) (by rw [hc44]; rfl) (by decide) ?_
                              refine g_aload_n C d_Ck_look_145 rfl ?_
                              refine q_aload_n (r := w5) C d_Ck_look_146 rfl ?_
                              refine g_iload_n C d_Ck_look_147 rfl ?_
                              refine GW.more (A' := gA B) (fun _ h => h.elim) ?_
                              obtain ⟨ho45, hS⟩ := hS
                              obtain ⟨hs46, hS⟩ := hS
                              refine c_call (av := [.ref a0, va_rf w5, .int x2]) (rest := []) C hE (fun _ h => h) ⟨rfl, rfl⟩ hle (cc_Ck_lookCall l hf D cs B dE lim n (F_Ck_look cs n d) (S_Ck_look cs lim n d) (12 * d) (400 * d) ih _ a0 w5 x2 hs46) (fun _ h => h) kd_Ck_lookCall ki_Ck (by dsimp only; omega) (by dsimp only; omega) d_Ck_look_148 (Nat.le_of_ble_eq_true rfl) (c_fV (n := 2) (ci := 6) C hE.1 rfl km_Ck_108 kv_Ck_lookCall kl_Ck_lookCall kd_Ck_lookCall ⟨by decide, by decide, by decide⟩ rfl rfl d_Ck_look_148 ho45) (fun v1 M1 hv hle => ?_) (fun E1 M1 hv hle => ?_)
                              · rw [mbind_eq] at hF hS
                                obtain ⟨hx, hM1⟩ := hv
                                have hM2 := hM1.symm
                                subst hM2
                                generalize hq_w47 : F_Ck_lookCall cs n (F_Ck_look cs n d) M a0 w5 x2 = w47 at hF hS hx hle ⊢
                                cases hx
                                refine GW.eqs (st' := [.int w47.1]) rfl ?_
                                exact c_iret (M := w47.2) C hr hlocks hle d_Ck_look_151 (by rw [← hF]; exact ⟨rfl, rfl⟩)
                              · cases hv.1
                            · rw [if_neg hc44] at hF hS
                              by_cases hc48 : (cI M (w5.getD 0) 0) = 11
                              · rw [if_pos hc48] at hF hS
                                refine g_tableIn C 152 d_Ck_look_21 (by rw [hc48]; decide) (by rw [hc48]; decide) (by rw [hc48]; rfl) (by decide) ?_
                                refine g_aload_n C d_Ck_look_152 rfl ?_
                                refine q_aload_n (r := w5) C d_Ck_look_153 rfl ?_
                                refine g_iload_n C d_Ck_look_154 rfl ?_
                                refine GW.more (A' := gA B) (fun _ h => h.elim) ?_
                                obtain ⟨ho49, hS⟩ := hS
                                obtain ⟨hs50, hS⟩ := hS
                                refine c_call (av := [.ref a0, va_rf w5, .int x2]) (rest := []) C hE (fun _ h => h) ⟨rfl, rfl⟩ hle (cc_Ck_lookPerform l hf D cs B dE lim n (F_Ck_look cs n d) (S_Ck_look cs lim n d) (12 * d) (400 * d) ih _ a0 w5 x2 hs50) (fun _ h => h) kd_Ck_lookPerform ki_Ck (by dsimp only; omega) (by dsimp only; omega) d_Ck_look_155 (Nat.le_of_ble_eq_true rfl) (c_fV (n := 2) (ci := 6) C hE.1 rfl km_Ck_111 kv_Ck_lookPerform kl_Ck_lookPerform kd_Ck_lookPerform ⟨by decide, by decide, by decide⟩ rfl rfl d_Ck_look_155 ho49) (fun v1 M1 hv hle => ?_) (fun E1 M1 hv hle => ?_)
                                · rw [mbind_eq] at hF hS
                                  obtain ⟨hx, hM1⟩ := hv
                                  have hM2 := hM1.symm
                                  subst hM2
                                  generalize hq_w51 : F_Ck_lookPerform cs n (F_Ck_look cs n d) M a0 w5 x2 = w51 at hF hS hx hle ⊢
                                  cases hx
                                  refine GW.eqs (st' := [.int w51.1]) rfl ?_
                                  exact c_iret (M := w51.2) C hr hlocks hle d_Ck_look_158 (by rw [← hF]; exact ⟨rfl, rfl⟩)
                                · cases hv.1
                              · rw [if_neg hc48] at hF hS
                                refine g_tableOut C 159 d_Ck_look_21 (by have := lv_neT hc7 (show (0 : Int32).toInt = 0 by decide); have := lv_neT hc10 (show (1 : Int32).toInt = 1 by decide); have := lv_neT hc13 (show (2 : Int32).toInt = 2 by decide); have := lv_neT hc16 (show (3 : Int32).toInt = 3 by decide); have := lv_neT hc20 (show (4 : Int32).toInt = 4 by decide); have := lv_neT hc24 (show (5 : Int32).toInt = 5 by decide); have := lv_neT hc28 (show (6 : Int32).toInt = 6 by decide); have := lv_neT hc32 (show (7 : Int32).toInt = 7 by decide); have := lv_neT hc36 (show (8 : Int32).toInt = 8 by decide); have := lv_neT hc40 (show (9 : Int32).toInt = 9 by decide); have := lv_neT hc44 (show (10 : Int32).toInt = 10 by decide); have := lv_neT hc48 (show (11 : Int32).toInt = 11 by decide); omega) (by decide) ?_
                                refine g_iconst (v := 2) C d_Ck_look_159 (by decide) ?_
                                refine g_iconst (v := 0) C d_Ck_look_160 (by decide) ?_
                                obtain ⟨hs52, hS⟩ := hS
                                refine c_call (av := [.int 2, .int 0]) (rest := []) C hE (fun _ h => h.elim) ⟨rfl, rfl⟩ hle (cc_Ck_seenAs l hf D cs B dE lim _ 2 0 hs52) (fun _ h => h.elim) kd_Ck_seenAs ki_Ck (by dsimp only; omega) (by dsimp only; omega) d_Ck_look_161 (Nat.le_of_ble_eq_true rfl) (c_fS (n := 2) C km_Ck_83 ks_Ck_seenAs ki_Ck kd_Ck_seenAs ⟨by decide, by decide, by decide⟩ rfl rfl d_Ck_look_161) (fun v1 M1 hv hle => ?_) (fun E1 M1 hv hle => ?_)
                                · rw [mbind_eq] at hF hS
                                  obtain ⟨hx, hM1⟩ := hv
                                  have hM2 := hM1.symm
                                  subst hM2
                                  generalize hq_w53 : F_Ck_seenAs cs M 2 0 = w53 at hF hS hx hle ⊢
                                  cases hx
                                  refine GW.eqs (st' := [.int w53]) rfl ?_
                                  refine GW.more (A' := gA B) (fun _ h => h.elim) ?_
                                  exact c_iret (M := M) C hr hlocks hle d_Ck_look_164 (by rw [← hF]; exact ⟨rfl, rfl⟩)
                                · cases hv.1
      · cases hv.1
    · rw [if_neg hc1] at hF hS
      refine g_iconst (v := (-1)) C d_Ck_look_6 (by decide) ?_
      refine GW.more (A' := gA B) (fun _ h => h.elim) ?_
      exact c_iret (M := M) C hr hlocks hle d_Ck_look_7 (by rw [← hF]; exact ⟨rfl, rfl⟩)
def F_Ck_examine (cs : Nat → ClassId) (n : Nat) (M : gMem) (a0 : Nat) (x1 : Int32) : Int32 × gMem := mbind (F_Ck_forget cs M a0 ) (fun w3 => mbind (F_Ar_fill cs n w3 (cQ w3 a0 4) (-1)) (fun w6 => mbind (F_Ty_functions cs w6 ((cQ w6 a0 1).getD 0) ) (fun w10 => mbind (F_Ck_look cs n 42 w6 a0 x1 1) (fun w13 => if w13.1 = (-1) then (if w13.1 = (-1) then (mbind (F_Ty_dropBack cs w13.2 ((cQ w13.2 a0 1).getD 0) (3 + w10)) (fun w24 => ((-1), cP 6 w24 a0 7 (.int (-1))))) else (mbind (F_Ck_effectsIn cs w13.2 w13.1) (fun w17 => mbind (F_Ck_typeIn cs (cP 6 w13.2 a0 7 (.int w17)) w13.1) (fun w20 => (w20, cP 6 w13.2 a0 7 (.int w17)))))) else (mbind (F_Ty_functions cs w13.2 ((cQ w13.2 a0 1).getD 0) ) (fun w29 => if w29 ≤ 60 then (if w13.1 = (-1) then (mbind (F_Ty_dropBack cs w13.2 ((cQ w13.2 a0 1).getD 0) (3 + w10)) (fun w40 => ((-1), cP 6 w40 a0 7 (.int (-1))))) else (mbind (F_Ck_effectsIn cs w13.2 w13.1) (fun w33 => mbind (F_Ck_typeIn cs (cP 6 w13.2 a0 7 (.int w33)) w13.1) (fun w36 => (w36, cP 6 w13.2 a0 7 (.int w33)))))) else (mbind (F_Ck_blame cs w13.2 a0 9 (-1)) (fun w44 => if w44.1 = (-1) then (mbind (F_Ty_dropBack cs w44.2 ((cQ w44.2 a0 1).getD 0) (3 + w10)) (fun w54 => ((-1), cP 6 w54 a0 7 (.int (-1))))) else (mbind (F_Ck_effectsIn cs w44.2 w44.1) (fun w47 => mbind (F_Ck_typeIn cs (cP 6 w44.2 a0 7 (.int w47)) w44.1) (fun w50 => (w50, cP 6 w44.2 a0 7 (.int w47)))))))))))))
def S_Ck_examine (cs : Nat → ClassId) (lim : Nat × Nat) (n : Nat) (M : gMem) (a0 : Nat) (x1 : Int32) : Prop := (cOk 6 M a0) ∧ ((S_Ck_forget cs lim M a0 ) ∧ (mbind (F_Ck_forget cs M a0 ) (fun w3 => (cOk 6 w3 a0) ∧ ((S_Ar_fill cs lim n w3 (cQ w3 a0 4) (-1)) ∧ (mbind (F_Ar_fill cs n w3 (cQ w3 a0 4) (-1)) (fun w6 => (cOk 6 w6 a0) ∧ ((cOq 1 w6 (cQ w6 a0 1)) ∧ ((S_Ty_functions cs lim w6 ((cQ w6 a0 1).getD 0) ) ∧ (mbind (F_Ty_functions cs w6 ((cQ w6 a0 1).getD 0) ) (fun w10 => (cOk 6 w6 a0) ∧ ((S_Ck_look cs lim n 42 w6 a0 x1 1) ∧ (mbind (F_Ck_look cs n 42 w6 a0 x1 1) (fun w13 => if w13.1 = (-1) then (if w13.1 = (-1) then ((cOk 6 w13.2 a0) ∧ ((cOq 1 w13.2 (cQ w13.2 a0 1)) ∧ ((S_Ty_dropBack cs lim w13.2 ((cQ w13.2 a0 1).getD 0) (3 + w10)) ∧ (mbind (F_Ty_dropBack cs w13.2 ((cQ w13.2 a0 1).getD 0) (3 + w10)) (fun w24 => (cOk 6 w24 a0) ∧ (True)))))) else ((S_Ck_effectsIn cs lim w13.2 w13.1) ∧ (mbind (F_Ck_effectsIn cs w13.2 w13.1) (fun w17 => (cOk 6 w13.2 a0) ∧ ((S_Ck_typeIn cs lim (cP 6 w13.2 a0 7 (.int w17)) w13.1) ∧ (mbind (F_Ck_typeIn cs (cP 6 w13.2 a0 7 (.int w17)) w13.1) (fun w20 => True))))))) else ((cOk 6 w13.2 a0) ∧ ((cOq 1 w13.2 (cQ w13.2 a0 1)) ∧ ((S_Ty_functions cs lim w13.2 ((cQ w13.2 a0 1).getD 0) ) ∧ (mbind (F_Ty_functions cs w13.2 ((cQ w13.2 a0 1).getD 0) ) (fun w29 => if w29 ≤ 60 then (if w13.1 = (-1) then ((cOk 6 w13.2 a0) ∧ ((cOq 1 w13.2 (cQ w13.2 a0 1)) ∧ ((S_Ty_dropBack cs lim w13.2 ((cQ w13.2 a0 1).getD 0) (3 + w10)) ∧ (mbind (F_Ty_dropBack cs w13.2 ((cQ w13.2 a0 1).getD 0) (3 + w10)) (fun w40 => (cOk 6 w40 a0) ∧ (True)))))) else ((S_Ck_effectsIn cs lim w13.2 w13.1) ∧ (mbind (F_Ck_effectsIn cs w13.2 w13.1) (fun w33 => (cOk 6 w13.2 a0) ∧ ((S_Ck_typeIn cs lim (cP 6 w13.2 a0 7 (.int w33)) w13.1) ∧ (mbind (F_Ck_typeIn cs (cP 6 w13.2 a0 7 (.int w33)) w13.1) (fun w36 => True))))))) else ((cOk 6 w13.2 a0) ∧ ((S_Ck_blame cs lim w13.2 a0 9 (-1)) ∧ (mbind (F_Ck_blame cs w13.2 a0 9 (-1)) (fun w44 => if w44.1 = (-1) then ((cOk 6 w44.2 a0) ∧ ((cOq 1 w44.2 (cQ w44.2 a0 1)) ∧ ((S_Ty_dropBack cs lim w44.2 ((cQ w44.2 a0 1).getD 0) (3 + w10)) ∧ (mbind (F_Ty_dropBack cs w44.2 ((cQ w44.2 a0 1).getD 0) (3 + w10)) (fun w54 => (cOk 6 w54 a0) ∧ (True)))))) else ((S_Ck_effectsIn cs lim w44.2 w44.1) ∧ (mbind (F_Ck_effectsIn cs w44.2 w44.1) (fun w47 => (cOk 6 w44.2 a0) ∧ ((S_Ck_typeIn cs lim (cP 6 w44.2 a0 7 (.int w47)) w44.1) ∧ (mbind (F_Ck_typeIn cs (cP 6 w44.2 a0 7 (.int w47)) w44.1) (fun w50 => True))))))))))))))))))))))))))))
set_option maxRecDepth 100000 in
set_option maxHeartbeats 4000000 in
theorem cc_Ck_examine (l : Launch) (hf : l.flags = pinnedFlags ++ [noTraceFlag]) (D : va_G) (cs : Nat → ClassId) (B : Nat) (dE : Nat × Nat) (lim : Nat × Nat) (n : Nat) (M : gMem) (a0 : Nat) (x1 : Int32) (hS : S_Ck_examine cs lim n M a0 x1) : cMet l y_Ck_examine (Cond.code y_Ck_examine c_Ck_examine 4 (some .int)) (505) (16823) D cs B dE (gA B) lim [.ref a0, .int x1] M (fun x M' => x = .inl (some (.int ((F_Ck_examine cs n M a0 x1).1))) ∧ M' = (F_Ck_examine cs n M a0 x1).2) := by
  refine cMet.ofW (by decide) (Nat.le_of_ble_eq_true rfl) (lv0 := [(0, .ref a0), (1, .int x1)]) rfl ?_
  intro p e s m args below meth c C hE hR0 hle hr hlocks hex hn
  generalize hF : F_Ck_examine cs n M a0 x1 = Fv
  unfold F_Ck_examine at hF
  unfold S_Ck_examine at hS
  refine g_aload_n C d_Ck_examine_0 rfl ?_
  refine GW.more (A' := gA B) (fun _ h => h.elim) ?_
  obtain ⟨ho1, hS⟩ := hS
  obtain ⟨hs2, hS⟩ := hS
  refine c_call (av := [.ref a0]) (rest := []) C hE (fun _ h => h) ⟨rfl, rfl⟩ hle (cc_Ck_forget l hf D cs B dE lim _ a0  hs2) (fun _ h => h) kd_Ck_forget ki_Ck (Nat.le_of_ble_eq_true rfl) (Nat.le_of_ble_eq_true rfl) d_Ck_examine_1 (Nat.le_of_ble_eq_true rfl) (c_fV (n := 0) (ci := 6) C hE.1 rfl km_Ck_39 kv_Ck_forget kl_Ck_forget kd_Ck_forget ⟨by decide, by decide, by decide⟩ rfl rfl d_Ck_examine_1 ho1) (fun v1 M1 hv hle => ?_) (fun E1 M1 hv hle => ?_)
  · rw [mbind_eq] at hF hS
    obtain ⟨hx, hM1⟩ := hv
    have hM2 := hM1.symm
    subst hM2
    generalize hq_w3 : F_Ck_forget cs M a0  = w3 at hF hS hx hle ⊢
    cases hx
    refine GW.eqs (st' := []) rfl ?_
    refine g_aload_n C d_Ck_examine_4 rfl ?_
    obtain ⟨ho4, hS⟩ := hS
    refine c_getq C hE.1 (ci := 6) i_Ck rfl 4 (by decide) (by decide) (by decide) kf_Ck_9 d_Ck_examine_5 ho4 ?_
    refine g_iconst (v := (-1)) C d_Ck_examine_8 (by decide) ?_
    obtain ⟨hs5, hS⟩ := hS
    refine c_call (av := [va_rf (cQ w3 a0 4), .int (-1)]) (rest := []) C hE (fun _ h => h) ⟨rfl, rfl⟩ hle (cc_Ar_fill l hf D cs B dE lim n _ (cQ w3 a0 4) (-1) hs5) (fun _ h => h) kd_Ar_fill ki_Ar (Nat.le_of_ble_eq_true rfl) (Nat.le_of_ble_eq_true rfl) d_Ck_examine_9 (Nat.le_of_ble_eq_true rfl) (c_fS (n := 2) C km_Ck_42 ks_Ar_fill ki_Ar kd_Ar_fill ⟨by decide, by decide, by decide⟩ rfl rfl d_Ck_examine_9) (fun v1 M1 hv hle => ?_) (fun E1 M1 hv hle => ?_)
    · rw [mbind_eq] at hF hS
      obtain ⟨hx, hM1⟩ := hv
      have hM2 := hM1.symm
      subst hM2
      generalize hq_w6 : F_Ar_fill cs n w3 (cQ w3 a0 4) (-1) = w6 at hF hS hx hle ⊢
      cases hx
      refine GW.eqs (st' := []) rfl ?_
      refine g_aload_n C d_Ck_examine_12 rfl ?_
      obtain ⟨ho7, hS⟩ := hS
      refine c_getq C hE.1 (ci := 6) i_Ck rfl 1 (by decide) (by decide) (by decide) kf_Ck_19 d_Ck_examine_13 ho7 ?_
      obtain ⟨ho8, hS⟩ := hS
      refine GW.known1 (a := (cQ w6 a0 1).getD 0) (cOq.at ho8).1 ?_
      obtain ⟨hs9, hS⟩ := hS
      refine c_call (av := [.ref ((cQ w6 a0 1).getD 0)]) (rest := []) C hE (fun _ h => h) ⟨rfl, rfl⟩ hle (cc_Ty_functions l hf D cs B dE lim _ ((cQ w6 a0 1).getD 0)  hs9) (fun _ h => h.elim) kd_Ty_functions ki_Ty (Nat.le_of_ble_eq_true rfl) (Nat.le_of_ble_eq_true rfl) d_Ck_examine_16 (Nat.le_of_ble_eq_true rfl) (c_fV (n := 0) (ci := 1) C hE.1 rfl km_Ck_48 kv_Ty_functions kl_Ty_functions kd_Ty_functions ⟨by decide, by decide, by decide⟩ rfl rfl d_Ck_examine_16 (cOq.at ho8).2) (fun v1 M1 hv hle => ?_) (fun E1 M1 hv hle => ?_)
      · rw [mbind_eq] at hF hS
        obtain ⟨hx, hM1⟩ := hv
        have hM2 := hM1.symm
        subst hM2
        generalize hq_w10 : F_Ty_functions cs w6 ((cQ w6 a0 1).getD 0)  = w10 at hF hS hx hle ⊢
        cases hx
        refine GW.eqs (st' := [.int w10]) rfl ?_
        refine g_istore_n (lv' := [(2, .int w10), (0, .ref a0), (1, .int x1)]) C d_Ck_examine_19 (by decide) rfl ?_
        refine g_aload_n C d_Ck_examine_20 rfl ?_
        refine g_iload_n C d_Ck_examine_21 rfl ?_
        refine g_iconst (v := 1) C d_Ck_examine_22 (by decide) ?_
        obtain ⟨ho11, hS⟩ := hS
        obtain ⟨hs12, hS⟩ := hS
        refine c_call (av := [.ref a0, .int x1, .int 1]) (rest := []) C hE (fun _ h => h) ⟨rfl, rfl⟩ hle (cc_Ck_look l hf D cs B dE lim n 42 _ a0 x1 1 hs12) (fun _ h => h) kd_Ck_look ki_Ck (Nat.le_of_ble_eq_true rfl) (Nat.le_of_ble_eq_true rfl) d_Ck_examine_23 (Nat.le_of_ble_eq_true rfl) (c_fV (n := 2) (ci := 6) C hE.1 rfl km_Ck_54 kv_Ck_look kl_Ck_look kd_Ck_look ⟨by decide, by decide, by decide⟩ rfl rfl d_Ck_examine_23 ho11) (fun v1 M1 hv hle => ?_) (fun E1 M1 hv hle => ?_)
        · rw [mbind_eq] at hF hS
          obtain ⟨hx, hM1⟩ := hv
          have hM2 := hM1.symm
          subst hM2
          generalize hq_w13 : F_Ck_look cs n 42 w6 a0 x1 1 = w13 at hF hS hx hle ⊢
          cases hx
          refine GW.eqs (st' := [.int w13.1]) rfl ?_
          refine g_istore_n (lv' := [(3, .int w13.1), (2, .int w10), (0, .ref a0), (1, .int x1)]) C d_Ck_examine_26 (by decide) rfl ?_
          refine g_iload_n C d_Ck_examine_27 rfl ?_
          refine g_iconst (v := (-1)) C d_Ck_examine_28 (by decide) ?_
          refine g_icmp_eq C 52 d_Ck_examine_29 (by decide) (fun hc14 => ?_) (fun hc14 => ?_)
          · rw [if_pos hc14] at hF hS
            refine g_iload_n C d_Ck_examine_52 rfl ?_
            refine g_iconst (v := (-1)) C d_Ck_examine_53 (by decide) ?_
            refine g_icmp_ne C 74 d_Ck_examine_54 (by decide) (fun hc15 => ?_) (fun hc15 => ?_)
            · rw [if_neg hc15] at hF hS
              refine g_aload_n C d_Ck_examine_74 rfl ?_
              refine g_iload_n C d_Ck_examine_75 rfl ?_
              obtain ⟨hs16, hS⟩ := hS
              refine c_call (av := [.int w13.1]) (rest := [.ref a0]) C hE (fun _ h => h) ⟨rfl, rfl⟩ hle (cc_Ck_effectsIn l hf D cs B dE lim _ w13.1 hs16) (fun _ h => h.elim) kd_Ck_effectsIn ki_Ck (Nat.le_of_ble_eq_true rfl) (Nat.le_of_ble_eq_true rfl) d_Ck_examine_76 (Nat.le_of_ble_eq_true rfl) (c_fS (n := 1) C km_Ck_65 ks_Ck_effectsIn ki_Ck kd_Ck_effectsIn ⟨by decide, by decide, by decide⟩ rfl rfl d_Ck_examine_76) (fun v1 M1 hv hle => ?_) (fun E1 M1 hv hle => ?_)
              · rw [mbind_eq] at hF hS
                obtain ⟨hx, hM1⟩ := hv
                have hM2 := hM1.symm
                subst hM2
                generalize hq_w17 : F_Ck_effectsIn cs w13.2 w13.1 = w17 at hF hS hx hle ⊢
                cases hx
                refine GW.eqs (st' := [.int w17, .ref a0]) rfl ?_
                obtain ⟨ho18, hS⟩ := hS
                refine k_put (M0 := M) (M := w13.2) C hE.1 (ci := 6) i_Ck rfl 7 (by decide) (by decide) kf_Ck_36 t_Ck t_Ck_ok n_Ck rfl (nf_i _) d_Ck_examine_79 ho18 ?_
                replace hle := cLe.cP (ci := 6) (a := a0) (k := 7) (v := .int w17) hle
                refine g_iload_n C d_Ck_examine_82 rfl ?_
                obtain ⟨hs19, hS⟩ := hS
                refine c_call (av := [.int w13.1]) (rest := []) C hE (fun _ h => h) ⟨rfl, rfl⟩ hle (cc_Ck_typeIn l hf D cs B dE lim _ w13.1 hs19) (fun _ h => h.elim) kd_Ck_typeIn ki_Ck (Nat.le_of_ble_eq_true rfl) (Nat.le_of_ble_eq_true rfl) d_Ck_examine_83 (Nat.le_of_ble_eq_true rfl) (c_fS (n := 1) C km_Ck_69 ks_Ck_typeIn ki_Ck kd_Ck_typeIn ⟨by decide, by decide, by decide⟩ rfl rfl d_Ck_examine_83) (fun v1 M1 hv hle => ?_) (fun E1 M1 hv hle => ?_)
                · rw [mbind_eq] at hF hS
                  obtain ⟨hx, hM1⟩ := hv
                  have hM2 := hM1.symm
                  subst hM2
                  generalize hq_w20 : F_Ck_typeIn cs (cP 6 w13.2 a0 7 (.int w17)) w13.1 = w20 at hF hS hx hle ⊢
                  cases hx
                  refine GW.eqs (st' := [.int w20]) rfl ?_
                  exact c_iret (M := cP 6 w13.2 a0 7 (.int w17)) C hr hlocks hle d_Ck_examine_86 (by rw [← hF]; exact ⟨rfl, rfl⟩)
                · cases hv.1
              · cases hv.1
            · rw [if_pos hc15] at hF hS
              refine g_aload_n C d_Ck_examine_57 rfl ?_
              obtain ⟨ho21, hS⟩ := hS
              refine c_getq C hE.1 (ci := 6) i_Ck rfl 1 (by decide) (by decide) (by decide) kf_Ck_19 d_Ck_examine_58 ho21 ?_
              refine g_iconst (v := 3) C d_Ck_examine_61 (by decide) ?_
              refine g_iload_n C d_Ck_examine_62 rfl ?_
              refine g_iadd C d_Ck_examine_63 ?_
              obtain ⟨ho22, hS⟩ := hS
              refine GW.known2 (a := (cQ w13.2 a0 1).getD 0) (cOq.at ho22).1 ?_
              obtain ⟨hs23, hS⟩ := hS
              refine c_call (av := [.ref ((cQ w13.2 a0 1).getD 0), .int (3 + w10)]) (rest := []) C hE (fun _ h => h) ⟨rfl, rfl⟩ hle (cc_Ty_dropBack l hf D cs B dE lim _ ((cQ w13.2 a0 1).getD 0) (3 + w10) hs23) (fun _ h => h) kd_Ty_dropBack ki_Ty (Nat.le_of_ble_eq_true rfl) (Nat.le_of_ble_eq_true rfl) d_Ck_examine_64 (Nat.le_of_ble_eq_true rfl) (c_fV (n := 1) (ci := 1) C hE.1 rfl km_Ck_61 kv_Ty_dropBack kl_Ty_dropBack kd_Ty_dropBack ⟨by decide, by decide, by decide⟩ rfl rfl d_Ck_examine_64 (cOq.at ho22).2) (fun v1 M1 hv hle => ?_) (fun E1 M1 hv hle => ?_)
              · rw [mbind_eq] at hF hS
                obtain ⟨hx, hM1⟩ := hv
                have hM2 := hM1.symm
                subst hM2
                generalize hq_w24 : F_Ty_dropBack cs w13.2 ((cQ w13.2 a0 1).getD 0) (3 + w10) = w24 at hF hS hx hle ⊢
                cases hx
                refine GW.eqs (st' := []) rfl ?_
                refine g_aload_n C d_Ck_examine_67 rfl ?_
                refine g_iconst (v := (-1)) C d_Ck_examine_68 (by decide) ?_
                obtain ⟨ho25, hS⟩ := hS
                refine k_put (M0 := M) (M := w24) C hE.1 (ci := 6) i_Ck rfl 7 (by decide) (by decide) kf_Ck_36 t_Ck t_Ck_ok n_Ck rfl (nf_i _) d_Ck_examine_69 ho25 ?_
                replace hle := cLe.cP (ci := 6) (a := a0) (k := 7) (v := .int (-1)) hle
                refine g_iconst (v := (-1)) C d_Ck_examine_72 (by decide) ?_
                exact c_iret (M := cP 6 w24 a0 7 (.int (-1))) C hr hlocks hle d_Ck_examine_73 (by rw [← hF]; exact ⟨rfl, rfl⟩)
              · cases hv.1
          · rw [if_neg hc14] at hF hS
            refine g_aload_n C d_Ck_examine_32 rfl ?_
            obtain ⟨ho26, hS⟩ := hS
            refine c_getq C hE.1 (ci := 6) i_Ck rfl 1 (by decide) (by decide) (by decide) kf_Ck_19 d_Ck_examine_33 ho26 ?_
            obtain ⟨ho27, hS⟩ := hS
            refine GW.known1 (a := (cQ w13.2 a0 1).getD 0) (cOq.at ho27).1 ?_
            obtain ⟨hs28, hS⟩ := hS
            refine c_call (av := [.ref ((cQ w13.2 a0 1).getD 0)]) (rest := []) C hE (fun _ h => h) ⟨rfl, rfl⟩ hle (cc_Ty_functions l hf D cs B dE lim _ ((cQ w13.2 a0 1).getD 0)  hs28) (fun _ h => h.elim) kd_Ty_functions ki_Ty (Nat.le_of_ble_eq_true rfl) (Nat.le_of_ble_eq_true rfl) d_Ck_examine_36 (Nat.le_of_ble_eq_true rfl) (c_fV (n := 0) (ci := 1) C hE.1 rfl km_Ck_48 kv_Ty_functions kl_Ty_functions kd_Ty_functions ⟨by decide, by decide, by decide⟩ rfl rfl d_Ck_examine_36 (cOq.at ho27).2) (fun v1 M1 hv hle => ?_) (fun E1 M1 hv hle => ?_)
            · rw [mbind_eq] at hF hS
              obtain ⟨hx, hM1⟩ := hv
              have hM2 := hM1.symm
              subst hM2
              generalize hq_w29 : F_Ty_functions cs w13.2 ((cQ w13.2 a0 1).getD 0)  = w29 at hF hS hx hle ⊢
              cases hx
              refine GW.eqs (st' := [.int w29]) rfl ?_
              refine g_bipush (v := 60) C d_Ck_examine_39 (by decide) ?_
              refine g_icmp_le C 52 d_Ck_examine_41 (by decide) (fun hc30 => ?_) (fun hc30 => ?_)
              · rw [if_pos hc30] at hF hS
                refine g_iload_n C d_Ck_examine_52 rfl ?_
                refine g_iconst (v := (-1)) C d_Ck_examine_53 (by decide) ?_
                refine g_icmp_ne C 74 d_Ck_examine_54 (by decide) (fun hc31 => ?_) (fun hc31 => ?_)
                · rw [if_neg hc31] at hF hS
                  refine g_aload_n C d_Ck_examine_74 rfl ?_
                  refine g_iload_n C d_Ck_examine_75 rfl ?_
                  obtain ⟨hs32, hS⟩ := hS
                  refine c_call (av := [.int w13.1]) (rest := [.ref a0]) C hE (fun _ h => h) ⟨rfl, rfl⟩ hle (cc_Ck_effectsIn l hf D cs B dE lim _ w13.1 hs32) (fun _ h => h.elim) kd_Ck_effectsIn ki_Ck (Nat.le_of_ble_eq_true rfl) (Nat.le_of_ble_eq_true rfl) d_Ck_examine_76 (Nat.le_of_ble_eq_true rfl) (c_fS (n := 1) C km_Ck_65 ks_Ck_effectsIn ki_Ck kd_Ck_effectsIn ⟨by decide, by decide, by decide⟩ rfl rfl d_Ck_examine_76) (fun v1 M1 hv hle => ?_) (fun E1 M1 hv hle => ?_)
                  · rw [mbind_eq] at hF hS
                    obtain ⟨hx, hM1⟩ := hv
                    have hM2 := hM1.symm
                    subst hM2
                    generalize hq_w33 : F_Ck_effectsIn cs w13.2 w13.1 = w33 at hF hS hx hle ⊢
                    cases hx
                    refine GW.eqs (st' := [.int w33, .ref a0]) rfl ?_
                    obtain ⟨ho34, hS⟩ := hS
                    refine k_put (M0 := M) (M := w13.2) C hE.1 (ci := 6) i_Ck rfl 7 (by decide) (by decide) kf_Ck_36 t_Ck t_Ck_ok n_Ck rfl (nf_i _) d_Ck_examine_79 ho34 ?_
                    replace hle := cLe.cP (ci := 6) (a := a0) (k := 7) (v := .int w33) hle
                    refine g_iload_n C d_Ck_examine_82 rfl ?_
                    obtain ⟨hs35, hS⟩ := hS
                    refine c_call (av := [.int w13.1]) (rest := []) C hE (fun _ h => h) ⟨rfl, rfl⟩ hle (cc_Ck_typeIn l hf D cs B dE lim _ w13.1 hs35) (fun _ h => h.elim) kd_Ck_typeIn ki_Ck (Nat.le_of_ble_eq_true rfl) (Nat.le_of_ble_eq_true rfl) d_Ck_examine_83 (Nat.le_of_ble_eq_true rfl) (c_fS (n := 1) C km_Ck_69 ks_Ck_typeIn ki_Ck kd_Ck_typeIn ⟨by decide, by decide, by decide⟩ rfl rfl d_Ck_examine_83) (fun v1 M1 hv hle => ?_) (fun E1 M1 hv hle => ?_)
                    · rw [mbind_eq] at hF hS
                      obtain ⟨hx, hM1⟩ := hv
                      have hM2 := hM1.symm
                      subst hM2
                      generalize hq_w36 : F_Ck_typeIn cs (cP 6 w13.2 a0 7 (.int w33)) w13.1 = w36 at hF hS hx hle ⊢
                      cases hx
                      refine GW.eqs (st' := [.int w36]) rfl ?_
                      exact c_iret (M := cP 6 w13.2 a0 7 (.int w33)) C hr hlocks hle d_Ck_examine_86 (by rw [← hF]; exact ⟨rfl, rfl⟩)
                    · cases hv.1
                  · cases hv.1
                · rw [if_pos hc31] at hF hS
                  refine g_aload_n C d_Ck_examine_57 rfl ?_
                  obtain ⟨ho37, hS⟩ := hS
                  refine c_getq C hE.1 (ci := 6) i_Ck rfl 1 (by decide) (by decide) (by decide) kf_Ck_19 d_Ck_examine_58 ho37 ?_
                  refine g_iconst (v := 3) C d_Ck_examine_61 (by decide) ?_
                  refine g_iload_n C d_Ck_examine_62 rfl ?_
                  refine g_iadd C d_Ck_examine_63 ?_
                  obtain ⟨ho38, hS⟩ := hS
                  refine GW.known2 (a := (cQ w13.2 a0 1).getD 0) (cOq.at ho38).1 ?_
                  obtain ⟨hs39, hS⟩ := hS
                  refine c_call (av := [.ref ((cQ w13.2 a0 1).getD 0), .int (3 + w10)]) (rest := []) C hE (fun _ h => h) ⟨rfl, rfl⟩ hle (cc_Ty_dropBack l hf D cs B dE lim _ ((cQ w13.2 a0 1).getD 0) (3 + w10) hs39) (fun _ h => h) kd_Ty_dropBack ki_Ty (Nat.le_of_ble_eq_true rfl) (Nat.le_of_ble_eq_true rfl) d_Ck_examine_64 (Nat.le_of_ble_eq_true rfl) (c_fV (n := 1) (ci := 1) C hE.1 rfl km_Ck_61 kv_Ty_dropBack kl_Ty_dropBack kd_Ty_dropBack ⟨by decide, by decide, by decide⟩ rfl rfl d_Ck_examine_64 (cOq.at ho38).2) (fun v1 M1 hv hle => ?_) (fun E1 M1 hv hle => ?_)
                  · rw [mbind_eq] at hF hS
                    obtain ⟨hx, hM1⟩ := hv
                    have hM2 := hM1.symm
                    subst hM2
                    generalize hq_w40 : F_Ty_dropBack cs w13.2 ((cQ w13.2 a0 1).getD 0) (3 + w10) = w40 at hF hS hx hle ⊢
                    cases hx
                    refine GW.eqs (st' := []) rfl ?_
                    refine g_aload_n C d_Ck_examine_67 rfl ?_
                    refine g_iconst (v := (-1)) C d_Ck_examine_68 (by decide) ?_
                    obtain ⟨ho41, hS⟩ := hS
                    refine k_put (M0 := M) (M := w40) C hE.1 (ci := 6) i_Ck rfl 7 (by decide) (by decide) kf_Ck_36 t_Ck t_Ck_ok n_Ck rfl (nf_i _) d_Ck_examine_69 ho41 ?_
                    replace hle := cLe.cP (ci := 6) (a := a0) (k := 7) (v := .int (-1)) hle
                    refine g_iconst (v := (-1)) C d_Ck_examine_72 (by decide) ?_
                    exact c_iret (M := cP 6 w40 a0 7 (.int (-1))) C hr hlocks hle d_Ck_examine_73 (by rw [← hF]; exact ⟨rfl, rfl⟩)
                  · cases hv.1
              · rw [if_neg hc30] at hF hS
                refine g_aload_n C d_Ck_examine_44 rfl ?_
                refine g_bipush (v := 9) C d_Ck_examine_45 (by decide) ?_
                refine g_iconst (v := (-1)) C d_Ck_examine_47 (by decide) ?_
                obtain ⟨ho42, hS⟩ := hS
                obtain ⟨hs43, hS⟩ := hS
                refine c_call (av := [.ref a0, .int 9, .int (-1)]) (rest := []) C hE (fun _ h => h) ⟨rfl, rfl⟩ hle (cc_Ck_blame l hf D cs B dE lim _ a0 9 (-1) hs43) (fun _ h => h) kd_Ck_blame ki_Ck (Nat.le_of_ble_eq_true rfl) (Nat.le_of_ble_eq_true rfl) d_Ck_examine_48 (Nat.le_of_ble_eq_true rfl) (c_fV (n := 2) (ci := 6) C hE.1 rfl km_Ck_58 kv_Ck_blame kl_Ck_blame kd_Ck_blame ⟨by decide, by decide, by decide⟩ rfl rfl d_Ck_examine_48 ho42) (fun v1 M1 hv hle => ?_) (fun E1 M1 hv hle => ?_)
                · rw [mbind_eq] at hF hS
                  obtain ⟨hx, hM1⟩ := hv
                  have hM2 := hM1.symm
                  subst hM2
                  generalize hq_w44 : F_Ck_blame cs w13.2 a0 9 (-1) = w44 at hF hS hx hle ⊢
                  cases hx
                  refine GW.eqs (st' := [.int w44.1]) rfl ?_
                  refine g_istore_n (lv' := [(3, .int w44.1), (2, .int w10), (0, .ref a0), (1, .int x1)]) C d_Ck_examine_51 (by decide) rfl ?_
                  refine g_iload_n C d_Ck_examine_52 rfl ?_
                  refine g_iconst (v := (-1)) C d_Ck_examine_53 (by decide) ?_
                  refine g_icmp_ne C 74 d_Ck_examine_54 (by decide) (fun hc45 => ?_) (fun hc45 => ?_)
                  · rw [if_neg hc45] at hF hS
                    refine g_aload_n C d_Ck_examine_74 rfl ?_
                    refine g_iload_n C d_Ck_examine_75 rfl ?_
                    obtain ⟨hs46, hS⟩ := hS
                    refine c_call (av := [.int w44.1]) (rest := [.ref a0]) C hE (fun _ h => h) ⟨rfl, rfl⟩ hle (cc_Ck_effectsIn l hf D cs B dE lim _ w44.1 hs46) (fun _ h => h.elim) kd_Ck_effectsIn ki_Ck (Nat.le_of_ble_eq_true rfl) (Nat.le_of_ble_eq_true rfl) d_Ck_examine_76 (Nat.le_of_ble_eq_true rfl) (c_fS (n := 1) C km_Ck_65 ks_Ck_effectsIn ki_Ck kd_Ck_effectsIn ⟨by decide, by decide, by decide⟩ rfl rfl d_Ck_examine_76) (fun v1 M1 hv hle => ?_) (fun E1 M1 hv hle => ?_)
                    · rw [mbind_eq] at hF hS
                      obtain ⟨hx, hM1⟩ := hv
                      have hM2 := hM1.symm
                      subst hM2
                      generalize hq_w47 : F_Ck_effectsIn cs w44.2 w44.1 = w47 at hF hS hx hle ⊢
                      cases hx
                      refine GW.eqs (st' := [.int w47, .ref a0]) rfl ?_
                      obtain ⟨ho48, hS⟩ := hS
                      refine k_put (M0 := M) (M := w44.2) C hE.1 (ci := 6) i_Ck rfl 7 (by decide) (by decide) kf_Ck_36 t_Ck t_Ck_ok n_Ck rfl (nf_i _) d_Ck_examine_79 ho48 ?_
                      replace hle := cLe.cP (ci := 6) (a := a0) (k := 7) (v := .int w47) hle
                      refine g_iload_n C d_Ck_examine_82 rfl ?_
                      obtain ⟨hs49, hS⟩ := hS
                      refine c_call (av := [.int w44.1]) (rest := []) C hE (fun _ h => h) ⟨rfl, rfl⟩ hle (cc_Ck_typeIn l hf D cs B dE lim _ w44.1 hs49) (fun _ h => h.elim) kd_Ck_typeIn ki_Ck (Nat.le_of_ble_eq_true rfl) (Nat.le_of_ble_eq_true rfl) d_Ck_examine_83 (Nat.le_of_ble_eq_true rfl) (c_fS (n := 1) C km_Ck_69 ks_Ck_typeIn ki_Ck kd_Ck_typeIn ⟨by decide, by decide, by decide⟩ rfl rfl d_Ck_examine_83) (fun v1 M1 hv hle => ?_) (fun E1 M1 hv hle => ?_)
                      · rw [mbind_eq] at hF hS
                        obtain ⟨hx, hM1⟩ := hv
                        have hM2 := hM1.symm
                        subst hM2
                        generalize hq_w50 : F_Ck_typeIn cs (cP 6 w44.2 a0 7 (.int w47)) w44.1 = w50 at hF hS hx hle ⊢
                        cases hx
                        refine GW.eqs (st' := [.int w50]) rfl ?_
                        exact c_iret (M := cP 6 w44.2 a0 7 (.int w47)) C hr hlocks hle d_Ck_examine_86 (by rw [← hF]; exact ⟨rfl, rfl⟩)
                      · cases hv.1
                    · cases hv.1
                  · rw [if_pos hc45] at hF hS
                    refine g_aload_n C d_Ck_examine_57 rfl ?_
                    obtain ⟨ho51, hS⟩ := hS
                    refine c_getq C hE.1 (ci := 6) i_Ck rfl 1 (by decide) (by decide) (by decide) kf_Ck_19 d_Ck_examine_58 ho51 ?_
                    refine g_iconst (v := 3) C d_Ck_examine_61 (by decide) ?_
                    refine g_iload_n C d_Ck_examine_62 rfl ?_
                    refine g_iadd C d_Ck_examine_63 ?_
                    obtain ⟨ho52, hS⟩ := hS
                    refine GW.known2 (a := (cQ w44.2 a0 1).getD 0) (cOq.at ho52).1 ?_
                    obtain ⟨hs53, hS⟩ := hS
                    refine c_call (av := [.ref ((cQ w44.2 a0 1).getD 0), .int (3 + w10)]) (rest := []) C hE (fun _ h => h) ⟨rfl, rfl⟩ hle (cc_Ty_dropBack l hf D cs B dE lim _ ((cQ w44.2 a0 1).getD 0) (3 + w10) hs53) (fun _ h => h) kd_Ty_dropBack ki_Ty (Nat.le_of_ble_eq_true rfl) (Nat.le_of_ble_eq_true rfl) d_Ck_examine_64 (Nat.le_of_ble_eq_true rfl) (c_fV (n := 1) (ci := 1) C hE.1 rfl km_Ck_61 kv_Ty_dropBack kl_Ty_dropBack kd_Ty_dropBack ⟨by decide, by decide, by decide⟩ rfl rfl d_Ck_examine_64 (cOq.at ho52).2) (fun v1 M1 hv hle => ?_) (fun E1 M1 hv hle => ?_)
                    · rw [mbind_eq] at hF hS
                      obtain ⟨hx, hM1⟩ := hv
                      have hM2 := hM1.symm
                      subst hM2
                      generalize hq_w54 : F_Ty_dropBack cs w44.2 ((cQ w44.2 a0 1).getD 0) (3 + w10) = w54 at hF hS hx hle ⊢
                      cases hx
                      refine GW.eqs (st' := []) rfl ?_
                      refine g_aload_n C d_Ck_examine_67 rfl ?_
                      refine g_iconst (v := (-1)) C d_Ck_examine_68 (by decide) ?_
                      obtain ⟨ho55, hS⟩ := hS
                      refine k_put (M0 := M) (M := w54) C hE.1 (ci := 6) i_Ck rfl 7 (by decide) (by decide) kf_Ck_36 t_Ck t_Ck_ok n_Ck rfl (nf_i _) d_Ck_examine_69 ho55 ?_
                      replace hle := cLe.cP (ci := 6) (a := a0) (k := 7) (v := .int (-1)) hle
                      refine g_iconst (v := (-1)) C d_Ck_examine_72 (by decide) ?_
                      exact c_iret (M := cP 6 w54 a0 7 (.int (-1))) C hr hlocks hle d_Ck_examine_73 (by rw [← hF]; exact ⟨rfl, rfl⟩)
                    · cases hv.1
                · cases hv.1
            · cases hv.1
        · cases hv.1
      · cases hv.1
    · cases hv.1
  · cases hv.1
def F_Co_init (cs : Nat → ClassId) (M : gMem) (a0 : Nat) (x1 : Option Nat) : gMem := mbind (F_Ce_init cs (gnw M (1, .inr (2, [.null])) 1) M.2.1 ) (fun w3 => cP 7 (cP 7 w3 a0 1 (va_rf (some M.2.1))) a0 0 (va_rf x1))
def S_Co_init (cs : Nat → ClassId) (lim : Nat × Nat) (M : gMem) (a0 : Nat) (x1 : Option Nat) : Prop := (M.2.1 + 1 ≤ lim.1 ∧ M.2.2 + 1 ≤ lim.2) ∧ ((S_Ce_init cs lim (gnw M (1, .inr (2, [.null])) 1) M.2.1 ) ∧ (mbind (F_Ce_init cs (gnw M (1, .inr (2, [.null])) 1) M.2.1 ) (fun w3 => (cOk 7 w3 a0) ∧ ((cOk 7 (cP 7 w3 a0 1 (va_rf (some M.2.1))) a0) ∧ (True)))))
set_option maxRecDepth 100000 in
set_option maxHeartbeats 4000000 in
theorem cc_Co_init (l : Launch) (hf : l.flags = pinnedFlags ++ [noTraceFlag]) (D : va_G) (cs : Nat → ClassId) (B : Nat) (dE : Nat × Nat) (lim : Nat × Nat) (M : gMem) (a0 : Nat) (x1 : Option Nat) (hS : S_Co_init cs lim M a0 x1) : cMet l y_Co_init (Cond.code y_Co_init c_Co_init 2 none) (2) (40) D cs B dE (gA B) lim [.ref a0, va_rf x1] M (fun x M' => x = .inl none ∧ M' = (F_Co_init cs M a0 x1)) := by
  refine cMet.ofW (by decide) (by cases x1 <;> exact Nat.le_of_ble_eq_true rfl) (lv0 := [(0, .ref a0), (1, va_rf x1)]) (by cases x1 <;> rfl) ?_
  intro p e s m args below meth c C hE hR0 hle hr hlocks hex hn
  generalize hF : F_Co_init cs M a0 x1 = Fv
  unfold F_Co_init at hF
  unfold S_Co_init at hS
  refine g_aload_n C d_Co_init_0 rfl ?_
  refine g_objInit C km_Co_3 kv_Ob_init kd_Ob_init d_Co_init_1 (Nat.le_of_ble_eq_true rfl) (Nat.le_of_ble_eq_true rfl) ?_
  refine g_aload_n C d_Co_init_4 rfl ?_
  refine GW.more (A' := gA B) (fun _ h => h.elim) ?_
  obtain ⟨hl1, hS⟩ := hS
  refine c_new (M0 := M) (M := M) (ci := 2) (N := 1) (fs := [.null]) C hE.1 ⟨rfl, rfl⟩ hle i_Ce rfl t_Ce t_Ce_ok kc_Co_9 kn_Ce ki_Ce (by decide) d_Co_init_5 hl1 (fun hle => ?_)
  refine g_dup C d_Co_init_8 rfl ?_
  obtain ⟨hs2, hS⟩ := hS
  refine c_call (av := [.ref M.2.1]) (rest := [.ref M.2.1, .ref a0]) C hE (fun _ h => h) ⟨rfl, rfl⟩ hle (cc_Ce_init l hf D cs B dE lim _ M.2.1  hs2) (fun _ h => h) kd_Ce_init ki_Ce (Nat.le_of_ble_eq_true rfl) (Nat.le_of_ble_eq_true rfl) d_Co_init_9 (Nat.le_of_ble_eq_true rfl) (c_fI (n := 0) C rfl km_Co_11 kv_Ce_init kd_Ce_init ⟨by decide, by decide, by decide⟩ rfl rfl d_Co_init_9) (fun v1 M1 hv hle => ?_) (fun E1 M1 hv hle => ?_)
  · rw [mbind_eq] at hF hS
    obtain ⟨hx, hM1⟩ := hv
    have hM2 := hM1.symm
    subst hM2
    generalize hq_w3 : F_Ce_init cs (gnw M (1, .inr (2, [.null])) 1) M.2.1  = w3 at hF hS hx hle ⊢
    cases hx
    refine GW.eqs (st' := [.ref M.2.1, .ref a0]) rfl ?_
    obtain ⟨ho4, hS⟩ := hS
    refine GW.eqs (st' := [va_rf (some M.2.1), .ref a0]) rfl ?_
    refine k_putF (M0 := M) (M := w3) C hE.1 (ci := 7) i_Co rfl 1 (by decide) (by decide) kf_Co_12 t_Co t_Co_ok n_Co rfl hn rfl (nf_q _ (Or.inl ⟨_, rfl⟩) _) d_Co_init_12 ho4 ?_
    replace hle := cLe.cP (ci := 7) (a := a0) (k := 1) (v := va_rf (some M.2.1)) hle
    refine g_aload_n C d_Co_init_15 rfl ?_
    refine q_aload_n (r := x1) C d_Co_init_16 rfl ?_
    obtain ⟨ho5, hS⟩ := hS
    refine k_putF (M0 := M) (M := cP 7 w3 a0 1 (va_rf (some M.2.1))) C hE.1 (ci := 7) i_Co rfl 0 (by decide) (by decide) kf_Co_18 t_Co t_Co_ok n_Co rfl hn rfl (nf_q _ (Or.inl ⟨_, rfl⟩) _) d_Co_init_17 ho5 ?_
    replace hle := cLe.cP (ci := 7) (a := a0) (k := 0) (v := va_rf x1) hle
    exact c_vret (M := cP 7 (cP 7 w3 a0 1 (va_rf (some M.2.1))) a0 0 (va_rf x1)) C hr hlocks hle d_Co_init_20 (by rw [← hF]; exact ⟨rfl, rfl⟩)
  · cases hv.1
def F_Co_operation (cs : Nat → ClassId) (M : gMem) (a0 : Nat) (x1 : Int32) : Int32 := mbind (F_Ce_at cs M ((cQ M a0 1).getD 0) (x1 * 5)) (fun w4 => w4)
def S_Co_operation (cs : Nat → ClassId) (lim : Nat × Nat) (M : gMem) (a0 : Nat) (x1 : Int32) : Prop := (cOk 7 M a0) ∧ ((cOq 2 M (cQ M a0 1)) ∧ ((S_Ce_at cs lim M ((cQ M a0 1).getD 0) (x1 * 5)) ∧ (mbind (F_Ce_at cs M ((cQ M a0 1).getD 0) (x1 * 5)) (fun w4 => True))))
set_option maxRecDepth 100000 in
set_option maxHeartbeats 4000000 in
theorem cc_Co_operation (l : Launch) (hf : l.flags = pinnedFlags ++ [noTraceFlag]) (D : va_G) (cs : Nat → ClassId) (B : Nat) (dE : Nat × Nat) (lim : Nat × Nat) (M : gMem) (a0 : Nat) (x1 : Int32) (hS : S_Co_operation cs lim M a0 x1) : cMet l y_Co_operation (Cond.code y_Co_operation c_Co_operation 2 (some .int)) (1) (21) D cs B dE (fun _ => False) lim [.ref a0, .int x1] M (fun x M' => x = .inl (some (.int (F_Co_operation cs M a0 x1))) ∧ M' = M) := by
  refine cMet.ofW (by decide) (Nat.le_of_ble_eq_true rfl) (lv0 := [(0, .ref a0), (1, .int x1)]) rfl ?_
  intro p e s m args below meth c C hE hR0 hle hr hlocks hex hn
  generalize hF : F_Co_operation cs M a0 x1 = Fv
  unfold F_Co_operation at hF
  unfold S_Co_operation at hS
  refine g_aload_n C d_Co_operation_0 rfl ?_
  obtain ⟨ho1, hS⟩ := hS
  refine c_getq C hE.1 (ci := 7) i_Co rfl 1 (by decide) (by decide) (by decide) kf_Co_12 d_Co_operation_1 ho1 ?_
  refine g_iload_n C d_Co_operation_4 rfl ?_
  refine g_iconst (v := 5) C d_Co_operation_5 (by decide) ?_
  refine g_imul C d_Co_operation_6 ?_
  obtain ⟨ho2, hS⟩ := hS
  refine GW.known2 (a := (cQ M a0 1).getD 0) (cOq.at ho2).1 ?_
  obtain ⟨hs3, hS⟩ := hS
  refine c_call (av := [.ref ((cQ M a0 1).getD 0), .int (x1 * 5)]) (rest := []) C hE (fun _ h => h.elim) ⟨rfl, rfl⟩ hle (cc_Ce_at l hf D cs B dE lim _ ((cQ M a0 1).getD 0) (x1 * 5) hs3) (fun _ h => h.elim) kd_Ce_at ki_Ce (Nat.le_of_ble_eq_true rfl) (Nat.le_of_ble_eq_true rfl) d_Co_operation_7 (Nat.le_of_ble_eq_true rfl) (c_fV (n := 1) (ci := 2) C hE.1 rfl km_Co_22 kv_Ce_at kl_Ce_at kd_Ce_at ⟨by decide, by decide, by decide⟩ rfl rfl d_Co_operation_7 (cOq.at ho2).2) (fun v1 M1 hv hle => ?_) (fun E1 M1 hv hle => ?_)
  · rw [mbind_eq] at hF hS
    obtain ⟨hx, hM1⟩ := hv
    have hM2 := hM1.symm
    subst hM2
    generalize hq_w4 : F_Ce_at cs M ((cQ M a0 1).getD 0) (x1 * 5) = w4 at hF hS hx hle ⊢
    cases hx
    refine GW.eqs (st' := [.int w4]) rfl ?_
    exact c_iret (M := M) C hr hlocks hle d_Co_operation_10 (by rw [← hF]; exact ⟨rfl, rfl⟩)
  · cases hv.1
def F_Co_field (cs : Nat → ClassId) (M : gMem) (a0 : Nat) (x1 : Int32) (x2 : Int32) : Int32 := mbind (F_Ce_at cs M ((cQ M a0 1).getD 0) ((x1 * 5) + x2)) (fun w4 => w4)
def S_Co_field (cs : Nat → ClassId) (lim : Nat × Nat) (M : gMem) (a0 : Nat) (x1 : Int32) (x2 : Int32) : Prop := (cOk 7 M a0) ∧ ((cOq 2 M (cQ M a0 1)) ∧ ((S_Ce_at cs lim M ((cQ M a0 1).getD 0) ((x1 * 5) + x2)) ∧ (mbind (F_Ce_at cs M ((cQ M a0 1).getD 0) ((x1 * 5) + x2)) (fun w4 => True))))
set_option maxRecDepth 100000 in
set_option maxHeartbeats 4000000 in
theorem cc_Co_field (l : Launch) (hf : l.flags = pinnedFlags ++ [noTraceFlag]) (D : va_G) (cs : Nat → ClassId) (B : Nat) (dE : Nat × Nat) (lim : Nat × Nat) (M : gMem) (a0 : Nat) (x1 : Int32) (x2 : Int32) (hS : S_Co_field cs lim M a0 x1 x2) : cMet l y_Co_field (Cond.code y_Co_field c_Co_field 3 (some .int)) (1) (21) D cs B dE (fun _ => False) lim [.ref a0, .int x1, .int x2] M (fun x M' => x = .inl (some (.int (F_Co_field cs M a0 x1 x2))) ∧ M' = M) := by
  refine cMet.ofW (by decide) (Nat.le_of_ble_eq_true rfl) (lv0 := [(0, .ref a0), (1, .int x1), (2, .int x2)]) rfl ?_
  intro p e s m args below meth c C hE hR0 hle hr hlocks hex hn
  generalize hF : F_Co_field cs M a0 x1 x2 = Fv
  unfold F_Co_field at hF
  unfold S_Co_field at hS
  refine g_aload_n C d_Co_field_0 rfl ?_
  obtain ⟨ho1, hS⟩ := hS
  refine c_getq C hE.1 (ci := 7) i_Co rfl 1 (by decide) (by decide) (by decide) kf_Co_12 d_Co_field_1 ho1 ?_
  refine g_iload_n C d_Co_field_4 rfl ?_
  refine g_iconst (v := 5) C d_Co_field_5 (by decide) ?_
  refine g_imul C d_Co_field_6 ?_
  refine g_iload_n C d_Co_field_7 rfl ?_
  refine g_iadd C d_Co_field_8 ?_
  obtain ⟨ho2, hS⟩ := hS
  refine GW.known2 (a := (cQ M a0 1).getD 0) (cOq.at ho2).1 ?_
  obtain ⟨hs3, hS⟩ := hS
  refine c_call (av := [.ref ((cQ M a0 1).getD 0), .int ((x1 * 5) + x2)]) (rest := []) C hE (fun _ h => h.elim) ⟨rfl, rfl⟩ hle (cc_Ce_at l hf D cs B dE lim _ ((cQ M a0 1).getD 0) ((x1 * 5) + x2) hs3) (fun _ h => h.elim) kd_Ce_at ki_Ce (Nat.le_of_ble_eq_true rfl) (Nat.le_of_ble_eq_true rfl) d_Co_field_9 (Nat.le_of_ble_eq_true rfl) (c_fV (n := 1) (ci := 2) C hE.1 rfl km_Co_22 kv_Ce_at kl_Ce_at kd_Ce_at ⟨by decide, by decide, by decide⟩ rfl rfl d_Co_field_9 (cOq.at ho2).2) (fun v1 M1 hv hle => ?_) (fun E1 M1 hv hle => ?_)
  · rw [mbind_eq] at hF hS
    obtain ⟨hx, hM1⟩ := hv
    have hM2 := hM1.symm
    subst hM2
    generalize hq_w4 : F_Ce_at cs M ((cQ M a0 1).getD 0) ((x1 * 5) + x2) = w4 at hF hS hx hle ⊢
    cases hx
    refine GW.eqs (st' := [.int w4]) rfl ?_
    exact c_iret (M := M) C hr hlocks hle d_Co_field_12 (by rw [← hF]; exact ⟨rfl, rfl⟩)
  · cases hv.1
