def F_Ma_unbind (cs : Nat → ClassId) (M : gMem) (a0 : Nat) (x1 : Option Nat) (x2 : Int32) : gMem := mbind (F_Fr_pop cs M (x1.getD 0) ) (fun w3 => mbind (F_Fr_pop cs w3.2 (x1.getD 0) ) (fun w6 => mbind (F_Fr_give cs w6.2 (x1.getD 0) x2 w6.1) (fun w9 => mbind (F_Fr_push cs w9 (x1.getD 0) w3.1) (fun w12 => w12))))
def S_Ma_unbind (cs : Nat → ClassId) (lim : Nat × Nat) (M : gMem) (a0 : Nat) (x1 : Option Nat) (x2 : Int32) : Prop := (cOq 10 M x1) ∧ ((S_Fr_pop cs lim M (x1.getD 0) ) ∧ (mbind (F_Fr_pop cs M (x1.getD 0) ) (fun w3 => (cOq 10 w3.2 x1) ∧ ((S_Fr_pop cs lim w3.2 (x1.getD 0) ) ∧ (mbind (F_Fr_pop cs w3.2 (x1.getD 0) ) (fun w6 => (cOq 10 w6.2 x1) ∧ ((S_Fr_give cs lim w6.2 (x1.getD 0) x2 w6.1) ∧ (mbind (F_Fr_give cs w6.2 (x1.getD 0) x2 w6.1) (fun w9 => (cOq 10 w9 x1) ∧ ((S_Fr_push cs lim w9 (x1.getD 0) w3.1) ∧ (mbind (F_Fr_push cs w9 (x1.getD 0) w3.1) (fun w12 => True))))))))))))
set_option maxRecDepth 100000 in
set_option maxHeartbeats 4000000 in
theorem cc_Ma_unbind (l : Launch) (hf : l.flags = pinnedFlags ++ [noTraceFlag]) (D : va_G) (cs : Nat → ClassId) (B : Nat) (dE : Nat × Nat) (lim : Nat × Nat) (M : gMem) (a0 : Nat) (x1 : Option Nat) (x2 : Int32) (hS : S_Ma_unbind cs lim M a0 x1 x2) : cMet l y_Ma_unbind (Cond.code y_Ma_unbind c_Ma_unbind 4 none) (1) (22) D cs B dE (gA B) lim [.ref a0, va_rf x1, .int x2] M (fun x M' => x = .inl none ∧ M' = (F_Ma_unbind cs M a0 x1 x2)) := by
  refine cMet.ofW (by decide) (by cases x1 <;> exact Nat.le_of_ble_eq_true rfl) (lv0 := [(0, .ref a0), (1, va_rf x1), (2, .int x2)]) (by cases x1 <;> rfl) ?_
  intro p e s m args below meth c C hE hR0 hle hr hlocks hex hn
  generalize hF : F_Ma_unbind cs M a0 x1 x2 = Fv
  unfold F_Ma_unbind at hF
  unfold S_Ma_unbind at hS
  refine q_aload_n (r := x1) C d_Ma_unbind_0 rfl ?_
  refine GW.more (A' := gA B) (fun _ h => h.elim) ?_
  obtain ⟨ho1, hS⟩ := hS
  refine GW.known1 (a := x1.getD 0) (cOq.at ho1).1 ?_
  obtain ⟨hs2, hS⟩ := hS
  refine c_call (av := [.ref (x1.getD 0)]) (rest := []) C hE (fun _ h => h) ⟨rfl, rfl⟩ hle (cc_Fr_pop l hf D cs B dE lim _ (x1.getD 0)  hs2) (fun _ h => h) kd_Fr_pop ki_Fr (Nat.le_of_ble_eq_true rfl) (Nat.le_of_ble_eq_true rfl) d_Ma_unbind_1 (Nat.le_of_ble_eq_true rfl) (c_fV (n := 0) (ci := 10) C hE.1 rfl km_Ma_109 kv_Fr_pop kl_Fr_pop kd_Fr_pop ⟨by decide, by decide, by decide⟩ rfl rfl d_Ma_unbind_1 (cOq.at ho1).2) (fun v1 M1 hv hle => ?_) (fun E1 M1 hv hle => ?_)
  · rw [mbind_eq] at hF hS
    obtain ⟨hx, hM1⟩ := hv
    have hM2 := hM1.symm
    subst hM2
    generalize hq_w3 : F_Fr_pop cs M (x1.getD 0)  = w3 at hF hS hx hle ⊢
    cases hx
    refine GW.eqs (st' := [.int w3.1]) rfl ?_
    refine g_istore_n (lv' := [(3, .int w3.1), (0, .ref a0), (1, va_rf x1), (2, .int x2)]) C d_Ma_unbind_4 (by decide) rfl ?_
    refine q_aload_n (r := x1) C d_Ma_unbind_5 rfl ?_
    refine g_iload_n C d_Ma_unbind_6 rfl ?_
    refine q_aload_n (r := x1) C d_Ma_unbind_7 rfl ?_
    obtain ⟨ho4, hS⟩ := hS
    refine GW.known1 (a := x1.getD 0) (cOq.at ho4).1 ?_
    obtain ⟨hs5, hS⟩ := hS
    refine c_call (av := [.ref (x1.getD 0)]) (rest := [.int x2, va_rf x1]) C hE (fun _ h => h) ⟨rfl, rfl⟩ hle (cc_Fr_pop l hf D cs B dE lim _ (x1.getD 0)  hs5) (fun _ h => h) kd_Fr_pop ki_Fr (Nat.le_of_ble_eq_true rfl) (Nat.le_of_ble_eq_true rfl) d_Ma_unbind_8 (by simp only [List.map_cons, List.map_nil, rf_cat, List.sum_cons, List.sum_nil]; exact Nat.le_of_ble_eq_true rfl) (c_fV (n := 0) (ci := 10) C hE.1 rfl km_Ma_109 kv_Fr_pop kl_Fr_pop kd_Fr_pop ⟨by decide, by decide, by decide⟩ rfl rfl d_Ma_unbind_8 (cOq.at ho4).2) (fun v1 M1 hv hle => ?_) (fun E1 M1 hv hle => ?_)
    · rw [mbind_eq] at hF hS
      obtain ⟨hx, hM1⟩ := hv
      have hM2 := hM1.symm
      subst hM2
      generalize hq_w6 : F_Fr_pop cs w3.2 (x1.getD 0)  = w6 at hF hS hx hle ⊢
      cases hx
      refine GW.eqs (st' := [.int w6.1, .int x2, va_rf x1]) rfl ?_
      obtain ⟨ho7, hS⟩ := hS
      refine GW.known3 (a := x1.getD 0) (cOq.at ho7).1 ?_
      obtain ⟨hs8, hS⟩ := hS
      refine c_call (av := [.ref (x1.getD 0), .int x2, .int w6.1]) (rest := []) C hE (fun _ h => h) ⟨rfl, rfl⟩ hle (cc_Fr_give l hf D cs B dE lim _ (x1.getD 0) x2 w6.1 hs8) (fun _ h => h) kd_Fr_give ki_Fr (Nat.le_of_ble_eq_true rfl) (Nat.le_of_ble_eq_true rfl) d_Ma_unbind_11 (Nat.le_of_ble_eq_true rfl) (c_fV (n := 2) (ci := 10) C hE.1 rfl km_Ma_136 kv_Fr_give kl_Fr_give kd_Fr_give ⟨by decide, by decide, by decide⟩ rfl rfl d_Ma_unbind_11 (cOq.at ho7).2) (fun v1 M1 hv hle => ?_) (fun E1 M1 hv hle => ?_)
      · rw [mbind_eq] at hF hS
        obtain ⟨hx, hM1⟩ := hv
        have hM2 := hM1.symm
        subst hM2
        generalize hq_w9 : F_Fr_give cs w6.2 (x1.getD 0) x2 w6.1 = w9 at hF hS hx hle ⊢
        cases hx
        refine GW.eqs (st' := []) rfl ?_
        refine q_aload_n (r := x1) C d_Ma_unbind_14 rfl ?_
        refine g_iload_n C d_Ma_unbind_15 rfl ?_
        obtain ⟨ho10, hS⟩ := hS
        refine GW.known2 (a := x1.getD 0) (cOq.at ho10).1 ?_
        obtain ⟨hs11, hS⟩ := hS
        refine c_call (av := [.ref (x1.getD 0), .int w3.1]) (rest := []) C hE (fun _ h => h) ⟨rfl, rfl⟩ hle (cc_Fr_push l hf D cs B dE lim _ (x1.getD 0) w3.1 hs11) (fun _ h => h) kd_Fr_push ki_Fr (Nat.le_of_ble_eq_true rfl) (Nat.le_of_ble_eq_true rfl) d_Ma_unbind_16 (Nat.le_of_ble_eq_true rfl) (c_fV (n := 1) (ci := 10) C hE.1 rfl km_Ma_96 kv_Fr_push kl_Fr_push kd_Fr_push ⟨by decide, by decide, by decide⟩ rfl rfl d_Ma_unbind_16 (cOq.at ho10).2) (fun v1 M1 hv hle => ?_) (fun E1 M1 hv hle => ?_)
        · rw [mbind_eq] at hF hS
          obtain ⟨hx, hM1⟩ := hv
          have hM2 := hM1.symm
          subst hM2
          generalize hq_w12 : F_Fr_push cs w9 (x1.getD 0) w3.1 = w12 at hF hS hx hle ⊢
          cases hx
          refine GW.eqs (st' := []) rfl ?_
          exact c_vret (M := w12) C hr hlocks hle d_Ma_unbind_19 (by rw [← hF]; exact ⟨rfl, rfl⟩)
        · cases hv.1
      · cases hv.1
    · cases hv.1
  · cases hv.1
def F_Ma_combine (cs : Nat → ClassId) (M : gMem) (a0 : Nat) (x1 : Option Nat) (x2 : Int32) : gMem := mbind (F_Fr_pop cs M (x1.getD 0) ) (fun w3 => mbind (F_Fr_pop cs w3.2 (x1.getD 0) ) (fun w6 => if x2 = 0 then (mbind (F_Fr_push cs w6.2 (x1.getD 0) (w6.1 + w3.1)) (fun w10 => w10)) else (if x2 = 1 then (mbind (F_Fr_push cs w6.2 (x1.getD 0) (w6.1 - w3.1)) (fun w14 => w14)) else (if x2 = 2 then (mbind (F_Fr_push cs w6.2 (x1.getD 0) (w6.1 * w3.1)) (fun w18 => w18)) else (if x2 = 3 then (if w3.1 ≤ w6.1 then (mbind (F_Fr_push cs w6.2 (x1.getD 0) 0) (fun w23 => w23)) else (mbind (F_Fr_push cs w6.2 (x1.getD 0) 1) (fun w26 => w26))) else (if w6.1 = w3.1 then (mbind (F_Fr_push cs w6.2 (x1.getD 0) 1) (fun w33 => w33)) else (mbind (F_Fr_push cs w6.2 (x1.getD 0) 0) (fun w30 => w30))))))))
def S_Ma_combine (cs : Nat → ClassId) (lim : Nat × Nat) (M : gMem) (a0 : Nat) (x1 : Option Nat) (x2 : Int32) : Prop := (cOq 10 M x1) ∧ ((S_Fr_pop cs lim M (x1.getD 0) ) ∧ (mbind (F_Fr_pop cs M (x1.getD 0) ) (fun w3 => (cOq 10 w3.2 x1) ∧ ((S_Fr_pop cs lim w3.2 (x1.getD 0) ) ∧ (mbind (F_Fr_pop cs w3.2 (x1.getD 0) ) (fun w6 => if x2 = 0 then ((cOq 10 w6.2 x1) ∧ ((S_Fr_push cs lim w6.2 (x1.getD 0) (w6.1 + w3.1)) ∧ (mbind (F_Fr_push cs w6.2 (x1.getD 0) (w6.1 + w3.1)) (fun w10 => True)))) else (if x2 = 1 then ((cOq 10 w6.2 x1) ∧ ((S_Fr_push cs lim w6.2 (x1.getD 0) (w6.1 - w3.1)) ∧ (mbind (F_Fr_push cs w6.2 (x1.getD 0) (w6.1 - w3.1)) (fun w14 => True)))) else (if x2 = 2 then ((cOq 10 w6.2 x1) ∧ ((S_Fr_push cs lim w6.2 (x1.getD 0) (w6.1 * w3.1)) ∧ (mbind (F_Fr_push cs w6.2 (x1.getD 0) (w6.1 * w3.1)) (fun w18 => True)))) else (if x2 = 3 then (if w3.1 ≤ w6.1 then ((cOq 10 w6.2 x1) ∧ ((S_Fr_push cs lim w6.2 (x1.getD 0) 0) ∧ (mbind (F_Fr_push cs w6.2 (x1.getD 0) 0) (fun w23 => True)))) else ((cOq 10 w6.2 x1) ∧ ((S_Fr_push cs lim w6.2 (x1.getD 0) 1) ∧ (mbind (F_Fr_push cs w6.2 (x1.getD 0) 1) (fun w26 => True))))) else (if w6.1 = w3.1 then ((cOq 10 w6.2 x1) ∧ ((S_Fr_push cs lim w6.2 (x1.getD 0) 1) ∧ (mbind (F_Fr_push cs w6.2 (x1.getD 0) 1) (fun w33 => True)))) else ((cOq 10 w6.2 x1) ∧ ((S_Fr_push cs lim w6.2 (x1.getD 0) 0) ∧ (mbind (F_Fr_push cs w6.2 (x1.getD 0) 0) (fun w30 => True))))))))))))))
set_option maxRecDepth 100000 in
set_option maxHeartbeats 4000000 in
theorem cc_Ma_combine (l : Launch) (hf : l.flags = pinnedFlags ++ [noTraceFlag]) (D : va_G) (cs : Nat → ClassId) (B : Nat) (dE : Nat × Nat) (lim : Nat × Nat) (M : gMem) (a0 : Nat) (x1 : Option Nat) (x2 : Int32) (hS : S_Ma_combine cs lim M a0 x1 x2) : cMet l y_Ma_combine (Cond.code y_Ma_combine c_Ma_combine 5 none) (1) (21) D cs B dE (gA B) lim [.ref a0, va_rf x1, .int x2] M (fun x M' => x = .inl none ∧ M' = (F_Ma_combine cs M a0 x1 x2)) := by
  refine cMet.ofW (by decide) (by cases x1 <;> exact Nat.le_of_ble_eq_true rfl) (lv0 := [(0, .ref a0), (1, va_rf x1), (2, .int x2)]) (by cases x1 <;> rfl) ?_
  intro p e s m args below meth c C hE hR0 hle hr hlocks hex hn
  generalize hF : F_Ma_combine cs M a0 x1 x2 = Fv
  unfold F_Ma_combine at hF
  unfold S_Ma_combine at hS
  refine q_aload_n (r := x1) C d_Ma_combine_0 rfl ?_
  refine GW.more (A' := gA B) (fun _ h => h.elim) ?_
  obtain ⟨ho1, hS⟩ := hS
  refine GW.known1 (a := x1.getD 0) (cOq.at ho1).1 ?_
  obtain ⟨hs2, hS⟩ := hS
  refine c_call (av := [.ref (x1.getD 0)]) (rest := []) C hE (fun _ h => h) ⟨rfl, rfl⟩ hle (cc_Fr_pop l hf D cs B dE lim _ (x1.getD 0)  hs2) (fun _ h => h) kd_Fr_pop ki_Fr (Nat.le_of_ble_eq_true rfl) (Nat.le_of_ble_eq_true rfl) d_Ma_combine_1 (Nat.le_of_ble_eq_true rfl) (c_fV (n := 0) (ci := 10) C hE.1 rfl km_Ma_109 kv_Fr_pop kl_Fr_pop kd_Fr_pop ⟨by decide, by decide, by decide⟩ rfl rfl d_Ma_combine_1 (cOq.at ho1).2) (fun v1 M1 hv hle => ?_) (fun E1 M1 hv hle => ?_)
  · rw [mbind_eq] at hF hS
    obtain ⟨hx, hM1⟩ := hv
    have hM2 := hM1.symm
    subst hM2
    generalize hq_w3 : F_Fr_pop cs M (x1.getD 0)  = w3 at hF hS hx hle ⊢
    cases hx
    refine GW.eqs (st' := [.int w3.1]) rfl ?_
    refine g_istore_n (lv' := [(3, .int w3.1), (0, .ref a0), (1, va_rf x1), (2, .int x2)]) C d_Ma_combine_4 (by decide) rfl ?_
    refine q_aload_n (r := x1) C d_Ma_combine_5 rfl ?_
    obtain ⟨ho4, hS⟩ := hS
    refine GW.known1 (a := x1.getD 0) (cOq.at ho4).1 ?_
    obtain ⟨hs5, hS⟩ := hS
    refine c_call (av := [.ref (x1.getD 0)]) (rest := []) C hE (fun _ h => h) ⟨rfl, rfl⟩ hle (cc_Fr_pop l hf D cs B dE lim _ (x1.getD 0)  hs5) (fun _ h => h) kd_Fr_pop ki_Fr (Nat.le_of_ble_eq_true rfl) (Nat.le_of_ble_eq_true rfl) d_Ma_combine_6 (Nat.le_of_ble_eq_true rfl) (c_fV (n := 0) (ci := 10) C hE.1 rfl km_Ma_109 kv_Fr_pop kl_Fr_pop kd_Fr_pop ⟨by decide, by decide, by decide⟩ rfl rfl d_Ma_combine_6 (cOq.at ho4).2) (fun v1 M1 hv hle => ?_) (fun E1 M1 hv hle => ?_)
    · rw [mbind_eq] at hF hS
      obtain ⟨hx, hM1⟩ := hv
      have hM2 := hM1.symm
      subst hM2
      generalize hq_w6 : F_Fr_pop cs w3.2 (x1.getD 0)  = w6 at hF hS hx hle ⊢
      cases hx
      refine GW.eqs (st' := [.int w6.1]) rfl ?_
      refine g_istore (lv' := [(4, .int w6.1), (3, .int w3.1), (0, .ref a0), (1, va_rf x1), (2, .int x2)]) C d_Ma_combine_9 (by decide) rfl ?_
      refine g_iload_n C d_Ma_combine_11 rfl ?_
      by_cases hc7 : x2 = 0
      · rw [if_pos hc7] at hF hS
        refine g_tableIn C 44 d_Ma_combine_12 (by rw [hc7]; decide) (by rw [hc7]; decide) (by rw [hc7]; rfl) (by decide) ?_
        refine q_aload_n (r := x1) C d_Ma_combine_44 rfl ?_
        refine g_iload C d_Ma_combine_45 rfl ?_
        refine g_iload_n C d_Ma_combine_47 rfl ?_
        refine g_iadd C d_Ma_combine_48 ?_
        obtain ⟨ho8, hS⟩ := hS
        refine GW.known2 (a := x1.getD 0) (cOq.at ho8).1 ?_
        obtain ⟨hs9, hS⟩ := hS
        refine c_call (av := [.ref (x1.getD 0), .int (w6.1 + w3.1)]) (rest := []) C hE (fun _ h => h) ⟨rfl, rfl⟩ hle (cc_Fr_push l hf D cs B dE lim _ (x1.getD 0) (w6.1 + w3.1) hs9) (fun _ h => h) kd_Fr_push ki_Fr (Nat.le_of_ble_eq_true rfl) (Nat.le_of_ble_eq_true rfl) d_Ma_combine_49 (Nat.le_of_ble_eq_true rfl) (c_fV (n := 1) (ci := 10) C hE.1 rfl km_Ma_96 kv_Fr_push kl_Fr_push kd_Fr_push ⟨by decide, by decide, by decide⟩ rfl rfl d_Ma_combine_49 (cOq.at ho8).2) (fun v1 M1 hv hle => ?_) (fun E1 M1 hv hle => ?_)
        · rw [mbind_eq] at hF hS
          obtain ⟨hx, hM1⟩ := hv
          have hM2 := hM1.symm
          subst hM2
          generalize hq_w10 : F_Fr_push cs w6.2 (x1.getD 0) (w6.1 + w3.1) = w10 at hF hS hx hle ⊢
          cases hx
          refine GW.eqs (st' := []) rfl ?_
          refine g_goto C 110 d_Ma_combine_52 (by decide) ?_
          exact c_vret (M := w10) C hr hlocks hle d_Ma_combine_110 (by rw [← hF]; exact ⟨rfl, rfl⟩)
        · cases hv.1
      · rw [if_neg hc7] at hF hS
        by_cases hc11 : x2 = 1
        · rw [if_pos hc11] at hF hS
          refine g_tableIn C 55 d_Ma_combine_12 (by rw [hc11]; decide) (by rw [hc11]; decide) (by rw [hc11]; rfl) (by decide) ?_
          refine q_aload_n (r := x1) C d_Ma_combine_55 rfl ?_
          refine g_iload C d_Ma_combine_56 rfl ?_
          refine g_iload_n C d_Ma_combine_58 rfl ?_
          refine g_isub C d_Ma_combine_59 ?_
          obtain ⟨ho12, hS⟩ := hS
          refine GW.known2 (a := x1.getD 0) (cOq.at ho12).1 ?_
          obtain ⟨hs13, hS⟩ := hS
          refine c_call (av := [.ref (x1.getD 0), .int (w6.1 - w3.1)]) (rest := []) C hE (fun _ h => h) ⟨rfl, rfl⟩ hle (cc_Fr_push l hf D cs B dE lim _ (x1.getD 0) (w6.1 - w3.1) hs13) (fun _ h => h) kd_Fr_push ki_Fr (Nat.le_of_ble_eq_true rfl) (Nat.le_of_ble_eq_true rfl) d_Ma_combine_60 (Nat.le_of_ble_eq_true rfl) (c_fV (n := 1) (ci := 10) C hE.1 rfl km_Ma_96 kv_Fr_push kl_Fr_push kd_Fr_push ⟨by decide, by decide, by decide⟩ rfl rfl d_Ma_combine_60 (cOq.at ho12).2) (fun v1 M1 hv hle => ?_) (fun E1 M1 hv hle => ?_)
          · rw [mbind_eq] at hF hS
            obtain ⟨hx, hM1⟩ := hv
            have hM2 := hM1.symm
            subst hM2
            generalize hq_w14 : F_Fr_push cs w6.2 (x1.getD 0) (w6.1 - w3.1) = w14 at hF hS hx hle ⊢
            cases hx
            refine GW.eqs (st' := []) rfl ?_
            refine g_goto C 110 d_Ma_combine_63 (by decide) ?_
            exact c_vret (M := w14) C hr hlocks hle d_Ma_combine_110 (by rw [← hF]; exact ⟨rfl, rfl⟩)
          · cases hv.1
        · rw [if_neg hc11] at hF hS
          by_cases hc15 : x2 = 2
          · rw [if_pos hc15] at hF hS
            refine g_tableIn C 66 d_Ma_combine_12 (by rw [hc15]; decide) (by rw [hc15]; decide) (by rw [hc15]; rfl) (by decide) ?_
            refine q_aload_n (r := x1) C d_Ma_combine_66 rfl ?_
            refine g_iload C d_Ma_combine_67 rfl ?_
            refine g_iload_n C d_Ma_combine_69 rfl ?_
            refine g_imul C d_Ma_combine_70 ?_
            obtain ⟨ho16, hS⟩ := hS
            refine GW.known2 (a := x1.getD 0) (cOq.at ho16).1 ?_
            obtain ⟨hs17, hS⟩ := hS
            refine c_call (av := [.ref (x1.getD 0), .int (w6.1 * w3.1)]) (rest := []) C hE (fun _ h => h) ⟨rfl, rfl⟩ hle (cc_Fr_push l hf D cs B dE lim _ (x1.getD 0) (w6.1 * w3.1) hs17) (fun _ h => h) kd_Fr_push ki_Fr (Nat.le_of_ble_eq_true rfl) (Nat.le_of_ble_eq_true rfl) d_Ma_combine_71 (Nat.le_of_ble_eq_true rfl) (c_fV (n := 1) (ci := 10) C hE.1 rfl km_Ma_96 kv_Fr_push kl_Fr_push kd_Fr_push ⟨by decide, by decide, by decide⟩ rfl rfl d_Ma_combine_71 (cOq.at ho16).2) (fun v1 M1 hv hle => ?_) (fun E1 M1 hv hle => ?_)
            · rw [mbind_eq] at hF hS
              obtain ⟨hx, hM1⟩ := hv
              have hM2 := hM1.symm
              subst hM2
              generalize hq_w18 : F_Fr_push cs w6.2 (x1.getD 0) (w6.1 * w3.1) = w18 at hF hS hx hle ⊢
              cases hx
              refine GW.eqs (st' := []) rfl ?_
              refine g_goto C 110 d_Ma_combine_74 (by decide) ?_
              exact c_vret (M := w18) C hr hlocks hle d_Ma_combine_110 (by rw [← hF]; exact ⟨rfl, rfl⟩)
            · cases hv.1
          · rw [if_neg hc15] at hF hS
            by_cases hc19 : x2 = 3
            · rw [if_pos hc19] at hF hS
              refine g_tableIn C 77 d_Ma_combine_12 (by rw [hc19]; decide) (by rw [hc19]; decide) (by rw [hc19]; rfl) (by decide) ?_
              refine q_aload_n (r := x1) C d_Ma_combine_77 rfl ?_
              refine g_iload C d_Ma_combine_78 rfl ?_
              refine g_iload_n C d_Ma_combine_80 rfl ?_
              refine g_icmp_ge C 88 d_Ma_combine_81 (by decide) (fun hc20 => ?_) (fun hc20 => ?_)
              · rw [if_pos hc20] at hF hS
                refine g_iconst (v := 0) C d_Ma_combine_88 (by decide) ?_
                obtain ⟨ho21, hS⟩ := hS
                refine GW.known2 (a := x1.getD 0) (cOq.at ho21).1 ?_
                obtain ⟨hs22, hS⟩ := hS
                refine c_call (av := [.ref (x1.getD 0), .int 0]) (rest := []) C hE (fun _ h => h) ⟨rfl, rfl⟩ hle (cc_Fr_push l hf D cs B dE lim _ (x1.getD 0) 0 hs22) (fun _ h => h) kd_Fr_push ki_Fr (Nat.le_of_ble_eq_true rfl) (Nat.le_of_ble_eq_true rfl) d_Ma_combine_89 (Nat.le_of_ble_eq_true rfl) (c_fV (n := 1) (ci := 10) C hE.1 rfl km_Ma_96 kv_Fr_push kl_Fr_push kd_Fr_push ⟨by decide, by decide, by decide⟩ rfl rfl d_Ma_combine_89 (cOq.at ho21).2) (fun v1 M1 hv hle => ?_) (fun E1 M1 hv hle => ?_)
                · rw [mbind_eq] at hF hS
                  obtain ⟨hx, hM1⟩ := hv
                  have hM2 := hM1.symm
                  subst hM2
                  generalize hq_w23 : F_Fr_push cs w6.2 (x1.getD 0) 0 = w23 at hF hS hx hle ⊢
                  cases hx
                  refine GW.eqs (st' := []) rfl ?_
                  refine g_goto C 110 d_Ma_combine_92 (by decide) ?_
                  exact c_vret (M := w23) C hr hlocks hle d_Ma_combine_110 (by rw [← hF]; exact ⟨rfl, rfl⟩)
                · cases hv.1
              · rw [if_neg hc20] at hF hS
                refine g_iconst (v := 1) C d_Ma_combine_84 (by decide) ?_
                refine g_goto C 89 d_Ma_combine_85 (by decide) ?_
                obtain ⟨ho24, hS⟩ := hS
                refine GW.known2 (a := x1.getD 0) (cOq.at ho24).1 ?_
                obtain ⟨hs25, hS⟩ := hS
                refine c_call (av := [.ref (x1.getD 0), .int 1]) (rest := []) C hE (fun _ h => h) ⟨rfl, rfl⟩ hle (cc_Fr_push l hf D cs B dE lim _ (x1.getD 0) 1 hs25) (fun _ h => h) kd_Fr_push ki_Fr (Nat.le_of_ble_eq_true rfl) (Nat.le_of_ble_eq_true rfl) d_Ma_combine_89 (Nat.le_of_ble_eq_true rfl) (c_fV (n := 1) (ci := 10) C hE.1 rfl km_Ma_96 kv_Fr_push kl_Fr_push kd_Fr_push ⟨by decide, by decide, by decide⟩ rfl rfl d_Ma_combine_89 (cOq.at ho24).2) (fun v1 M1 hv hle => ?_) (fun E1 M1 hv hle => ?_)
                · rw [mbind_eq] at hF hS
                  obtain ⟨hx, hM1⟩ := hv
                  have hM2 := hM1.symm
                  subst hM2
                  generalize hq_w26 : F_Fr_push cs w6.2 (x1.getD 0) 1 = w26 at hF hS hx hle ⊢
                  cases hx
                  refine GW.eqs (st' := []) rfl ?_
                  refine g_goto C 110 d_Ma_combine_92 (by decide) ?_
                  exact c_vret (M := w26) C hr hlocks hle d_Ma_combine_110 (by rw [← hF]; exact ⟨rfl, rfl⟩)
                · cases hv.1
            · rw [if_neg hc19] at hF hS
              refine g_tableOut C 95 d_Ma_combine_12 (by have := lv_neT hc7 (show (0 : Int32).toInt = 0 by decide); have := lv_neT hc11 (show (1 : Int32).toInt = 1 by decide); have := lv_neT hc15 (show (2 : Int32).toInt = 2 by decide); have := lv_neT hc19 (show (3 : Int32).toInt = 3 by decide); omega) (by decide) ?_
              refine q_aload_n (r := x1) C d_Ma_combine_95 rfl ?_
              refine g_iload C d_Ma_combine_96 rfl ?_
              refine g_iload_n C d_Ma_combine_98 rfl ?_
              refine g_icmp_ne C 106 d_Ma_combine_99 (by decide) (fun hc27 => ?_) (fun hc27 => ?_)
              · rw [if_neg hc27] at hF hS
                refine g_iconst (v := 0) C d_Ma_combine_106 (by decide) ?_
                obtain ⟨ho28, hS⟩ := hS
                refine GW.known2 (a := x1.getD 0) (cOq.at ho28).1 ?_
                obtain ⟨hs29, hS⟩ := hS
                refine c_call (av := [.ref (x1.getD 0), .int 0]) (rest := []) C hE (fun _ h => h) ⟨rfl, rfl⟩ hle (cc_Fr_push l hf D cs B dE lim _ (x1.getD 0) 0 hs29) (fun _ h => h) kd_Fr_push ki_Fr (Nat.le_of_ble_eq_true rfl) (Nat.le_of_ble_eq_true rfl) d_Ma_combine_107 (Nat.le_of_ble_eq_true rfl) (c_fV (n := 1) (ci := 10) C hE.1 rfl km_Ma_96 kv_Fr_push kl_Fr_push kd_Fr_push ⟨by decide, by decide, by decide⟩ rfl rfl d_Ma_combine_107 (cOq.at ho28).2) (fun v1 M1 hv hle => ?_) (fun E1 M1 hv hle => ?_)
                · rw [mbind_eq] at hF hS
                  obtain ⟨hx, hM1⟩ := hv
                  have hM2 := hM1.symm
                  subst hM2
                  generalize hq_w30 : F_Fr_push cs w6.2 (x1.getD 0) 0 = w30 at hF hS hx hle ⊢
                  cases hx
                  refine GW.eqs (st' := []) rfl ?_
                  exact c_vret (M := w30) C hr hlocks hle d_Ma_combine_110 (by rw [← hF]; exact ⟨rfl, rfl⟩)
                · cases hv.1
              · rw [if_pos hc27] at hF hS
                refine g_iconst (v := 1) C d_Ma_combine_102 (by decide) ?_
                refine g_goto C 107 d_Ma_combine_103 (by decide) ?_
                obtain ⟨ho31, hS⟩ := hS
                refine GW.known2 (a := x1.getD 0) (cOq.at ho31).1 ?_
                obtain ⟨hs32, hS⟩ := hS
                refine c_call (av := [.ref (x1.getD 0), .int 1]) (rest := []) C hE (fun _ h => h) ⟨rfl, rfl⟩ hle (cc_Fr_push l hf D cs B dE lim _ (x1.getD 0) 1 hs32) (fun _ h => h) kd_Fr_push ki_Fr (Nat.le_of_ble_eq_true rfl) (Nat.le_of_ble_eq_true rfl) d_Ma_combine_107 (Nat.le_of_ble_eq_true rfl) (c_fV (n := 1) (ci := 10) C hE.1 rfl km_Ma_96 kv_Fr_push kl_Fr_push kd_Fr_push ⟨by decide, by decide, by decide⟩ rfl rfl d_Ma_combine_107 (cOq.at ho31).2) (fun v1 M1 hv hle => ?_) (fun E1 M1 hv hle => ?_)
                · rw [mbind_eq] at hF hS
                  obtain ⟨hx, hM1⟩ := hv
                  have hM2 := hM1.symm
                  subst hM2
                  generalize hq_w33 : F_Fr_push cs w6.2 (x1.getD 0) 1 = w33 at hF hS hx hle ⊢
                  cases hx
                  refine GW.eqs (st' := []) rfl ?_
                  exact c_vret (M := w33) C hr hlocks hle d_Ma_combine_110 (by rw [← hF]; exact ⟨rfl, rfl⟩)
                · cases hv.1
    · cases hv.1
  · cases hv.1
def F_Ma_isFull (cs : Nat → ClassId) (M : gMem) (a0 : Nat) (x1 : Int32) : Int32 × gMem := if 1000 < ((cI M a0 7) + x1) then ((1, cP 8 M a0 4 (.int 5))) else ((0, M))
def S_Ma_isFull (cs : Nat → ClassId) (lim : Nat × Nat) (M : gMem) (a0 : Nat) (x1 : Int32) : Prop := (cOk 8 M a0) ∧ (if 1000 < ((cI M a0 7) + x1) then ((cOk 8 M a0) ∧ (True)) else (True))
set_option maxRecDepth 100000 in
set_option maxHeartbeats 4000000 in
theorem cc_Ma_isFull (l : Launch) (hf : l.flags = pinnedFlags ++ [noTraceFlag]) (D : va_G) (cs : Nat → ClassId) (B : Nat) (dE : Nat × Nat) (lim : Nat × Nat) (M : gMem) (a0 : Nat) (x1 : Int32) (hS : S_Ma_isFull cs lim M a0 x1) : cMet l y_Ma_isFull (Cond.code y_Ma_isFull c_Ma_isFull 2 (some .boolean)) (0) (0) D cs B dE (gA B) lim [.ref a0, .int x1] M (fun x M' => x = .inl (some (.int ((F_Ma_isFull cs M a0 x1).1))) ∧ M' = (F_Ma_isFull cs M a0 x1).2) := by
  refine cMet.ofW (by decide) (Nat.le_of_ble_eq_true rfl) (lv0 := [(0, .ref a0), (1, .int x1)]) rfl ?_
  intro p e s m args below meth c C hE hR0 hle hr hlocks hex hn
  generalize hF : F_Ma_isFull cs M a0 x1 = Fv
  unfold F_Ma_isFull at hF
  unfold S_Ma_isFull at hS
  refine g_aload_n C d_Ma_isFull_0 rfl ?_
  obtain ⟨ho1, hS⟩ := hS
  refine c_geti C hE.1 (ci := 8) i_Ma rfl 7 (by decide) (by decide) (by decide) kf_Ma_80 d_Ma_isFull_1 ho1 ?_
  refine g_iload_n C d_Ma_isFull_4 rfl ?_
  refine g_iadd C d_Ma_isFull_5 ?_
  refine g_sipush (v := 1000) C d_Ma_isFull_6 (by decide) ?_
  refine g_icmp_gt C 14 d_Ma_isFull_9 (by decide) (fun hc2 => ?_) (fun hc2 => ?_)
  · rw [if_pos hc2] at hF hS
    refine g_aload_n C d_Ma_isFull_14 rfl ?_
    refine g_iconst (v := 5) C d_Ma_isFull_15 (by decide) ?_
    refine GW.more (A' := gA B) (fun _ h => h.elim) ?_
    obtain ⟨ho3, hS⟩ := hS
    refine k_put (M0 := M) (M := M) C hE.1 (ci := 8) i_Ma rfl 4 (by decide) (by decide) kf_Ma_54 t_Ma t_Ma_ok n_Ma rfl (nf_i _) d_Ma_isFull_16 ho3 ?_
    replace hle := cLe.cP (ci := 8) (a := a0) (k := 4) (v := .int 5) hle
    refine g_iconst (v := 1) C d_Ma_isFull_19 (by decide) ?_
    exact c_zret (M := cP 8 M a0 4 (.int 5)) C hr hlocks hle (by decide) d_Ma_isFull_20 (by rw [← hF]; exact ⟨rfl, rfl⟩)
  · rw [if_neg hc2] at hF hS
    refine g_iconst (v := 0) C d_Ma_isFull_12 (by decide) ?_
    refine GW.more (A' := gA B) (fun _ h => h.elim) ?_
    exact c_zret (M := M) C hr hlocks hle (by decide) d_Ma_isFull_13 (by rw [← hF]; exact ⟨rfl, rfl⟩)
def F_Ma_close (cs : Nat → ClassId) (dE : Nat × Nat) (M : gMem) (a0 : Nat) (x1 : Option Nat) (x2 : Int32) : gMem := mbind (F_Ma_isFull cs M a0 1) (fun w3 => if w3.1 = 0 then (mbind (F_St_takeThing cs dE (cP 8 w3.2 a0 7 (.int ((cI w3.2 a0 7) + 1))) ((cQ (cP 8 w3.2 a0 7 (.int ((cI w3.2 a0 7) + 1))) a0 1).getD 0) ) (fun w10 => mbind (F_St_thingAt cs dE w10.2 ((cQ w10.2 a0 1).getD 0) w10.1) (fun w14 => if w14 = none then (w10.2) else (mbind (F_Th_make cs w10.2 (w14.getD 0) x2) (fun w18 => mbind (F_Fr_keepNames cs w18 (x1.getD 0) w14) (fun w21 => mbind (F_Co_field cs w21 ((cQ w21 a0 0).getD 0) x2 2) (fun w25 => mbind (F_Th_give cs w21 (w14.getD 0) w25 w10.1) (fun w28 => mbind (F_Fr_push cs w28 (x1.getD 0) w10.1) (fun w31 => mbind (F_Co_field cs w31 ((cQ w31 a0 0).getD 0) x2 3) (fun w35 => cP 10 w31 (x1.getD 0) 2 (.int w35))))))))))) else (w3.2))
def S_Ma_close (cs : Nat → ClassId) (lim : Nat × Nat) (dE : Nat × Nat) (M : gMem) (a0 : Nat) (x1 : Option Nat) (x2 : Int32) : Prop := (cOk 8 M a0) ∧ ((S_Ma_isFull cs lim M a0 1) ∧ (mbind (F_Ma_isFull cs M a0 1) (fun w3 => if w3.1 = 0 then ((cOk 8 w3.2 a0) ∧ ((cOk 8 w3.2 a0) ∧ ((cOk 8 (cP 8 w3.2 a0 7 (.int ((cI w3.2 a0 7) + 1))) a0) ∧ ((cOq 9 (cP 8 w3.2 a0 7 (.int ((cI w3.2 a0 7) + 1))) (cQ (cP 8 w3.2 a0 7 (.int ((cI w3.2 a0 7) + 1))) a0 1)) ∧ ((S_St_takeThing cs lim dE (cP 8 w3.2 a0 7 (.int ((cI w3.2 a0 7) + 1))) ((cQ (cP 8 w3.2 a0 7 (.int ((cI w3.2 a0 7) + 1))) a0 1).getD 0) ) ∧ (mbind (F_St_takeThing cs dE (cP 8 w3.2 a0 7 (.int ((cI w3.2 a0 7) + 1))) ((cQ (cP 8 w3.2 a0 7 (.int ((cI w3.2 a0 7) + 1))) a0 1).getD 0) ) (fun w10 => (cOk 8 w10.2 a0) ∧ ((cOq 9 w10.2 (cQ w10.2 a0 1)) ∧ ((S_St_thingAt cs lim dE w10.2 ((cQ w10.2 a0 1).getD 0) w10.1) ∧ (mbind (F_St_thingAt cs dE w10.2 ((cQ w10.2 a0 1).getD 0) w10.1) (fun w14 => if w14 = none then (True) else ((cOq 11 w10.2 w14) ∧ ((S_Th_make cs lim w10.2 (w14.getD 0) x2) ∧ (mbind (F_Th_make cs w10.2 (w14.getD 0) x2) (fun w18 => (cOq 10 w18 x1) ∧ ((S_Fr_keepNames cs lim w18 (x1.getD 0) w14) ∧ (mbind (F_Fr_keepNames cs w18 (x1.getD 0) w14) (fun w21 => (cOk 8 w21 a0) ∧ ((cOq 7 w21 (cQ w21 a0 0)) ∧ ((S_Co_field cs lim w21 ((cQ w21 a0 0).getD 0) x2 2) ∧ (mbind (F_Co_field cs w21 ((cQ w21 a0 0).getD 0) x2 2) (fun w25 => (cOq 11 w21 w14) ∧ ((S_Th_give cs lim w21 (w14.getD 0) w25 w10.1) ∧ (mbind (F_Th_give cs w21 (w14.getD 0) w25 w10.1) (fun w28 => (cOq 10 w28 x1) ∧ ((S_Fr_push cs lim w28 (x1.getD 0) w10.1) ∧ (mbind (F_Fr_push cs w28 (x1.getD 0) w10.1) (fun w31 => (cOk 8 w31 a0) ∧ ((cOq 7 w31 (cQ w31 a0 0)) ∧ ((S_Co_field cs lim w31 ((cQ w31 a0 0).getD 0) x2 3) ∧ (mbind (F_Co_field cs w31 ((cQ w31 a0 0).getD 0) x2 3) (fun w35 => (cOq 10 w31 x1) ∧ (True))))))))))))))))))))))))))))))))) else (True))))
set_option maxRecDepth 100000 in
set_option maxHeartbeats 4000000 in
theorem cc_Ma_close (l : Launch) (hf : l.flags = pinnedFlags ++ [noTraceFlag]) (D : va_G) (cs : Nat → ClassId) (B : Nat) (dE : Nat × Nat) (lim : Nat × Nat) (M : gMem) (a0 : Nat) (x1 : Option Nat) (x2 : Int32) (hS : S_Ma_close cs lim dE M a0 x1 x2) : cMet l y_Ma_close (Cond.code y_Ma_close c_Ma_close 5 none) (10) (211) D cs B dE (gA B) lim [.ref a0, va_rf x1, .int x2] M (fun x M' => x = .inl none ∧ M' = (F_Ma_close cs dE M a0 x1 x2)) := by
  refine cMet.ofW (by decide) (by cases x1 <;> exact Nat.le_of_ble_eq_true rfl) (lv0 := [(0, .ref a0), (1, va_rf x1), (2, .int x2)]) (by cases x1 <;> rfl) ?_
  intro p e s m args below meth c C hE hR0 hle hr hlocks hex hn
  generalize hF : F_Ma_close cs dE M a0 x1 x2 = Fv
  unfold F_Ma_close at hF
  unfold S_Ma_close at hS
  refine g_aload_n C d_Ma_close_0 rfl ?_
  refine g_iconst (v := 1) C d_Ma_close_1 (by decide) ?_
  refine GW.more (A' := gA B) (fun _ h => h.elim) ?_
  obtain ⟨ho1, hS⟩ := hS
  obtain ⟨hs2, hS⟩ := hS
  refine c_call (av := [.ref a0, .int 1]) (rest := []) C hE (fun _ h => h) ⟨rfl, rfl⟩ hle (cc_Ma_isFull l hf D cs B dE lim _ a0 1 hs2) (fun _ h => h) kd_Ma_isFull ki_Ma (Nat.le_of_ble_eq_true rfl) (Nat.le_of_ble_eq_true rfl) d_Ma_close_2 (Nat.le_of_ble_eq_true rfl) (c_fV (n := 1) (ci := 8) C hE.1 rfl km_Ma_140 kv_Ma_isFull kl_Ma_isFull kd_Ma_isFull ⟨by decide, by decide, by decide⟩ rfl rfl d_Ma_close_2 ho1) (fun v1 M1 hv hle => ?_) (fun E1 M1 hv hle => ?_)
  · rw [mbind_eq] at hF hS
    obtain ⟨hx, hM1⟩ := hv
    have hM2 := hM1.symm
    subst hM2
    generalize hq_w3 : F_Ma_isFull cs M a0 1 = w3 at hF hS hx hle ⊢
    cases hx
    refine GW.eqs (st' := [.int w3.1]) rfl ?_
    refine g_if_eq C 9 d_Ma_close_5 (by decide) (fun hc4 => ?_) (fun hc4 => ?_)
    · rw [if_pos hc4] at hF hS
      refine g_aload_n C d_Ma_close_9 rfl ?_
      refine g_dup C d_Ma_close_10 rfl ?_
      obtain ⟨ho5, hS⟩ := hS
      refine c_geti C hE.1 (ci := 8) i_Ma rfl 7 (by decide) (by decide) (by decide) kf_Ma_80 d_Ma_close_11 ho5 ?_
      refine g_iconst (v := 1) C d_Ma_close_14 (by decide) ?_
      refine g_iadd C d_Ma_close_15 ?_
      obtain ⟨ho6, hS⟩ := hS
      refine k_put (M0 := M) (M := w3.2) C hE.1 (ci := 8) i_Ma rfl 7 (by decide) (by decide) kf_Ma_80 t_Ma t_Ma_ok n_Ma rfl (nf_i _) d_Ma_close_16 ho6 ?_
      replace hle := cLe.cP (ci := 8) (a := a0) (k := 7) (v := .int ((cI w3.2 a0 7) + 1)) hle
      refine g_aload_n C d_Ma_close_19 rfl ?_
      obtain ⟨ho7, hS⟩ := hS
      refine c_getq C hE.1 (ci := 8) i_Ma rfl 1 (by decide) (by decide) (by decide) kf_Ma_12 d_Ma_close_20 ho7 ?_
      obtain ⟨ho8, hS⟩ := hS
      refine GW.known1 (a := (cQ (cP 8 w3.2 a0 7 (.int ((cI w3.2 a0 7) + 1))) a0 1).getD 0) (cOq.at ho8).1 ?_
      obtain ⟨hs9, hS⟩ := hS
      refine c_call (av := [.ref ((cQ (cP 8 w3.2 a0 7 (.int ((cI w3.2 a0 7) + 1))) a0 1).getD 0)]) (rest := []) C hE (fun _ h => h) ⟨rfl, rfl⟩ hle (cc_St_takeThing l hf D cs B dE lim _ ((cQ (cP 8 w3.2 a0 7 (.int ((cI w3.2 a0 7) + 1))) a0 1).getD 0)  hs9) (fun _ h => h) kd_St_takeThing ki_St (Nat.le_of_ble_eq_true rfl) (Nat.le_of_ble_eq_true rfl) d_Ma_close_23 (Nat.le_of_ble_eq_true rfl) (c_fV (n := 0) (ci := 9) C hE.1 rfl km_Ma_144 kv_St_takeThing kl_St_takeThing kd_St_takeThing ⟨by decide, by decide, by decide⟩ rfl rfl d_Ma_close_23 (cOq.at ho8).2) (fun v1 M1 hv hle => ?_) (fun E1 M1 hv hle => ?_)
      · rw [mbind_eq] at hF hS
        obtain ⟨hx, hM1⟩ := hv
        have hM2 := hM1.symm
        subst hM2
        generalize hq_w10 : F_St_takeThing cs dE (cP 8 w3.2 a0 7 (.int ((cI w3.2 a0 7) + 1))) ((cQ (cP 8 w3.2 a0 7 (.int ((cI w3.2 a0 7) + 1))) a0 1).getD 0)  = w10 at hF hS hx hle ⊢
        cases hx
        refine GW.eqs (st' := [.int w10.1]) rfl ?_
        refine g_istore_n (lv' := [(3, .int w10.1), (0, .ref a0), (1, va_rf x1), (2, .int x2)]) C d_Ma_close_26 (by decide) rfl ?_
        refine g_aload_n C d_Ma_close_27 rfl ?_
        obtain ⟨ho11, hS⟩ := hS
        refine c_getq C hE.1 (ci := 8) i_Ma rfl 1 (by decide) (by decide) (by decide) kf_Ma_12 d_Ma_close_28 ho11 ?_
        refine g_iload_n C d_Ma_close_31 rfl ?_
        obtain ⟨ho12, hS⟩ := hS
        refine GW.known2 (a := (cQ w10.2 a0 1).getD 0) (cOq.at ho12).1 ?_
        obtain ⟨hs13, hS⟩ := hS
        refine c_call (av := [.ref ((cQ w10.2 a0 1).getD 0), .int w10.1]) (rest := []) C hE (fun _ h => h) ⟨rfl, rfl⟩ hle (cc_St_thingAt l hf D cs B dE lim _ ((cQ w10.2 a0 1).getD 0) w10.1 hs13) (fun _ h => h.elim) kd_St_thingAt ki_St (Nat.le_of_ble_eq_true rfl) (Nat.le_of_ble_eq_true rfl) d_Ma_close_32 (Nat.le_of_ble_eq_true rfl) (c_fV (n := 1) (ci := 9) C hE.1 rfl km_Ma_147 kv_St_thingAt kl_St_thingAt kd_St_thingAt ⟨by decide, by decide, by decide⟩ rfl rfl d_Ma_close_32 (cOq.at ho12).2) (fun v1 M1 hv hle => ?_) (fun E1 M1 hv hle => ?_)
        · rw [mbind_eq] at hF hS
          obtain ⟨hx, hM1⟩ := hv
          have hM2 := hM1.symm
          subst hM2
          generalize hq_w14 : F_St_thingAt cs dE w10.2 ((cQ w10.2 a0 1).getD 0) w10.1 = w14 at hF hS hx hle ⊢
          cases hx
          refine GW.eqs (st' := [va_rf w14]) rfl ?_
          refine q_astore (r := w14) (lv' := [(4, va_rf w14), (3, .int w10.1), (0, .ref a0), (1, va_rf x1), (2, .int x2)]) C d_Ma_close_35 (by decide) rfl ?_
          refine q_aload (r := w14) C d_Ma_close_37 rfl ?_
          refine q_ifnonnull C 43 d_Ma_close_39 (by decide) (fun hc15 => ?_) (fun hc15 => ?_)
          · rw [if_neg hc15] at hF hS
            refine q_aload (r := w14) C d_Ma_close_43 rfl ?_
            refine g_iload_n C d_Ma_close_45 rfl ?_
            obtain ⟨ho16, hS⟩ := hS
            refine GW.known2 (a := w14.getD 0) (cOq.at ho16).1 ?_
            obtain ⟨hs17, hS⟩ := hS
            refine c_call (av := [.ref (w14.getD 0), .int x2]) (rest := []) C hE (fun _ h => h) ⟨rfl, rfl⟩ hle (cc_Th_make l hf D cs B dE lim _ (w14.getD 0) x2 hs17) (fun _ h => h) kd_Th_make ki_Th (Nat.le_of_ble_eq_true rfl) (Nat.le_of_ble_eq_true rfl) d_Ma_close_46 (Nat.le_of_ble_eq_true rfl) (c_fV (n := 1) (ci := 11) C hE.1 rfl km_Ma_151 kv_Th_make kl_Th_make kd_Th_make ⟨by decide, by decide, by decide⟩ rfl rfl d_Ma_close_46 (cOq.at ho16).2) (fun v1 M1 hv hle => ?_) (fun E1 M1 hv hle => ?_)
            · rw [mbind_eq] at hF hS
              obtain ⟨hx, hM1⟩ := hv
              have hM2 := hM1.symm
              subst hM2
              generalize hq_w18 : F_Th_make cs w10.2 (w14.getD 0) x2 = w18 at hF hS hx hle ⊢
              cases hx
              refine GW.eqs (st' := []) rfl ?_
              refine q_aload_n (r := x1) C d_Ma_close_49 rfl ?_
              refine q_aload (r := w14) C d_Ma_close_50 rfl ?_
              obtain ⟨ho19, hS⟩ := hS
              refine GW.known2 (a := x1.getD 0) (cOq.at ho19).1 ?_
              obtain ⟨hs20, hS⟩ := hS
              refine c_call (av := [.ref (x1.getD 0), va_rf w14]) (rest := []) C hE (fun _ h => h) ⟨rfl, rfl⟩ hle (cc_Fr_keepNames l hf D cs B dE lim _ (x1.getD 0) w14 hs20) (fun _ h => h) kd_Fr_keepNames ki_Fr (Nat.le_of_ble_eq_true rfl) (Nat.le_of_ble_eq_true rfl) d_Ma_close_52 (Nat.le_of_ble_eq_true rfl) (c_fV (n := 1) (ci := 10) C hE.1 rfl km_Ma_156 kv_Fr_keepNames kl_Fr_keepNames kd_Fr_keepNames ⟨by decide, by decide, by decide⟩ rfl rfl d_Ma_close_52 (cOq.at ho19).2) (fun v1 M1 hv hle => ?_) (fun E1 M1 hv hle => ?_)
              · rw [mbind_eq] at hF hS
                obtain ⟨hx, hM1⟩ := hv
                have hM2 := hM1.symm
                subst hM2
                generalize hq_w21 : F_Fr_keepNames cs w18 (x1.getD 0) w14 = w21 at hF hS hx hle ⊢
                cases hx
                refine GW.eqs (st' := []) rfl ?_
                refine q_aload (r := w14) C d_Ma_close_55 rfl ?_
                refine g_aload_n C d_Ma_close_57 rfl ?_
                obtain ⟨ho22, hS⟩ := hS
                refine c_getq C hE.1 (ci := 8) i_Ma rfl 0 (by decide) (by decide) (by decide) kf_Ma_18 d_Ma_close_58 ho22 ?_
                refine g_iload_n C d_Ma_close_61 rfl ?_
                refine g_iconst (v := 2) C d_Ma_close_62 (by decide) ?_
                obtain ⟨ho23, hS⟩ := hS
                refine GW.known3 (a := (cQ w21 a0 0).getD 0) (cOq.at ho23).1 ?_
                obtain ⟨hs24, hS⟩ := hS
                refine c_call (av := [.ref ((cQ w21 a0 0).getD 0), .int x2, .int 2]) (rest := [va_rf w14]) C hE (fun _ h => h) ⟨rfl, rfl⟩ hle (cc_Co_field l hf D cs B dE lim _ ((cQ w21 a0 0).getD 0) x2 2 hs24) (fun _ h => h.elim) kd_Co_field ki_Co (Nat.le_of_ble_eq_true rfl) (Nat.le_of_ble_eq_true rfl) d_Ma_close_63 (by simp only [List.map_cons, List.map_nil, rf_cat, List.sum_cons, List.sum_nil]; exact Nat.le_of_ble_eq_true rfl) (c_fV (n := 2) (ci := 7) C hE.1 rfl km_Ma_86 kv_Co_field kl_Co_field kd_Co_field ⟨by decide, by decide, by decide⟩ rfl rfl d_Ma_close_63 (cOq.at ho23).2) (fun v1 M1 hv hle => ?_) (fun E1 M1 hv hle => ?_)
                · rw [mbind_eq] at hF hS
                  obtain ⟨hx, hM1⟩ := hv
                  have hM2 := hM1.symm
                  subst hM2
                  generalize hq_w25 : F_Co_field cs w21 ((cQ w21 a0 0).getD 0) x2 2 = w25 at hF hS hx hle ⊢
                  cases hx
                  refine GW.eqs (st' := [.int w25, va_rf w14]) rfl ?_
                  refine g_iload_n C d_Ma_close_66 rfl ?_
                  obtain ⟨ho26, hS⟩ := hS
                  refine GW.known3 (a := w14.getD 0) (cOq.at ho26).1 ?_
                  obtain ⟨hs27, hS⟩ := hS
                  refine c_call (av := [.ref (w14.getD 0), .int w25, .int w10.1]) (rest := []) C hE (fun _ h => h) ⟨rfl, rfl⟩ hle (cc_Th_give l hf D cs B dE lim _ (w14.getD 0) w25 w10.1 hs27) (fun _ h => h) kd_Th_give ki_Th (Nat.le_of_ble_eq_true rfl) (Nat.le_of_ble_eq_true rfl) d_Ma_close_67 (Nat.le_of_ble_eq_true rfl) (c_fV (n := 2) (ci := 11) C hE.1 rfl km_Ma_160 kv_Th_give kl_Th_give kd_Th_give ⟨by decide, by decide, by decide⟩ rfl rfl d_Ma_close_67 (cOq.at ho26).2) (fun v1 M1 hv hle => ?_) (fun E1 M1 hv hle => ?_)
                  · rw [mbind_eq] at hF hS
                    obtain ⟨hx, hM1⟩ := hv
                    have hM2 := hM1.symm
                    subst hM2
                    generalize hq_w28 : F_Th_give cs w21 (w14.getD 0) w25 w10.1 = w28 at hF hS hx hle ⊢
                    cases hx
                    refine GW.eqs (st' := []) rfl ?_
                    refine q_aload_n (r := x1) C d_Ma_close_70 rfl ?_
                    refine g_iload_n C d_Ma_close_71 rfl ?_
                    obtain ⟨ho29, hS⟩ := hS
                    refine GW.known2 (a := x1.getD 0) (cOq.at ho29).1 ?_
                    obtain ⟨hs30, hS⟩ := hS
                    refine c_call (av := [.ref (x1.getD 0), .int w10.1]) (rest := []) C hE (fun _ h => h) ⟨rfl, rfl⟩ hle (cc_Fr_push l hf D cs B dE lim _ (x1.getD 0) w10.1 hs30) (fun _ h => h) kd_Fr_push ki_Fr (Nat.le_of_ble_eq_true rfl) (Nat.le_of_ble_eq_true rfl) d_Ma_close_72 (Nat.le_of_ble_eq_true rfl) (c_fV (n := 1) (ci := 10) C hE.1 rfl km_Ma_96 kv_Fr_push kl_Fr_push kd_Fr_push ⟨by decide, by decide, by decide⟩ rfl rfl d_Ma_close_72 (cOq.at ho29).2) (fun v1 M1 hv hle => ?_) (fun E1 M1 hv hle => ?_)
                    · rw [mbind_eq] at hF hS
                      obtain ⟨hx, hM1⟩ := hv
                      have hM2 := hM1.symm
                      subst hM2
                      generalize hq_w31 : F_Fr_push cs w28 (x1.getD 0) w10.1 = w31 at hF hS hx hle ⊢
                      cases hx
                      refine GW.eqs (st' := []) rfl ?_
                      refine q_aload_n (r := x1) C d_Ma_close_75 rfl ?_
                      refine g_aload_n C d_Ma_close_76 rfl ?_
                      obtain ⟨ho32, hS⟩ := hS
                      refine c_getq C hE.1 (ci := 8) i_Ma rfl 0 (by decide) (by decide) (by decide) kf_Ma_18 d_Ma_close_77 ho32 ?_
                      refine g_iload_n C d_Ma_close_80 rfl ?_
                      refine g_iconst (v := 3) C d_Ma_close_81 (by decide) ?_
                      obtain ⟨ho33, hS⟩ := hS
                      refine GW.known3 (a := (cQ w31 a0 0).getD 0) (cOq.at ho33).1 ?_
                      obtain ⟨hs34, hS⟩ := hS
                      refine c_call (av := [.ref ((cQ w31 a0 0).getD 0), .int x2, .int 3]) (rest := [va_rf x1]) C hE (fun _ h => h) ⟨rfl, rfl⟩ hle (cc_Co_field l hf D cs B dE lim _ ((cQ w31 a0 0).getD 0) x2 3 hs34) (fun _ h => h.elim) kd_Co_field ki_Co (Nat.le_of_ble_eq_true rfl) (Nat.le_of_ble_eq_true rfl) d_Ma_close_82 (by simp only [List.map_cons, List.map_nil, rf_cat, List.sum_cons, List.sum_nil]; exact Nat.le_of_ble_eq_true rfl) (c_fV (n := 2) (ci := 7) C hE.1 rfl km_Ma_86 kv_Co_field kl_Co_field kd_Co_field ⟨by decide, by decide, by decide⟩ rfl rfl d_Ma_close_82 (cOq.at ho33).2) (fun v1 M1 hv hle => ?_) (fun E1 M1 hv hle => ?_)
                      · rw [mbind_eq] at hF hS
                        obtain ⟨hx, hM1⟩ := hv
                        have hM2 := hM1.symm
                        subst hM2
                        generalize hq_w35 : F_Co_field cs w31 ((cQ w31 a0 0).getD 0) x2 3 = w35 at hF hS hx hle ⊢
                        cases hx
                        refine GW.eqs (st' := [.int w35, va_rf x1]) rfl ?_
                        obtain ⟨ho36, hS⟩ := hS
                        refine GW.known2 (a := x1.getD 0) (cOq.at ho36).1 ?_
                        refine k_putN (M0 := M) (M := w31) C hE.1 (ci := 10) i_Fr rfl 2 (by decide) (by decide) (gE_fN hE kf_Ma_67) t_Fr t_Fr_ok n_Fr rfl (nf_i _) d_Ma_close_85 (cOq.at ho36).2 ?_
                        replace hle := cLe.cP (ci := 10) (a := x1.getD 0) (k := 2) (v := .int w35) hle
                        exact c_vret (M := cP 10 w31 (x1.getD 0) 2 (.int w35)) C hr hlocks hle d_Ma_close_88 (by rw [← hF]; exact ⟨rfl, rfl⟩)
                      · cases hv.1
                    · cases hv.1
                  · cases hv.1
                · cases hv.1
              · cases hv.1
            · cases hv.1
          · rw [if_pos hc15] at hF hS
            exact c_vret (M := w10.2) C hr hlocks hle d_Ma_close_42 (by rw [← hF]; exact ⟨rfl, rfl⟩)
        · cases hv.1
      · cases hv.1
    · rw [if_neg hc4] at hF hS
      exact c_vret (M := w3.2) C hr hlocks hle d_Ma_close_8 (by rw [← hF]; exact ⟨rfl, rfl⟩)
  · cases hv.1
def F_Ma_isDeep (cs : Nat → ClassId) (M : gMem) (a0 : Nat) (x1 : Int32) : Int32 × gMem := if 400 < ((cI M a0 8) + x1) then ((1, cP 8 M a0 4 (.int 6))) else ((0, M))
def S_Ma_isDeep (cs : Nat → ClassId) (lim : Nat × Nat) (M : gMem) (a0 : Nat) (x1 : Int32) : Prop := (cOk 8 M a0) ∧ (if 400 < ((cI M a0 8) + x1) then ((cOk 8 M a0) ∧ (True)) else (True))
set_option maxRecDepth 100000 in
set_option maxHeartbeats 4000000 in
theorem cc_Ma_isDeep (l : Launch) (hf : l.flags = pinnedFlags ++ [noTraceFlag]) (D : va_G) (cs : Nat → ClassId) (B : Nat) (dE : Nat × Nat) (lim : Nat × Nat) (M : gMem) (a0 : Nat) (x1 : Int32) (hS : S_Ma_isDeep cs lim M a0 x1) : cMet l y_Ma_isDeep (Cond.code y_Ma_isDeep c_Ma_isDeep 2 (some .boolean)) (0) (0) D cs B dE (gA B) lim [.ref a0, .int x1] M (fun x M' => x = .inl (some (.int ((F_Ma_isDeep cs M a0 x1).1))) ∧ M' = (F_Ma_isDeep cs M a0 x1).2) := by
  refine cMet.ofW (by decide) (Nat.le_of_ble_eq_true rfl) (lv0 := [(0, .ref a0), (1, .int x1)]) rfl ?_
  intro p e s m args below meth c C hE hR0 hle hr hlocks hex hn
  generalize hF : F_Ma_isDeep cs M a0 x1 = Fv
  unfold F_Ma_isDeep at hF
  unfold S_Ma_isDeep at hS
  refine g_aload_n C d_Ma_isDeep_0 rfl ?_
  obtain ⟨ho1, hS⟩ := hS
  refine c_geti C hE.1 (ci := 8) i_Ma rfl 8 (by decide) (by decide) (by decide) kf_Ma_83 d_Ma_isDeep_1 ho1 ?_
  refine g_iload_n C d_Ma_isDeep_4 rfl ?_
  refine g_iadd C d_Ma_isDeep_5 ?_
  refine g_sipush (v := 400) C d_Ma_isDeep_6 (by decide) ?_
  refine g_icmp_gt C 14 d_Ma_isDeep_9 (by decide) (fun hc2 => ?_) (fun hc2 => ?_)
  · rw [if_pos hc2] at hF hS
    refine g_aload_n C d_Ma_isDeep_14 rfl ?_
    refine g_bipush (v := 6) C d_Ma_isDeep_15 (by decide) ?_
    refine GW.more (A' := gA B) (fun _ h => h.elim) ?_
    obtain ⟨ho3, hS⟩ := hS
    refine k_put (M0 := M) (M := M) C hE.1 (ci := 8) i_Ma rfl 4 (by decide) (by decide) kf_Ma_54 t_Ma t_Ma_ok n_Ma rfl (nf_i _) d_Ma_isDeep_17 ho3 ?_
    replace hle := cLe.cP (ci := 8) (a := a0) (k := 4) (v := .int 6) hle
    refine g_iconst (v := 1) C d_Ma_isDeep_20 (by decide) ?_
    exact c_zret (M := cP 8 M a0 4 (.int 6)) C hr hlocks hle (by decide) d_Ma_isDeep_21 (by rw [← hF]; exact ⟨rfl, rfl⟩)
  · rw [if_neg hc2] at hF hS
    refine g_iconst (v := 0) C d_Ma_isDeep_12 (by decide) ?_
    refine GW.more (A' := gA B) (fun _ h => h.elim) ?_
    exact c_zret (M := M) C hr hlocks hle (by decide) d_Ma_isDeep_13 (by rw [← hF]; exact ⟨rfl, rfl⟩)
def F_Ma_enter (cs : Nat → ClassId) (dE : Nat × Nat) (M : gMem) (a0 : Nat) (x1 : Option Nat) (x2 : Option Nat) (x3 : Int32) : gMem := mbind (F_St_takeFrame cs dE M ((cQ M a0 1).getD 0) ) (fun w4 => mbind (F_Fr_open cs w4.2 (w4.1.getD 0) x2 x3) (fun w7 => cP 8 (cP 8 (cP 10 w7 (w4.1.getD 0) 4 (va_rf x1)) a0 10 (va_rf w4.1)) a0 8 (.int ((cI (cP 8 (cP 10 w7 (w4.1.getD 0) 4 (va_rf x1)) a0 10 (va_rf w4.1)) a0 8) + 1))))
def S_Ma_enter (cs : Nat → ClassId) (lim : Nat × Nat) (dE : Nat × Nat) (M : gMem) (a0 : Nat) (x1 : Option Nat) (x2 : Option Nat) (x3 : Int32) : Prop := (cOk 8 M a0) ∧ ((cOq 9 M (cQ M a0 1)) ∧ ((S_St_takeFrame cs lim dE M ((cQ M a0 1).getD 0) ) ∧ (mbind (F_St_takeFrame cs dE M ((cQ M a0 1).getD 0) ) (fun w4 => (cOq 10 w4.2 w4.1) ∧ ((S_Fr_open cs lim w4.2 (w4.1.getD 0) x2 x3) ∧ (mbind (F_Fr_open cs w4.2 (w4.1.getD 0) x2 x3) (fun w7 => (cOq 10 w7 w4.1) ∧ ((cOk 8 (cP 10 w7 (w4.1.getD 0) 4 (va_rf x1)) a0) ∧ ((cOk 8 (cP 8 (cP 10 w7 (w4.1.getD 0) 4 (va_rf x1)) a0 10 (va_rf w4.1)) a0) ∧ ((cOk 8 (cP 8 (cP 10 w7 (w4.1.getD 0) 4 (va_rf x1)) a0 10 (va_rf w4.1)) a0) ∧ (True)))))))))))
set_option maxRecDepth 100000 in
set_option maxHeartbeats 4000000 in
theorem cc_Ma_enter (l : Launch) (hf : l.flags = pinnedFlags ++ [noTraceFlag]) (D : va_G) (cs : Nat → ClassId) (B : Nat) (dE : Nat × Nat) (lim : Nat × Nat) (M : gMem) (a0 : Nat) (x1 : Option Nat) (x2 : Option Nat) (x3 : Int32) (hS : S_Ma_enter cs lim dE M a0 x1 x2 x3) : cMet l y_Ma_enter (Cond.code y_Ma_enter c_Ma_enter 5 none) (10) (212) D cs B dE (gA B) lim [.ref a0, va_rf x1, va_rf x2, .int x3] M (fun x M' => x = .inl none ∧ M' = (F_Ma_enter cs dE M a0 x1 x2 x3)) := by
  refine cMet.ofW (by decide) (by cases x1 <;> cases x2 <;> exact Nat.le_of_ble_eq_true rfl) (lv0 := [(0, .ref a0), (1, va_rf x1), (2, va_rf x2), (3, .int x3)]) (by cases x1 <;> cases x2 <;> rfl) ?_
  intro p e s m args below meth c C hE hR0 hle hr hlocks hex hn
  generalize hF : F_Ma_enter cs dE M a0 x1 x2 x3 = Fv
  unfold F_Ma_enter at hF
  unfold S_Ma_enter at hS
  refine g_aload_n C d_Ma_enter_0 rfl ?_
  obtain ⟨ho1, hS⟩ := hS
  refine c_getq C hE.1 (ci := 8) i_Ma rfl 1 (by decide) (by decide) (by decide) kf_Ma_12 d_Ma_enter_1 ho1 ?_
  refine GW.more (A' := gA B) (fun _ h => h.elim) ?_
  obtain ⟨ho2, hS⟩ := hS
  refine GW.known1 (a := (cQ M a0 1).getD 0) (cOq.at ho2).1 ?_
  obtain ⟨hs3, hS⟩ := hS
  refine c_call (av := [.ref ((cQ M a0 1).getD 0)]) (rest := []) C hE (fun _ h => h) ⟨rfl, rfl⟩ hle (cc_St_takeFrame l hf D cs B dE lim _ ((cQ M a0 1).getD 0)  hs3) (fun _ h => h) kd_St_takeFrame ki_St (Nat.le_of_ble_eq_true rfl) (Nat.le_of_ble_eq_true rfl) d_Ma_enter_4 (Nat.le_of_ble_eq_true rfl) (c_fV (n := 0) (ci := 9) C hE.1 rfl km_Ma_37 kv_St_takeFrame kl_St_takeFrame kd_St_takeFrame ⟨by decide, by decide, by decide⟩ rfl rfl d_Ma_enter_4 (cOq.at ho2).2) (fun v1 M1 hv hle => ?_) (fun E1 M1 hv hle => ?_)
  · rw [mbind_eq] at hF hS
    obtain ⟨hx, hM1⟩ := hv
    have hM2 := hM1.symm
    subst hM2
    generalize hq_w4 : F_St_takeFrame cs dE M ((cQ M a0 1).getD 0)  = w4 at hF hS hx hle ⊢
    cases hx
    refine GW.eqs (st' := [va_rf w4.1]) rfl ?_
    refine q_astore (r := w4.1) (lv' := [(4, va_rf w4.1), (0, .ref a0), (1, va_rf x1), (2, va_rf x2), (3, .int x3)]) C d_Ma_enter_7 (by decide) rfl ?_
    refine q_aload (r := w4.1) C d_Ma_enter_9 rfl ?_
    refine q_aload_n (r := x2) C d_Ma_enter_11 rfl ?_
    refine g_iload_n C d_Ma_enter_12 rfl ?_
    obtain ⟨ho5, hS⟩ := hS
    refine GW.known3 (a := w4.1.getD 0) (cOq.at ho5).1 ?_
    obtain ⟨hs6, hS⟩ := hS
    refine c_call (av := [.ref (w4.1.getD 0), va_rf x2, .int x3]) (rest := []) C hE (fun _ h => h) ⟨rfl, rfl⟩ hle (cc_Fr_open l hf D cs B dE lim _ (w4.1.getD 0) x2 x3 hs6) (fun _ h => h) kd_Fr_open ki_Fr (Nat.le_of_ble_eq_true rfl) (Nat.le_of_ble_eq_true rfl) d_Ma_enter_13 (Nat.le_of_ble_eq_true rfl) (c_fV (n := 2) (ci := 10) C hE.1 rfl km_Ma_45 kv_Fr_open kl_Fr_open kd_Fr_open ⟨by decide, by decide, by decide⟩ rfl rfl d_Ma_enter_13 (cOq.at ho5).2) (fun v1 M1 hv hle => ?_) (fun E1 M1 hv hle => ?_)
    · rw [mbind_eq] at hF hS
      obtain ⟨hx, hM1⟩ := hv
      have hM2 := hM1.symm
      subst hM2
      generalize hq_w7 : F_Fr_open cs w4.2 (w4.1.getD 0) x2 x3 = w7 at hF hS hx hle ⊢
      cases hx
      refine GW.eqs (st' := []) rfl ?_
      refine q_aload (r := w4.1) C d_Ma_enter_16 rfl ?_
      refine q_aload_n (r := x1) C d_Ma_enter_18 rfl ?_
      obtain ⟨ho8, hS⟩ := hS
      refine GW.known2 (a := w4.1.getD 0) (cOq.at ho8).1 ?_
      refine k_putN (M0 := M) (M := w7) C hE.1 (ci := 10) i_Fr rfl 4 (by decide) (by decide) (gE_fN hE kf_Ma_51) t_Fr t_Fr_ok n_Fr rfl (nf_q _ (Or.inl ⟨_, rfl⟩) _) d_Ma_enter_19 (cOq.at ho8).2 ?_
      replace hle := cLe.cP (ci := 10) (a := w4.1.getD 0) (k := 4) (v := va_rf x1) hle
      refine g_aload_n C d_Ma_enter_22 rfl ?_
      refine q_aload (r := w4.1) C d_Ma_enter_23 rfl ?_
      obtain ⟨ho9, hS⟩ := hS
      refine k_put (M0 := M) (M := cP 10 w7 (w4.1.getD 0) 4 (va_rf x1)) C hE.1 (ci := 8) i_Ma rfl 10 (by decide) (by decide) kf_Ma_41 t_Ma t_Ma_ok n_Ma rfl (nf_q _ (Or.inl ⟨_, rfl⟩) _) d_Ma_enter_25 ho9 ?_
      replace hle := cLe.cP (ci := 8) (a := a0) (k := 10) (v := va_rf w4.1) hle
      refine g_aload_n C d_Ma_enter_28 rfl ?_
      refine g_dup C d_Ma_enter_29 rfl ?_
      obtain ⟨ho10, hS⟩ := hS
      refine c_geti C hE.1 (ci := 8) i_Ma rfl 8 (by decide) (by decide) (by decide) kf_Ma_83 d_Ma_enter_30 ho10 ?_
      refine g_iconst (v := 1) C d_Ma_enter_33 (by decide) ?_
      refine g_iadd C d_Ma_enter_34 ?_
      obtain ⟨ho11, hS⟩ := hS
      refine k_put (M0 := M) (M := cP 8 (cP 10 w7 (w4.1.getD 0) 4 (va_rf x1)) a0 10 (va_rf w4.1)) C hE.1 (ci := 8) i_Ma rfl 8 (by decide) (by decide) kf_Ma_83 t_Ma t_Ma_ok n_Ma rfl (nf_i _) d_Ma_enter_35 ho11 ?_
      replace hle := cLe.cP (ci := 8) (a := a0) (k := 8) (v := .int ((cI (cP 8 (cP 10 w7 (w4.1.getD 0) 4 (va_rf x1)) a0 10 (va_rf w4.1)) a0 8) + 1)) hle
      exact c_vret (M := cP 8 (cP 8 (cP 10 w7 (w4.1.getD 0) 4 (va_rf x1)) a0 10 (va_rf w4.1)) a0 8 (.int ((cI (cP 8 (cP 10 w7 (w4.1.getD 0) 4 (va_rf x1)) a0 10 (va_rf w4.1)) a0 8) + 1))) C hr hlocks hle d_Ma_enter_38 (by rw [← hF]; exact ⟨rfl, rfl⟩)
    · cases hv.1
  · cases hv.1
def F_Ma_install (cs : Nat → ClassId) (dE : Nat × Nat) (M : gMem) (a0 : Nat) (x1 : Option Nat) (x2 : Int32) : gMem := mbind (F_Ma_isFull cs M a0 1) (fun w3 => if w3.1 = 0 then (mbind (F_Ma_isDeep cs w3.2 a0 1) (fun w7 => if w7.1 = 0 then (mbind (F_St_takeThing cs dE (cP 8 w7.2 a0 7 (.int ((cI w7.2 a0 7) + 1))) ((cQ (cP 8 w7.2 a0 7 (.int ((cI w7.2 a0 7) + 1))) a0 1).getD 0) ) (fun w15 => mbind (F_St_thingAt cs dE w15.2 ((cQ (cP 8 w7.2 a0 7 (.int ((cI w7.2 a0 7) + 1))) a0 1).getD 0) w15.1) (fun w18 => if w18 = none then (w15.2) else (mbind (F_Th_make cs w15.2 (w18.getD 0) x2) (fun w22 => mbind (F_Fr_keepNames cs w22 (x1.getD 0) w18) (fun w25 => mbind (F_Co_field cs w25 ((cQ w25 a0 0).getD 0) x2 1) (fun w29 => mbind (F_Co_field cs (cP 10 w25 (x1.getD 0) 2 (.int w29)) ((cQ (cP 10 w25 (x1.getD 0) 2 (.int w29)) a0 0).getD 0) x2 4) (fun w34 => mbind (F_Ma_enter cs dE (cP 10 w25 (x1.getD 0) 2 (.int w29)) a0 x1 w18 ((x2 + 1) + w34)) (fun w37 => cP 10 w37 ((cQ w37 a0 10).getD 0) 3 (va_rf w18)))))))))) else (w7.2))) else (w3.2))
def S_Ma_install (cs : Nat → ClassId) (lim : Nat × Nat) (dE : Nat × Nat) (M : gMem) (a0 : Nat) (x1 : Option Nat) (x2 : Int32) : Prop := (cOk 8 M a0) ∧ ((S_Ma_isFull cs lim M a0 1) ∧ (mbind (F_Ma_isFull cs M a0 1) (fun w3 => if w3.1 = 0 then ((cOk 8 w3.2 a0) ∧ ((S_Ma_isDeep cs lim w3.2 a0 1) ∧ (mbind (F_Ma_isDeep cs w3.2 a0 1) (fun w7 => if w7.1 = 0 then ((cOk 8 w7.2 a0) ∧ ((cOk 8 w7.2 a0) ∧ ((cOk 8 (cP 8 w7.2 a0 7 (.int ((cI w7.2 a0 7) + 1))) a0) ∧ ((cOk 8 (cP 8 w7.2 a0 7 (.int ((cI w7.2 a0 7) + 1))) a0) ∧ ((cOq 9 (cP 8 w7.2 a0 7 (.int ((cI w7.2 a0 7) + 1))) (cQ (cP 8 w7.2 a0 7 (.int ((cI w7.2 a0 7) + 1))) a0 1)) ∧ ((S_St_takeThing cs lim dE (cP 8 w7.2 a0 7 (.int ((cI w7.2 a0 7) + 1))) ((cQ (cP 8 w7.2 a0 7 (.int ((cI w7.2 a0 7) + 1))) a0 1).getD 0) ) ∧ (mbind (F_St_takeThing cs dE (cP 8 w7.2 a0 7 (.int ((cI w7.2 a0 7) + 1))) ((cQ (cP 8 w7.2 a0 7 (.int ((cI w7.2 a0 7) + 1))) a0 1).getD 0) ) (fun w15 => (cOq 9 w15.2 (cQ (cP 8 w7.2 a0 7 (.int ((cI w7.2 a0 7) + 1))) a0 1)) ∧ ((S_St_thingAt cs lim dE w15.2 ((cQ (cP 8 w7.2 a0 7 (.int ((cI w7.2 a0 7) + 1))) a0 1).getD 0) w15.1) ∧ (mbind (F_St_thingAt cs dE w15.2 ((cQ (cP 8 w7.2 a0 7 (.int ((cI w7.2 a0 7) + 1))) a0 1).getD 0) w15.1) (fun w18 => if w18 = none then (True) else ((cOq 11 w15.2 w18) ∧ ((S_Th_make cs lim w15.2 (w18.getD 0) x2) ∧ (mbind (F_Th_make cs w15.2 (w18.getD 0) x2) (fun w22 => (cOq 10 w22 x1) ∧ ((S_Fr_keepNames cs lim w22 (x1.getD 0) w18) ∧ (mbind (F_Fr_keepNames cs w22 (x1.getD 0) w18) (fun w25 => (cOk 8 w25 a0) ∧ ((cOq 7 w25 (cQ w25 a0 0)) ∧ ((S_Co_field cs lim w25 ((cQ w25 a0 0).getD 0) x2 1) ∧ (mbind (F_Co_field cs w25 ((cQ w25 a0 0).getD 0) x2 1) (fun w29 => (cOq 10 w25 x1) ∧ ((cOk 8 (cP 10 w25 (x1.getD 0) 2 (.int w29)) a0) ∧ ((cOq 7 (cP 10 w25 (x1.getD 0) 2 (.int w29)) (cQ (cP 10 w25 (x1.getD 0) 2 (.int w29)) a0 0)) ∧ ((S_Co_field cs lim (cP 10 w25 (x1.getD 0) 2 (.int w29)) ((cQ (cP 10 w25 (x1.getD 0) 2 (.int w29)) a0 0).getD 0) x2 4) ∧ (mbind (F_Co_field cs (cP 10 w25 (x1.getD 0) 2 (.int w29)) ((cQ (cP 10 w25 (x1.getD 0) 2 (.int w29)) a0 0).getD 0) x2 4) (fun w34 => (cOk 8 (cP 10 w25 (x1.getD 0) 2 (.int w29)) a0) ∧ ((S_Ma_enter cs lim dE (cP 10 w25 (x1.getD 0) 2 (.int w29)) a0 x1 w18 ((x2 + 1) + w34)) ∧ (mbind (F_Ma_enter cs dE (cP 10 w25 (x1.getD 0) 2 (.int w29)) a0 x1 w18 ((x2 + 1) + w34)) (fun w37 => (cOk 8 w37 a0) ∧ ((cOq 10 w37 (cQ w37 a0 10)) ∧ (True)))))))))))))))))))))))))))))))) else (True))))) else (True))))
set_option maxRecDepth 100000 in
set_option maxHeartbeats 4000000 in
theorem cc_Ma_install (l : Launch) (hf : l.flags = pinnedFlags ++ [noTraceFlag]) (D : va_G) (cs : Nat → ClassId) (B : Nat) (dE : Nat × Nat) (lim : Nat × Nat) (M : gMem) (a0 : Nat) (x1 : Option Nat) (x2 : Int32) (hS : S_Ma_install cs lim dE M a0 x1 x2) : cMet l y_Ma_install (Cond.code y_Ma_install c_Ma_install 4 none) (11) (236) D cs B dE (gA B) lim [.ref a0, va_rf x1, .int x2] M (fun x M' => x = .inl none ∧ M' = (F_Ma_install cs dE M a0 x1 x2)) := by
  refine cMet.ofW (by decide) (by cases x1 <;> exact Nat.le_of_ble_eq_true rfl) (lv0 := [(0, .ref a0), (1, va_rf x1), (2, .int x2)]) (by cases x1 <;> rfl) ?_
  intro p e s m args below meth c C hE hR0 hle hr hlocks hex hn
  generalize hF : F_Ma_install cs dE M a0 x1 x2 = Fv
  unfold F_Ma_install at hF
  unfold S_Ma_install at hS
  refine g_aload_n C d_Ma_install_0 rfl ?_
  refine g_iconst (v := 1) C d_Ma_install_1 (by decide) ?_
  refine GW.more (A' := gA B) (fun _ h => h.elim) ?_
  obtain ⟨ho1, hS⟩ := hS
  obtain ⟨hs2, hS⟩ := hS
  refine c_call (av := [.ref a0, .int 1]) (rest := []) C hE (fun _ h => h) ⟨rfl, rfl⟩ hle (cc_Ma_isFull l hf D cs B dE lim _ a0 1 hs2) (fun _ h => h) kd_Ma_isFull ki_Ma (Nat.le_of_ble_eq_true rfl) (Nat.le_of_ble_eq_true rfl) d_Ma_install_2 (Nat.le_of_ble_eq_true rfl) (c_fV (n := 1) (ci := 8) C hE.1 rfl km_Ma_140 kv_Ma_isFull kl_Ma_isFull kd_Ma_isFull ⟨by decide, by decide, by decide⟩ rfl rfl d_Ma_install_2 ho1) (fun v1 M1 hv hle => ?_) (fun E1 M1 hv hle => ?_)
  · rw [mbind_eq] at hF hS
    obtain ⟨hx, hM1⟩ := hv
    have hM2 := hM1.symm
    subst hM2
    generalize hq_w3 : F_Ma_isFull cs M a0 1 = w3 at hF hS hx hle ⊢
    cases hx
    refine GW.eqs (st' := [.int w3.1]) rfl ?_
    refine g_if_ne C 16 d_Ma_install_5 (by decide) (fun hc4 => ?_) (fun hc4 => ?_)
    · rw [if_neg hc4] at hF hS
      exact c_vret (M := w3.2) C hr hlocks hle d_Ma_install_16 (by rw [← hF]; exact ⟨rfl, rfl⟩)
    · rw [if_pos hc4] at hF hS
      refine g_aload_n C d_Ma_install_8 rfl ?_
      refine g_iconst (v := 1) C d_Ma_install_9 (by decide) ?_
      obtain ⟨ho5, hS⟩ := hS
      obtain ⟨hs6, hS⟩ := hS
      refine c_call (av := [.ref a0, .int 1]) (rest := []) C hE (fun _ h => h) ⟨rfl, rfl⟩ hle (cc_Ma_isDeep l hf D cs B dE lim _ a0 1 hs6) (fun _ h => h) kd_Ma_isDeep ki_Ma (Nat.le_of_ble_eq_true rfl) (Nat.le_of_ble_eq_true rfl) d_Ma_install_10 (Nat.le_of_ble_eq_true rfl) (c_fV (n := 1) (ci := 8) C hE.1 rfl km_Ma_161 kv_Ma_isDeep kl_Ma_isDeep kd_Ma_isDeep ⟨by decide, by decide, by decide⟩ rfl rfl d_Ma_install_10 ho5) (fun v1 M1 hv hle => ?_) (fun E1 M1 hv hle => ?_)
      · rw [mbind_eq] at hF hS
        obtain ⟨hx, hM1⟩ := hv
        have hM2 := hM1.symm
        subst hM2
        generalize hq_w7 : F_Ma_isDeep cs w3.2 a0 1 = w7 at hF hS hx hle ⊢
        cases hx
        refine GW.eqs (st' := [.int w7.1]) rfl ?_
        refine g_if_eq C 17 d_Ma_install_13 (by decide) (fun hc8 => ?_) (fun hc8 => ?_)
        · rw [if_pos hc8] at hF hS
          refine g_aload_n C d_Ma_install_17 rfl ?_
          refine g_dup C d_Ma_install_18 rfl ?_
          obtain ⟨ho9, hS⟩ := hS
          refine c_geti C hE.1 (ci := 8) i_Ma rfl 7 (by decide) (by decide) (by decide) kf_Ma_80 d_Ma_install_19 ho9 ?_
          refine g_iconst (v := 1) C d_Ma_install_22 (by decide) ?_
          refine g_iadd C d_Ma_install_23 ?_
          obtain ⟨ho10, hS⟩ := hS
          refine k_put (M0 := M) (M := w7.2) C hE.1 (ci := 8) i_Ma rfl 7 (by decide) (by decide) kf_Ma_80 t_Ma t_Ma_ok n_Ma rfl (nf_i _) d_Ma_install_24 ho10 ?_
          replace hle := cLe.cP (ci := 8) (a := a0) (k := 7) (v := .int ((cI w7.2 a0 7) + 1)) hle
          refine g_aload_n C d_Ma_install_27 rfl ?_
          obtain ⟨ho11, hS⟩ := hS
          refine c_getq C hE.1 (ci := 8) i_Ma rfl 1 (by decide) (by decide) (by decide) kf_Ma_12 d_Ma_install_28 ho11 ?_
          refine g_aload_n C d_Ma_install_31 rfl ?_
          obtain ⟨ho12, hS⟩ := hS
          refine c_getq C hE.1 (ci := 8) i_Ma rfl 1 (by decide) (by decide) (by decide) kf_Ma_12 d_Ma_install_32 ho12 ?_
          obtain ⟨ho13, hS⟩ := hS
          refine GW.known1 (a := (cQ (cP 8 w7.2 a0 7 (.int ((cI w7.2 a0 7) + 1))) a0 1).getD 0) (cOq.at ho13).1 ?_
          obtain ⟨hs14, hS⟩ := hS
          refine c_call (av := [.ref ((cQ (cP 8 w7.2 a0 7 (.int ((cI w7.2 a0 7) + 1))) a0 1).getD 0)]) (rest := [va_rf (cQ (cP 8 w7.2 a0 7 (.int ((cI w7.2 a0 7) + 1))) a0 1)]) C hE (fun _ h => h) ⟨rfl, rfl⟩ hle (cc_St_takeThing l hf D cs B dE lim _ ((cQ (cP 8 w7.2 a0 7 (.int ((cI w7.2 a0 7) + 1))) a0 1).getD 0)  hs14) (fun _ h => h) kd_St_takeThing ki_St (Nat.le_of_ble_eq_true rfl) (Nat.le_of_ble_eq_true rfl) d_Ma_install_35 (by simp only [List.map_cons, List.map_nil, rf_cat, List.sum_cons, List.sum_nil]; exact Nat.le_of_ble_eq_true rfl) (c_fV (n := 0) (ci := 9) C hE.1 rfl km_Ma_144 kv_St_takeThing kl_St_takeThing kd_St_takeThing ⟨by decide, by decide, by decide⟩ rfl rfl d_Ma_install_35 (cOq.at ho13).2) (fun v1 M1 hv hle => ?_) (fun E1 M1 hv hle => ?_)
          · rw [mbind_eq] at hF hS
            obtain ⟨hx, hM1⟩ := hv
            have hM2 := hM1.symm
            subst hM2
            generalize hq_w15 : F_St_takeThing cs dE (cP 8 w7.2 a0 7 (.int ((cI w7.2 a0 7) + 1))) ((cQ (cP 8 w7.2 a0 7 (.int ((cI w7.2 a0 7) + 1))) a0 1).getD 0)  = w15 at hF hS hx hle ⊢
            cases hx
            refine GW.eqs (st' := [.int w15.1, va_rf (cQ (cP 8 w7.2 a0 7 (.int ((cI w7.2 a0 7) + 1))) a0 1)]) rfl ?_
            obtain ⟨ho16, hS⟩ := hS
            refine GW.known2 (a := (cQ (cP 8 w7.2 a0 7 (.int ((cI w7.2 a0 7) + 1))) a0 1).getD 0) (cOq.at ho16).1 ?_
            obtain ⟨hs17, hS⟩ := hS
            refine c_call (av := [.ref ((cQ (cP 8 w7.2 a0 7 (.int ((cI w7.2 a0 7) + 1))) a0 1).getD 0), .int w15.1]) (rest := []) C hE (fun _ h => h) ⟨rfl, rfl⟩ hle (cc_St_thingAt l hf D cs B dE lim _ ((cQ (cP 8 w7.2 a0 7 (.int ((cI w7.2 a0 7) + 1))) a0 1).getD 0) w15.1 hs17) (fun _ h => h.elim) kd_St_thingAt ki_St (Nat.le_of_ble_eq_true rfl) (Nat.le_of_ble_eq_true rfl) d_Ma_install_38 (Nat.le_of_ble_eq_true rfl) (c_fV (n := 1) (ci := 9) C hE.1 rfl km_Ma_147 kv_St_thingAt kl_St_thingAt kd_St_thingAt ⟨by decide, by decide, by decide⟩ rfl rfl d_Ma_install_38 (cOq.at ho16).2) (fun v1 M1 hv hle => ?_) (fun E1 M1 hv hle => ?_)
            · rw [mbind_eq] at hF hS
              obtain ⟨hx, hM1⟩ := hv
              have hM2 := hM1.symm
              subst hM2
              generalize hq_w18 : F_St_thingAt cs dE w15.2 ((cQ (cP 8 w7.2 a0 7 (.int ((cI w7.2 a0 7) + 1))) a0 1).getD 0) w15.1 = w18 at hF hS hx hle ⊢
              cases hx
              refine GW.eqs (st' := [va_rf w18]) rfl ?_
              refine q_astore_n (r := w18) (lv' := [(3, va_rf w18), (0, .ref a0), (1, va_rf x1), (2, .int x2)]) C d_Ma_install_41 (by decide) rfl ?_
              refine q_aload_n (r := w18) C d_Ma_install_42 rfl ?_
              refine q_ifnonnull C 47 d_Ma_install_43 (by decide) (fun hc19 => ?_) (fun hc19 => ?_)
              · rw [if_neg hc19] at hF hS
                refine q_aload_n (r := w18) C d_Ma_install_47 rfl ?_
                refine g_iload_n C d_Ma_install_48 rfl ?_
                obtain ⟨ho20, hS⟩ := hS
                refine GW.known2 (a := w18.getD 0) (cOq.at ho20).1 ?_
                obtain ⟨hs21, hS⟩ := hS
                refine c_call (av := [.ref (w18.getD 0), .int x2]) (rest := []) C hE (fun _ h => h) ⟨rfl, rfl⟩ hle (cc_Th_make l hf D cs B dE lim _ (w18.getD 0) x2 hs21) (fun _ h => h) kd_Th_make ki_Th (Nat.le_of_ble_eq_true rfl) (Nat.le_of_ble_eq_true rfl) d_Ma_install_49 (Nat.le_of_ble_eq_true rfl) (c_fV (n := 1) (ci := 11) C hE.1 rfl km_Ma_151 kv_Th_make kl_Th_make kd_Th_make ⟨by decide, by decide, by decide⟩ rfl rfl d_Ma_install_49 (cOq.at ho20).2) (fun v1 M1 hv hle => ?_) (fun E1 M1 hv hle => ?_)
                · rw [mbind_eq] at hF hS
                  obtain ⟨hx, hM1⟩ := hv
                  have hM2 := hM1.symm
                  subst hM2
                  generalize hq_w22 : F_Th_make cs w15.2 (w18.getD 0) x2 = w22 at hF hS hx hle ⊢
                  cases hx
                  refine GW.eqs (st' := []) rfl ?_
                  refine q_aload_n (r := x1) C d_Ma_install_52 rfl ?_
                  refine q_aload_n (r := w18) C d_Ma_install_53 rfl ?_
                  obtain ⟨ho23, hS⟩ := hS
                  refine GW.known2 (a := x1.getD 0) (cOq.at ho23).1 ?_
                  obtain ⟨hs24, hS⟩ := hS
                  refine c_call (av := [.ref (x1.getD 0), va_rf w18]) (rest := []) C hE (fun _ h => h) ⟨rfl, rfl⟩ hle (cc_Fr_keepNames l hf D cs B dE lim _ (x1.getD 0) w18 hs24) (fun _ h => h) kd_Fr_keepNames ki_Fr (Nat.le_of_ble_eq_true rfl) (Nat.le_of_ble_eq_true rfl) d_Ma_install_54 (Nat.le_of_ble_eq_true rfl) (c_fV (n := 1) (ci := 10) C hE.1 rfl km_Ma_156 kv_Fr_keepNames kl_Fr_keepNames kd_Fr_keepNames ⟨by decide, by decide, by decide⟩ rfl rfl d_Ma_install_54 (cOq.at ho23).2) (fun v1 M1 hv hle => ?_) (fun E1 M1 hv hle => ?_)
                  · rw [mbind_eq] at hF hS
                    obtain ⟨hx, hM1⟩ := hv
                    have hM2 := hM1.symm
                    subst hM2
                    generalize hq_w25 : F_Fr_keepNames cs w22 (x1.getD 0) w18 = w25 at hF hS hx hle ⊢
                    cases hx
                    refine GW.eqs (st' := []) rfl ?_
                    refine q_aload_n (r := x1) C d_Ma_install_57 rfl ?_
                    refine g_aload_n C d_Ma_install_58 rfl ?_
                    obtain ⟨ho26, hS⟩ := hS
                    refine c_getq C hE.1 (ci := 8) i_Ma rfl 0 (by decide) (by decide) (by decide) kf_Ma_18 d_Ma_install_59 ho26 ?_
                    refine g_iload_n C d_Ma_install_62 rfl ?_
                    refine g_iconst (v := 1) C d_Ma_install_63 (by decide) ?_
                    obtain ⟨ho27, hS⟩ := hS
                    refine GW.known3 (a := (cQ w25 a0 0).getD 0) (cOq.at ho27).1 ?_
                    obtain ⟨hs28, hS⟩ := hS
                    refine c_call (av := [.ref ((cQ w25 a0 0).getD 0), .int x2, .int 1]) (rest := [va_rf x1]) C hE (fun _ h => h) ⟨rfl, rfl⟩ hle (cc_Co_field l hf D cs B dE lim _ ((cQ w25 a0 0).getD 0) x2 1 hs28) (fun _ h => h.elim) kd_Co_field ki_Co (Nat.le_of_ble_eq_true rfl) (Nat.le_of_ble_eq_true rfl) d_Ma_install_64 (by simp only [List.map_cons, List.map_nil, rf_cat, List.sum_cons, List.sum_nil]; exact Nat.le_of_ble_eq_true rfl) (c_fV (n := 2) (ci := 7) C hE.1 rfl km_Ma_86 kv_Co_field kl_Co_field kd_Co_field ⟨by decide, by decide, by decide⟩ rfl rfl d_Ma_install_64 (cOq.at ho27).2) (fun v1 M1 hv hle => ?_) (fun E1 M1 hv hle => ?_)
                    · rw [mbind_eq] at hF hS
                      obtain ⟨hx, hM1⟩ := hv
                      have hM2 := hM1.symm
                      subst hM2
                      generalize hq_w29 : F_Co_field cs w25 ((cQ w25 a0 0).getD 0) x2 1 = w29 at hF hS hx hle ⊢
                      cases hx
                      refine GW.eqs (st' := [.int w29, va_rf x1]) rfl ?_
                      obtain ⟨ho30, hS⟩ := hS
                      refine GW.known2 (a := x1.getD 0) (cOq.at ho30).1 ?_
                      refine k_putN (M0 := M) (M := w25) C hE.1 (ci := 10) i_Fr rfl 2 (by decide) (by decide) (gE_fN hE kf_Ma_67) t_Fr t_Fr_ok n_Fr rfl (nf_i _) d_Ma_install_67 (cOq.at ho30).2 ?_
                      replace hle := cLe.cP (ci := 10) (a := x1.getD 0) (k := 2) (v := .int w29) hle
                      refine g_aload_n C d_Ma_install_70 rfl ?_
                      refine q_aload_n (r := x1) C d_Ma_install_71 rfl ?_
                      refine q_aload_n (r := w18) C d_Ma_install_72 rfl ?_
                      refine g_iload_n C d_Ma_install_73 rfl ?_
                      refine g_iconst (v := 1) C d_Ma_install_74 (by decide) ?_
                      refine g_iadd C d_Ma_install_75 ?_
                      refine g_aload_n C d_Ma_install_76 rfl ?_
                      obtain ⟨ho31, hS⟩ := hS
                      refine c_getq C hE.1 (ci := 8) i_Ma rfl 0 (by decide) (by decide) (by decide) kf_Ma_18 d_Ma_install_77 ho31 ?_
                      refine g_iload_n C d_Ma_install_80 rfl ?_
                      refine g_iconst (v := 4) C d_Ma_install_81 (by decide) ?_
                      obtain ⟨ho32, hS⟩ := hS
                      refine GW.known3 (a := (cQ (cP 10 w25 (x1.getD 0) 2 (.int w29)) a0 0).getD 0) (cOq.at ho32).1 ?_
                      obtain ⟨hs33, hS⟩ := hS
                      refine c_call (av := [.ref ((cQ (cP 10 w25 (x1.getD 0) 2 (.int w29)) a0 0).getD 0), .int x2, .int 4]) (rest := [.int (x2 + 1), va_rf w18, va_rf x1, .ref a0]) C hE (fun _ h => h) ⟨rfl, rfl⟩ hle (cc_Co_field l hf D cs B dE lim _ ((cQ (cP 10 w25 (x1.getD 0) 2 (.int w29)) a0 0).getD 0) x2 4 hs33) (fun _ h => h.elim) kd_Co_field ki_Co (Nat.le_of_ble_eq_true rfl) (Nat.le_of_ble_eq_true rfl) d_Ma_install_82 (by simp only [List.map_cons, List.map_nil, rf_cat, List.sum_cons, List.sum_nil]; exact Nat.le_of_ble_eq_true rfl) (c_fV (n := 2) (ci := 7) C hE.1 rfl km_Ma_86 kv_Co_field kl_Co_field kd_Co_field ⟨by decide, by decide, by decide⟩ rfl rfl d_Ma_install_82 (cOq.at ho32).2) (fun v1 M1 hv hle => ?_) (fun E1 M1 hv hle => ?_)
                      · rw [mbind_eq] at hF hS
                        obtain ⟨hx, hM1⟩ := hv
                        have hM2 := hM1.symm
                        subst hM2
                        generalize hq_w34 : F_Co_field cs (cP 10 w25 (x1.getD 0) 2 (.int w29)) ((cQ (cP 10 w25 (x1.getD 0) 2 (.int w29)) a0 0).getD 0) x2 4 = w34 at hF hS hx hle ⊢
                        cases hx
                        refine GW.eqs (st' := [.int w34, .int (x2 + 1), va_rf w18, va_rf x1, .ref a0]) rfl ?_
                        refine g_iadd C d_Ma_install_85 ?_
                        obtain ⟨ho35, hS⟩ := hS
                        obtain ⟨hs36, hS⟩ := hS
                        refine c_call (av := [.ref a0, va_rf x1, va_rf w18, .int ((x2 + 1) + w34)]) (rest := []) C hE (fun _ h => h) ⟨rfl, rfl⟩ hle (cc_Ma_enter l hf D cs B dE lim _ a0 x1 w18 ((x2 + 1) + w34) hs36) (fun _ h => h) kd_Ma_enter ki_Ma (Nat.le_of_ble_eq_true rfl) (Nat.le_of_ble_eq_true rfl) d_Ma_install_86 (Nat.le_of_ble_eq_true rfl) (c_fV (n := 3) (ci := 8) C hE.1 rfl km_Ma_164 kv_Ma_enter kl_Ma_enter kd_Ma_enter ⟨by decide, by decide, by decide⟩ rfl rfl d_Ma_install_86 ho35) (fun v1 M1 hv hle => ?_) (fun E1 M1 hv hle => ?_)
                        · rw [mbind_eq] at hF hS
                          obtain ⟨hx, hM1⟩ := hv
                          have hM2 := hM1.symm
                          subst hM2
                          generalize hq_w37 : F_Ma_enter cs dE (cP 10 w25 (x1.getD 0) 2 (.int w29)) a0 x1 w18 ((x2 + 1) + w34) = w37 at hF hS hx hle ⊢
                          cases hx
                          refine GW.eqs (st' := []) rfl ?_
                          refine g_aload_n C d_Ma_install_89 rfl ?_
                          obtain ⟨ho38, hS⟩ := hS
                          refine c_getq C hE.1 (ci := 8) i_Ma rfl 10 (by decide) (by decide) (by decide) kf_Ma_41 d_Ma_install_90 ho38 ?_
                          refine q_aload_n (r := w18) C d_Ma_install_93 rfl ?_
                          obtain ⟨ho39, hS⟩ := hS
                          refine GW.known2 (a := (cQ w37 a0 10).getD 0) (cOq.at ho39).1 ?_
                          refine k_putN (M0 := M) (M := w37) C hE.1 (ci := 10) i_Fr rfl 3 (by decide) (by decide) (gE_fN hE kf_Ma_168) t_Fr t_Fr_ok n_Fr rfl (nf_q _ (Or.inl ⟨_, rfl⟩) _) d_Ma_install_94 (cOq.at ho39).2 ?_
                          replace hle := cLe.cP (ci := 10) (a := (cQ w37 a0 10).getD 0) (k := 3) (v := va_rf w18) hle
                          exact c_vret (M := cP 10 w37 ((cQ w37 a0 10).getD 0) 3 (va_rf w18)) C hr hlocks hle d_Ma_install_97 (by rw [← hF]; exact ⟨rfl, rfl⟩)
                        · cases hv.1
                      · cases hv.1
                    · cases hv.1
                  · cases hv.1
                · cases hv.1
              · rw [if_pos hc19] at hF hS
                exact c_vret (M := w15.2) C hr hlocks hle d_Ma_install_46 (by rw [← hF]; exact ⟨rfl, rfl⟩)
            · cases hv.1
          · cases hv.1
        · rw [if_neg hc8] at hF hS
          exact c_vret (M := w7.2) C hr hlocks hle d_Ma_install_16 (by rw [← hF]; exact ⟨rfl, rfl⟩)
      · cases hv.1
  · cases hv.1
def F_Ma_endBody (cs : Nat → ClassId) (M : gMem) (a0 : Nat) (x1 : Option Nat) : gMem := if (cQ M (x1.getD 0) 3) = none then (M) else (mbind (F_Fr_pop cs M (x1.getD 0) ) (fun w5 => mbind (F_Co_field cs w5.2 ((cQ w5.2 a0 0).getD 0) (cI w5.2 ((cQ M (x1.getD 0) 3).getD 0) 1) 2) (fun w10 => mbind (F_Fr_open cs w5.2 (x1.getD 0) (cQ M (x1.getD 0) 3) w10) (fun w13 => mbind (F_Co_field cs w13 ((cQ w13 a0 0).getD 0) (cI w13 ((cQ M (x1.getD 0) 3).getD 0) 1) 3) (fun w18 => mbind (F_Fr_give cs w13 (x1.getD 0) w18 w5.1) (fun w21 => w21))))))
def S_Ma_endBody (cs : Nat → ClassId) (lim : Nat × Nat) (M : gMem) (a0 : Nat) (x1 : Option Nat) : Prop := (cOq 10 M x1) ∧ (if (cQ M (x1.getD 0) 3) = none then (True) else ((cOq 10 M x1) ∧ ((S_Fr_pop cs lim M (x1.getD 0) ) ∧ (mbind (F_Fr_pop cs M (x1.getD 0) ) (fun w5 => (cOk 8 w5.2 a0) ∧ ((cOq 11 w5.2 (cQ M (x1.getD 0) 3)) ∧ ((cOq 7 w5.2 (cQ w5.2 a0 0)) ∧ ((S_Co_field cs lim w5.2 ((cQ w5.2 a0 0).getD 0) (cI w5.2 ((cQ M (x1.getD 0) 3).getD 0) 1) 2) ∧ (mbind (F_Co_field cs w5.2 ((cQ w5.2 a0 0).getD 0) (cI w5.2 ((cQ M (x1.getD 0) 3).getD 0) 1) 2) (fun w10 => (cOq 10 w5.2 x1) ∧ ((S_Fr_open cs lim w5.2 (x1.getD 0) (cQ M (x1.getD 0) 3) w10) ∧ (mbind (F_Fr_open cs w5.2 (x1.getD 0) (cQ M (x1.getD 0) 3) w10) (fun w13 => (cOk 8 w13 a0) ∧ ((cOq 11 w13 (cQ M (x1.getD 0) 3)) ∧ ((cOq 7 w13 (cQ w13 a0 0)) ∧ ((S_Co_field cs lim w13 ((cQ w13 a0 0).getD 0) (cI w13 ((cQ M (x1.getD 0) 3).getD 0) 1) 3) ∧ (mbind (F_Co_field cs w13 ((cQ w13 a0 0).getD 0) (cI w13 ((cQ M (x1.getD 0) 3).getD 0) 1) 3) (fun w18 => (cOq 10 w13 x1) ∧ ((S_Fr_give cs lim w13 (x1.getD 0) w18 w5.1) ∧ (mbind (F_Fr_give cs w13 (x1.getD 0) w18 w5.1) (fun w21 => True)))))))))))))))))))))
set_option maxRecDepth 100000 in
set_option maxHeartbeats 4000000 in
theorem cc_Ma_endBody (l : Launch) (hf : l.flags = pinnedFlags ++ [noTraceFlag]) (D : va_G) (cs : Nat → ClassId) (B : Nat) (dE : Nat × Nat) (lim : Nat × Nat) (M : gMem) (a0 : Nat) (x1 : Option Nat) (hS : S_Ma_endBody cs lim M a0 x1) : cMet l y_Ma_endBody (Cond.code y_Ma_endBody c_Ma_endBody 4 none) (2) (82) D cs B dE (gA B) lim [.ref a0, va_rf x1] M (fun x M' => x = .inl none ∧ M' = (F_Ma_endBody cs M a0 x1)) := by
  refine cMet.ofW (by decide) (by cases x1 <;> exact Nat.le_of_ble_eq_true rfl) (lv0 := [(0, .ref a0), (1, va_rf x1)]) (by cases x1 <;> rfl) ?_
  intro p e s m args below meth c C hE hR0 hle hr hlocks hex hn
  generalize hF : F_Ma_endBody cs M a0 x1 = Fv
  unfold F_Ma_endBody at hF
  unfold S_Ma_endBody at hS
  refine q_aload_n (r := x1) C d_Ma_endBody_0 rfl ?_
  obtain ⟨ho1, hS⟩ := hS
  refine GW.known1 (a := x1.getD 0) (cOq.at ho1).1 ?_
  refine c_getqN C hE.1 (ci := 10) i_Fr rfl 3 (by decide) (by decide) (by decide) (gE_fN hE kf_Ma_168) d_Ma_endBody_1 (cOq.at ho1).2 ?_
  refine q_astore_n (r := cQ M (x1.getD 0) 3) (lv' := [(2, va_rf (cQ M (x1.getD 0) 3)), (0, .ref a0), (1, va_rf x1)]) C d_Ma_endBody_4 (by decide) (by first | rfl | (simp only [lvs, List.filter, rf_cat]; rfl) | simp [lvs, List.filter, rf_cat]) ?_
  refine q_aload_n (r := cQ M (x1.getD 0) 3) C d_Ma_endBody_5 rfl ?_
  refine q_ifnonnull C 10 d_Ma_endBody_6 (by decide) (fun hc2 => ?_) (fun hc2 => ?_)
  · rw [if_neg hc2] at hF hS
    refine q_aload_n (r := x1) C d_Ma_endBody_10 rfl ?_
    refine GW.more (A' := gA B) (fun _ h => h.elim) ?_
    obtain ⟨ho3, hS⟩ := hS
    refine GW.known1 (a := x1.getD 0) (cOq.at ho3).1 ?_
    obtain ⟨hs4, hS⟩ := hS
    refine c_call (av := [.ref (x1.getD 0)]) (rest := []) C hE (fun _ h => h) ⟨rfl, rfl⟩ hle (cc_Fr_pop l hf D cs B dE lim _ (x1.getD 0)  hs4) (fun _ h => h) kd_Fr_pop ki_Fr (Nat.le_of_ble_eq_true rfl) (Nat.le_of_ble_eq_true rfl) d_Ma_endBody_11 (Nat.le_of_ble_eq_true rfl) (c_fV (n := 0) (ci := 10) C hE.1 rfl km_Ma_109 kv_Fr_pop kl_Fr_pop kd_Fr_pop ⟨by decide, by decide, by decide⟩ rfl rfl d_Ma_endBody_11 (cOq.at ho3).2) (fun v1 M1 hv hle => ?_) (fun E1 M1 hv hle => ?_)
    · rw [mbind_eq] at hF hS
      obtain ⟨hx, hM1⟩ := hv
      have hM2 := hM1.symm
      subst hM2
      generalize hq_w5 : F_Fr_pop cs M (x1.getD 0)  = w5 at hF hS hx hle ⊢
      cases hx
      refine GW.eqs (st' := [.int w5.1]) rfl ?_
      refine g_istore_n (lv' := [(3, .int w5.1), (2, va_rf (cQ M (x1.getD 0) 3)), (0, .ref a0), (1, va_rf x1)]) C d_Ma_endBody_14 (by decide) (by first | rfl | (simp only [lvs, List.filter, rf_cat]; rfl) | simp [lvs, List.filter, rf_cat]) ?_
      refine q_aload_n (r := x1) C d_Ma_endBody_15 rfl ?_
      refine q_aload_n (r := cQ M (x1.getD 0) 3) C d_Ma_endBody_16 rfl ?_
      refine g_aload_n C d_Ma_endBody_17 rfl ?_
      obtain ⟨ho6, hS⟩ := hS
      refine c_getq C hE.1 (ci := 8) i_Ma rfl 0 (by decide) (by decide) (by decide) kf_Ma_18 d_Ma_endBody_18 ho6 ?_
      refine q_aload_n (r := cQ M (x1.getD 0) 3) C d_Ma_endBody_21 rfl ?_
      obtain ⟨ho7, hS⟩ := hS
      refine GW.known1 (a := (cQ M (x1.getD 0) 3).getD 0) (cOq.at ho7).1 ?_
      refine c_getiN C hE.1 (ci := 11) i_Th rfl 1 (by decide) (by decide) (by decide) (gE_fN hE kf_Ma_172) d_Ma_endBody_22 (cOq.at ho7).2 ?_
      refine g_iconst (v := 2) C d_Ma_endBody_25 (by decide) ?_
      obtain ⟨ho8, hS⟩ := hS
      refine GW.known3 (a := (cQ w5.2 a0 0).getD 0) (cOq.at ho8).1 ?_
      obtain ⟨hs9, hS⟩ := hS
      refine c_call (av := [.ref ((cQ w5.2 a0 0).getD 0), .int (cI w5.2 ((cQ M (x1.getD 0) 3).getD 0) 1), .int 2]) (rest := [va_rf (cQ M (x1.getD 0) 3), va_rf x1]) C hE (fun _ h => h) ⟨rfl, rfl⟩ hle (cc_Co_field l hf D cs B dE lim _ ((cQ w5.2 a0 0).getD 0) (cI w5.2 ((cQ M (x1.getD 0) 3).getD 0) 1) 2 hs9) (fun _ h => h.elim) kd_Co_field ki_Co (Nat.le_of_ble_eq_true rfl) (Nat.le_of_ble_eq_true rfl) d_Ma_endBody_26 (by simp only [List.map_cons, List.map_nil, rf_cat, List.sum_cons, List.sum_nil]; exact Nat.le_of_ble_eq_true rfl) (c_fV (n := 2) (ci := 7) C hE.1 rfl km_Ma_86 kv_Co_field kl_Co_field kd_Co_field ⟨by decide, by decide, by decide⟩ rfl rfl d_Ma_endBody_26 (cOq.at ho8).2) (fun v1 M1 hv hle => ?_) (fun E1 M1 hv hle => ?_)
      · rw [mbind_eq] at hF hS
        obtain ⟨hx, hM1⟩ := hv
        have hM2 := hM1.symm
        subst hM2
        generalize hq_w10 : F_Co_field cs w5.2 ((cQ w5.2 a0 0).getD 0) (cI w5.2 ((cQ M (x1.getD 0) 3).getD 0) 1) 2 = w10 at hF hS hx hle ⊢
        cases hx
        refine GW.eqs (st' := [.int w10, va_rf (cQ M (x1.getD 0) 3), va_rf x1]) rfl ?_
        obtain ⟨ho11, hS⟩ := hS
        refine GW.known3 (a := x1.getD 0) (cOq.at ho11).1 ?_
        obtain ⟨hs12, hS⟩ := hS
        refine c_call (av := [.ref (x1.getD 0), va_rf (cQ M (x1.getD 0) 3), .int w10]) (rest := []) C hE (fun _ h => h) ⟨rfl, rfl⟩ hle (cc_Fr_open l hf D cs B dE lim _ (x1.getD 0) (cQ M (x1.getD 0) 3) w10 hs12) (fun _ h => h) kd_Fr_open ki_Fr (Nat.le_of_ble_eq_true rfl) (Nat.le_of_ble_eq_true rfl) d_Ma_endBody_29 (Nat.le_of_ble_eq_true rfl) (c_fV (n := 2) (ci := 10) C hE.1 rfl km_Ma_45 kv_Fr_open kl_Fr_open kd_Fr_open ⟨by decide, by decide, by decide⟩ rfl rfl d_Ma_endBody_29 (cOq.at ho11).2) (fun v1 M1 hv hle => ?_) (fun E1 M1 hv hle => ?_)
        · rw [mbind_eq] at hF hS
          obtain ⟨hx, hM1⟩ := hv
          have hM2 := hM1.symm
          subst hM2
          generalize hq_w13 : F_Fr_open cs w5.2 (x1.getD 0) (cQ M (x1.getD 0) 3) w10 = w13 at hF hS hx hle ⊢
          cases hx
          refine GW.eqs (st' := []) rfl ?_
          refine q_aload_n (r := x1) C d_Ma_endBody_32 rfl ?_
          refine g_aload_n C d_Ma_endBody_33 rfl ?_
          obtain ⟨ho14, hS⟩ := hS
          refine c_getq C hE.1 (ci := 8) i_Ma rfl 0 (by decide) (by decide) (by decide) kf_Ma_18 d_Ma_endBody_34 ho14 ?_
          refine q_aload_n (r := cQ M (x1.getD 0) 3) C d_Ma_endBody_37 rfl ?_
          obtain ⟨ho15, hS⟩ := hS
          refine GW.known1 (a := (cQ M (x1.getD 0) 3).getD 0) (cOq.at ho15).1 ?_
          refine c_getiN C hE.1 (ci := 11) i_Th rfl 1 (by decide) (by decide) (by decide) (gE_fN hE kf_Ma_172) d_Ma_endBody_38 (cOq.at ho15).2 ?_
          refine g_iconst (v := 3) C d_Ma_endBody_41 (by decide) ?_
          obtain ⟨ho16, hS⟩ := hS
          refine GW.known3 (a := (cQ w13 a0 0).getD 0) (cOq.at ho16).1 ?_
          obtain ⟨hs17, hS⟩ := hS
          refine c_call (av := [.ref ((cQ w13 a0 0).getD 0), .int (cI w13 ((cQ M (x1.getD 0) 3).getD 0) 1), .int 3]) (rest := [va_rf x1]) C hE (fun _ h => h) ⟨rfl, rfl⟩ hle (cc_Co_field l hf D cs B dE lim _ ((cQ w13 a0 0).getD 0) (cI w13 ((cQ M (x1.getD 0) 3).getD 0) 1) 3 hs17) (fun _ h => h.elim) kd_Co_field ki_Co (Nat.le_of_ble_eq_true rfl) (Nat.le_of_ble_eq_true rfl) d_Ma_endBody_42 (by simp only [List.map_cons, List.map_nil, rf_cat, List.sum_cons, List.sum_nil]; exact Nat.le_of_ble_eq_true rfl) (c_fV (n := 2) (ci := 7) C hE.1 rfl km_Ma_86 kv_Co_field kl_Co_field kd_Co_field ⟨by decide, by decide, by decide⟩ rfl rfl d_Ma_endBody_42 (cOq.at ho16).2) (fun v1 M1 hv hle => ?_) (fun E1 M1 hv hle => ?_)
          · rw [mbind_eq] at hF hS
            obtain ⟨hx, hM1⟩ := hv
            have hM2 := hM1.symm
            subst hM2
            generalize hq_w18 : F_Co_field cs w13 ((cQ w13 a0 0).getD 0) (cI w13 ((cQ M (x1.getD 0) 3).getD 0) 1) 3 = w18 at hF hS hx hle ⊢
            cases hx
            refine GW.eqs (st' := [.int w18, va_rf x1]) rfl ?_
            refine g_iload_n C d_Ma_endBody_45 rfl ?_
            obtain ⟨ho19, hS⟩ := hS
            refine GW.known3 (a := x1.getD 0) (cOq.at ho19).1 ?_
            obtain ⟨hs20, hS⟩ := hS
            refine c_call (av := [.ref (x1.getD 0), .int w18, .int w5.1]) (rest := []) C hE (fun _ h => h) ⟨rfl, rfl⟩ hle (cc_Fr_give l hf D cs B dE lim _ (x1.getD 0) w18 w5.1 hs20) (fun _ h => h) kd_Fr_give ki_Fr (Nat.le_of_ble_eq_true rfl) (Nat.le_of_ble_eq_true rfl) d_Ma_endBody_46 (Nat.le_of_ble_eq_true rfl) (c_fV (n := 2) (ci := 10) C hE.1 rfl km_Ma_136 kv_Fr_give kl_Fr_give kd_Fr_give ⟨by decide, by decide, by decide⟩ rfl rfl d_Ma_endBody_46 (cOq.at ho19).2) (fun v1 M1 hv hle => ?_) (fun E1 M1 hv hle => ?_)
            · rw [mbind_eq] at hF hS
              obtain ⟨hx, hM1⟩ := hv
              have hM2 := hM1.symm
              subst hM2
              generalize hq_w21 : F_Fr_give cs w13 (x1.getD 0) w18 w5.1 = w21 at hF hS hx hle ⊢
              cases hx
              refine GW.eqs (st' := []) rfl ?_
              exact c_vret (M := w21) C hr hlocks hle d_Ma_endBody_49 (by rw [← hF]; exact ⟨rfl, rfl⟩)
            · cases hv.1
          · cases hv.1
        · cases hv.1
      · cases hv.1
    · cases hv.1
  · rw [if_pos hc2] at hF hS
    refine GW.more (A' := gA B) (fun _ h => h.elim) ?_
    exact c_vret (M := M) C hr hlocks hle d_Ma_endBody_9 (by rw [← hF]; exact ⟨rfl, rfl⟩)
def F_Ma_takesFuel (cs : Nat → ClassId) (M : gMem) (a0 : Nat) (x1 : Option Nat) (x2 : Int32) : Int32 × gMem := if (cI M a0 12) < (cI M a0 11) then ((1, cP 8 (cP 8 M a0 12 (.int ((cI M a0 12) + 1))) a0 6 (.int ((cI (cP 8 M a0 12 (.int ((cI M a0 12) + 1))) a0 6) + 1)))) else ((0, cP 10 (cP 8 M a0 13 (.int 1)) (x1.getD 0) 2 (.int x2)))
def S_Ma_takesFuel (cs : Nat → ClassId) (lim : Nat × Nat) (M : gMem) (a0 : Nat) (x1 : Option Nat) (x2 : Int32) : Prop := (cOk 8 M a0) ∧ ((cOk 8 M a0) ∧ (if (cI M a0 12) < (cI M a0 11) then ((cOk 8 M a0) ∧ ((cOk 8 M a0) ∧ ((cOk 8 (cP 8 M a0 12 (.int ((cI M a0 12) + 1))) a0) ∧ ((cOk 8 (cP 8 M a0 12 (.int ((cI M a0 12) + 1))) a0) ∧ (True))))) else ((cOk 8 M a0) ∧ ((cOq 10 (cP 8 M a0 13 (.int 1)) x1) ∧ (True)))))
set_option maxRecDepth 100000 in
set_option maxHeartbeats 4000000 in
theorem cc_Ma_takesFuel (l : Launch) (hf : l.flags = pinnedFlags ++ [noTraceFlag]) (D : va_G) (cs : Nat → ClassId) (B : Nat) (dE : Nat × Nat) (lim : Nat × Nat) (M : gMem) (a0 : Nat) (x1 : Option Nat) (x2 : Int32) (hS : S_Ma_takesFuel cs lim M a0 x1 x2) : cMet l y_Ma_takesFuel (Cond.code y_Ma_takesFuel c_Ma_takesFuel 3 (some .boolean)) (0) (0) D cs B dE (gA B) lim [.ref a0, va_rf x1, .int x2] M (fun x M' => x = .inl (some (.int ((F_Ma_takesFuel cs M a0 x1 x2).1))) ∧ M' = (F_Ma_takesFuel cs M a0 x1 x2).2) := by
  refine cMet.ofW (by decide) (by cases x1 <;> exact Nat.le_of_ble_eq_true rfl) (lv0 := [(0, .ref a0), (1, va_rf x1), (2, .int x2)]) (by cases x1 <;> rfl) ?_
  intro p e s m args below meth c C hE hR0 hle hr hlocks hex hn
  generalize hF : F_Ma_takesFuel cs M a0 x1 x2 = Fv
  unfold F_Ma_takesFuel at hF
  unfold S_Ma_takesFuel at hS
  refine g_aload_n C d_Ma_takesFuel_0 rfl ?_
  obtain ⟨ho1, hS⟩ := hS
  refine c_geti C hE.1 (ci := 8) i_Ma rfl 12 (by decide) (by decide) (by decide) kf_Ma_60 d_Ma_takesFuel_1 ho1 ?_
  refine g_aload_n C d_Ma_takesFuel_4 rfl ?_
  obtain ⟨ho2, hS⟩ := hS
  refine c_geti C hE.1 (ci := 8) i_Ma rfl 11 (by decide) (by decide) (by decide) kf_Ma_57 d_Ma_takesFuel_5 ho2 ?_
  refine g_icmp_lt C 23 d_Ma_takesFuel_8 (by decide) (fun hc3 => ?_) (fun hc3 => ?_)
  · rw [if_pos hc3] at hF hS
    refine g_aload_n C d_Ma_takesFuel_23 rfl ?_
    refine g_dup C d_Ma_takesFuel_24 rfl ?_
    obtain ⟨ho4, hS⟩ := hS
    refine c_geti C hE.1 (ci := 8) i_Ma rfl 12 (by decide) (by decide) (by decide) kf_Ma_60 d_Ma_takesFuel_25 ho4 ?_
    refine g_iconst (v := 1) C d_Ma_takesFuel_28 (by decide) ?_
    refine g_iadd C d_Ma_takesFuel_29 ?_
    refine GW.more (A' := gA B) (fun _ h => h.elim) ?_
    obtain ⟨ho5, hS⟩ := hS
    refine k_put (M0 := M) (M := M) C hE.1 (ci := 8) i_Ma rfl 12 (by decide) (by decide) kf_Ma_60 t_Ma t_Ma_ok n_Ma rfl (nf_i _) d_Ma_takesFuel_30 ho5 ?_
    replace hle := cLe.cP (ci := 8) (a := a0) (k := 12) (v := .int ((cI M a0 12) + 1)) hle
    refine g_aload_n C d_Ma_takesFuel_33 rfl ?_
    refine g_dup C d_Ma_takesFuel_34 rfl ?_
    obtain ⟨ho6, hS⟩ := hS
    refine c_geti C hE.1 (ci := 8) i_Ma rfl 6 (by decide) (by decide) (by decide) kf_Ma_77 d_Ma_takesFuel_35 ho6 ?_
    refine g_iconst (v := 1) C d_Ma_takesFuel_38 (by decide) ?_
    refine g_iadd C d_Ma_takesFuel_39 ?_
    obtain ⟨ho7, hS⟩ := hS
    refine k_put (M0 := M) (M := cP 8 M a0 12 (.int ((cI M a0 12) + 1))) C hE.1 (ci := 8) i_Ma rfl 6 (by decide) (by decide) kf_Ma_77 t_Ma t_Ma_ok n_Ma rfl (nf_i _) d_Ma_takesFuel_40 ho7 ?_
    replace hle := cLe.cP (ci := 8) (a := a0) (k := 6) (v := .int ((cI (cP 8 M a0 12 (.int ((cI M a0 12) + 1))) a0 6) + 1)) hle
    refine g_iconst (v := 1) C d_Ma_takesFuel_43 (by decide) ?_
    exact c_zret (M := cP 8 (cP 8 M a0 12 (.int ((cI M a0 12) + 1))) a0 6 (.int ((cI (cP 8 M a0 12 (.int ((cI M a0 12) + 1))) a0 6) + 1))) C hr hlocks hle (by decide) d_Ma_takesFuel_44 (by rw [← hF]; exact ⟨rfl, rfl⟩)
  · rw [if_neg hc3] at hF hS
    refine g_aload_n C d_Ma_takesFuel_11 rfl ?_
    refine g_iconst (v := 1) C d_Ma_takesFuel_12 (by decide) ?_
    refine GW.more (A' := gA B) (fun _ h => h.elim) ?_
    obtain ⟨ho8, hS⟩ := hS
    refine k_put (M0 := M) (M := M) C hE.1 (ci := 8) i_Ma rfl 13 (by decide) (by decide) kf_Ma_63 t_Ma t_Ma_ok n_Ma rfl (nf_z (by decide)) d_Ma_takesFuel_13 ho8 ?_
    replace hle := cLe.cP (ci := 8) (a := a0) (k := 13) (v := .int 1) hle
    refine q_aload_n (r := x1) C d_Ma_takesFuel_16 rfl ?_
    refine g_iload_n C d_Ma_takesFuel_17 rfl ?_
    obtain ⟨ho9, hS⟩ := hS
    refine GW.known2 (a := x1.getD 0) (cOq.at ho9).1 ?_
    refine k_putN (M0 := M) (M := cP 8 M a0 13 (.int 1)) C hE.1 (ci := 10) i_Fr rfl 2 (by decide) (by decide) (gE_fN hE kf_Ma_67) t_Fr t_Fr_ok n_Fr rfl (nf_i _) d_Ma_takesFuel_18 (cOq.at ho9).2 ?_
    replace hle := cLe.cP (ci := 10) (a := x1.getD 0) (k := 2) (v := .int x2) hle
    refine g_iconst (v := 0) C d_Ma_takesFuel_21 (by decide) ?_
    exact c_zret (M := cP 10 (cP 8 M a0 13 (.int 1)) (x1.getD 0) 2 (.int x2)) C hr hlocks hle (by decide) d_Ma_takesFuel_22 (by rw [← hF]; exact ⟨rfl, rfl⟩)
def F_Ma_resume (cs : Nat → ClassId) (M : gMem) (a0 : Nat) (x1 : Option Nat) (x2 : Option Nat) (x3 : Int32) : gMem := if (cI M (x2.getD 0) 3) = 0 then (mbind (F_Ma_isDeep cs M a0 (cI M (x2.getD 0) 6)) (fun w6 => if w6.1 = 0 then (if (cQ w6.2 (x2.getD 0) 5) = none then (w6.2) else (if (cQ w6.2 (x2.getD 0) 4) = none then (w6.2) else (mbind (F_Fr_push cs (cP 8 (cP 10 (cP 8 (cP 11 w6.2 (x2.getD 0) 3 (.int 1)) a0 8 (.int ((cI (cP 11 w6.2 (x2.getD 0) 3 (.int 1)) a0 8) + (cI (cP 11 w6.2 (x2.getD 0) 3 (.int 1)) (x2.getD 0) 6)))) ((cQ (cP 8 (cP 11 w6.2 (x2.getD 0) 3 (.int 1)) a0 8 (.int ((cI (cP 11 w6.2 (x2.getD 0) 3 (.int 1)) a0 8) + (cI (cP 11 w6.2 (x2.getD 0) 3 (.int 1)) (x2.getD 0) 6)))) (x2.getD 0) 5).getD 0) 4 (va_rf x1)) a0 10 (va_rf (cQ (cP 10 (cP 8 (cP 11 w6.2 (x2.getD 0) 3 (.int 1)) a0 8 (.int ((cI (cP 11 w6.2 (x2.getD 0) 3 (.int 1)) a0 8) + (cI (cP 11 w6.2 (x2.getD 0) 3 (.int 1)) (x2.getD 0) 6)))) ((cQ (cP 8 (cP 11 w6.2 (x2.getD 0) 3 (.int 1)) a0 8 (.int ((cI (cP 11 w6.2 (x2.getD 0) 3 (.int 1)) a0 8) + (cI (cP 11 w6.2 (x2.getD 0) 3 (.int 1)) (x2.getD 0) 6)))) (x2.getD 0) 5).getD 0) 4 (va_rf x1)) (x2.getD 0) 4))) ((cQ (cP 8 (cP 10 (cP 8 (cP 11 w6.2 (x2.getD 0) 3 (.int 1)) a0 8 (.int ((cI (cP 11 w6.2 (x2.getD 0) 3 (.int 1)) a0 8) + (cI (cP 11 w6.2 (x2.getD 0) 3 (.int 1)) (x2.getD 0) 6)))) ((cQ (cP 8 (cP 11 w6.2 (x2.getD 0) 3 (.int 1)) a0 8 (.int ((cI (cP 11 w6.2 (x2.getD 0) 3 (.int 1)) a0 8) + (cI (cP 11 w6.2 (x2.getD 0) 3 (.int 1)) (x2.getD 0) 6)))) (x2.getD 0) 5).getD 0) 4 (va_rf x1)) a0 10 (va_rf (cQ (cP 10 (cP 8 (cP 11 w6.2 (x2.getD 0) 3 (.int 1)) a0 8 (.int ((cI (cP 11 w6.2 (x2.getD 0) 3 (.int 1)) a0 8) + (cI (cP 11 w6.2 (x2.getD 0) 3 (.int 1)) (x2.getD 0) 6)))) ((cQ (cP 8 (cP 11 w6.2 (x2.getD 0) 3 (.int 1)) a0 8 (.int ((cI (cP 11 w6.2 (x2.getD 0) 3 (.int 1)) a0 8) + (cI (cP 11 w6.2 (x2.getD 0) 3 (.int 1)) (x2.getD 0) 6)))) (x2.getD 0) 5).getD 0) 4 (va_rf x1)) (x2.getD 0) 4))) a0 10).getD 0) x3) (fun w23 => w23)))) else (w6.2))) else (cP 8 M a0 4 (.int 3))
def S_Ma_resume (cs : Nat → ClassId) (lim : Nat × Nat) (M : gMem) (a0 : Nat) (x1 : Option Nat) (x2 : Option Nat) (x3 : Int32) : Prop := (cOq 11 M x2) ∧ (if (cI M (x2.getD 0) 3) = 0 then ((cOq 11 M x2) ∧ ((cOk 8 M a0) ∧ ((S_Ma_isDeep cs lim M a0 (cI M (x2.getD 0) 6)) ∧ (mbind (F_Ma_isDeep cs M a0 (cI M (x2.getD 0) 6)) (fun w6 => if w6.1 = 0 then ((cOq 11 w6.2 x2) ∧ (if (cQ w6.2 (x2.getD 0) 5) = none then (True) else ((cOq 11 w6.2 x2) ∧ (if (cQ w6.2 (x2.getD 0) 4) = none then (True) else ((cOq 11 w6.2 x2) ∧ ((cOk 8 (cP 11 w6.2 (x2.getD 0) 3 (.int 1)) a0) ∧ ((cOq 11 (cP 11 w6.2 (x2.getD 0) 3 (.int 1)) x2) ∧ ((cOk 8 (cP 11 w6.2 (x2.getD 0) 3 (.int 1)) a0) ∧ ((cOq 11 (cP 8 (cP 11 w6.2 (x2.getD 0) 3 (.int 1)) a0 8 (.int ((cI (cP 11 w6.2 (x2.getD 0) 3 (.int 1)) a0 8) + (cI (cP 11 w6.2 (x2.getD 0) 3 (.int 1)) (x2.getD 0) 6)))) x2) ∧ ((cOq 10 (cP 8 (cP 11 w6.2 (x2.getD 0) 3 (.int 1)) a0 8 (.int ((cI (cP 11 w6.2 (x2.getD 0) 3 (.int 1)) a0 8) + (cI (cP 11 w6.2 (x2.getD 0) 3 (.int 1)) (x2.getD 0) 6)))) (cQ (cP 8 (cP 11 w6.2 (x2.getD 0) 3 (.int 1)) a0 8 (.int ((cI (cP 11 w6.2 (x2.getD 0) 3 (.int 1)) a0 8) + (cI (cP 11 w6.2 (x2.getD 0) 3 (.int 1)) (x2.getD 0) 6)))) (x2.getD 0) 5)) ∧ ((cOq 11 (cP 10 (cP 8 (cP 11 w6.2 (x2.getD 0) 3 (.int 1)) a0 8 (.int ((cI (cP 11 w6.2 (x2.getD 0) 3 (.int 1)) a0 8) + (cI (cP 11 w6.2 (x2.getD 0) 3 (.int 1)) (x2.getD 0) 6)))) ((cQ (cP 8 (cP 11 w6.2 (x2.getD 0) 3 (.int 1)) a0 8 (.int ((cI (cP 11 w6.2 (x2.getD 0) 3 (.int 1)) a0 8) + (cI (cP 11 w6.2 (x2.getD 0) 3 (.int 1)) (x2.getD 0) 6)))) (x2.getD 0) 5).getD 0) 4 (va_rf x1)) x2) ∧ ((cOk 8 (cP 10 (cP 8 (cP 11 w6.2 (x2.getD 0) 3 (.int 1)) a0 8 (.int ((cI (cP 11 w6.2 (x2.getD 0) 3 (.int 1)) a0 8) + (cI (cP 11 w6.2 (x2.getD 0) 3 (.int 1)) (x2.getD 0) 6)))) ((cQ (cP 8 (cP 11 w6.2 (x2.getD 0) 3 (.int 1)) a0 8 (.int ((cI (cP 11 w6.2 (x2.getD 0) 3 (.int 1)) a0 8) + (cI (cP 11 w6.2 (x2.getD 0) 3 (.int 1)) (x2.getD 0) 6)))) (x2.getD 0) 5).getD 0) 4 (va_rf x1)) a0) ∧ ((cOk 8 (cP 8 (cP 10 (cP 8 (cP 11 w6.2 (x2.getD 0) 3 (.int 1)) a0 8 (.int ((cI (cP 11 w6.2 (x2.getD 0) 3 (.int 1)) a0 8) + (cI (cP 11 w6.2 (x2.getD 0) 3 (.int 1)) (x2.getD 0) 6)))) ((cQ (cP 8 (cP 11 w6.2 (x2.getD 0) 3 (.int 1)) a0 8 (.int ((cI (cP 11 w6.2 (x2.getD 0) 3 (.int 1)) a0 8) + (cI (cP 11 w6.2 (x2.getD 0) 3 (.int 1)) (x2.getD 0) 6)))) (x2.getD 0) 5).getD 0) 4 (va_rf x1)) a0 10 (va_rf (cQ (cP 10 (cP 8 (cP 11 w6.2 (x2.getD 0) 3 (.int 1)) a0 8 (.int ((cI (cP 11 w6.2 (x2.getD 0) 3 (.int 1)) a0 8) + (cI (cP 11 w6.2 (x2.getD 0) 3 (.int 1)) (x2.getD 0) 6)))) ((cQ (cP 8 (cP 11 w6.2 (x2.getD 0) 3 (.int 1)) a0 8 (.int ((cI (cP 11 w6.2 (x2.getD 0) 3 (.int 1)) a0 8) + (cI (cP 11 w6.2 (x2.getD 0) 3 (.int 1)) (x2.getD 0) 6)))) (x2.getD 0) 5).getD 0) 4 (va_rf x1)) (x2.getD 0) 4))) a0) ∧ ((cOq 10 (cP 8 (cP 10 (cP 8 (cP 11 w6.2 (x2.getD 0) 3 (.int 1)) a0 8 (.int ((cI (cP 11 w6.2 (x2.getD 0) 3 (.int 1)) a0 8) + (cI (cP 11 w6.2 (x2.getD 0) 3 (.int 1)) (x2.getD 0) 6)))) ((cQ (cP 8 (cP 11 w6.2 (x2.getD 0) 3 (.int 1)) a0 8 (.int ((cI (cP 11 w6.2 (x2.getD 0) 3 (.int 1)) a0 8) + (cI (cP 11 w6.2 (x2.getD 0) 3 (.int 1)) (x2.getD 0) 6)))) (x2.getD 0) 5).getD 0) 4 (va_rf x1)) a0 10 (va_rf (cQ (cP 10 (cP 8 (cP 11 w6.2 (x2.getD 0) 3 (.int 1)) a0 8 (.int ((cI (cP 11 w6.2 (x2.getD 0) 3 (.int 1)) a0 8) + (cI (cP 11 w6.2 (x2.getD 0) 3 (.int 1)) (x2.getD 0) 6)))) ((cQ (cP 8 (cP 11 w6.2 (x2.getD 0) 3 (.int 1)) a0 8 (.int ((cI (cP 11 w6.2 (x2.getD 0) 3 (.int 1)) a0 8) + (cI (cP 11 w6.2 (x2.getD 0) 3 (.int 1)) (x2.getD 0) 6)))) (x2.getD 0) 5).getD 0) 4 (va_rf x1)) (x2.getD 0) 4))) (cQ (cP 8 (cP 10 (cP 8 (cP 11 w6.2 (x2.getD 0) 3 (.int 1)) a0 8 (.int ((cI (cP 11 w6.2 (x2.getD 0) 3 (.int 1)) a0 8) + (cI (cP 11 w6.2 (x2.getD 0) 3 (.int 1)) (x2.getD 0) 6)))) ((cQ (cP 8 (cP 11 w6.2 (x2.getD 0) 3 (.int 1)) a0 8 (.int ((cI (cP 11 w6.2 (x2.getD 0) 3 (.int 1)) a0 8) + (cI (cP 11 w6.2 (x2.getD 0) 3 (.int 1)) (x2.getD 0) 6)))) (x2.getD 0) 5).getD 0) 4 (va_rf x1)) a0 10 (va_rf (cQ (cP 10 (cP 8 (cP 11 w6.2 (x2.getD 0) 3 (.int 1)) a0 8 (.int ((cI (cP 11 w6.2 (x2.getD 0) 3 (.int 1)) a0 8) + (cI (cP 11 w6.2 (x2.getD 0) 3 (.int 1)) (x2.getD 0) 6)))) ((cQ (cP 8 (cP 11 w6.2 (x2.getD 0) 3 (.int 1)) a0 8 (.int ((cI (cP 11 w6.2 (x2.getD 0) 3 (.int 1)) a0 8) + (cI (cP 11 w6.2 (x2.getD 0) 3 (.int 1)) (x2.getD 0) 6)))) (x2.getD 0) 5).getD 0) 4 (va_rf x1)) (x2.getD 0) 4))) a0 10)) ∧ ((S_Fr_push cs lim (cP 8 (cP 10 (cP 8 (cP 11 w6.2 (x2.getD 0) 3 (.int 1)) a0 8 (.int ((cI (cP 11 w6.2 (x2.getD 0) 3 (.int 1)) a0 8) + (cI (cP 11 w6.2 (x2.getD 0) 3 (.int 1)) (x2.getD 0) 6)))) ((cQ (cP 8 (cP 11 w6.2 (x2.getD 0) 3 (.int 1)) a0 8 (.int ((cI (cP 11 w6.2 (x2.getD 0) 3 (.int 1)) a0 8) + (cI (cP 11 w6.2 (x2.getD 0) 3 (.int 1)) (x2.getD 0) 6)))) (x2.getD 0) 5).getD 0) 4 (va_rf x1)) a0 10 (va_rf (cQ (cP 10 (cP 8 (cP 11 w6.2 (x2.getD 0) 3 (.int 1)) a0 8 (.int ((cI (cP 11 w6.2 (x2.getD 0) 3 (.int 1)) a0 8) + (cI (cP 11 w6.2 (x2.getD 0) 3 (.int 1)) (x2.getD 0) 6)))) ((cQ (cP 8 (cP 11 w6.2 (x2.getD 0) 3 (.int 1)) a0 8 (.int ((cI (cP 11 w6.2 (x2.getD 0) 3 (.int 1)) a0 8) + (cI (cP 11 w6.2 (x2.getD 0) 3 (.int 1)) (x2.getD 0) 6)))) (x2.getD 0) 5).getD 0) 4 (va_rf x1)) (x2.getD 0) 4))) ((cQ (cP 8 (cP 10 (cP 8 (cP 11 w6.2 (x2.getD 0) 3 (.int 1)) a0 8 (.int ((cI (cP 11 w6.2 (x2.getD 0) 3 (.int 1)) a0 8) + (cI (cP 11 w6.2 (x2.getD 0) 3 (.int 1)) (x2.getD 0) 6)))) ((cQ (cP 8 (cP 11 w6.2 (x2.getD 0) 3 (.int 1)) a0 8 (.int ((cI (cP 11 w6.2 (x2.getD 0) 3 (.int 1)) a0 8) + (cI (cP 11 w6.2 (x2.getD 0) 3 (.int 1)) (x2.getD 0) 6)))) (x2.getD 0) 5).getD 0) 4 (va_rf x1)) a0 10 (va_rf (cQ (cP 10 (cP 8 (cP 11 w6.2 (x2.getD 0) 3 (.int 1)) a0 8 (.int ((cI (cP 11 w6.2 (x2.getD 0) 3 (.int 1)) a0 8) + (cI (cP 11 w6.2 (x2.getD 0) 3 (.int 1)) (x2.getD 0) 6)))) ((cQ (cP 8 (cP 11 w6.2 (x2.getD 0) 3 (.int 1)) a0 8 (.int ((cI (cP 11 w6.2 (x2.getD 0) 3 (.int 1)) a0 8) + (cI (cP 11 w6.2 (x2.getD 0) 3 (.int 1)) (x2.getD 0) 6)))) (x2.getD 0) 5).getD 0) 4 (va_rf x1)) (x2.getD 0) 4))) a0 10).getD 0) x3) ∧ (mbind (F_Fr_push cs (cP 8 (cP 10 (cP 8 (cP 11 w6.2 (x2.getD 0) 3 (.int 1)) a0 8 (.int ((cI (cP 11 w6.2 (x2.getD 0) 3 (.int 1)) a0 8) + (cI (cP 11 w6.2 (x2.getD 0) 3 (.int 1)) (x2.getD 0) 6)))) ((cQ (cP 8 (cP 11 w6.2 (x2.getD 0) 3 (.int 1)) a0 8 (.int ((cI (cP 11 w6.2 (x2.getD 0) 3 (.int 1)) a0 8) + (cI (cP 11 w6.2 (x2.getD 0) 3 (.int 1)) (x2.getD 0) 6)))) (x2.getD 0) 5).getD 0) 4 (va_rf x1)) a0 10 (va_rf (cQ (cP 10 (cP 8 (cP 11 w6.2 (x2.getD 0) 3 (.int 1)) a0 8 (.int ((cI (cP 11 w6.2 (x2.getD 0) 3 (.int 1)) a0 8) + (cI (cP 11 w6.2 (x2.getD 0) 3 (.int 1)) (x2.getD 0) 6)))) ((cQ (cP 8 (cP 11 w6.2 (x2.getD 0) 3 (.int 1)) a0 8 (.int ((cI (cP 11 w6.2 (x2.getD 0) 3 (.int 1)) a0 8) + (cI (cP 11 w6.2 (x2.getD 0) 3 (.int 1)) (x2.getD 0) 6)))) (x2.getD 0) 5).getD 0) 4 (va_rf x1)) (x2.getD 0) 4))) ((cQ (cP 8 (cP 10 (cP 8 (cP 11 w6.2 (x2.getD 0) 3 (.int 1)) a0 8 (.int ((cI (cP 11 w6.2 (x2.getD 0) 3 (.int 1)) a0 8) + (cI (cP 11 w6.2 (x2.getD 0) 3 (.int 1)) (x2.getD 0) 6)))) ((cQ (cP 8 (cP 11 w6.2 (x2.getD 0) 3 (.int 1)) a0 8 (.int ((cI (cP 11 w6.2 (x2.getD 0) 3 (.int 1)) a0 8) + (cI (cP 11 w6.2 (x2.getD 0) 3 (.int 1)) (x2.getD 0) 6)))) (x2.getD 0) 5).getD 0) 4 (va_rf x1)) a0 10 (va_rf (cQ (cP 10 (cP 8 (cP 11 w6.2 (x2.getD 0) 3 (.int 1)) a0 8 (.int ((cI (cP 11 w6.2 (x2.getD 0) 3 (.int 1)) a0 8) + (cI (cP 11 w6.2 (x2.getD 0) 3 (.int 1)) (x2.getD 0) 6)))) ((cQ (cP 8 (cP 11 w6.2 (x2.getD 0) 3 (.int 1)) a0 8 (.int ((cI (cP 11 w6.2 (x2.getD 0) 3 (.int 1)) a0 8) + (cI (cP 11 w6.2 (x2.getD 0) 3 (.int 1)) (x2.getD 0) 6)))) (x2.getD 0) 5).getD 0) 4 (va_rf x1)) (x2.getD 0) 4))) a0 10).getD 0) x3) (fun w23 => True))))))))))))))))) else (True)))))) else ((cOk 8 M a0) ∧ (True)))
set_option maxRecDepth 100000 in
set_option maxHeartbeats 4000000 in
theorem cc_Ma_resume (l : Launch) (hf : l.flags = pinnedFlags ++ [noTraceFlag]) (D : va_G) (cs : Nat → ClassId) (B : Nat) (dE : Nat × Nat) (lim : Nat × Nat) (M : gMem) (a0 : Nat) (x1 : Option Nat) (x2 : Option Nat) (x3 : Int32) (hS : S_Ma_resume cs lim M a0 x1 x2 x3) : cMet l y_Ma_resume (Cond.code y_Ma_resume c_Ma_resume 4 none) (1) (21) D cs B dE (gA B) lim [.ref a0, va_rf x1, va_rf x2, .int x3] M (fun x M' => x = .inl none ∧ M' = (F_Ma_resume cs M a0 x1 x2 x3)) := by
  refine cMet.ofW (by decide) (by cases x1 <;> cases x2 <;> exact Nat.le_of_ble_eq_true rfl) (lv0 := [(0, .ref a0), (1, va_rf x1), (2, va_rf x2), (3, .int x3)]) (by cases x1 <;> cases x2 <;> rfl) ?_
  intro p e s m args below meth c C hE hR0 hle hr hlocks hex hn
  generalize hF : F_Ma_resume cs M a0 x1 x2 x3 = Fv
  unfold F_Ma_resume at hF
  unfold S_Ma_resume at hS
  refine q_aload_n (r := x2) C d_Ma_resume_0 rfl ?_
  obtain ⟨ho1, hS⟩ := hS
  refine GW.known1 (a := x2.getD 0) (cOq.at ho1).1 ?_
  refine c_getiN C hE.1 (ci := 11) i_Th rfl 3 (by decide) (by decide) (by decide) (gE_fN hE kf_Ma_183) d_Ma_resume_1 (cOq.at ho1).2 ?_
  refine g_if_eq C 13 d_Ma_resume_4 (by decide) (fun hc2 => ?_) (fun hc2 => ?_)
  · rw [if_pos hc2] at hF hS
    refine g_aload_n C d_Ma_resume_13 rfl ?_
    refine q_aload_n (r := x2) C d_Ma_resume_14 rfl ?_
    obtain ⟨ho3, hS⟩ := hS
    refine GW.known1 (a := x2.getD 0) (cOq.at ho3).1 ?_
    refine c_getiN C hE.1 (ci := 11) i_Th rfl 6 (by decide) (by decide) (by decide) (gE_fN hE kf_Ma_186) d_Ma_resume_15 (cOq.at ho3).2 ?_
    refine GW.more (A' := gA B) (fun _ h => h.elim) ?_
    obtain ⟨ho4, hS⟩ := hS
    obtain ⟨hs5, hS⟩ := hS
    refine c_call (av := [.ref a0, .int (cI M (x2.getD 0) 6)]) (rest := []) C hE (fun _ h => h) ⟨rfl, rfl⟩ hle (cc_Ma_isDeep l hf D cs B dE lim _ a0 (cI M (x2.getD 0) 6) hs5) (fun _ h => h) kd_Ma_isDeep ki_Ma (Nat.le_of_ble_eq_true rfl) (Nat.le_of_ble_eq_true rfl) d_Ma_resume_18 (Nat.le_of_ble_eq_true rfl) (c_fV (n := 1) (ci := 8) C hE.1 rfl km_Ma_161 kv_Ma_isDeep kl_Ma_isDeep kd_Ma_isDeep ⟨by decide, by decide, by decide⟩ rfl rfl d_Ma_resume_18 ho4) (fun v1 M1 hv hle => ?_) (fun E1 M1 hv hle => ?_)
    · rw [mbind_eq] at hF hS
      obtain ⟨hx, hM1⟩ := hv
      have hM2 := hM1.symm
      subst hM2
      generalize hq_w6 : F_Ma_isDeep cs M a0 (cI M (x2.getD 0) 6) = w6 at hF hS hx hle ⊢
      cases hx
      refine GW.eqs (st' := [.int w6.1]) rfl ?_
      refine g_if_ne C 38 d_Ma_resume_21 (by decide) (fun hc7 => ?_) (fun hc7 => ?_)
      · rw [if_neg hc7] at hF hS
        exact c_vret (M := w6.2) C hr hlocks hle d_Ma_resume_38 (by rw [← hF]; exact ⟨rfl, rfl⟩)
      · rw [if_pos hc7] at hF hS
        refine q_aload_n (r := x2) C d_Ma_resume_24 rfl ?_
        obtain ⟨ho8, hS⟩ := hS
        refine GW.known1 (a := x2.getD 0) (cOq.at ho8).1 ?_
        refine c_getqN C hE.1 (ci := 11) i_Th rfl 5 (by decide) (by decide) (by decide) (gE_fN hE kf_Ma_189) d_Ma_resume_25 (cOq.at ho8).2 ?_
        refine q_ifnull C 38 d_Ma_resume_28 (by decide) (fun hc9 => ?_) (fun hc9 => ?_)
        · rw [if_pos hc9] at hF hS
          exact c_vret (M := w6.2) C hr hlocks hle d_Ma_resume_38 (by rw [← hF]; exact ⟨rfl, rfl⟩)
        · rw [if_neg hc9] at hF hS
          refine q_aload_n (r := x2) C d_Ma_resume_31 rfl ?_
          obtain ⟨ho10, hS⟩ := hS
          refine GW.known1 (a := x2.getD 0) (cOq.at ho10).1 ?_
          refine c_getqN C hE.1 (ci := 11) i_Th rfl 4 (by decide) (by decide) (by decide) (gE_fN hE kf_Ma_192) d_Ma_resume_32 (cOq.at ho10).2 ?_
          refine q_ifnonnull C 39 d_Ma_resume_35 (by decide) (fun hc11 => ?_) (fun hc11 => ?_)
          · rw [if_neg hc11] at hF hS
            refine q_aload_n (r := x2) C d_Ma_resume_39 rfl ?_
            refine g_iconst (v := 1) C d_Ma_resume_40 (by decide) ?_
            obtain ⟨ho12, hS⟩ := hS
            refine GW.known2 (a := x2.getD 0) (cOq.at ho12).1 ?_
            refine k_putN (M0 := M) (M := w6.2) C hE.1 (ci := 11) i_Th rfl 3 (by decide) (by decide) (gE_fN hE kf_Ma_183) t_Th t_Th_ok n_Th rfl (nf_z (by decide)) d_Ma_resume_41 (cOq.at ho12).2 ?_
            replace hle := cLe.cP (ci := 11) (a := x2.getD 0) (k := 3) (v := .int 1) hle
            refine g_aload_n C d_Ma_resume_44 rfl ?_
            refine g_dup C d_Ma_resume_45 rfl ?_
            obtain ⟨ho13, hS⟩ := hS
            refine c_geti C hE.1 (ci := 8) i_Ma rfl 8 (by decide) (by decide) (by decide) kf_Ma_83 d_Ma_resume_46 ho13 ?_
            refine q_aload_n (r := x2) C d_Ma_resume_49 rfl ?_
            obtain ⟨ho14, hS⟩ := hS
            refine GW.known1 (a := x2.getD 0) (cOq.at ho14).1 ?_
            refine c_getiN C hE.1 (ci := 11) i_Th rfl 6 (by decide) (by decide) (by decide) (gE_fN hE kf_Ma_186) d_Ma_resume_50 (cOq.at ho14).2 ?_
            refine g_iadd C d_Ma_resume_53 ?_
            obtain ⟨ho15, hS⟩ := hS
            refine k_put (M0 := M) (M := cP 11 w6.2 (x2.getD 0) 3 (.int 1)) C hE.1 (ci := 8) i_Ma rfl 8 (by decide) (by decide) kf_Ma_83 t_Ma t_Ma_ok n_Ma rfl (nf_i _) d_Ma_resume_54 ho15 ?_
            replace hle := cLe.cP (ci := 8) (a := a0) (k := 8) (v := .int ((cI (cP 11 w6.2 (x2.getD 0) 3 (.int 1)) a0 8) + (cI (cP 11 w6.2 (x2.getD 0) 3 (.int 1)) (x2.getD 0) 6))) hle
            refine q_aload_n (r := x2) C d_Ma_resume_57 rfl ?_
            obtain ⟨ho16, hS⟩ := hS
            refine GW.known1 (a := x2.getD 0) (cOq.at ho16).1 ?_
            refine c_getqN C hE.1 (ci := 11) i_Th rfl 5 (by decide) (by decide) (by decide) (gE_fN hE kf_Ma_189) d_Ma_resume_58 (cOq.at ho16).2 ?_
            refine q_aload_n (r := x1) C d_Ma_resume_61 rfl ?_
            obtain ⟨ho17, hS⟩ := hS
            refine GW.known2 (a := (cQ (cP 8 (cP 11 w6.2 (x2.getD 0) 3 (.int 1)) a0 8 (.int ((cI (cP 11 w6.2 (x2.getD 0) 3 (.int 1)) a0 8) + (cI (cP 11 w6.2 (x2.getD 0) 3 (.int 1)) (x2.getD 0) 6)))) (x2.getD 0) 5).getD 0) (cOq.at ho17).1 ?_
            refine k_putN (M0 := M) (M := cP 8 (cP 11 w6.2 (x2.getD 0) 3 (.int 1)) a0 8 (.int ((cI (cP 11 w6.2 (x2.getD 0) 3 (.int 1)) a0 8) + (cI (cP 11 w6.2 (x2.getD 0) 3 (.int 1)) (x2.getD 0) 6)))) C hE.1 (ci := 10) i_Fr rfl 4 (by decide) (by decide) (gE_fN hE kf_Ma_51) t_Fr t_Fr_ok n_Fr rfl (nf_q _ (Or.inl ⟨_, rfl⟩) _) d_Ma_resume_62 (cOq.at ho17).2 ?_
            replace hle := cLe.cP (ci := 10) (a := (cQ (cP 8 (cP 11 w6.2 (x2.getD 0) 3 (.int 1)) a0 8 (.int ((cI (cP 11 w6.2 (x2.getD 0) 3 (.int 1)) a0 8) + (cI (cP 11 w6.2 (x2.getD 0) 3 (.int 1)) (x2.getD 0) 6)))) (x2.getD 0) 5).getD 0) (k := 4) (v := va_rf x1) hle
            refine g_aload_n C d_Ma_resume_65 rfl ?_
            refine q_aload_n (r := x2) C d_Ma_resume_66 rfl ?_
            obtain ⟨ho18, hS⟩ := hS
            refine GW.known1 (a := x2.getD 0) (cOq.at ho18).1 ?_
            refine c_getqN C hE.1 (ci := 11) i_Th rfl 4 (by decide) (by decide) (by decide) (gE_fN hE kf_Ma_192) d_Ma_resume_67 (cOq.at ho18).2 ?_
            obtain ⟨ho19, hS⟩ := hS
            refine k_put (M0 := M) (M := cP 10 (cP 8 (cP 11 w6.2 (x2.getD 0) 3 (.int 1)) a0 8 (.int ((cI (cP 11 w6.2 (x2.getD 0) 3 (.int 1)) a0 8) + (cI (cP 11 w6.2 (x2.getD 0) 3 (.int 1)) (x2.getD 0) 6)))) ((cQ (cP 8 (cP 11 w6.2 (x2.getD 0) 3 (.int 1)) a0 8 (.int ((cI (cP 11 w6.2 (x2.getD 0) 3 (.int 1)) a0 8) + (cI (cP 11 w6.2 (x2.getD 0) 3 (.int 1)) (x2.getD 0) 6)))) (x2.getD 0) 5).getD 0) 4 (va_rf x1)) C hE.1 (ci := 8) i_Ma rfl 10 (by decide) (by decide) kf_Ma_41 t_Ma t_Ma_ok n_Ma rfl (nf_q _ (Or.inl ⟨_, rfl⟩) _) d_Ma_resume_70 ho19 ?_
            replace hle := cLe.cP (ci := 8) (a := a0) (k := 10) (v := va_rf (cQ (cP 10 (cP 8 (cP 11 w6.2 (x2.getD 0) 3 (.int 1)) a0 8 (.int ((cI (cP 11 w6.2 (x2.getD 0) 3 (.int 1)) a0 8) + (cI (cP 11 w6.2 (x2.getD 0) 3 (.int 1)) (x2.getD 0) 6)))) ((cQ (cP 8 (cP 11 w6.2 (x2.getD 0) 3 (.int 1)) a0 8 (.int ((cI (cP 11 w6.2 (x2.getD 0) 3 (.int 1)) a0 8) + (cI (cP 11 w6.2 (x2.getD 0) 3 (.int 1)) (x2.getD 0) 6)))) (x2.getD 0) 5).getD 0) 4 (va_rf x1)) (x2.getD 0) 4)) hle
            refine g_aload_n C d_Ma_resume_73 rfl ?_
            obtain ⟨ho20, hS⟩ := hS
            refine c_getq C hE.1 (ci := 8) i_Ma rfl 10 (by decide) (by decide) (by decide) kf_Ma_41 d_Ma_resume_74 ho20 ?_
            refine g_iload_n C d_Ma_resume_77 rfl ?_
            obtain ⟨ho21, hS⟩ := hS
            refine GW.known2 (a := (cQ (cP 8 (cP 10 (cP 8 (cP 11 w6.2 (x2.getD 0) 3 (.int 1)) a0 8 (.int ((cI (cP 11 w6.2 (x2.getD 0) 3 (.int 1)) a0 8) + (cI (cP 11 w6.2 (x2.getD 0) 3 (.int 1)) (x2.getD 0) 6)))) ((cQ (cP 8 (cP 11 w6.2 (x2.getD 0) 3 (.int 1)) a0 8 (.int ((cI (cP 11 w6.2 (x2.getD 0) 3 (.int 1)) a0 8) + (cI (cP 11 w6.2 (x2.getD 0) 3 (.int 1)) (x2.getD 0) 6)))) (x2.getD 0) 5).getD 0) 4 (va_rf x1)) a0 10 (va_rf (cQ (cP 10 (cP 8 (cP 11 w6.2 (x2.getD 0) 3 (.int 1)) a0 8 (.int ((cI (cP 11 w6.2 (x2.getD 0) 3 (.int 1)) a0 8) + (cI (cP 11 w6.2 (x2.getD 0) 3 (.int 1)) (x2.getD 0) 6)))) ((cQ (cP 8 (cP 11 w6.2 (x2.getD 0) 3 (.int 1)) a0 8 (.int ((cI (cP 11 w6.2 (x2.getD 0) 3 (.int 1)) a0 8) + (cI (cP 11 w6.2 (x2.getD 0) 3 (.int 1)) (x2.getD 0) 6)))) (x2.getD 0) 5).getD 0) 4 (va_rf x1)) (x2.getD 0) 4))) a0 10).getD 0) (cOq.at ho21).1 ?_
            obtain ⟨hs22, hS⟩ := hS
            refine c_call (av := [.ref ((cQ (cP 8 (cP 10 (cP 8 (cP 11 w6.2 (x2.getD 0) 3 (.int 1)) a0 8 (.int ((cI (cP 11 w6.2 (x2.getD 0) 3 (.int 1)) a0 8) + (cI (cP 11 w6.2 (x2.getD 0) 3 (.int 1)) (x2.getD 0) 6)))) ((cQ (cP 8 (cP 11 w6.2 (x2.getD 0) 3 (.int 1)) a0 8 (.int ((cI (cP 11 w6.2 (x2.getD 0) 3 (.int 1)) a0 8) + (cI (cP 11 w6.2 (x2.getD 0) 3 (.int 1)) (x2.getD 0) 6)))) (x2.getD 0) 5).getD 0) 4 (va_rf x1)) a0 10 (va_rf (cQ (cP 10 (cP 8 (cP 11 w6.2 (x2.getD 0) 3 (.int 1)) a0 8 (.int ((cI (cP 11 w6.2 (x2.getD 0) 3 (.int 1)) a0 8) + (cI (cP 11 w6.2 (x2.getD 0) 3 (.int 1)) (x2.getD 0) 6)))) ((cQ (cP 8 (cP 11 w6.2 (x2.getD 0) 3 (.int 1)) a0 8 (.int ((cI (cP 11 w6.2 (x2.getD 0) 3 (.int 1)) a0 8) + (cI (cP 11 w6.2 (x2.getD 0) 3 (.int 1)) (x2.getD 0) 6)))) (x2.getD 0) 5).getD 0) 4 (va_rf x1)) (x2.getD 0) 4))) a0 10).getD 0), .int x3]) (rest := []) C hE (fun _ h => h) ⟨rfl, rfl⟩ hle (cc_Fr_push l hf D cs B dE lim _ ((cQ (cP 8 (cP 10 (cP 8 (cP 11 w6.2 (x2.getD 0) 3 (.int 1)) a0 8 (.int ((cI (cP 11 w6.2 (x2.getD 0) 3 (.int 1)) a0 8) + (cI (cP 11 w6.2 (x2.getD 0) 3 (.int 1)) (x2.getD 0) 6)))) ((cQ (cP 8 (cP 11 w6.2 (x2.getD 0) 3 (.int 1)) a0 8 (.int ((cI (cP 11 w6.2 (x2.getD 0) 3 (.int 1)) a0 8) + (cI (cP 11 w6.2 (x2.getD 0) 3 (.int 1)) (x2.getD 0) 6)))) (x2.getD 0) 5).getD 0) 4 (va_rf x1)) a0 10 (va_rf (cQ (cP 10 (cP 8 (cP 11 w6.2 (x2.getD 0) 3 (.int 1)) a0 8 (.int ((cI (cP 11 w6.2 (x2.getD 0) 3 (.int 1)) a0 8) + (cI (cP 11 w6.2 (x2.getD 0) 3 (.int 1)) (x2.getD 0) 6)))) ((cQ (cP 8 (cP 11 w6.2 (x2.getD 0) 3 (.int 1)) a0 8 (.int ((cI (cP 11 w6.2 (x2.getD 0) 3 (.int 1)) a0 8) + (cI (cP 11 w6.2 (x2.getD 0) 3 (.int 1)) (x2.getD 0) 6)))) (x2.getD 0) 5).getD 0) 4 (va_rf x1)) (x2.getD 0) 4))) a0 10).getD 0) x3 hs22) (fun _ h => h) kd_Fr_push ki_Fr (Nat.le_of_ble_eq_true rfl) (Nat.le_of_ble_eq_true rfl) d_Ma_resume_78 (Nat.le_of_ble_eq_true rfl) (c_fV (n := 1) (ci := 10) C hE.1 rfl km_Ma_96 kv_Fr_push kl_Fr_push kd_Fr_push ⟨by decide, by decide, by decide⟩ rfl rfl d_Ma_resume_78 (cOq.at ho21).2) (fun v1 M1 hv hle => ?_) (fun E1 M1 hv hle => ?_)
            · rw [mbind_eq] at hF hS
              obtain ⟨hx, hM1⟩ := hv
              have hM2 := hM1.symm
              subst hM2
              generalize hq_w23 : F_Fr_push cs (cP 8 (cP 10 (cP 8 (cP 11 w6.2 (x2.getD 0) 3 (.int 1)) a0 8 (.int ((cI (cP 11 w6.2 (x2.getD 0) 3 (.int 1)) a0 8) + (cI (cP 11 w6.2 (x2.getD 0) 3 (.int 1)) (x2.getD 0) 6)))) ((cQ (cP 8 (cP 11 w6.2 (x2.getD 0) 3 (.int 1)) a0 8 (.int ((cI (cP 11 w6.2 (x2.getD 0) 3 (.int 1)) a0 8) + (cI (cP 11 w6.2 (x2.getD 0) 3 (.int 1)) (x2.getD 0) 6)))) (x2.getD 0) 5).getD 0) 4 (va_rf x1)) a0 10 (va_rf (cQ (cP 10 (cP 8 (cP 11 w6.2 (x2.getD 0) 3 (.int 1)) a0 8 (.int ((cI (cP 11 w6.2 (x2.getD 0) 3 (.int 1)) a0 8) + (cI (cP 11 w6.2 (x2.getD 0) 3 (.int 1)) (x2.getD 0) 6)))) ((cQ (cP 8 (cP 11 w6.2 (x2.getD 0) 3 (.int 1)) a0 8 (.int ((cI (cP 11 w6.2 (x2.getD 0) 3 (.int 1)) a0 8) + (cI (cP 11 w6.2 (x2.getD 0) 3 (.int 1)) (x2.getD 0) 6)))) (x2.getD 0) 5).getD 0) 4 (va_rf x1)) (x2.getD 0) 4))) ((cQ (cP 8 (cP 10 (cP 8 (cP 11 w6.2 (x2.getD 0) 3 (.int 1)) a0 8 (.int ((cI (cP 11 w6.2 (x2.getD 0) 3 (.int 1)) a0 8) + (cI (cP 11 w6.2 (x2.getD 0) 3 (.int 1)) (x2.getD 0) 6)))) ((cQ (cP 8 (cP 11 w6.2 (x2.getD 0) 3 (.int 1)) a0 8 (.int ((cI (cP 11 w6.2 (x2.getD 0) 3 (.int 1)) a0 8) + (cI (cP 11 w6.2 (x2.getD 0) 3 (.int 1)) (x2.getD 0) 6)))) (x2.getD 0) 5).getD 0) 4 (va_rf x1)) a0 10 (va_rf (cQ (cP 10 (cP 8 (cP 11 w6.2 (x2.getD 0) 3 (.int 1)) a0 8 (.int ((cI (cP 11 w6.2 (x2.getD 0) 3 (.int 1)) a0 8) + (cI (cP 11 w6.2 (x2.getD 0) 3 (.int 1)) (x2.getD 0) 6)))) ((cQ (cP 8 (cP 11 w6.2 (x2.getD 0) 3 (.int 1)) a0 8 (.int ((cI (cP 11 w6.2 (x2.getD 0) 3 (.int 1)) a0 8) + (cI (cP 11 w6.2 (x2.getD 0) 3 (.int 1)) (x2.getD 0) 6)))) (x2.getD 0) 5).getD 0) 4 (va_rf x1)) (x2.getD 0) 4))) a0 10).getD 0) x3 = w23 at hF hS hx hle ⊢
              cases hx
              refine GW.eqs (st' := []) rfl ?_
              exact c_vret (M := w23) C hr hlocks hle d_Ma_resume_81 (by rw [← hF]; exact ⟨rfl, rfl⟩)
            · cases hv.1
          · rw [if_pos hc11] at hF hS
            exact c_vret (M := w6.2) C hr hlocks hle d_Ma_resume_38 (by rw [← hF]; exact ⟨rfl, rfl⟩)
    · cases hv.1
  · rw [if_neg hc2] at hF hS
    refine g_aload_n C d_Ma_resume_7 rfl ?_
    refine g_iconst (v := 3) C d_Ma_resume_8 (by decide) ?_
    refine GW.more (A' := gA B) (fun _ h => h.elim) ?_
    obtain ⟨ho24, hS⟩ := hS
    refine k_put (M0 := M) (M := M) C hE.1 (ci := 8) i_Ma rfl 4 (by decide) (by decide) kf_Ma_54 t_Ma t_Ma_ok n_Ma rfl (nf_i _) d_Ma_resume_9 ho24 ?_
    replace hle := cLe.cP (ci := 8) (a := a0) (k := 4) (v := .int 3) hle
    exact c_vret (M := cP 8 M a0 4 (.int 3)) C hr hlocks hle d_Ma_resume_12 (by rw [← hF]; exact ⟨rfl, rfl⟩)
