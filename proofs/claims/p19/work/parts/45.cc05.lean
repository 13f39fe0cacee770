def F_Co_add (cs : Nat → ClassId) (M : gMem) (a0 : Nat) (x1 : Int32) (x2 : Int32) : Int32 × gMem := mbind (F_Ce_put cs M ((cQ M a0 1).getD 0) ((cI M a0 2) * 5) x1) (fun w5 => mbind (F_Ce_put cs w5 ((cQ w5 a0 1).getD 0) (((cI M a0 2) * 5) + 1) x2) (fun w9 => (cI M a0 2, cP 7 w9 a0 2 (.int ((cI w9 a0 2) + 1)))))
def S_Co_add (cs : Nat → ClassId) (lim : Nat × Nat) (M : gMem) (a0 : Nat) (x1 : Int32) (x2 : Int32) : Prop := (cOk 7 M a0) ∧ ((cOk 7 M a0) ∧ ((cOq 2 M (cQ M a0 1)) ∧ ((S_Ce_put cs lim M ((cQ M a0 1).getD 0) ((cI M a0 2) * 5) x1) ∧ (mbind (F_Ce_put cs M ((cQ M a0 1).getD 0) ((cI M a0 2) * 5) x1) (fun w5 => (cOk 7 w5 a0) ∧ ((cOq 2 w5 (cQ w5 a0 1)) ∧ ((S_Ce_put cs lim w5 ((cQ w5 a0 1).getD 0) (((cI M a0 2) * 5) + 1) x2) ∧ (mbind (F_Ce_put cs w5 ((cQ w5 a0 1).getD 0) (((cI M a0 2) * 5) + 1) x2) (fun w9 => (cOk 7 w9 a0) ∧ ((cOk 7 w9 a0) ∧ (True)))))))))))
set_option maxRecDepth 100000 in
set_option maxHeartbeats 4000000 in
theorem cc_Co_add (l : Launch) (hf : l.flags = pinnedFlags ++ [noTraceFlag]) (D : va_G) (cs : Nat → ClassId) (B : Nat) (dE : Nat × Nat) (lim : Nat × Nat) (M : gMem) (a0 : Nat) (x1 : Int32) (x2 : Int32) (hS : S_Co_add cs lim M a0 x1 x2) : cMet l y_Co_add (Cond.code y_Co_add c_Co_add 4 (some .int)) (3) (104) D cs B dE (gA B) lim [.ref a0, .int x1, .int x2] M (fun x M' => x = .inl (some (.int ((F_Co_add cs M a0 x1 x2).1))) ∧ M' = (F_Co_add cs M a0 x1 x2).2) := by
  refine cMet.ofW (by decide) (Nat.le_of_ble_eq_true rfl) (lv0 := [(0, .ref a0), (1, .int x1), (2, .int x2)]) rfl ?_
  intro p e s m args below meth c C hE hR0 hle hr hlocks hex hn
  generalize hF : F_Co_add cs M a0 x1 x2 = Fv
  unfold F_Co_add at hF
  unfold S_Co_add at hS
  refine g_aload_n C d_Co_add_0 rfl ?_
  obtain ⟨ho1, hS⟩ := hS
  refine c_geti C hE.1 (ci := 7) i_Co rfl 2 (by decide) (by decide) (by decide) kf_Co_26 d_Co_add_1 ho1 ?_
  refine g_istore_n (lv' := [(3, .int (cI M a0 2)), (0, .ref a0), (1, .int x1), (2, .int x2)]) C d_Co_add_4 (by decide) rfl ?_
  refine g_aload_n C d_Co_add_5 rfl ?_
  obtain ⟨ho2, hS⟩ := hS
  refine c_getq C hE.1 (ci := 7) i_Co rfl 1 (by decide) (by decide) (by decide) kf_Co_12 d_Co_add_6 ho2 ?_
  refine g_iload_n C d_Co_add_9 rfl ?_
  refine g_iconst (v := 5) C d_Co_add_10 (by decide) ?_
  refine g_imul C d_Co_add_11 ?_
  refine g_iload_n C d_Co_add_12 rfl ?_
  refine GW.more (A' := gA B) (fun _ h => h.elim) ?_
  obtain ⟨ho3, hS⟩ := hS
  refine GW.known3 (a := (cQ M a0 1).getD 0) (cOq.at ho3).1 ?_
  obtain ⟨hs4, hS⟩ := hS
  refine c_call (av := [.ref ((cQ M a0 1).getD 0), .int ((cI M a0 2) * 5), .int x1]) (rest := []) C hE (fun _ h => h) ⟨rfl, rfl⟩ hle (cc_Ce_put l hf D cs B dE lim _ ((cQ M a0 1).getD 0) ((cI M a0 2) * 5) x1 hs4) (fun _ h => h) kd_Ce_put ki_Ce (Nat.le_of_ble_eq_true rfl) (Nat.le_of_ble_eq_true rfl) d_Co_add_13 (Nat.le_of_ble_eq_true rfl) (c_fV (n := 2) (ci := 2) C hE.1 rfl km_Co_46 kv_Ce_put kl_Ce_put kd_Ce_put ⟨by decide, by decide, by decide⟩ rfl rfl d_Co_add_13 (cOq.at ho3).2) (fun v1 M1 hv hle => ?_) (fun E1 M1 hv hle => ?_)
  · rw [mbind_eq] at hF hS
    obtain ⟨hx, hM1⟩ := hv
    have hM2 := hM1.symm
    subst hM2
    generalize hq_w5 : F_Ce_put cs M ((cQ M a0 1).getD 0) ((cI M a0 2) * 5) x1 = w5 at hF hS hx hle ⊢
    cases hx
    refine GW.eqs (st' := []) rfl ?_
    refine g_aload_n C d_Co_add_16 rfl ?_
    obtain ⟨ho6, hS⟩ := hS
    refine c_getq C hE.1 (ci := 7) i_Co rfl 1 (by decide) (by decide) (by decide) kf_Co_12 d_Co_add_17 ho6 ?_
    refine g_iload_n C d_Co_add_20 rfl ?_
    refine g_iconst (v := 5) C d_Co_add_21 (by decide) ?_
    refine g_imul C d_Co_add_22 ?_
    refine g_iconst (v := 1) C d_Co_add_23 (by decide) ?_
    refine g_iadd C d_Co_add_24 ?_
    refine g_iload_n C d_Co_add_25 rfl ?_
    obtain ⟨ho7, hS⟩ := hS
    refine GW.known3 (a := (cQ w5 a0 1).getD 0) (cOq.at ho7).1 ?_
    obtain ⟨hs8, hS⟩ := hS
    refine c_call (av := [.ref ((cQ w5 a0 1).getD 0), .int (((cI M a0 2) * 5) + 1), .int x2]) (rest := []) C hE (fun _ h => h) ⟨rfl, rfl⟩ hle (cc_Ce_put l hf D cs B dE lim _ ((cQ w5 a0 1).getD 0) (((cI M a0 2) * 5) + 1) x2 hs8) (fun _ h => h) kd_Ce_put ki_Ce (Nat.le_of_ble_eq_true rfl) (Nat.le_of_ble_eq_true rfl) d_Co_add_26 (Nat.le_of_ble_eq_true rfl) (c_fV (n := 2) (ci := 2) C hE.1 rfl km_Co_46 kv_Ce_put kl_Ce_put kd_Ce_put ⟨by decide, by decide, by decide⟩ rfl rfl d_Co_add_26 (cOq.at ho7).2) (fun v1 M1 hv hle => ?_) (fun E1 M1 hv hle => ?_)
    · rw [mbind_eq] at hF hS
      obtain ⟨hx, hM1⟩ := hv
      have hM2 := hM1.symm
      subst hM2
      generalize hq_w9 : F_Ce_put cs w5 ((cQ w5 a0 1).getD 0) (((cI M a0 2) * 5) + 1) x2 = w9 at hF hS hx hle ⊢
      cases hx
      refine GW.eqs (st' := []) rfl ?_
      refine g_aload_n C d_Co_add_29 rfl ?_
      refine g_dup C d_Co_add_30 rfl ?_
      obtain ⟨ho10, hS⟩ := hS
      refine c_geti C hE.1 (ci := 7) i_Co rfl 2 (by decide) (by decide) (by decide) kf_Co_26 d_Co_add_31 ho10 ?_
      refine g_iconst (v := 1) C d_Co_add_34 (by decide) ?_
      refine g_iadd C d_Co_add_35 ?_
      obtain ⟨ho11, hS⟩ := hS
      refine k_put (M0 := M) (M := w9) C hE.1 (ci := 7) i_Co rfl 2 (by decide) (by decide) kf_Co_26 t_Co t_Co_ok n_Co rfl (nf_i _) d_Co_add_36 ho11 ?_
      replace hle := cLe.cP (ci := 7) (a := a0) (k := 2) (v := .int ((cI w9 a0 2) + 1)) hle
      refine g_iload_n C d_Co_add_39 rfl ?_
      exact c_iret (M := cP 7 w9 a0 2 (.int ((cI w9 a0 2) + 1))) C hr hlocks hle d_Co_add_40 (by rw [← hF]; exact ⟨rfl, rfl⟩)
    · cases hv.1
  · cases hv.1
def F_Co_writeScope (cs : Nat → ClassId) (n : Nat) (Lf : gMem → Nat → Int32 → Int32 → gMem) (M : gMem) (a0 : Nat) (x1 : Int32) (x2 : Int32) (x3 : Int32) : gMem := mbind (F_Co_add cs M a0 3 x1) (fun w3 => mbind (Lf w3.2 a0 x2 (x3 + 1)) (fun w6 => mbind (F_Co_add cs w6 a0 4 x1) (fun w9 => w9.2)))
def S_Co_writeScope (cs : Nat → ClassId) (lim : Nat × Nat) (n : Nat) (Lf : gMem → Nat → Int32 → Int32 → gMem) (Ls : gMem → Nat → Int32 → Int32 → Prop) (M : gMem) (a0 : Nat) (x1 : Int32) (x2 : Int32) (x3 : Int32) : Prop := (cOk 7 M a0) ∧ ((S_Co_add cs lim M a0 3 x1) ∧ (mbind (F_Co_add cs M a0 3 x1) (fun w3 => (cOk 7 w3.2 a0) ∧ ((Ls w3.2 a0 x2 (x3 + 1)) ∧ (mbind (Lf w3.2 a0 x2 (x3 + 1)) (fun w6 => (cOk 7 w6 a0) ∧ ((S_Co_add cs lim w6 a0 4 x1) ∧ (mbind (F_Co_add cs w6 a0 4 x1) (fun w9 => True)))))))))
set_option maxRecDepth 100000 in
set_option maxHeartbeats 4000000 in
theorem cc_Co_writeScope (l : Launch) (hf : l.flags = pinnedFlags ++ [noTraceFlag]) (D : va_G) (cs : Nat → ClassId) (B : Nat) (dE : Nat × Nat) (lim : Nat × Nat) (n : Nat) (Lf : gMem → Nat → Int32 → Int32 → gMem) (Ls : gMem → Nat → Int32 → Int32 → Prop) (frL loL : Nat) (hL : ∀ (M : gMem) (a0 : Nat) (x1 x2 : Int32), Ls M a0 x1 x2 → cMet l y_Co_write (Cond.code y_Co_write c_Co_write 4 none) frL loL D cs B dE (gA B) lim [.ref a0, .int x1, .int x2] M (fun x M' => x = .inl none ∧ M' = (Lf M a0 x1 x2))) (M : gMem) (a0 : Nat) (x1 : Int32) (x2 : Int32) (x3 : Int32) (hS : S_Co_writeScope cs lim n Lf Ls M a0 x1 x2 x3) : cMet l y_Co_writeScope (Cond.code y_Co_writeScope c_Co_writeScope 4 none) (frL + 8) (loL + 280) D cs B dE (gA B) lim [.ref a0, .int x1, .int x2, .int x3] M (fun x M' => x = .inl none ∧ M' = (F_Co_writeScope cs n Lf M a0 x1 x2 x3)) := by
  refine cMet.ofW (by decide) (Nat.le_of_ble_eq_true rfl) (lv0 := [(0, .ref a0), (1, .int x1), (2, .int x2), (3, .int x3)]) rfl ?_
  intro p e s m args below meth c C hE hR0 hle hr hlocks hex hn
  generalize hF : F_Co_writeScope cs n Lf M a0 x1 x2 x3 = Fv
  unfold F_Co_writeScope at hF
  unfold S_Co_writeScope at hS
  refine g_aload_n C d_Co_writeScope_0 rfl ?_
  refine g_iconst (v := 3) C d_Co_writeScope_1 (by decide) ?_
  refine g_iload_n C d_Co_writeScope_2 rfl ?_
  refine GW.more (A' := gA B) (fun _ h => h.elim) ?_
  obtain ⟨ho1, hS⟩ := hS
  obtain ⟨hs2, hS⟩ := hS
  refine c_call (av := [.ref a0, .int 3, .int x1]) (rest := []) C hE (fun _ h => h) ⟨rfl, rfl⟩ hle (cc_Co_add l hf D cs B dE lim _ a0 3 x1 hs2) (fun _ h => h) kd_Co_add ki_Co (by dsimp only; omega) (by dsimp only; omega) d_Co_writeScope_3 (Nat.le_of_ble_eq_true rfl) (c_fV (n := 2) (ci := 7) C hE.1 rfl km_Co_34 kv_Co_add kl_Co_add kd_Co_add ⟨by decide, by decide, by decide⟩ rfl rfl d_Co_writeScope_3 ho1) (fun v1 M1 hv hle => ?_) (fun E1 M1 hv hle => ?_)
  · rw [mbind_eq] at hF hS
    obtain ⟨hx, hM1⟩ := hv
    have hM2 := hM1.symm
    subst hM2
    generalize hq_w3 : F_Co_add cs M a0 3 x1 = w3 at hF hS hx hle ⊢
    cases hx
    refine GW.eqs (st' := [.int w3.1]) rfl ?_
    refine g_pop C d_Co_writeScope_6 rfl ?_
    refine g_aload_n C d_Co_writeScope_7 rfl ?_
    refine g_iload_n C d_Co_writeScope_8 rfl ?_
    refine g_iload_n C d_Co_writeScope_9 rfl ?_
    refine g_iconst (v := 1) C d_Co_writeScope_10 (by decide) ?_
    refine g_iadd C d_Co_writeScope_11 ?_
    obtain ⟨ho4, hS⟩ := hS
    obtain ⟨hs5, hS⟩ := hS
    refine c_call (av := [.ref a0, .int x2, .int (x3 + 1)]) (rest := []) C hE (fun _ h => h) ⟨rfl, rfl⟩ hle (hL _ a0 x2 (x3 + 1) hs5) (fun _ h => h) kd_Co_write ki_Co (by dsimp only; omega) (by dsimp only; omega) d_Co_writeScope_12 (Nat.le_of_ble_eq_true rfl) (c_fV (n := 2) (ci := 7) C hE.1 rfl km_Co_30 kv_Co_write kl_Co_write kd_Co_write ⟨by decide, by decide, by decide⟩ rfl rfl d_Co_writeScope_12 ho4) (fun v1 M1 hv hle => ?_) (fun E1 M1 hv hle => ?_)
    · rw [mbind_eq] at hF hS
      obtain ⟨hx, hM1⟩ := hv
      have hM2 := hM1.symm
      subst hM2
      generalize hq_w6 : Lf w3.2 a0 x2 (x3 + 1) = w6 at hF hS hx hle ⊢
      cases hx
      refine GW.eqs (st' := []) rfl ?_
      refine g_aload_n C d_Co_writeScope_15 rfl ?_
      refine g_iconst (v := 4) C d_Co_writeScope_16 (by decide) ?_
      refine g_iload_n C d_Co_writeScope_17 rfl ?_
      obtain ⟨ho7, hS⟩ := hS
      obtain ⟨hs8, hS⟩ := hS
      refine c_call (av := [.ref a0, .int 4, .int x1]) (rest := []) C hE (fun _ h => h) ⟨rfl, rfl⟩ hle (cc_Co_add l hf D cs B dE lim _ a0 4 x1 hs8) (fun _ h => h) kd_Co_add ki_Co (by dsimp only; omega) (by dsimp only; omega) d_Co_writeScope_18 (Nat.le_of_ble_eq_true rfl) (c_fV (n := 2) (ci := 7) C hE.1 rfl km_Co_34 kv_Co_add kl_Co_add kd_Co_add ⟨by decide, by decide, by decide⟩ rfl rfl d_Co_writeScope_18 ho7) (fun v1 M1 hv hle => ?_) (fun E1 M1 hv hle => ?_)
      · rw [mbind_eq] at hF hS
        obtain ⟨hx, hM1⟩ := hv
        have hM2 := hM1.symm
        subst hM2
        generalize hq_w9 : F_Co_add cs w6 a0 4 x1 = w9 at hF hS hx hle ⊢
        cases hx
        refine GW.eqs (st' := [.int w9.1]) rfl ?_
        refine g_pop C d_Co_writeScope_21 rfl ?_
        exact c_vret (M := w9.2) C hr hlocks hle d_Co_writeScope_22 (by rw [← hF]; exact ⟨rfl, rfl⟩)
      · cases hv.1
    · cases hv.1
  · cases hv.1
def F_Co_fill (cs : Nat → ClassId) (M : gMem) (a0 : Nat) (x1 : Int32) (x2 : Int32) (x3 : Int32) : gMem := mbind (F_Ce_put cs M ((cQ M a0 1).getD 0) ((x1 * 5) + x2) x3) (fun w4 => w4)
def S_Co_fill (cs : Nat → ClassId) (lim : Nat × Nat) (M : gMem) (a0 : Nat) (x1 : Int32) (x2 : Int32) (x3 : Int32) : Prop := (cOk 7 M a0) ∧ ((cOq 2 M (cQ M a0 1)) ∧ ((S_Ce_put cs lim M ((cQ M a0 1).getD 0) ((x1 * 5) + x2) x3) ∧ (mbind (F_Ce_put cs M ((cQ M a0 1).getD 0) ((x1 * 5) + x2) x3) (fun w4 => True))))
set_option maxRecDepth 100000 in
set_option maxHeartbeats 4000000 in
theorem cc_Co_fill (l : Launch) (hf : l.flags = pinnedFlags ++ [noTraceFlag]) (D : va_G) (cs : Nat → ClassId) (B : Nat) (dE : Nat × Nat) (lim : Nat × Nat) (M : gMem) (a0 : Nat) (x1 : Int32) (x2 : Int32) (x3 : Int32) (hS : S_Co_fill cs lim M a0 x1 x2 x3) : cMet l y_Co_fill (Cond.code y_Co_fill c_Co_fill 4 none) (3) (104) D cs B dE (gA B) lim [.ref a0, .int x1, .int x2, .int x3] M (fun x M' => x = .inl none ∧ M' = (F_Co_fill cs M a0 x1 x2 x3)) := by
  refine cMet.ofW (by decide) (Nat.le_of_ble_eq_true rfl) (lv0 := [(0, .ref a0), (1, .int x1), (2, .int x2), (3, .int x3)]) rfl ?_
  intro p e s m args below meth c C hE hR0 hle hr hlocks hex hn
  generalize hF : F_Co_fill cs M a0 x1 x2 x3 = Fv
  unfold F_Co_fill at hF
  unfold S_Co_fill at hS
  refine g_aload_n C d_Co_fill_0 rfl ?_
  obtain ⟨ho1, hS⟩ := hS
  refine c_getq C hE.1 (ci := 7) i_Co rfl 1 (by decide) (by decide) (by decide) kf_Co_12 d_Co_fill_1 ho1 ?_
  refine g_iload_n C d_Co_fill_4 rfl ?_
  refine g_iconst (v := 5) C d_Co_fill_5 (by decide) ?_
  refine g_imul C d_Co_fill_6 ?_
  refine g_iload_n C d_Co_fill_7 rfl ?_
  refine g_iadd C d_Co_fill_8 ?_
  refine g_iload_n C d_Co_fill_9 rfl ?_
  refine GW.more (A' := gA B) (fun _ h => h.elim) ?_
  obtain ⟨ho2, hS⟩ := hS
  refine GW.known3 (a := (cQ M a0 1).getD 0) (cOq.at ho2).1 ?_
  obtain ⟨hs3, hS⟩ := hS
  refine c_call (av := [.ref ((cQ M a0 1).getD 0), .int ((x1 * 5) + x2), .int x3]) (rest := []) C hE (fun _ h => h) ⟨rfl, rfl⟩ hle (cc_Ce_put l hf D cs B dE lim _ ((cQ M a0 1).getD 0) ((x1 * 5) + x2) x3 hs3) (fun _ h => h) kd_Ce_put ki_Ce (Nat.le_of_ble_eq_true rfl) (Nat.le_of_ble_eq_true rfl) d_Co_fill_10 (Nat.le_of_ble_eq_true rfl) (c_fV (n := 2) (ci := 2) C hE.1 rfl km_Co_46 kv_Ce_put kl_Ce_put kd_Ce_put ⟨by decide, by decide, by decide⟩ rfl rfl d_Co_fill_10 (cOq.at ho2).2) (fun v1 M1 hv hle => ?_) (fun E1 M1 hv hle => ?_)
  · rw [mbind_eq] at hF hS
    obtain ⟨hx, hM1⟩ := hv
    have hM2 := hM1.symm
    subst hM2
    generalize hq_w4 : F_Ce_put cs M ((cQ M a0 1).getD 0) ((x1 * 5) + x2) x3 = w4 at hF hS hx hle ⊢
    cases hx
    refine GW.eqs (st' := []) rfl ?_
    exact c_vret (M := w4) C hr hlocks hle d_Co_fill_13 (by rw [← hF]; exact ⟨rfl, rfl⟩)
  · cases hv.1
def F_Co_writeBody (cs : Nat → ClassId) (n : Nat) (Lf : gMem → Nat → Int32 → Int32 → gMem) (M : gMem) (a0 : Nat) (x1 : Int32) (x2 : Int32) : gMem := mbind (Lf M a0 x1 (x2 + 1)) (fun w3 => mbind (F_Co_add cs w3 a0 0 0) (fun w6 => w6.2))
def S_Co_writeBody (cs : Nat → ClassId) (lim : Nat × Nat) (n : Nat) (Lf : gMem → Nat → Int32 → Int32 → gMem) (Ls : gMem → Nat → Int32 → Int32 → Prop) (M : gMem) (a0 : Nat) (x1 : Int32) (x2 : Int32) : Prop := (cOk 7 M a0) ∧ ((Ls M a0 x1 (x2 + 1)) ∧ (mbind (Lf M a0 x1 (x2 + 1)) (fun w3 => (cOk 7 w3 a0) ∧ ((S_Co_add cs lim w3 a0 0 0) ∧ (mbind (F_Co_add cs w3 a0 0 0) (fun w6 => True))))))
set_option maxRecDepth 100000 in
set_option maxHeartbeats 4000000 in
theorem cc_Co_writeBody (l : Launch) (hf : l.flags = pinnedFlags ++ [noTraceFlag]) (D : va_G) (cs : Nat → ClassId) (B : Nat) (dE : Nat × Nat) (lim : Nat × Nat) (n : Nat) (Lf : gMem → Nat → Int32 → Int32 → gMem) (Ls : gMem → Nat → Int32 → Int32 → Prop) (frL loL : Nat) (hL : ∀ (M : gMem) (a0 : Nat) (x1 x2 : Int32), Ls M a0 x1 x2 → cMet l y_Co_write (Cond.code y_Co_write c_Co_write 4 none) frL loL D cs B dE (gA B) lim [.ref a0, .int x1, .int x2] M (fun x M' => x = .inl none ∧ M' = (Lf M a0 x1 x2))) (M : gMem) (a0 : Nat) (x1 : Int32) (x2 : Int32) (hS : S_Co_writeBody cs lim n Lf Ls M a0 x1 x2) : cMet l y_Co_writeBody (Cond.code y_Co_writeBody c_Co_writeBody 3 none) (frL + 8) (loL + 280) D cs B dE (gA B) lim [.ref a0, .int x1, .int x2] M (fun x M' => x = .inl none ∧ M' = (F_Co_writeBody cs n Lf M a0 x1 x2)) := by
  refine cMet.ofW (by decide) (Nat.le_of_ble_eq_true rfl) (lv0 := [(0, .ref a0), (1, .int x1), (2, .int x2)]) rfl ?_
  intro p e s m args below meth c C hE hR0 hle hr hlocks hex hn
  generalize hF : F_Co_writeBody cs n Lf M a0 x1 x2 = Fv
  unfold F_Co_writeBody at hF
  unfold S_Co_writeBody at hS
  refine g_aload_n C d_Co_writeBody_0 rfl ?_
  refine g_iload_n C d_Co_writeBody_1 rfl ?_
  refine g_iload_n C d_Co_writeBody_2 rfl ?_
  refine g_iconst (v := 1) C d_Co_writeBody_3 (by decide) ?_
  refine g_iadd C d_Co_writeBody_4 ?_
  refine GW.more (A' := gA B) (fun _ h => h.elim) ?_
  obtain ⟨ho1, hS⟩ := hS
  obtain ⟨hs2, hS⟩ := hS
  refine c_call (av := [.ref a0, .int x1, .int (x2 + 1)]) (rest := []) C hE (fun _ h => h) ⟨rfl, rfl⟩ hle (hL _ a0 x1 (x2 + 1) hs2) (fun _ h => h) kd_Co_write ki_Co (by dsimp only; omega) (by dsimp only; omega) d_Co_writeBody_5 (Nat.le_of_ble_eq_true rfl) (c_fV (n := 2) (ci := 7) C hE.1 rfl km_Co_30 kv_Co_write kl_Co_write kd_Co_write ⟨by decide, by decide, by decide⟩ rfl rfl d_Co_writeBody_5 ho1) (fun v1 M1 hv hle => ?_) (fun E1 M1 hv hle => ?_)
  · rw [mbind_eq] at hF hS
    obtain ⟨hx, hM1⟩ := hv
    have hM2 := hM1.symm
    subst hM2
    generalize hq_w3 : Lf M a0 x1 (x2 + 1) = w3 at hF hS hx hle ⊢
    cases hx
    refine GW.eqs (st' := []) rfl ?_
    refine g_aload_n C d_Co_writeBody_8 rfl ?_
    refine g_iconst (v := 0) C d_Co_writeBody_9 (by decide) ?_
    refine g_iconst (v := 0) C d_Co_writeBody_10 (by decide) ?_
    obtain ⟨ho4, hS⟩ := hS
    obtain ⟨hs5, hS⟩ := hS
    refine c_call (av := [.ref a0, .int 0, .int 0]) (rest := []) C hE (fun _ h => h) ⟨rfl, rfl⟩ hle (cc_Co_add l hf D cs B dE lim _ a0 0 0 hs5) (fun _ h => h) kd_Co_add ki_Co (by dsimp only; omega) (by dsimp only; omega) d_Co_writeBody_11 (Nat.le_of_ble_eq_true rfl) (c_fV (n := 2) (ci := 7) C hE.1 rfl km_Co_34 kv_Co_add kl_Co_add kd_Co_add ⟨by decide, by decide, by decide⟩ rfl rfl d_Co_writeBody_11 ho4) (fun v1 M1 hv hle => ?_) (fun E1 M1 hv hle => ?_)
    · rw [mbind_eq] at hF hS
      obtain ⟨hx, hM1⟩ := hv
      have hM2 := hM1.symm
      subst hM2
      generalize hq_w6 : F_Co_add cs w3 a0 0 0 = w6 at hF hS hx hle ⊢
      cases hx
      refine GW.eqs (st' := [.int w6.1]) rfl ?_
      refine g_pop C d_Co_writeBody_14 rfl ?_
      exact c_vret (M := w6.2) C hr hlocks hle d_Co_writeBody_15 (by rw [← hF]; exact ⟨rfl, rfl⟩)
    · cases hv.1
  · cases hv.1
def F_Co_writeFunction (cs : Nat → ClassId) (n : Nat) (Lf : gMem → Nat → Int32 → Int32 → gMem) (M : gMem) (a0 : Nat) (x1 : Option Nat) (x2 : Int32) : gMem := mbind (F_Co_add cs M a0 8 (cI M (x1.getD 0) 2)) (fun w4 => mbind (F_Co_fill cs w4.2 a0 w4.1 2 (cI w4.2 (x1.getD 0) 3)) (fun w8 => mbind (F_Co_writeBody cs n Lf w8 a0 (cI w8 (x1.getD 0) 4) x2) (fun w12 => mbind (F_Co_fill cs w12 a0 w4.1 3 (cI w12 a0 2)) (fun w16 => w16))))
def S_Co_writeFunction (cs : Nat → ClassId) (lim : Nat × Nat) (n : Nat) (Lf : gMem → Nat → Int32 → Int32 → gMem) (Ls : gMem → Nat → Int32 → Int32 → Prop) (M : gMem) (a0 : Nat) (x1 : Option Nat) (x2 : Int32) : Prop := (cOq 4 M x1) ∧ ((cOk 7 M a0) ∧ ((S_Co_add cs lim M a0 8 (cI M (x1.getD 0) 2)) ∧ (mbind (F_Co_add cs M a0 8 (cI M (x1.getD 0) 2)) (fun w4 => (cOq 4 w4.2 x1) ∧ ((cOk 7 w4.2 a0) ∧ ((S_Co_fill cs lim w4.2 a0 w4.1 2 (cI w4.2 (x1.getD 0) 3)) ∧ (mbind (F_Co_fill cs w4.2 a0 w4.1 2 (cI w4.2 (x1.getD 0) 3)) (fun w8 => (cOq 4 w8 x1) ∧ ((cOk 7 w8 a0) ∧ ((S_Co_writeBody cs lim n Lf Ls w8 a0 (cI w8 (x1.getD 0) 4) x2) ∧ (mbind (F_Co_writeBody cs n Lf w8 a0 (cI w8 (x1.getD 0) 4) x2) (fun w12 => (cOk 7 w12 a0) ∧ ((cOk 7 w12 a0) ∧ ((S_Co_fill cs lim w12 a0 w4.1 3 (cI w12 a0 2)) ∧ (mbind (F_Co_fill cs w12 a0 w4.1 3 (cI w12 a0 2)) (fun w16 => True))))))))))))))))
set_option maxRecDepth 100000 in
set_option maxHeartbeats 4000000 in
theorem cc_Co_writeFunction (l : Launch) (hf : l.flags = pinnedFlags ++ [noTraceFlag]) (D : va_G) (cs : Nat → ClassId) (B : Nat) (dE : Nat × Nat) (lim : Nat × Nat) (n : Nat) (Lf : gMem → Nat → Int32 → Int32 → gMem) (Ls : gMem → Nat → Int32 → Int32 → Prop) (frL loL : Nat) (hL : ∀ (M : gMem) (a0 : Nat) (x1 x2 : Int32), Ls M a0 x1 x2 → cMet l y_Co_write (Cond.code y_Co_write c_Co_write 4 none) frL loL D cs B dE (gA B) lim [.ref a0, .int x1, .int x2] M (fun x M' => x = .inl none ∧ M' = (Lf M a0 x1 x2))) (M : gMem) (a0 : Nat) (x1 : Option Nat) (x2 : Int32) (hS : S_Co_writeFunction cs lim n Lf Ls M a0 x1 x2) : cMet l y_Co_writeFunction (Cond.code y_Co_writeFunction c_Co_writeFunction 4 none) (frL + 10) (loL + 340) D cs B dE (gA B) lim [.ref a0, va_rf x1, .int x2] M (fun x M' => x = .inl none ∧ M' = (F_Co_writeFunction cs n Lf M a0 x1 x2)) := by
  refine cMet.ofW (by decide) (by cases x1 <;> exact Nat.le_of_ble_eq_true rfl) (lv0 := [(0, .ref a0), (1, va_rf x1), (2, .int x2)]) (by cases x1 <;> rfl) ?_
  intro p e s m args below meth c C hE hR0 hle hr hlocks hex hn
  generalize hF : F_Co_writeFunction cs n Lf M a0 x1 x2 = Fv
  unfold F_Co_writeFunction at hF
  unfold S_Co_writeFunction at hS
  refine g_aload_n C d_Co_writeFunction_0 rfl ?_
  refine g_bipush (v := 8) C d_Co_writeFunction_1 (by decide) ?_
  refine q_aload_n (r := x1) C d_Co_writeFunction_3 rfl ?_
  obtain ⟨ho1, hS⟩ := hS
  refine GW.known1 (a := x1.getD 0) (cOq.at ho1).1 ?_
  refine c_geti C hE.1 (ci := 4) i_No rfl 2 (by decide) (by decide) (by decide) kf_Co_65 d_Co_writeFunction_4 (cOq.at ho1).2 ?_
  refine GW.more (A' := gA B) (fun _ h => h.elim) ?_
  obtain ⟨ho2, hS⟩ := hS
  obtain ⟨hs3, hS⟩ := hS
  refine c_call (av := [.ref a0, .int 8, .int (cI M (x1.getD 0) 2)]) (rest := []) C hE (fun _ h => h) ⟨rfl, rfl⟩ hle (cc_Co_add l hf D cs B dE lim _ a0 8 (cI M (x1.getD 0) 2) hs3) (fun _ h => h) kd_Co_add ki_Co (by dsimp only; omega) (by dsimp only; omega) d_Co_writeFunction_7 (Nat.le_of_ble_eq_true rfl) (c_fV (n := 2) (ci := 7) C hE.1 rfl km_Co_34 kv_Co_add kl_Co_add kd_Co_add ⟨by decide, by decide, by decide⟩ rfl rfl d_Co_writeFunction_7 ho2) (fun v1 M1 hv hle => ?_) (fun E1 M1 hv hle => ?_)
  · rw [mbind_eq] at hF hS
    obtain ⟨hx, hM1⟩ := hv
    have hM2 := hM1.symm
    subst hM2
    generalize hq_w4 : F_Co_add cs M a0 8 (cI M (x1.getD 0) 2) = w4 at hF hS hx hle ⊢
    cases hx
    refine GW.eqs (st' := [.int w4.1]) rfl ?_
    refine g_istore_n (lv' := [(3, .int w4.1), (0, .ref a0), (1, va_rf x1), (2, .int x2)]) C d_Co_writeFunction_10 (by decide) rfl ?_
    refine g_aload_n C d_Co_writeFunction_11 rfl ?_
    refine g_iload_n C d_Co_writeFunction_12 rfl ?_
    refine g_iconst (v := 2) C d_Co_writeFunction_13 (by decide) ?_
    refine q_aload_n (r := x1) C d_Co_writeFunction_14 rfl ?_
    obtain ⟨ho5, hS⟩ := hS
    refine GW.known1 (a := x1.getD 0) (cOq.at ho5).1 ?_
    refine c_geti C hE.1 (ci := 4) i_No rfl 3 (by decide) (by decide) (by decide) kf_Co_79 d_Co_writeFunction_15 (cOq.at ho5).2 ?_
    obtain ⟨ho6, hS⟩ := hS
    obtain ⟨hs7, hS⟩ := hS
    refine c_call (av := [.ref a0, .int w4.1, .int 2, .int (cI w4.2 (x1.getD 0) 3)]) (rest := []) C hE (fun _ h => h) ⟨rfl, rfl⟩ hle (cc_Co_fill l hf D cs B dE lim _ a0 w4.1 2 (cI w4.2 (x1.getD 0) 3) hs7) (fun _ h => h) kd_Co_fill ki_Co (by dsimp only; omega) (by dsimp only; omega) d_Co_writeFunction_18 (Nat.le_of_ble_eq_true rfl) (c_fV (n := 3) (ci := 7) C hE.1 rfl km_Co_88 kv_Co_fill kl_Co_fill kd_Co_fill ⟨by decide, by decide, by decide⟩ rfl rfl d_Co_writeFunction_18 ho6) (fun v1 M1 hv hle => ?_) (fun E1 M1 hv hle => ?_)
    · rw [mbind_eq] at hF hS
      obtain ⟨hx, hM1⟩ := hv
      have hM2 := hM1.symm
      subst hM2
      generalize hq_w8 : F_Co_fill cs w4.2 a0 w4.1 2 (cI w4.2 (x1.getD 0) 3) = w8 at hF hS hx hle ⊢
      cases hx
      refine GW.eqs (st' := []) rfl ?_
      refine g_aload_n C d_Co_writeFunction_21 rfl ?_
      refine q_aload_n (r := x1) C d_Co_writeFunction_22 rfl ?_
      obtain ⟨ho9, hS⟩ := hS
      refine GW.known1 (a := x1.getD 0) (cOq.at ho9).1 ?_
      refine c_geti C hE.1 (ci := 4) i_No rfl 4 (by decide) (by decide) (by decide) kf_Co_62 d_Co_writeFunction_23 (cOq.at ho9).2 ?_
      refine g_iload_n C d_Co_writeFunction_26 rfl ?_
      obtain ⟨ho10, hS⟩ := hS
      obtain ⟨hs11, hS⟩ := hS
      refine c_call (av := [.ref a0, .int (cI w8 (x1.getD 0) 4), .int x2]) (rest := []) C hE (fun _ h => h) ⟨rfl, rfl⟩ hle (cc_Co_writeBody l hf D cs B dE lim n Lf Ls frL loL hL _ a0 (cI w8 (x1.getD 0) 4) x2 hs11) (fun _ h => h) kd_Co_writeBody ki_Co (by dsimp only; omega) (by dsimp only; omega) d_Co_writeFunction_27 (Nat.le_of_ble_eq_true rfl) (c_fV (n := 2) (ci := 7) C hE.1 rfl km_Co_91 kv_Co_writeBody kl_Co_writeBody kd_Co_writeBody ⟨by decide, by decide, by decide⟩ rfl rfl d_Co_writeFunction_27 ho10) (fun v1 M1 hv hle => ?_) (fun E1 M1 hv hle => ?_)
      · rw [mbind_eq] at hF hS
        obtain ⟨hx, hM1⟩ := hv
        have hM2 := hM1.symm
        subst hM2
        generalize hq_w12 : F_Co_writeBody cs n Lf w8 a0 (cI w8 (x1.getD 0) 4) x2 = w12 at hF hS hx hle ⊢
        cases hx
        refine GW.eqs (st' := []) rfl ?_
        refine g_aload_n C d_Co_writeFunction_30 rfl ?_
        refine g_iload_n C d_Co_writeFunction_31 rfl ?_
        refine g_iconst (v := 3) C d_Co_writeFunction_32 (by decide) ?_
        refine g_aload_n C d_Co_writeFunction_33 rfl ?_
        obtain ⟨ho13, hS⟩ := hS
        refine c_geti C hE.1 (ci := 7) i_Co rfl 2 (by decide) (by decide) (by decide) kf_Co_26 d_Co_writeFunction_34 ho13 ?_
        obtain ⟨ho14, hS⟩ := hS
        obtain ⟨hs15, hS⟩ := hS
        refine c_call (av := [.ref a0, .int w4.1, .int 3, .int (cI w12 a0 2)]) (rest := []) C hE (fun _ h => h) ⟨rfl, rfl⟩ hle (cc_Co_fill l hf D cs B dE lim _ a0 w4.1 3 (cI w12 a0 2) hs15) (fun _ h => h) kd_Co_fill ki_Co (by dsimp only; omega) (by dsimp only; omega) d_Co_writeFunction_37 (Nat.le_of_ble_eq_true rfl) (c_fV (n := 3) (ci := 7) C hE.1 rfl km_Co_88 kv_Co_fill kl_Co_fill kd_Co_fill ⟨by decide, by decide, by decide⟩ rfl rfl d_Co_writeFunction_37 ho14) (fun v1 M1 hv hle => ?_) (fun E1 M1 hv hle => ?_)
        · rw [mbind_eq] at hF hS
          obtain ⟨hx, hM1⟩ := hv
          have hM2 := hM1.symm
          subst hM2
          generalize hq_w16 : F_Co_fill cs w12 a0 w4.1 3 (cI w12 a0 2) = w16 at hF hS hx hle ⊢
          cases hx
          refine GW.eqs (st' := []) rfl ?_
          exact c_vret (M := w16) C hr hlocks hle d_Co_writeFunction_40 (by rw [← hF]; exact ⟨rfl, rfl⟩)
        · cases hv.1
      · cases hv.1
    · cases hv.1
  · cases hv.1
def F_Co_writeChoice (cs : Nat → ClassId) (n : Nat) (Lf : gMem → Nat → Int32 → Int32 → gMem) (M : gMem) (a0 : Nat) (x1 : Option Nat) (x2 : Int32) : gMem := mbind (Lf M a0 (cI M (x1.getD 0) 4) (x2 + 1)) (fun w4 => mbind (F_Co_add cs w4 a0 6 0) (fun w7 => mbind (Lf w7.2 a0 (cI w7.2 (x1.getD 0) 5) (x2 + 1)) (fun w11 => mbind (F_Co_add cs w11 a0 5 0) (fun w14 => mbind (F_Co_fill cs w14.2 a0 w7.1 1 (cI w14.2 a0 2)) (fun w18 => mbind (Lf w18 a0 (cI w18 (x1.getD 0) 6) (x2 + 1)) (fun w22 => mbind (F_Co_fill cs w22 a0 w14.1 1 (cI w22 a0 2)) (fun w26 => w26)))))))
def S_Co_writeChoice (cs : Nat → ClassId) (lim : Nat × Nat) (n : Nat) (Lf : gMem → Nat → Int32 → Int32 → gMem) (Ls : gMem → Nat → Int32 → Int32 → Prop) (M : gMem) (a0 : Nat) (x1 : Option Nat) (x2 : Int32) : Prop := (cOq 4 M x1) ∧ ((cOk 7 M a0) ∧ ((Ls M a0 (cI M (x1.getD 0) 4) (x2 + 1)) ∧ (mbind (Lf M a0 (cI M (x1.getD 0) 4) (x2 + 1)) (fun w4 => (cOk 7 w4 a0) ∧ ((S_Co_add cs lim w4 a0 6 0) ∧ (mbind (F_Co_add cs w4 a0 6 0) (fun w7 => (cOq 4 w7.2 x1) ∧ ((cOk 7 w7.2 a0) ∧ ((Ls w7.2 a0 (cI w7.2 (x1.getD 0) 5) (x2 + 1)) ∧ (mbind (Lf w7.2 a0 (cI w7.2 (x1.getD 0) 5) (x2 + 1)) (fun w11 => (cOk 7 w11 a0) ∧ ((S_Co_add cs lim w11 a0 5 0) ∧ (mbind (F_Co_add cs w11 a0 5 0) (fun w14 => (cOk 7 w14.2 a0) ∧ ((cOk 7 w14.2 a0) ∧ ((S_Co_fill cs lim w14.2 a0 w7.1 1 (cI w14.2 a0 2)) ∧ (mbind (F_Co_fill cs w14.2 a0 w7.1 1 (cI w14.2 a0 2)) (fun w18 => (cOq 4 w18 x1) ∧ ((cOk 7 w18 a0) ∧ ((Ls w18 a0 (cI w18 (x1.getD 0) 6) (x2 + 1)) ∧ (mbind (Lf w18 a0 (cI w18 (x1.getD 0) 6) (x2 + 1)) (fun w22 => (cOk 7 w22 a0) ∧ ((cOk 7 w22 a0) ∧ ((S_Co_fill cs lim w22 a0 w14.1 1 (cI w22 a0 2)) ∧ (mbind (F_Co_fill cs w22 a0 w14.1 1 (cI w22 a0 2)) (fun w26 => True))))))))))))))))))))))))))
set_option maxRecDepth 100000 in
set_option maxHeartbeats 4000000 in
theorem cc_Co_writeChoice (l : Launch) (hf : l.flags = pinnedFlags ++ [noTraceFlag]) (D : va_G) (cs : Nat → ClassId) (B : Nat) (dE : Nat × Nat) (lim : Nat × Nat) (n : Nat) (Lf : gMem → Nat → Int32 → Int32 → gMem) (Ls : gMem → Nat → Int32 → Int32 → Prop) (frL loL : Nat) (hL : ∀ (M : gMem) (a0 : Nat) (x1 x2 : Int32), Ls M a0 x1 x2 → cMet l y_Co_write (Cond.code y_Co_write c_Co_write 4 none) frL loL D cs B dE (gA B) lim [.ref a0, .int x1, .int x2] M (fun x M' => x = .inl none ∧ M' = (Lf M a0 x1 x2))) (M : gMem) (a0 : Nat) (x1 : Option Nat) (x2 : Int32) (hS : S_Co_writeChoice cs lim n Lf Ls M a0 x1 x2) : cMet l y_Co_writeChoice (Cond.code y_Co_writeChoice c_Co_writeChoice 5 none) (frL + 8) (loL + 280) D cs B dE (gA B) lim [.ref a0, va_rf x1, .int x2] M (fun x M' => x = .inl none ∧ M' = (F_Co_writeChoice cs n Lf M a0 x1 x2)) := by
  refine cMet.ofW (by decide) (by cases x1 <;> exact Nat.le_of_ble_eq_true rfl) (lv0 := [(0, .ref a0), (1, va_rf x1), (2, .int x2)]) (by cases x1 <;> rfl) ?_
  intro p e s m args below meth c C hE hR0 hle hr hlocks hex hn
  generalize hF : F_Co_writeChoice cs n Lf M a0 x1 x2 = Fv
  unfold F_Co_writeChoice at hF
  unfold S_Co_writeChoice at hS
  refine g_aload_n C d_Co_writeChoice_0 rfl ?_
  refine q_aload_n (r := x1) C d_Co_writeChoice_1 rfl ?_
  obtain ⟨ho1, hS⟩ := hS
  refine GW.known1 (a := x1.getD 0) (cOq.at ho1).1 ?_
  refine c_geti C hE.1 (ci := 4) i_No rfl 4 (by decide) (by decide) (by decide) kf_Co_62 d_Co_writeChoice_2 (cOq.at ho1).2 ?_
  refine g_iload_n C d_Co_writeChoice_5 rfl ?_
  refine g_iconst (v := 1) C d_Co_writeChoice_6 (by decide) ?_
  refine g_iadd C d_Co_writeChoice_7 ?_
  refine GW.more (A' := gA B) (fun _ h => h.elim) ?_
  obtain ⟨ho2, hS⟩ := hS
  obtain ⟨hs3, hS⟩ := hS
  refine c_call (av := [.ref a0, .int (cI M (x1.getD 0) 4), .int (x2 + 1)]) (rest := []) C hE (fun _ h => h) ⟨rfl, rfl⟩ hle (hL _ a0 (cI M (x1.getD 0) 4) (x2 + 1) hs3) (fun _ h => h) kd_Co_write ki_Co (by dsimp only; omega) (by dsimp only; omega) d_Co_writeChoice_8 (Nat.le_of_ble_eq_true rfl) (c_fV (n := 2) (ci := 7) C hE.1 rfl km_Co_30 kv_Co_write kl_Co_write kd_Co_write ⟨by decide, by decide, by decide⟩ rfl rfl d_Co_writeChoice_8 ho2) (fun v1 M1 hv hle => ?_) (fun E1 M1 hv hle => ?_)
  · rw [mbind_eq] at hF hS
    obtain ⟨hx, hM1⟩ := hv
    have hM2 := hM1.symm
    subst hM2
    generalize hq_w4 : Lf M a0 (cI M (x1.getD 0) 4) (x2 + 1) = w4 at hF hS hx hle ⊢
    cases hx
    refine GW.eqs (st' := []) rfl ?_
    refine g_aload_n C d_Co_writeChoice_11 rfl ?_
    refine g_bipush (v := 6) C d_Co_writeChoice_12 (by decide) ?_
    refine g_iconst (v := 0) C d_Co_writeChoice_14 (by decide) ?_
    obtain ⟨ho5, hS⟩ := hS
    obtain ⟨hs6, hS⟩ := hS
    refine c_call (av := [.ref a0, .int 6, .int 0]) (rest := []) C hE (fun _ h => h) ⟨rfl, rfl⟩ hle (cc_Co_add l hf D cs B dE lim _ a0 6 0 hs6) (fun _ h => h) kd_Co_add ki_Co (by dsimp only; omega) (by dsimp only; omega) d_Co_writeChoice_15 (Nat.le_of_ble_eq_true rfl) (c_fV (n := 2) (ci := 7) C hE.1 rfl km_Co_34 kv_Co_add kl_Co_add kd_Co_add ⟨by decide, by decide, by decide⟩ rfl rfl d_Co_writeChoice_15 ho5) (fun v1 M1 hv hle => ?_) (fun E1 M1 hv hle => ?_)
    · rw [mbind_eq] at hF hS
      obtain ⟨hx, hM1⟩ := hv
      have hM2 := hM1.symm
      subst hM2
      generalize hq_w7 : F_Co_add cs w4 a0 6 0 = w7 at hF hS hx hle ⊢
      cases hx
      refine GW.eqs (st' := [.int w7.1]) rfl ?_
      refine g_istore_n (lv' := [(3, .int w7.1), (0, .ref a0), (1, va_rf x1), (2, .int x2)]) C d_Co_writeChoice_18 (by decide) rfl ?_
      refine g_aload_n C d_Co_writeChoice_19 rfl ?_
      refine q_aload_n (r := x1) C d_Co_writeChoice_20 rfl ?_
      obtain ⟨ho8, hS⟩ := hS
      refine GW.known1 (a := x1.getD 0) (cOq.at ho8).1 ?_
      refine c_geti C hE.1 (ci := 4) i_No rfl 5 (by decide) (by decide) (by decide) kf_Co_68 d_Co_writeChoice_21 (cOq.at ho8).2 ?_
      refine g_iload_n C d_Co_writeChoice_24 rfl ?_
      refine g_iconst (v := 1) C d_Co_writeChoice_25 (by decide) ?_
      refine g_iadd C d_Co_writeChoice_26 ?_
      obtain ⟨ho9, hS⟩ := hS
      obtain ⟨hs10, hS⟩ := hS
      refine c_call (av := [.ref a0, .int (cI w7.2 (x1.getD 0) 5), .int (x2 + 1)]) (rest := []) C hE (fun _ h => h) ⟨rfl, rfl⟩ hle (hL _ a0 (cI w7.2 (x1.getD 0) 5) (x2 + 1) hs10) (fun _ h => h) kd_Co_write ki_Co (by dsimp only; omega) (by dsimp only; omega) d_Co_writeChoice_27 (Nat.le_of_ble_eq_true rfl) (c_fV (n := 2) (ci := 7) C hE.1 rfl km_Co_30 kv_Co_write kl_Co_write kd_Co_write ⟨by decide, by decide, by decide⟩ rfl rfl d_Co_writeChoice_27 ho9) (fun v1 M1 hv hle => ?_) (fun E1 M1 hv hle => ?_)
      · rw [mbind_eq] at hF hS
        obtain ⟨hx, hM1⟩ := hv
        have hM2 := hM1.symm
        subst hM2
        generalize hq_w11 : Lf w7.2 a0 (cI w7.2 (x1.getD 0) 5) (x2 + 1) = w11 at hF hS hx hle ⊢
        cases hx
        refine GW.eqs (st' := []) rfl ?_
        refine g_aload_n C d_Co_writeChoice_30 rfl ?_
        refine g_iconst (v := 5) C d_Co_writeChoice_31 (by decide) ?_
        refine g_iconst (v := 0) C d_Co_writeChoice_32 (by decide) ?_
        obtain ⟨ho12, hS⟩ := hS
        obtain ⟨hs13, hS⟩ := hS
        refine c_call (av := [.ref a0, .int 5, .int 0]) (rest := []) C hE (fun _ h => h) ⟨rfl, rfl⟩ hle (cc_Co_add l hf D cs B dE lim _ a0 5 0 hs13) (fun _ h => h) kd_Co_add ki_Co (by dsimp only; omega) (by dsimp only; omega) d_Co_writeChoice_33 (Nat.le_of_ble_eq_true rfl) (c_fV (n := 2) (ci := 7) C hE.1 rfl km_Co_34 kv_Co_add kl_Co_add kd_Co_add ⟨by decide, by decide, by decide⟩ rfl rfl d_Co_writeChoice_33 ho12) (fun v1 M1 hv hle => ?_) (fun E1 M1 hv hle => ?_)
        · rw [mbind_eq] at hF hS
          obtain ⟨hx, hM1⟩ := hv
          have hM2 := hM1.symm
          subst hM2
          generalize hq_w14 : F_Co_add cs w11 a0 5 0 = w14 at hF hS hx hle ⊢
          cases hx
          refine GW.eqs (st' := [.int w14.1]) rfl ?_
          refine g_istore (lv' := [(4, .int w14.1), (3, .int w7.1), (0, .ref a0), (1, va_rf x1), (2, .int x2)]) C d_Co_writeChoice_36 (by decide) rfl ?_
          refine g_aload_n C d_Co_writeChoice_38 rfl ?_
          refine g_iload_n C d_Co_writeChoice_39 rfl ?_
          refine g_iconst (v := 1) C d_Co_writeChoice_40 (by decide) ?_
          refine g_aload_n C d_Co_writeChoice_41 rfl ?_
          obtain ⟨ho15, hS⟩ := hS
          refine c_geti C hE.1 (ci := 7) i_Co rfl 2 (by decide) (by decide) (by decide) kf_Co_26 d_Co_writeChoice_42 ho15 ?_
          obtain ⟨ho16, hS⟩ := hS
          obtain ⟨hs17, hS⟩ := hS
          refine c_call (av := [.ref a0, .int w7.1, .int 1, .int (cI w14.2 a0 2)]) (rest := []) C hE (fun _ h => h) ⟨rfl, rfl⟩ hle (cc_Co_fill l hf D cs B dE lim _ a0 w7.1 1 (cI w14.2 a0 2) hs17) (fun _ h => h) kd_Co_fill ki_Co (by dsimp only; omega) (by dsimp only; omega) d_Co_writeChoice_45 (Nat.le_of_ble_eq_true rfl) (c_fV (n := 3) (ci := 7) C hE.1 rfl km_Co_88 kv_Co_fill kl_Co_fill kd_Co_fill ⟨by decide, by decide, by decide⟩ rfl rfl d_Co_writeChoice_45 ho16) (fun v1 M1 hv hle => ?_) (fun E1 M1 hv hle => ?_)
          · rw [mbind_eq] at hF hS
            obtain ⟨hx, hM1⟩ := hv
            have hM2 := hM1.symm
            subst hM2
            generalize hq_w18 : F_Co_fill cs w14.2 a0 w7.1 1 (cI w14.2 a0 2) = w18 at hF hS hx hle ⊢
            cases hx
            refine GW.eqs (st' := []) rfl ?_
            refine g_aload_n C d_Co_writeChoice_48 rfl ?_
            refine q_aload_n (r := x1) C d_Co_writeChoice_49 rfl ?_
            obtain ⟨ho19, hS⟩ := hS
            refine GW.known1 (a := x1.getD 0) (cOq.at ho19).1 ?_
            refine c_geti C hE.1 (ci := 4) i_No rfl 6 (by decide) (by decide) (by decide) kf_Co_94 d_Co_writeChoice_50 (cOq.at ho19).2 ?_
            refine g_iload_n C d_Co_writeChoice_53 rfl ?_
            refine g_iconst (v := 1) C d_Co_writeChoice_54 (by decide) ?_
            refine g_iadd C d_Co_writeChoice_55 ?_
            obtain ⟨ho20, hS⟩ := hS
            obtain ⟨hs21, hS⟩ := hS
            refine c_call (av := [.ref a0, .int (cI w18 (x1.getD 0) 6), .int (x2 + 1)]) (rest := []) C hE (fun _ h => h) ⟨rfl, rfl⟩ hle (hL _ a0 (cI w18 (x1.getD 0) 6) (x2 + 1) hs21) (fun _ h => h) kd_Co_write ki_Co (by dsimp only; omega) (by dsimp only; omega) d_Co_writeChoice_56 (Nat.le_of_ble_eq_true rfl) (c_fV (n := 2) (ci := 7) C hE.1 rfl km_Co_30 kv_Co_write kl_Co_write kd_Co_write ⟨by decide, by decide, by decide⟩ rfl rfl d_Co_writeChoice_56 ho20) (fun v1 M1 hv hle => ?_) (fun E1 M1 hv hle => ?_)
            · rw [mbind_eq] at hF hS
              obtain ⟨hx, hM1⟩ := hv
              have hM2 := hM1.symm
              subst hM2
              generalize hq_w22 : Lf w18 a0 (cI w18 (x1.getD 0) 6) (x2 + 1) = w22 at hF hS hx hle ⊢
              cases hx
              refine GW.eqs (st' := []) rfl ?_
              refine g_aload_n C d_Co_writeChoice_59 rfl ?_
              refine g_iload C d_Co_writeChoice_60 rfl ?_
              refine g_iconst (v := 1) C d_Co_writeChoice_62 (by decide) ?_
              refine g_aload_n C d_Co_writeChoice_63 rfl ?_
              obtain ⟨ho23, hS⟩ := hS
              refine c_geti C hE.1 (ci := 7) i_Co rfl 2 (by decide) (by decide) (by decide) kf_Co_26 d_Co_writeChoice_64 ho23 ?_
              obtain ⟨ho24, hS⟩ := hS
              obtain ⟨hs25, hS⟩ := hS
              refine c_call (av := [.ref a0, .int w14.1, .int 1, .int (cI w22 a0 2)]) (rest := []) C hE (fun _ h => h) ⟨rfl, rfl⟩ hle (cc_Co_fill l hf D cs B dE lim _ a0 w14.1 1 (cI w22 a0 2) hs25) (fun _ h => h) kd_Co_fill ki_Co (by dsimp only; omega) (by dsimp only; omega) d_Co_writeChoice_67 (Nat.le_of_ble_eq_true rfl) (c_fV (n := 3) (ci := 7) C hE.1 rfl km_Co_88 kv_Co_fill kl_Co_fill kd_Co_fill ⟨by decide, by decide, by decide⟩ rfl rfl d_Co_writeChoice_67 ho24) (fun v1 M1 hv hle => ?_) (fun E1 M1 hv hle => ?_)
              · rw [mbind_eq] at hF hS
                obtain ⟨hx, hM1⟩ := hv
                have hM2 := hM1.symm
                subst hM2
                generalize hq_w26 : F_Co_fill cs w22 a0 w14.1 1 (cI w22 a0 2) = w26 at hF hS hx hle ⊢
                cases hx
                refine GW.eqs (st' := []) rfl ?_
                exact c_vret (M := w26) C hr hlocks hle d_Co_writeChoice_70 (by rw [← hF]; exact ⟨rfl, rfl⟩)
              · cases hv.1
            · cases hv.1
          · cases hv.1
        · cases hv.1
      · cases hv.1
    · cases hv.1
  · cases hv.1
def F_Co_writeHandle_146 (cs : Nat → ClassId) (Lf : gMem → Nat → Int32 → Int32 → gMem) : Nat → gMem → Nat → Option Nat → Int32 → Int32 → Int32 → gMem
  | 0, M, _, _, _, _, _ => M
  | n + 1, M, a0, x1, x2, x3, x4 => if (cI M (x1.getD 0) 8) ≤ x4 then (mbind (F_Co_fill cs M a0 x3 1 (cI M a0 2)) (fun w6 => w6)) else (mbind (F_Co_fill cs M a0 (((x3 + 1) + x4) - (cI M (x1.getD 0) 7)) 2 (cI M a0 2)) (fun w11 => mbind (F_Ns_clauseAt cs w11 ((cQ w11 a0 0).getD 0) x4) (fun w15 => mbind (F_Co_writeBody cs n Lf w11 a0 (cI w11 (w15.getD 0) 3) x2) (fun w19 => F_Co_writeHandle_146 cs Lf n w19 a0 x1 x2 x3 (x4 + 1)))))
def S_Co_writeHandle_146 (cs : Nat → ClassId) (lim : Nat × Nat) (Lf : gMem → Nat → Int32 → Int32 → gMem) (Ls : gMem → Nat → Int32 → Int32 → Prop) : Nat → gMem → Nat → Option Nat → Int32 → Int32 → Int32 → Prop
  | 0, _, _, _, _, _, _ => False
  | n + 1, M, a0, x1, x2, x3, x4 => (cOq 4 M x1) ∧ (if (cI M (x1.getD 0) 8) ≤ x4 then ((cOk 7 M a0) ∧ ((cOk 7 M a0) ∧ ((S_Co_fill cs lim M a0 x3 1 (cI M a0 2)) ∧ (mbind (F_Co_fill cs M a0 x3 1 (cI M a0 2)) (fun w6 => True))))) else ((cOq 4 M x1) ∧ ((cOk 7 M a0) ∧ ((cOk 7 M a0) ∧ ((S_Co_fill cs lim M a0 (((x3 + 1) + x4) - (cI M (x1.getD 0) 7)) 2 (cI M a0 2)) ∧ (mbind (F_Co_fill cs M a0 (((x3 + 1) + x4) - (cI M (x1.getD 0) 7)) 2 (cI M a0 2)) (fun w11 => (cOk 7 w11 a0) ∧ ((cOq 3 w11 (cQ w11 a0 0)) ∧ ((S_Ns_clauseAt cs lim w11 ((cQ w11 a0 0).getD 0) x4) ∧ (mbind (F_Ns_clauseAt cs w11 ((cQ w11 a0 0).getD 0) x4) (fun w15 => (cOq 5 w11 w15) ∧ ((cOk 7 w11 a0) ∧ ((S_Co_writeBody cs lim n Lf Ls w11 a0 (cI w11 (w15.getD 0) 3) x2) ∧ (mbind (F_Co_writeBody cs n Lf w11 a0 (cI w11 (w15.getD 0) 3) x2) (fun w19 => S_Co_writeHandle_146 cs lim Lf Ls n w19 a0 x1 x2 x3 (x4 + 1))))))))))))))))
set_option maxRecDepth 100000 in
set_option maxHeartbeats 4000000 in
theorem w_Co_writeHandle_146 {p : Program} {l : Launch} {e : Env} {s : State} {m : MethodId} {args : Array Value} {below : List Frame} {meth : Method} {c : Code} {D : va_G} {cs : Nat → ClassId} {B : Nat} {dE : Nat × Nat} {lim : Nat × Nat} {M0 : gMem} (C : CallFix p m c c_Co_writeHandle 7 s args gT y_Co_writeHandle.cls) (hE : gEnv D gcl (gtys cs) gz B dE s) (hf : l.flags = pinnedFlags ++ [noTraceFlag]) (hr : meth.sig.returnType = none) (hlocks : meth.locks = false) (hex : c.exceptionTable.isEmpty = true) (hn : meth.name = y_Co_writeHandle.name) {Lf : gMem → Nat → Int32 → Int32 → gMem} {Ls : gMem → Nat → Int32 → Int32 → Prop} {frL loL : Nat} (hL : ∀ (M : gMem) (a0 : Nat) (x1 x2 : Int32), Ls M a0 x1 x2 → cMet l y_Co_write (Cond.code y_Co_write c_Co_write 4 none) frL loL D cs B dE (gA B) lim [.ref a0, .int x1, .int x2] M (fun x M' => x = .inl none ∧ M' = (Lf M a0 x1 x2))) : ∀ (n : Nat) (M : gMem) (a0 : Nat) (x1 : Option Nat) (x2 : Int32) (x3 : Int32) (x4 : Int32) (Fv : gMem) (hle : cLe lim M0 M) (hS : S_Co_writeHandle_146 cs lim Lf Ls n M a0 x1 x2 x3 x4) (hF : F_Co_writeHandle_146 cs Lf n M a0 x1 x2 x3 x4 = Fv), GW p l e ({ frames := frL + 10, cells := lim.1 - M0.2.1, slots := lim.2 - M0.2.2, locals := loL + 340 } : Room) s m args below meth c 7 (gA B) (cQ0 below D B (gA B) lim M0 (fun x M' => x = .inl none ∧ M' = Fv) args s) (gR D gcl B M) (M.2.1 - M0.2.1) (M.2.2 - M0.2.2) 146 [(0, .ref a0), (1, va_rf x1), (2, .int x2), (3, .int x3), (4, .int x4)] [] := by
  intro n
  induction n with
  | zero =>
    intro M a0 x1 x2 x3 x4 Fv hle hS hF
    exact hS.elim
  | succ n ih =>
    intro M a0 x1 x2 x3 x4 Fv hle hS hF
    simp only [S_Co_writeHandle_146] at hS
    simp only [F_Co_writeHandle_146] at hF
    refine g_iload C d_Co_writeHandle_146 rfl ?_
    refine q_aload_n (r := x1) C d_Co_writeHandle_148 rfl ?_
    obtain ⟨ho1, hS⟩ := hS
    refine GW.known1 (a := x1.getD 0) (cOq.at ho1).1 ?_
    refine c_geti C hE.1 (ci := 4) i_No rfl 8 (by decide) (by decide) (by decide) kf_Co_97 d_Co_writeHandle_149 (cOq.at ho1).2 ?_
    refine g_icmp_ge C 198 d_Co_writeHandle_152 (by decide) (fun hc2 => ?_) (fun hc2 => ?_)
    · rw [if_pos hc2] at hF hS
      refine g_aload_n C d_Co_writeHandle_198 rfl ?_
      refine g_iload_n C d_Co_writeHandle_199 rfl ?_
      refine g_iconst (v := 1) C d_Co_writeHandle_200 (by decide) ?_
      refine g_aload_n C d_Co_writeHandle_201 rfl ?_
      obtain ⟨ho3, hS⟩ := hS
      refine c_geti C hE.1 (ci := 7) i_Co rfl 2 (by decide) (by decide) (by decide) kf_Co_26 d_Co_writeHandle_202 ho3 ?_
      obtain ⟨ho4, hS⟩ := hS
      obtain ⟨hs5, hS⟩ := hS
      refine c_call (av := [.ref a0, .int x3, .int 1, .int (cI M a0 2)]) (rest := []) C hE (fun _ h => h) ⟨rfl, rfl⟩ hle (cc_Co_fill l hf D cs B dE lim _ a0 x3 1 (cI M a0 2) hs5) (fun _ h => h) kd_Co_fill ki_Co (by dsimp only; omega) (by dsimp only; omega) d_Co_writeHandle_205 (Nat.le_of_ble_eq_true rfl) (c_fV (n := 3) (ci := 7) C hE.1 rfl km_Co_88 kv_Co_fill kl_Co_fill kd_Co_fill ⟨by decide, by decide, by decide⟩ rfl rfl d_Co_writeHandle_205 ho4) (fun v1 M1 hv hle => ?_) (fun E1 M1 hv hle => ?_)
      · rw [mbind_eq] at hF hS
        obtain ⟨hx, hM1⟩ := hv
        have hM2 := hM1.symm
        subst hM2
        generalize hq_w6 : F_Co_fill cs M a0 x3 1 (cI M a0 2) = w6 at hF hS hx hle ⊢
        cases hx
        refine GW.eqs (st' := []) rfl ?_
        exact c_vret (M := w6) C hr hlocks hle d_Co_writeHandle_208 (by rw [← hF]; exact ⟨rfl, rfl⟩)
      · cases hv.1
    · rw [if_neg hc2] at hF hS
      refine g_aload_n C d_Co_writeHandle_155 rfl ?_
      refine g_iload_n C d_Co_writeHandle_156 rfl ?_
      refine g_iconst (v := 1) C d_Co_writeHandle_157 (by decide) ?_
      refine g_iadd C d_Co_writeHandle_158 ?_
      refine g_iload C d_Co_writeHandle_159 rfl ?_
      refine g_iadd C d_Co_writeHandle_161 ?_
      refine q_aload_n (r := x1) C d_Co_writeHandle_162 rfl ?_
      obtain ⟨ho7, hS⟩ := hS
      refine GW.known1 (a := x1.getD 0) (cOq.at ho7).1 ?_
      refine c_geti C hE.1 (ci := 4) i_No rfl 7 (by decide) (by decide) (by decide) kf_Co_100 d_Co_writeHandle_163 (cOq.at ho7).2 ?_
      refine g_isub C d_Co_writeHandle_166 ?_
      refine g_iconst (v := 2) C d_Co_writeHandle_167 (by decide) ?_
      refine g_aload_n C d_Co_writeHandle_168 rfl ?_
      obtain ⟨ho8, hS⟩ := hS
      refine c_geti C hE.1 (ci := 7) i_Co rfl 2 (by decide) (by decide) (by decide) kf_Co_26 d_Co_writeHandle_169 ho8 ?_
      obtain ⟨ho9, hS⟩ := hS
      obtain ⟨hs10, hS⟩ := hS
      refine c_call (av := [.ref a0, .int (((x3 + 1) + x4) - (cI M (x1.getD 0) 7)), .int 2, .int (cI M a0 2)]) (rest := []) C hE (fun _ h => h) ⟨rfl, rfl⟩ hle (cc_Co_fill l hf D cs B dE lim _ a0 (((x3 + 1) + x4) - (cI M (x1.getD 0) 7)) 2 (cI M a0 2) hs10) (fun _ h => h) kd_Co_fill ki_Co (by dsimp only; omega) (by dsimp only; omega) d_Co_writeHandle_172 (Nat.le_of_ble_eq_true rfl) (c_fV (n := 3) (ci := 7) C hE.1 rfl km_Co_88 kv_Co_fill kl_Co_fill kd_Co_fill ⟨by decide, by decide, by decide⟩ rfl rfl d_Co_writeHandle_172 ho9) (fun v1 M1 hv hle => ?_) (fun E1 M1 hv hle => ?_)
      · rw [mbind_eq] at hF hS
        obtain ⟨hx, hM1⟩ := hv
        have hM2 := hM1.symm
        subst hM2
        generalize hq_w11 : F_Co_fill cs M a0 (((x3 + 1) + x4) - (cI M (x1.getD 0) 7)) 2 (cI M a0 2) = w11 at hF hS hx hle ⊢
        cases hx
        refine GW.eqs (st' := []) rfl ?_
        refine g_aload_n C d_Co_writeHandle_175 rfl ?_
        refine g_aload_n C d_Co_writeHandle_176 rfl ?_
        obtain ⟨ho12, hS⟩ := hS
        refine c_getq C hE.1 (ci := 7) i_Co rfl 0 (by decide) (by decide) (by decide) kf_Co_18 d_Co_writeHandle_177 ho12 ?_
        refine g_iload C d_Co_writeHandle_180 rfl ?_
        obtain ⟨ho13, hS⟩ := hS
        refine GW.known2 (a := (cQ w11 a0 0).getD 0) (cOq.at ho13).1 ?_
        obtain ⟨hs14, hS⟩ := hS
        refine c_call (av := [.ref ((cQ w11 a0 0).getD 0), .int x4]) (rest := [.ref a0]) C hE (fun _ h => h) ⟨rfl, rfl⟩ hle (cc_Ns_clauseAt l hf D cs B dE lim _ ((cQ w11 a0 0).getD 0) x4 hs14) (fun _ h => h.elim) kd_Ns_clauseAt ki_Ns (by dsimp only; omega) (by dsimp only; omega) d_Co_writeHandle_182 (Nat.le_of_ble_eq_true rfl) (c_fV (n := 1) (ci := 3) C hE.1 rfl km_Co_103 kv_Ns_clauseAt kl_Ns_clauseAt kd_Ns_clauseAt ⟨by decide, by decide, by decide⟩ rfl rfl d_Co_writeHandle_182 (cOq.at ho13).2) (fun v1 M1 hv hle => ?_) (fun E1 M1 hv hle => ?_)
        · rw [mbind_eq] at hF hS
          obtain ⟨hx, hM1⟩ := hv
          have hM2 := hM1.symm
          subst hM2
          generalize hq_w15 : F_Ns_clauseAt cs w11 ((cQ w11 a0 0).getD 0) x4 = w15 at hF hS hx hle ⊢
          cases hx
          refine GW.eqs (st' := [va_rf w15, .ref a0]) rfl ?_
          obtain ⟨ho16, hS⟩ := hS
          refine GW.known1 (a := w15.getD 0) (cOq.at ho16).1 ?_
          refine c_geti C hE.1 (ci := 5) i_Cl rfl 3 (by decide) (by decide) (by decide) kf_Co_118 d_Co_writeHandle_185 (cOq.at ho16).2 ?_
          refine g_iload_n C d_Co_writeHandle_188 rfl ?_
          obtain ⟨ho17, hS⟩ := hS
          obtain ⟨hs18, hS⟩ := hS
          refine c_call (av := [.ref a0, .int (cI w11 (w15.getD 0) 3), .int x2]) (rest := []) C hE (fun _ h => h) ⟨rfl, rfl⟩ hle (cc_Co_writeBody l hf D cs B dE lim n Lf Ls frL loL hL _ a0 (cI w11 (w15.getD 0) 3) x2 hs18) (fun _ h => h) kd_Co_writeBody ki_Co (by dsimp only; omega) (by dsimp only; omega) d_Co_writeHandle_189 (Nat.le_of_ble_eq_true rfl) (c_fV (n := 2) (ci := 7) C hE.1 rfl km_Co_91 kv_Co_writeBody kl_Co_writeBody kd_Co_writeBody ⟨by decide, by decide, by decide⟩ rfl rfl d_Co_writeHandle_189 ho17) (fun v1 M1 hv hle => ?_) (fun E1 M1 hv hle => ?_)
          · rw [mbind_eq] at hF hS
            obtain ⟨hx, hM1⟩ := hv
            have hM2 := hM1.symm
            subst hM2
            generalize hq_w19 : F_Co_writeBody cs n Lf w11 a0 (cI w11 (w15.getD 0) 3) x2 = w19 at hF hS hx hle ⊢
            cases hx
            refine GW.eqs (st' := []) rfl ?_
            refine g_iinc (v := x4 + 1) (lv' := [(4, .int (x4 + 1)), (0, .ref a0), (1, va_rf x1), (2, .int x2), (3, .int x3)]) C d_Co_writeHandle_192 rfl rfl (by decide) rfl ?_
            refine g_goto C 146 d_Co_writeHandle_195 (by decide) ?_
            refine GW.subl [1, 2, 3, 4, 0] rfl ?_
            exact ih w19 a0 x1 x2 x3 (x4 + 1) Fv hle hS hF
          · cases hv.1
        · cases hv.1
      · cases hv.1
def F_Co_writeHandle_39 (cs : Nat → ClassId) (Lf : gMem → Nat → Int32 → Int32 → gMem) : Nat → gMem → Nat → Option Nat → Int32 → Int32 → Int32 → gMem
  | 0, M, _, _, _, _, _ => M
  | n + 1, M, a0, x1, x2, x3, x4 => if (cI M (x1.getD 0) 8) ≤ x4 then (mbind (Lf M a0 (cI M (x1.getD 0) 4) (x2 + 1)) (fun w6 => mbind (F_Co_add cs w6 a0 11 0) (fun w9 => mbind (F_Co_fill cs w9.2 a0 x3 2 (cI w9.2 a0 2)) (fun w13 => mbind (F_Co_writeBody cs n Lf w13 a0 (cI w13 (x1.getD 0) 5) x2) (fun w17 => F_Co_writeHandle_146 cs Lf n w17 a0 x1 x2 x3 (cI w17 (x1.getD 0) 7)))))) else (mbind (F_Ns_clauseAt cs M ((cQ M a0 0).getD 0) x4) (fun w22 => mbind (F_Co_add cs M a0 10 (cI M (w22.getD 0) 0)) (fun w26 => mbind (F_Co_fill cs w26.2 a0 w26.1 3 (cI w26.2 (w22.getD 0) 1)) (fun w30 => mbind (F_Co_fill cs w30 a0 w26.1 4 (cI w30 (w22.getD 0) 2)) (fun w34 => F_Co_writeHandle_39 cs Lf n w34 a0 x1 x2 x3 (x4 + 1))))))
def S_Co_writeHandle_39 (cs : Nat → ClassId) (lim : Nat × Nat) (Lf : gMem → Nat → Int32 → Int32 → gMem) (Ls : gMem → Nat → Int32 → Int32 → Prop) : Nat → gMem → Nat → Option Nat → Int32 → Int32 → Int32 → Prop
  | 0, _, _, _, _, _, _ => False
  | n + 1, M, a0, x1, x2, x3, x4 => (cOq 4 M x1) ∧ (if (cI M (x1.getD 0) 8) ≤ x4 then ((cOq 4 M x1) ∧ ((cOk 7 M a0) ∧ ((Ls M a0 (cI M (x1.getD 0) 4) (x2 + 1)) ∧ (mbind (Lf M a0 (cI M (x1.getD 0) 4) (x2 + 1)) (fun w6 => (cOk 7 w6 a0) ∧ ((S_Co_add cs lim w6 a0 11 0) ∧ (mbind (F_Co_add cs w6 a0 11 0) (fun w9 => (cOk 7 w9.2 a0) ∧ ((cOk 7 w9.2 a0) ∧ ((S_Co_fill cs lim w9.2 a0 x3 2 (cI w9.2 a0 2)) ∧ (mbind (F_Co_fill cs w9.2 a0 x3 2 (cI w9.2 a0 2)) (fun w13 => (cOq 4 w13 x1) ∧ ((cOk 7 w13 a0) ∧ ((S_Co_writeBody cs lim n Lf Ls w13 a0 (cI w13 (x1.getD 0) 5) x2) ∧ (mbind (F_Co_writeBody cs n Lf w13 a0 (cI w13 (x1.getD 0) 5) x2) (fun w17 => (cOq 4 w17 x1) ∧ (S_Co_writeHandle_146 cs lim Lf Ls n w17 a0 x1 x2 x3 (cI w17 (x1.getD 0) 7)))))))))))))))))) else ((cOk 7 M a0) ∧ ((cOq 3 M (cQ M a0 0)) ∧ ((S_Ns_clauseAt cs lim M ((cQ M a0 0).getD 0) x4) ∧ (mbind (F_Ns_clauseAt cs M ((cQ M a0 0).getD 0) x4) (fun w22 => (cOq 5 M w22) ∧ ((cOk 7 M a0) ∧ ((S_Co_add cs lim M a0 10 (cI M (w22.getD 0) 0)) ∧ (mbind (F_Co_add cs M a0 10 (cI M (w22.getD 0) 0)) (fun w26 => (cOq 5 w26.2 w22) ∧ ((cOk 7 w26.2 a0) ∧ ((S_Co_fill cs lim w26.2 a0 w26.1 3 (cI w26.2 (w22.getD 0) 1)) ∧ (mbind (F_Co_fill cs w26.2 a0 w26.1 3 (cI w26.2 (w22.getD 0) 1)) (fun w30 => (cOq 5 w30 w22) ∧ ((cOk 7 w30 a0) ∧ ((S_Co_fill cs lim w30 a0 w26.1 4 (cI w30 (w22.getD 0) 2)) ∧ (mbind (F_Co_fill cs w30 a0 w26.1 4 (cI w30 (w22.getD 0) 2)) (fun w34 => S_Co_writeHandle_39 cs lim Lf Ls n w34 a0 x1 x2 x3 (x4 + 1)))))))))))))))))))
set_option maxRecDepth 100000 in
set_option maxHeartbeats 4000000 in
theorem w_Co_writeHandle_39 {p : Program} {l : Launch} {e : Env} {s : State} {m : MethodId} {args : Array Value} {below : List Frame} {meth : Method} {c : Code} {D : va_G} {cs : Nat → ClassId} {B : Nat} {dE : Nat × Nat} {lim : Nat × Nat} {M0 : gMem} (C : CallFix p m c c_Co_writeHandle 7 s args gT y_Co_writeHandle.cls) (hE : gEnv D gcl (gtys cs) gz B dE s) (hf : l.flags = pinnedFlags ++ [noTraceFlag]) (hr : meth.sig.returnType = none) (hlocks : meth.locks = false) (hex : c.exceptionTable.isEmpty = true) (hn : meth.name = y_Co_writeHandle.name) {Lf : gMem → Nat → Int32 → Int32 → gMem} {Ls : gMem → Nat → Int32 → Int32 → Prop} {frL loL : Nat} (hL : ∀ (M : gMem) (a0 : Nat) (x1 x2 : Int32), Ls M a0 x1 x2 → cMet l y_Co_write (Cond.code y_Co_write c_Co_write 4 none) frL loL D cs B dE (gA B) lim [.ref a0, .int x1, .int x2] M (fun x M' => x = .inl none ∧ M' = (Lf M a0 x1 x2))) : ∀ (n : Nat) (M : gMem) (a0 : Nat) (x1 : Option Nat) (x2 : Int32) (x3 : Int32) (x4 : Int32) (Fv : gMem) (hle : cLe lim M0 M) (hS : S_Co_writeHandle_39 cs lim Lf Ls n M a0 x1 x2 x3 x4) (hF : F_Co_writeHandle_39 cs Lf n M a0 x1 x2 x3 x4 = Fv), GW p l e ({ frames := frL + 10, cells := lim.1 - M0.2.1, slots := lim.2 - M0.2.2, locals := loL + 340 } : Room) s m args below meth c 7 (gA B) (cQ0 below D B (gA B) lim M0 (fun x M' => x = .inl none ∧ M' = Fv) args s) (gR D gcl B M) (M.2.1 - M0.2.1) (M.2.2 - M0.2.2) 39 [(0, .ref a0), (1, va_rf x1), (2, .int x2), (3, .int x3), (4, .int x4)] [] := by
  intro n
  induction n with
  | zero =>
    intro M a0 x1 x2 x3 x4 Fv hle hS hF
    exact hS.elim
  | succ n ih =>
    intro M a0 x1 x2 x3 x4 Fv hle hS hF
    simp only [S_Co_writeHandle_39] at hS
    simp only [F_Co_writeHandle_39] at hF
    refine g_iload C d_Co_writeHandle_39 rfl ?_
    refine q_aload_n (r := x1) C d_Co_writeHandle_41 rfl ?_
    obtain ⟨ho1, hS⟩ := hS
    refine GW.known1 (a := x1.getD 0) (cOq.at ho1).1 ?_
    refine c_geti C hE.1 (ci := 4) i_No rfl 8 (by decide) (by decide) (by decide) kf_Co_97 d_Co_writeHandle_42 (cOq.at ho1).2 ?_
    refine g_icmp_ge C 102 d_Co_writeHandle_45 (by decide) (fun hc2 => ?_) (fun hc2 => ?_)
    · rw [if_pos hc2] at hF hS
      refine g_aload_n C d_Co_writeHandle_102 rfl ?_
      refine q_aload_n (r := x1) C d_Co_writeHandle_103 rfl ?_
      obtain ⟨ho3, hS⟩ := hS
      refine GW.known1 (a := x1.getD 0) (cOq.at ho3).1 ?_
      refine c_geti C hE.1 (ci := 4) i_No rfl 4 (by decide) (by decide) (by decide) kf_Co_62 d_Co_writeHandle_104 (cOq.at ho3).2 ?_
      refine g_iload_n C d_Co_writeHandle_107 rfl ?_
      refine g_iconst (v := 1) C d_Co_writeHandle_108 (by decide) ?_
      refine g_iadd C d_Co_writeHandle_109 ?_
      obtain ⟨ho4, hS⟩ := hS
      obtain ⟨hs5, hS⟩ := hS
      refine c_call (av := [.ref a0, .int (cI M (x1.getD 0) 4), .int (x2 + 1)]) (rest := []) C hE (fun _ h => h) ⟨rfl, rfl⟩ hle (hL _ a0 (cI M (x1.getD 0) 4) (x2 + 1) hs5) (fun _ h => h) kd_Co_write ki_Co (by dsimp only; omega) (by dsimp only; omega) d_Co_writeHandle_110 (Nat.le_of_ble_eq_true rfl) (c_fV (n := 2) (ci := 7) C hE.1 rfl km_Co_30 kv_Co_write kl_Co_write kd_Co_write ⟨by decide, by decide, by decide⟩ rfl rfl d_Co_writeHandle_110 ho4) (fun v1 M1 hv hle => ?_) (fun E1 M1 hv hle => ?_)
      · rw [mbind_eq] at hF hS
        obtain ⟨hx, hM1⟩ := hv
        have hM2 := hM1.symm
        subst hM2
        generalize hq_w6 : Lf M a0 (cI M (x1.getD 0) 4) (x2 + 1) = w6 at hF hS hx hle ⊢
        cases hx
        refine GW.eqs (st' := []) rfl ?_
        refine g_aload_n C d_Co_writeHandle_113 rfl ?_
        refine g_bipush (v := 11) C d_Co_writeHandle_114 (by decide) ?_
        refine g_iconst (v := 0) C d_Co_writeHandle_116 (by decide) ?_
        obtain ⟨ho7, hS⟩ := hS
        obtain ⟨hs8, hS⟩ := hS
        refine c_call (av := [.ref a0, .int 11, .int 0]) (rest := []) C hE (fun _ h => h) ⟨rfl, rfl⟩ hle (cc_Co_add l hf D cs B dE lim _ a0 11 0 hs8) (fun _ h => h) kd_Co_add ki_Co (by dsimp only; omega) (by dsimp only; omega) d_Co_writeHandle_117 (Nat.le_of_ble_eq_true rfl) (c_fV (n := 2) (ci := 7) C hE.1 rfl km_Co_34 kv_Co_add kl_Co_add kd_Co_add ⟨by decide, by decide, by decide⟩ rfl rfl d_Co_writeHandle_117 ho7) (fun v1 M1 hv hle => ?_) (fun E1 M1 hv hle => ?_)
        · rw [mbind_eq] at hF hS
          obtain ⟨hx, hM1⟩ := hv
          have hM2 := hM1.symm
          subst hM2
          generalize hq_w9 : F_Co_add cs w6 a0 11 0 = w9 at hF hS hx hle ⊢
          cases hx
          refine GW.eqs (st' := [.int w9.1]) rfl ?_
          refine g_pop C d_Co_writeHandle_120 rfl ?_
          refine g_aload_n C d_Co_writeHandle_121 rfl ?_
          refine g_iload_n C d_Co_writeHandle_122 rfl ?_
          refine g_iconst (v := 2) C d_Co_writeHandle_123 (by decide) ?_
          refine g_aload_n C d_Co_writeHandle_124 rfl ?_
          obtain ⟨ho10, hS⟩ := hS
          refine c_geti C hE.1 (ci := 7) i_Co rfl 2 (by decide) (by decide) (by decide) kf_Co_26 d_Co_writeHandle_125 ho10 ?_
          obtain ⟨ho11, hS⟩ := hS
          obtain ⟨hs12, hS⟩ := hS
          refine c_call (av := [.ref a0, .int x3, .int 2, .int (cI w9.2 a0 2)]) (rest := []) C hE (fun _ h => h) ⟨rfl, rfl⟩ hle (cc_Co_fill l hf D cs B dE lim _ a0 x3 2 (cI w9.2 a0 2) hs12) (fun _ h => h) kd_Co_fill ki_Co (by dsimp only; omega) (by dsimp only; omega) d_Co_writeHandle_128 (Nat.le_of_ble_eq_true rfl) (c_fV (n := 3) (ci := 7) C hE.1 rfl km_Co_88 kv_Co_fill kl_Co_fill kd_Co_fill ⟨by decide, by decide, by decide⟩ rfl rfl d_Co_writeHandle_128 ho11) (fun v1 M1 hv hle => ?_) (fun E1 M1 hv hle => ?_)
          · rw [mbind_eq] at hF hS
            obtain ⟨hx, hM1⟩ := hv
            have hM2 := hM1.symm
            subst hM2
            generalize hq_w13 : F_Co_fill cs w9.2 a0 x3 2 (cI w9.2 a0 2) = w13 at hF hS hx hle ⊢
            cases hx
            refine GW.eqs (st' := []) rfl ?_
            refine g_aload_n C d_Co_writeHandle_131 rfl ?_
            refine q_aload_n (r := x1) C d_Co_writeHandle_132 rfl ?_
            obtain ⟨ho14, hS⟩ := hS
            refine GW.known1 (a := x1.getD 0) (cOq.at ho14).1 ?_
            refine c_geti C hE.1 (ci := 4) i_No rfl 5 (by decide) (by decide) (by decide) kf_Co_68 d_Co_writeHandle_133 (cOq.at ho14).2 ?_
            refine g_iload_n C d_Co_writeHandle_136 rfl ?_
            obtain ⟨ho15, hS⟩ := hS
            obtain ⟨hs16, hS⟩ := hS
            refine c_call (av := [.ref a0, .int (cI w13 (x1.getD 0) 5), .int x2]) (rest := []) C hE (fun _ h => h) ⟨rfl, rfl⟩ hle (cc_Co_writeBody l hf D cs B dE lim n Lf Ls frL loL hL _ a0 (cI w13 (x1.getD 0) 5) x2 hs16) (fun _ h => h) kd_Co_writeBody ki_Co (by dsimp only; omega) (by dsimp only; omega) d_Co_writeHandle_137 (Nat.le_of_ble_eq_true rfl) (c_fV (n := 2) (ci := 7) C hE.1 rfl km_Co_91 kv_Co_writeBody kl_Co_writeBody kd_Co_writeBody ⟨by decide, by decide, by decide⟩ rfl rfl d_Co_writeHandle_137 ho15) (fun v1 M1 hv hle => ?_) (fun E1 M1 hv hle => ?_)
            · rw [mbind_eq] at hF hS
              obtain ⟨hx, hM1⟩ := hv
              have hM2 := hM1.symm
              subst hM2
              generalize hq_w17 : F_Co_writeBody cs n Lf w13 a0 (cI w13 (x1.getD 0) 5) x2 = w17 at hF hS hx hle ⊢
              cases hx
              refine GW.eqs (st' := []) rfl ?_
              refine q_aload_n (r := x1) C d_Co_writeHandle_140 rfl ?_
              obtain ⟨ho18, hS⟩ := hS
              refine GW.known1 (a := x1.getD 0) (cOq.at ho18).1 ?_
              refine c_geti C hE.1 (ci := 4) i_No rfl 7 (by decide) (by decide) (by decide) kf_Co_100 d_Co_writeHandle_141 (cOq.at ho18).2 ?_
              refine g_istore (lv' := [(4, .int (cI w17 (x1.getD 0) 7)), (0, .ref a0), (1, va_rf x1), (2, .int x2), (3, .int x3)]) C d_Co_writeHandle_144 (by decide) rfl ?_
              refine GW.subl [1, 2, 3, 4, 0] rfl ?_
              exact w_Co_writeHandle_146 C hE hf hr hlocks hex hn hL n w17 a0 x1 x2 x3 (cI w17 (x1.getD 0) 7) Fv hle hS hF
            · cases hv.1
          · cases hv.1
        · cases hv.1
      · cases hv.1
    · rw [if_neg hc2] at hF hS
      refine g_aload_n C d_Co_writeHandle_48 rfl ?_
      obtain ⟨ho19, hS⟩ := hS
      refine c_getq C hE.1 (ci := 7) i_Co rfl 0 (by decide) (by decide) (by decide) kf_Co_18 d_Co_writeHandle_49 ho19 ?_
      refine g_iload C d_Co_writeHandle_52 rfl ?_
      obtain ⟨ho20, hS⟩ := hS
      refine GW.known2 (a := (cQ M a0 0).getD 0) (cOq.at ho20).1 ?_
      obtain ⟨hs21, hS⟩ := hS
      refine c_call (av := [.ref ((cQ M a0 0).getD 0), .int x4]) (rest := []) C hE (fun _ h => h) ⟨rfl, rfl⟩ hle (cc_Ns_clauseAt l hf D cs B dE lim _ ((cQ M a0 0).getD 0) x4 hs21) (fun _ h => h.elim) kd_Ns_clauseAt ki_Ns (by dsimp only; omega) (by dsimp only; omega) d_Co_writeHandle_54 (Nat.le_of_ble_eq_true rfl) (c_fV (n := 1) (ci := 3) C hE.1 rfl km_Co_103 kv_Ns_clauseAt kl_Ns_clauseAt kd_Ns_clauseAt ⟨by decide, by decide, by decide⟩ rfl rfl d_Co_writeHandle_54 (cOq.at ho20).2) (fun v1 M1 hv hle => ?_) (fun E1 M1 hv hle => ?_)
      · rw [mbind_eq] at hF hS
        obtain ⟨hx, hM1⟩ := hv
        have hM2 := hM1.symm
        subst hM2
        generalize hq_w22 : F_Ns_clauseAt cs M ((cQ M a0 0).getD 0) x4 = w22 at hF hS hx hle ⊢
        cases hx
        refine GW.eqs (st' := [va_rf w22]) rfl ?_
        refine q_astore (r := w22) (lv' := [(5, va_rf w22), (0, .ref a0), (1, va_rf x1), (2, .int x2), (3, .int x3), (4, .int x4)]) C d_Co_writeHandle_57 (by decide) rfl ?_
        refine g_aload_n C d_Co_writeHandle_59 rfl ?_
        refine g_bipush (v := 10) C d_Co_writeHandle_60 (by decide) ?_
        refine q_aload (r := w22) C d_Co_writeHandle_62 rfl ?_
        obtain ⟨ho23, hS⟩ := hS
        refine GW.known1 (a := w22.getD 0) (cOq.at ho23).1 ?_
        refine c_geti C hE.1 (ci := 5) i_Cl rfl 0 (by decide) (by decide) (by decide) kf_Co_107 d_Co_writeHandle_64 (cOq.at ho23).2 ?_
        obtain ⟨ho24, hS⟩ := hS
        obtain ⟨hs25, hS⟩ := hS
        refine c_call (av := [.ref a0, .int 10, .int (cI M (w22.getD 0) 0)]) (rest := []) C hE (fun _ h => h) ⟨rfl, rfl⟩ hle (cc_Co_add l hf D cs B dE lim _ a0 10 (cI M (w22.getD 0) 0) hs25) (fun _ h => h) kd_Co_add ki_Co (by dsimp only; omega) (by dsimp only; omega) d_Co_writeHandle_67 (Nat.le_of_ble_eq_true rfl) (c_fV (n := 2) (ci := 7) C hE.1 rfl km_Co_34 kv_Co_add kl_Co_add kd_Co_add ⟨by decide, by decide, by decide⟩ rfl rfl d_Co_writeHandle_67 ho24) (fun v1 M1 hv hle => ?_) (fun E1 M1 hv hle => ?_)
        · rw [mbind_eq] at hF hS
          obtain ⟨hx, hM1⟩ := hv
          have hM2 := hM1.symm
          subst hM2
          generalize hq_w26 : F_Co_add cs M a0 10 (cI M (w22.getD 0) 0) = w26 at hF hS hx hle ⊢
          cases hx
          refine GW.eqs (st' := [.int w26.1]) rfl ?_
          refine g_istore (lv' := [(6, .int w26.1), (5, va_rf w22), (0, .ref a0), (1, va_rf x1), (2, .int x2), (3, .int x3), (4, .int x4)]) C d_Co_writeHandle_70 (by decide) (by first | rfl | (simp only [lvs, List.filter, rf_cat]; rfl) | simp [lvs, List.filter, rf_cat]) ?_
          refine g_aload_n C d_Co_writeHandle_72 rfl ?_
          refine g_iload C d_Co_writeHandle_73 rfl ?_
          refine g_iconst (v := 3) C d_Co_writeHandle_75 (by decide) ?_
          refine q_aload (r := w22) C d_Co_writeHandle_76 rfl ?_
          obtain ⟨ho27, hS⟩ := hS
          refine GW.known1 (a := w22.getD 0) (cOq.at ho27).1 ?_
          refine c_geti C hE.1 (ci := 5) i_Cl rfl 1 (by decide) (by decide) (by decide) kf_Co_112 d_Co_writeHandle_78 (cOq.at ho27).2 ?_
          obtain ⟨ho28, hS⟩ := hS
          obtain ⟨hs29, hS⟩ := hS
          refine c_call (av := [.ref a0, .int w26.1, .int 3, .int (cI w26.2 (w22.getD 0) 1)]) (rest := []) C hE (fun _ h => h) ⟨rfl, rfl⟩ hle (cc_Co_fill l hf D cs B dE lim _ a0 w26.1 3 (cI w26.2 (w22.getD 0) 1) hs29) (fun _ h => h) kd_Co_fill ki_Co (by dsimp only; omega) (by dsimp only; omega) d_Co_writeHandle_81 (Nat.le_of_ble_eq_true rfl) (c_fV (n := 3) (ci := 7) C hE.1 rfl km_Co_88 kv_Co_fill kl_Co_fill kd_Co_fill ⟨by decide, by decide, by decide⟩ rfl rfl d_Co_writeHandle_81 ho28) (fun v1 M1 hv hle => ?_) (fun E1 M1 hv hle => ?_)
          · rw [mbind_eq] at hF hS
            obtain ⟨hx, hM1⟩ := hv
            have hM2 := hM1.symm
            subst hM2
            generalize hq_w30 : F_Co_fill cs w26.2 a0 w26.1 3 (cI w26.2 (w22.getD 0) 1) = w30 at hF hS hx hle ⊢
            cases hx
            refine GW.eqs (st' := []) rfl ?_
            refine g_aload_n C d_Co_writeHandle_84 rfl ?_
            refine g_iload C d_Co_writeHandle_85 rfl ?_
            refine g_iconst (v := 4) C d_Co_writeHandle_87 (by decide) ?_
            refine q_aload (r := w22) C d_Co_writeHandle_88 rfl ?_
            obtain ⟨ho31, hS⟩ := hS
            refine GW.known1 (a := w22.getD 0) (cOq.at ho31).1 ?_
            refine c_geti C hE.1 (ci := 5) i_Cl rfl 2 (by decide) (by decide) (by decide) kf_Co_115 d_Co_writeHandle_90 (cOq.at ho31).2 ?_
            obtain ⟨ho32, hS⟩ := hS
            obtain ⟨hs33, hS⟩ := hS
            refine c_call (av := [.ref a0, .int w26.1, .int 4, .int (cI w30 (w22.getD 0) 2)]) (rest := []) C hE (fun _ h => h) ⟨rfl, rfl⟩ hle (cc_Co_fill l hf D cs B dE lim _ a0 w26.1 4 (cI w30 (w22.getD 0) 2) hs33) (fun _ h => h) kd_Co_fill ki_Co (by dsimp only; omega) (by dsimp only; omega) d_Co_writeHandle_93 (Nat.le_of_ble_eq_true rfl) (c_fV (n := 3) (ci := 7) C hE.1 rfl km_Co_88 kv_Co_fill kl_Co_fill kd_Co_fill ⟨by decide, by decide, by decide⟩ rfl rfl d_Co_writeHandle_93 ho32) (fun v1 M1 hv hle => ?_) (fun E1 M1 hv hle => ?_)
            · rw [mbind_eq] at hF hS
              obtain ⟨hx, hM1⟩ := hv
              have hM2 := hM1.symm
              subst hM2
              generalize hq_w34 : F_Co_fill cs w30 a0 w26.1 4 (cI w30 (w22.getD 0) 2) = w34 at hF hS hx hle ⊢
              cases hx
              refine GW.eqs (st' := []) rfl ?_
              refine g_iinc (v := x4 + 1) (lv' := [(4, .int (x4 + 1)), (6, .int w26.1), (5, va_rf w22), (0, .ref a0), (1, va_rf x1), (2, .int x2), (3, .int x3)]) C d_Co_writeHandle_96 rfl rfl (by decide) rfl ?_
              refine g_goto C 39 d_Co_writeHandle_99 (by decide) ?_
              refine GW.subl [3, 4, 5, 6, 0] rfl ?_
              exact ih w34 a0 x1 x2 x3 (x4 + 1) Fv hle hS hF
            · cases hv.1
          · cases hv.1
        · cases hv.1
      · cases hv.1
def F_Co_writeHandle (cs : Nat → ClassId) (n : Nat) (Lf : gMem → Nat → Int32 → Int32 → gMem) (M : gMem) (a0 : Nat) (x1 : Option Nat) (x2 : Int32) : gMem := mbind (F_Co_add cs M a0 9 0) (fun w3 => mbind (F_Co_fill cs w3.2 a0 w3.1 3 (cI w3.2 (x1.getD 0) 2)) (fun w7 => mbind (F_Co_fill cs w7 a0 w3.1 4 ((cI w7 (x1.getD 0) 8) - (cI w7 (x1.getD 0) 7))) (fun w12 => F_Co_writeHandle_39 cs Lf n w12 a0 x1 x2 w3.1 (cI w12 (x1.getD 0) 7))))
def S_Co_writeHandle (cs : Nat → ClassId) (lim : Nat × Nat) (n : Nat) (Lf : gMem → Nat → Int32 → Int32 → gMem) (Ls : gMem → Nat → Int32 → Int32 → Prop) (M : gMem) (a0 : Nat) (x1 : Option Nat) (x2 : Int32) : Prop := (cOk 7 M a0) ∧ ((S_Co_add cs lim M a0 9 0) ∧ (mbind (F_Co_add cs M a0 9 0) (fun w3 => (cOq 4 w3.2 x1) ∧ ((cOk 7 w3.2 a0) ∧ ((S_Co_fill cs lim w3.2 a0 w3.1 3 (cI w3.2 (x1.getD 0) 2)) ∧ (mbind (F_Co_fill cs w3.2 a0 w3.1 3 (cI w3.2 (x1.getD 0) 2)) (fun w7 => (cOq 4 w7 x1) ∧ ((cOq 4 w7 x1) ∧ ((cOk 7 w7 a0) ∧ ((S_Co_fill cs lim w7 a0 w3.1 4 ((cI w7 (x1.getD 0) 8) - (cI w7 (x1.getD 0) 7))) ∧ (mbind (F_Co_fill cs w7 a0 w3.1 4 ((cI w7 (x1.getD 0) 8) - (cI w7 (x1.getD 0) 7))) (fun w12 => (cOq 4 w12 x1) ∧ (S_Co_writeHandle_39 cs lim Lf Ls n w12 a0 x1 x2 w3.1 (cI w12 (x1.getD 0) 7))))))))))))))
set_option maxRecDepth 100000 in
set_option maxHeartbeats 4000000 in
theorem cc_Co_writeHandle (l : Launch) (hf : l.flags = pinnedFlags ++ [noTraceFlag]) (D : va_G) (cs : Nat → ClassId) (B : Nat) (dE : Nat × Nat) (lim : Nat × Nat) (n : Nat) (Lf : gMem → Nat → Int32 → Int32 → gMem) (Ls : gMem → Nat → Int32 → Int32 → Prop) (frL loL : Nat) (hL : ∀ (M : gMem) (a0 : Nat) (x1 x2 : Int32), Ls M a0 x1 x2 → cMet l y_Co_write (Cond.code y_Co_write c_Co_write 4 none) frL loL D cs B dE (gA B) lim [.ref a0, .int x1, .int x2] M (fun x M' => x = .inl none ∧ M' = (Lf M a0 x1 x2))) (M : gMem) (a0 : Nat) (x1 : Option Nat) (x2 : Int32) (hS : S_Co_writeHandle cs lim n Lf Ls M a0 x1 x2) : cMet l y_Co_writeHandle (Cond.code y_Co_writeHandle c_Co_writeHandle 7 none) (frL + 10) (loL + 340) D cs B dE (gA B) lim [.ref a0, va_rf x1, .int x2] M (fun x M' => x = .inl none ∧ M' = (F_Co_writeHandle cs n Lf M a0 x1 x2)) := by
  refine cMet.ofW (by decide) (by cases x1 <;> exact Nat.le_of_ble_eq_true rfl) (lv0 := [(0, .ref a0), (1, va_rf x1), (2, .int x2)]) (by cases x1 <;> rfl) ?_
  intro p e s m args below meth c C hE hR0 hle hr hlocks hex hn
  generalize hF : F_Co_writeHandle cs n Lf M a0 x1 x2 = Fv
  unfold F_Co_writeHandle at hF
  unfold S_Co_writeHandle at hS
  refine g_aload_n C d_Co_writeHandle_0 rfl ?_
  refine g_bipush (v := 9) C d_Co_writeHandle_1 (by decide) ?_
  refine g_iconst (v := 0) C d_Co_writeHandle_3 (by decide) ?_
  refine GW.more (A' := gA B) (fun _ h => h.elim) ?_
  obtain ⟨ho1, hS⟩ := hS
  obtain ⟨hs2, hS⟩ := hS
  refine c_call (av := [.ref a0, .int 9, .int 0]) (rest := []) C hE (fun _ h => h) ⟨rfl, rfl⟩ hle (cc_Co_add l hf D cs B dE lim _ a0 9 0 hs2) (fun _ h => h) kd_Co_add ki_Co (by dsimp only; omega) (by dsimp only; omega) d_Co_writeHandle_4 (Nat.le_of_ble_eq_true rfl) (c_fV (n := 2) (ci := 7) C hE.1 rfl km_Co_34 kv_Co_add kl_Co_add kd_Co_add ⟨by decide, by decide, by decide⟩ rfl rfl d_Co_writeHandle_4 ho1) (fun v1 M1 hv hle => ?_) (fun E1 M1 hv hle => ?_)
  · rw [mbind_eq] at hF hS
    obtain ⟨hx, hM1⟩ := hv
    have hM2 := hM1.symm
    subst hM2
    generalize hq_w3 : F_Co_add cs M a0 9 0 = w3 at hF hS hx hle ⊢
    cases hx
    refine GW.eqs (st' := [.int w3.1]) rfl ?_
    refine g_istore_n (lv' := [(3, .int w3.1), (0, .ref a0), (1, va_rf x1), (2, .int x2)]) C d_Co_writeHandle_7 (by decide) rfl ?_
    refine g_aload_n C d_Co_writeHandle_8 rfl ?_
    refine g_iload_n C d_Co_writeHandle_9 rfl ?_
    refine g_iconst (v := 3) C d_Co_writeHandle_10 (by decide) ?_
    refine q_aload_n (r := x1) C d_Co_writeHandle_11 rfl ?_
    obtain ⟨ho4, hS⟩ := hS
    refine GW.known1 (a := x1.getD 0) (cOq.at ho4).1 ?_
    refine c_geti C hE.1 (ci := 4) i_No rfl 2 (by decide) (by decide) (by decide) kf_Co_65 d_Co_writeHandle_12 (cOq.at ho4).2 ?_
    obtain ⟨ho5, hS⟩ := hS
    obtain ⟨hs6, hS⟩ := hS
    refine c_call (av := [.ref a0, .int w3.1, .int 3, .int (cI w3.2 (x1.getD 0) 2)]) (rest := []) C hE (fun _ h => h) ⟨rfl, rfl⟩ hle (cc_Co_fill l hf D cs B dE lim _ a0 w3.1 3 (cI w3.2 (x1.getD 0) 2) hs6) (fun _ h => h) kd_Co_fill ki_Co (by dsimp only; omega) (by dsimp only; omega) d_Co_writeHandle_15 (Nat.le_of_ble_eq_true rfl) (c_fV (n := 3) (ci := 7) C hE.1 rfl km_Co_88 kv_Co_fill kl_Co_fill kd_Co_fill ⟨by decide, by decide, by decide⟩ rfl rfl d_Co_writeHandle_15 ho5) (fun v1 M1 hv hle => ?_) (fun E1 M1 hv hle => ?_)
    · rw [mbind_eq] at hF hS
      obtain ⟨hx, hM1⟩ := hv
      have hM2 := hM1.symm
      subst hM2
      generalize hq_w7 : F_Co_fill cs w3.2 a0 w3.1 3 (cI w3.2 (x1.getD 0) 2) = w7 at hF hS hx hle ⊢
      cases hx
      refine GW.eqs (st' := []) rfl ?_
      refine g_aload_n C d_Co_writeHandle_18 rfl ?_
      refine g_iload_n C d_Co_writeHandle_19 rfl ?_
      refine g_iconst (v := 4) C d_Co_writeHandle_20 (by decide) ?_
      refine q_aload_n (r := x1) C d_Co_writeHandle_21 rfl ?_
      obtain ⟨ho8, hS⟩ := hS
      refine GW.known1 (a := x1.getD 0) (cOq.at ho8).1 ?_
      refine c_geti C hE.1 (ci := 4) i_No rfl 8 (by decide) (by decide) (by decide) kf_Co_97 d_Co_writeHandle_22 (cOq.at ho8).2 ?_
      refine q_aload_n (r := x1) C d_Co_writeHandle_25 rfl ?_
      obtain ⟨ho9, hS⟩ := hS
      refine GW.known1 (a := x1.getD 0) (cOq.at ho9).1 ?_
      refine c_geti C hE.1 (ci := 4) i_No rfl 7 (by decide) (by decide) (by decide) kf_Co_100 d_Co_writeHandle_26 (cOq.at ho9).2 ?_
      refine g_isub C d_Co_writeHandle_29 ?_
      obtain ⟨ho10, hS⟩ := hS
      obtain ⟨hs11, hS⟩ := hS
      refine c_call (av := [.ref a0, .int w3.1, .int 4, .int ((cI w7 (x1.getD 0) 8) - (cI w7 (x1.getD 0) 7))]) (rest := []) C hE (fun _ h => h) ⟨rfl, rfl⟩ hle (cc_Co_fill l hf D cs B dE lim _ a0 w3.1 4 ((cI w7 (x1.getD 0) 8) - (cI w7 (x1.getD 0) 7)) hs11) (fun _ h => h) kd_Co_fill ki_Co (by dsimp only; omega) (by dsimp only; omega) d_Co_writeHandle_30 (Nat.le_of_ble_eq_true rfl) (c_fV (n := 3) (ci := 7) C hE.1 rfl km_Co_88 kv_Co_fill kl_Co_fill kd_Co_fill ⟨by decide, by decide, by decide⟩ rfl rfl d_Co_writeHandle_30 ho10) (fun v1 M1 hv hle => ?_) (fun E1 M1 hv hle => ?_)
      · rw [mbind_eq] at hF hS
        obtain ⟨hx, hM1⟩ := hv
        have hM2 := hM1.symm
        subst hM2
        generalize hq_w12 : F_Co_fill cs w7 a0 w3.1 4 ((cI w7 (x1.getD 0) 8) - (cI w7 (x1.getD 0) 7)) = w12 at hF hS hx hle ⊢
        cases hx
        refine GW.eqs (st' := []) rfl ?_
        refine q_aload_n (r := x1) C d_Co_writeHandle_33 rfl ?_
        obtain ⟨ho13, hS⟩ := hS
        refine GW.known1 (a := x1.getD 0) (cOq.at ho13).1 ?_
        refine c_geti C hE.1 (ci := 4) i_No rfl 7 (by decide) (by decide) (by decide) kf_Co_100 d_Co_writeHandle_34 (cOq.at ho13).2 ?_
        refine g_istore (lv' := [(4, .int (cI w12 (x1.getD 0) 7)), (3, .int w3.1), (0, .ref a0), (1, va_rf x1), (2, .int x2)]) C d_Co_writeHandle_37 (by decide) rfl ?_
        refine GW.subl [2, 3, 4, 1, 0] rfl ?_
        exact w_Co_writeHandle_39 C hE hf hr hlocks hex hn hL n w12 a0 x1 x2 w3.1 (cI w12 (x1.getD 0) 7) Fv hle hS hF
      · cases hv.1
    · cases hv.1
  · cases hv.1
