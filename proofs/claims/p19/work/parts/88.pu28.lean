-- pure rows: FN GA GB GC
section
/-! pure rows, the class: the machine between the calls -/
/-- the machine has begun and stands well; at most f of fuel were taken -/
def MB (A : Ad) (f : Int) (M : gMem) : Prop := (0 ≤ (cI M A.ma 7).toInt ∧ (cI M A.ma 7).toInt ≤ 1000) ∧ ((cI M A.st 3).toInt ≤ (cI M A.ma 7).toInt) ∧ ((cI M A.st 2).toInt ≤ 1 + (cI M A.ma 7).toInt + (cI M A.ma 6).toInt) ∧ (0 ≤ (cI M A.ma 6).toInt ∧ (cI M A.ma 6).toInt ≤ f)
theorem MB.tc {A : Ad} {f : Int} {M : gMem} (self : MB A f M) : 0 ≤ (cI M A.ma 7).toInt ∧ (cI M A.ma 7).toInt ≤ 1000 := self.1
theorem MB.tu {A : Ad} {f : Int} {M : gMem} (self : MB A f M) : (cI M A.st 3).toInt ≤ (cI M A.ma 7).toInt := self.2.1
theorem MB.fu {A : Ad} {f : Int} {M : gMem} (self : MB A f M) : (cI M A.st 2).toInt ≤ 1 + (cI M A.ma 7).toInt + (cI M A.ma 6).toInt := self.2.2.1
theorem MB.fl {A : Ad} {f : Int} {M : gMem} (self : MB A f M) : 0 ≤ (cI M A.ma 6).toInt ∧ (cI M A.ma 6).toInt ≤ f := self.2.2.2
section
variable {cs : Nat → ClassId} {lim dE : Nat × Nat} {A : Ad} {Fs Ts : Nat → Prop} {r1 r2 NF : Nat} {g4 : Nat → Int32} {k4 : Nat} {M M' : gMem} {a t n fu : Nat} {b st sf f : Int}
theorem MB.ext {W V : List (Nat × Nat)} {al : Bool} (h : MB A f M) (L : Lay cs A M) (e : Ext W V al M M') (hW : W.all (fun w => !CNT.contains w) = true) : MB A f M' := by
  have o8 := L.ma_0.1
  have o9 := L.st_0.1
  have e6 := e.xcI o8 (cnt_not hW (w := (8, 6)) (by decide))
  have e7 := e.xcI o8 (cnt_not hW (w := (8, 7)) (by decide))
  have e2 := e.xcI o9 (cnt_not hW (w := (9, 2)) (by decide))
  have e3 := e.xcI o9 (cnt_not hW (w := (9, 3)) (by decide))
  exact ⟨by rw [e7]; exact h.tc, by rw [e7, e3]; exact h.tu, by rw [e2, e7, e6]; exact h.fu, by rw [e6]; exact h.fl⟩
theorem MB.more {f' : Int} (h : MB A f M) (hf : f ≤ f') : MB A f' M := ⟨h.tc, h.tu, h.fu, h.fl.1, Int.le_trans h.fl.2 hf⟩
/-- all is taken back -/
theorem ma_reset (h : (HS cs lim dE A r1 r2 NF g4 k4) Fs Ts M) : S_Ma_reset cs lim M A.ma ∧ (HS cs lim dE A r1 r2 NF g4 k4) Fs Ts (F_Ma_reset cs M A.ma) ∧ (F_Ma_reset cs M A.ma).2 = M.2 ∧ cI (F_Ma_reset cs M A.ma) A.ma 4 = 0 ∧ cI (F_Ma_reset cs M A.ma) A.ma 5 = 0 ∧ cI (F_Ma_reset cs M A.ma) A.ma 6 = 0 ∧ cI (F_Ma_reset cs M A.ma) A.ma 7 = 0 ∧ cI (F_Ma_reset cs M A.ma) A.ma 8 = 0 ∧ cI (F_Ma_reset cs M A.ma) A.ma 9 = -1 ∧ cQ (F_Ma_reset cs M A.ma) A.ma 10 = none := by
  unfold S_Ma_reset F_Ma_reset
  have o0 := h.lay.ma_0.1
  have h1 := h.putN (ci := 8) (k := 4) (x := 0) o0 (by decide) (by decide)
  have v1 : cI (cP 8 M A.ma 4 (.int 0)) A.ma 4 = 0 := cI_put o0 (by decide)
  have z1 : (cP 8 M A.ma 4 (.int 0)).2 = M.2 := rfl
  generalize cP 8 M A.ma 4 (.int 0) = w1 at h1 v1 z1 ⊢
  have o1 := h1.lay.ma_0.1
  have h2 := h1.putN (ci := 8) (k := 5) (x := 0) o1 (by decide) (by decide)
  have v2 : cI (cP 8 w1 A.ma 5 (.int 0)) A.ma 5 = 0 := cI_put o1 (by decide)
  have u2 : cI (cP 8 w1 A.ma 5 (.int 0)) A.ma 4 = 0 := by rw [cI_put_ne (Or.inr (by decide))]; exact v1
  have z2 : (cP 8 w1 A.ma 5 (.int 0)).2 = M.2 := z1
  generalize cP 8 w1 A.ma 5 (.int 0) = w2 at h2 v2 u2 z2 ⊢
  have o2 := h2.lay.ma_0.1
  have h3 := h2.putN (ci := 8) (k := 6) (x := 0) o2 (by decide) (by decide)
  have v3 : cI (cP 8 w2 A.ma 6 (.int 0)) A.ma 6 = 0 := cI_put o2 (by decide)
  have u3 : cI (cP 8 w2 A.ma 6 (.int 0)) A.ma 4 = 0 := by rw [cI_put_ne (Or.inr (by decide))]; exact u2
  have t3 : cI (cP 8 w2 A.ma 6 (.int 0)) A.ma 5 = 0 := by rw [cI_put_ne (Or.inr (by decide))]; exact v2
  have z3 : (cP 8 w2 A.ma 6 (.int 0)).2 = M.2 := z2
  generalize cP 8 w2 A.ma 6 (.int 0) = w3 at h3 v3 u3 t3 z3 ⊢
  have o3 := h3.lay.ma_0.1
  have h4 := h3.putN (ci := 8) (k := 7) (x := 0) o3 (by decide) (by decide)
  have v4 : cI (cP 8 w3 A.ma 7 (.int 0)) A.ma 7 = 0 := cI_put o3 (by decide)
  have u4 : cI (cP 8 w3 A.ma 7 (.int 0)) A.ma 4 = 0 := by rw [cI_put_ne (Or.inr (by decide))]; exact u3
  have t4 : cI (cP 8 w3 A.ma 7 (.int 0)) A.ma 5 = 0 := by rw [cI_put_ne (Or.inr (by decide))]; exact t3
  have s4 : cI (cP 8 w3 A.ma 7 (.int 0)) A.ma 6 = 0 := by rw [cI_put_ne (Or.inr (by decide))]; exact v3
  have z4 : (cP 8 w3 A.ma 7 (.int 0)).2 = M.2 := z3
  generalize cP 8 w3 A.ma 7 (.int 0) = w4 at h4 v4 u4 t4 s4 z4 ⊢
  have o4 := h4.lay.ma_0.1
  have h5 := h4.putN (ci := 8) (k := 8) (x := 0) o4 (by decide) (by decide)
  have v5 : cI (cP 8 w4 A.ma 8 (.int 0)) A.ma 8 = 0 := cI_put o4 (by decide)
  have u5 : cI (cP 8 w4 A.ma 8 (.int 0)) A.ma 4 = 0 := by rw [cI_put_ne (Or.inr (by decide))]; exact u4
  have t5 : cI (cP 8 w4 A.ma 8 (.int 0)) A.ma 5 = 0 := by rw [cI_put_ne (Or.inr (by decide))]; exact t4
  have s5 : cI (cP 8 w4 A.ma 8 (.int 0)) A.ma 6 = 0 := by rw [cI_put_ne (Or.inr (by decide))]; exact s4
  have r5 : cI (cP 8 w4 A.ma 8 (.int 0)) A.ma 7 = 0 := by rw [cI_put_ne (Or.inr (by decide))]; exact v4
  have z5 : (cP 8 w4 A.ma 8 (.int 0)).2 = M.2 := z4
  generalize cP 8 w4 A.ma 8 (.int 0) = w5 at h5 v5 u5 t5 s5 r5 z5 ⊢
  have o5 := h5.lay.ma_0.1
  have h6 := h5.putN (ci := 8) (k := 9) (x := -1) o5 (by decide) (by decide)
  have v6 : cI (cP 8 w5 A.ma 9 (.int (-1))) A.ma 9 = -1 := cI_put o5 (by decide)
  have n6 : ∀ j, j ≠ 9 → cI (cP 8 w5 A.ma 9 (.int (-1))) A.ma j = cI w5 A.ma j := fun j hj => cI_put_ne (Or.inr hj)
  have z6 : (cP 8 w5 A.ma 9 (.int (-1))).2 = M.2 := z5
  generalize cP 8 w5 A.ma 9 (.int (-1)) = w6 at h6 v6 n6 z6 ⊢
  have o6 := h6.lay.ma_0.1
  have h7 := h6.putQ (ci := 8) (k := 10) (r := none) o6 (Or.inr ⟨by simp [si_1, si_2, sl_1, sl_2, sl_3, ai_1, ai_2, ai_3, ai_4, al_1, al_2, al_3, al_4], fun z hz => by cases hz⟩)
  have n7 : ∀ j, j ≠ 10 → cI (cP 8 w6 A.ma 10 (va_rf (none : Option Nat))) A.ma j = cI w6 A.ma j := fun j hj => cI_put_ne (Or.inr hj)
  refine ⟨⟨o0, o1, o2, o3, o4, o5, o6, trivial⟩, h7, z6, ?_, ?_, ?_, ?_, ?_, ?_, cQ_put o6 (by decide)⟩
  · rw [n7 4 (by decide), n6 4 (by decide)]; exact u5
  · rw [n7 5 (by decide), n6 5 (by decide)]; exact t5
  · rw [n7 6 (by decide), n6 6 (by decide)]; exact s5
  · rw [n7 7 (by decide), n6 7 (by decide)]; exact r5
  · rw [n7 8 (by decide), n6 8 (by decide)]; exact v5
  · rw [n7 9 (by decide)]; exact v6
/-- no program -/
theorem ma_unload (h : (HS cs lim dE A r1 r2 NF g4 k4) Fs Ts M) : S_Ma_unload cs lim M A.ma ∧ (HS cs lim dE A r1 r2 NF g4 k4) Fs Ts (F_Ma_unload cs M A.ma) ∧ (F_Ma_unload cs M A.ma).2 = M.2 ∧ cI (F_Ma_unload cs M A.ma) A.ma 2 = 0 ∧ cI (F_Ma_unload cs M A.ma) A.ma 4 = 0 := by
  unfold S_Ma_unload F_Ma_unload
  simp only [mbind_eq]
  have o0 := h.lay.ma_0.1
  have h1 := h.putN (ci := 8) (k := 2) (x := 0) o0 (by decide) (by decide)
  have v1 : cI (cP 8 M A.ma 2 (.int 0)) A.ma 2 = 0 := cI_put o0 (by decide)
  have z1 : (cP 8 M A.ma 2 (.int 0)).2 = M.2 := rfl
  generalize cP 8 M A.ma 2 (.int 0) = w1 at h1 v1 z1 ⊢
  obtain ⟨s2, h2, z2, v4, -⟩ := ma_reset h1
  have x2 := x_Ma_reset cs lim w1 A.ma h1.lay.mok s2
  refine ⟨⟨o0, h1.lay.ma_0.1, s2, trivial⟩, h2, z2.trans z1, ?_, v4⟩
  rw [x2.xcI h1.lay.ma_0.1 (by decide)]
  exact v1
theorem ma_load (h : (HS cs lim dE A r1 r2 NF g4 k4) Fs Ts M) {x : Int32} (hx : x = 0 ∨ x = 1) : S_Ma_load cs lim M A.ma x ∧ (HS cs lim dE A r1 r2 NF g4 k4) Fs Ts (F_Ma_load cs M A.ma x) ∧ (F_Ma_load cs M A.ma x).2 = M.2 ∧ cI (F_Ma_load cs M A.ma x) A.ma 2 = 1 ∧ cI (F_Ma_load cs M A.ma x) A.ma 3 = x ∧ cI (F_Ma_load cs M A.ma x) A.ma 4 = 0 := by
  unfold S_Ma_load F_Ma_load
  simp only [mbind_eq]
  have o0 := h.lay.ma_0.1
  have h1 := h.putN (ci := 8) (k := 2) (x := 1) o0 (by decide) (by decide)
  have v1 : cI (cP 8 M A.ma 2 (.int 1)) A.ma 2 = 1 := cI_put o0 (by decide)
  have z1 : (cP 8 M A.ma 2 (.int 1)).2 = M.2 := rfl
  generalize cP 8 M A.ma 2 (.int 1) = w1 at h1 v1 z1 ⊢
  have o1 := h1.lay.ma_0.1
  have h2 := h1.putN (ci := 8) (k := 3) (x := x) o1 (by decide) (by decide)
  have v2 : cI (cP 8 w1 A.ma 3 (.int x)) A.ma 3 = x := cI_put o1 (by decide)
  have u2 : cI (cP 8 w1 A.ma 3 (.int x)) A.ma 2 = 1 := by rw [cI_put_ne (Or.inr (by decide))]; exact v1
  have z2 : (cP 8 w1 A.ma 3 (.int x)).2 = M.2 := z1
  generalize cP 8 w1 A.ma 3 (.int x) = w2 at h2 v2 u2 z2 ⊢
  obtain ⟨s3, h3, z3, v4, -⟩ := ma_reset h2
  have x3 := x_Ma_reset cs lim w2 A.ma h2.lay.mok s3
  have o2 := h2.lay.ma_0.1
  refine ⟨⟨o0, o1, hx, o2, s3, trivial⟩, h3, z3.trans z2, ?_, ?_, v4⟩
  · rw [x3.xcI o2 (by decide)]; exact u2
  · rw [x3.xcI o2 (by decide)]; exact v2
/-- a program begins -/
theorem ma_begin (h : (HS cs lim dE A r1 r2 NF g4 k4) Fs Ts M) (hNF : 1 ≤ NF) : S_Ma_begin cs lim dE M A.ma ∧ ∃ Fs', (HS cs lim dE A r1 r2 NF g4 k4) Fs' Ts (F_Ma_begin cs dE M A.ma) ∧ MB A 0 (F_Ma_begin cs dE M A.ma) ∧ cI (F_Ma_begin cs dE M A.ma) A.ma 4 = 1 := by
  unfold S_Ma_begin F_Ma_begin
  simp only [mbind_eq]
  have o0 := h.lay.ma_0.1
  obtain ⟨s1, h1, z1, -, -, v6, v7, -, -, -⟩ := ma_reset h
  generalize F_Ma_reset cs M A.ma = w1 at h1 z1 v6 v7 ⊢
  have o1 := h1.lay.ma_0.1
  have p1 := h1.lay.st_0.1
  rw [h1.lay.ma_1.2]
  simp only [Option.getD_some]
  have hne : A.ma ≠ A.st := fun q => by have := (q ▸ o1 : cOk 8 w1 A.st).uniq p1; omega
  have i0 : (0 : Int32).toInt = 0 := rfl
  have h2 : (HS cs lim dE A r1 r2 NF g4 k4) Fs Ts (cP 9 w1 A.st 2 (.int 0)) := h1.map rfl (fun nf _ _ _ z => z.putI p1 (Or.inr (Or.inl ⟨rfl, rfl, by rw [i0]; omega, by rw [i0]; omega⟩)))
  have h3 : (HS cs lim dE A r1 r2 NF g4 k4) Fs Ts (cP 9 (cP 9 w1 A.st 2 (.int 0)) A.st 3 (.int 0)) := h2.map rfl (fun _ nt _ _ z => z.putI h2.lay.st_0.1 (Or.inr (Or.inr ⟨rfl, rfl, by rw [i0]; omega, by rw [i0]; omega⟩)))
  have h4 := h3.putQ (ci := 9) (k := 4) (r := none) h3.lay.st_0.1 (Or.inr ⟨by simp [si_1, si_2, sl_1, sl_2, sl_3, ai_1, ai_2, ai_3, ai_4, al_1, al_2, al_3, al_4], fun z hz => by cases hz⟩)
  have sr : S_St_reset cs lim w1 A.st := ⟨p1, h2.lay.st_0.1, h3.lay.st_0.1, trivial⟩
  have hF : F_St_reset cs w1 A.st = cP 9 (cP 9 (cP 9 w1 A.st 2 (.int 0)) A.st 3 (.int 0)) A.st 4 (va_rf (none : Option Nat)) := rfl
  have e2 : cI (F_St_reset cs w1 A.st) A.st 2 = 0 := by rw [hF, cI_put_ne (Or.inr (by decide)), cI_put_ne (Or.inr (by decide)), cI_put p1 (by decide)]
  have e3 : cI (F_St_reset cs w1 A.st) A.st 3 = 0 := by rw [hF, cI_put_ne (Or.inr (by decide)), cI_put h2.lay.st_0.1 (by decide)]
  have x4 := x_St_reset cs lim w1 A.st h1.lay.mok sr
  have e6 : cI (F_St_reset cs w1 A.st) A.ma 6 = 0 := by rw [x4.xcI o1 (by decide)]; exact v6
  have e7 : cI (F_St_reset cs w1 A.st) A.ma 7 = 0 := by rw [x4.xcI o1 (by decide)]; exact v7
  rw [← hF] at h4
  generalize F_St_reset cs w1 A.st = w4 at h4 e2 e3 e6 e7 ⊢
  have o4 := h4.lay.ma_0.1
  have p4 := h4.lay.st_0.1
  rw [h4.lay.ma_1.2]
  simp only [Option.getD_some]
  obtain ⟨s5, f, Fs', y1, y2, y3, h5, u5⟩ := st_takeFrame h4 (by rw [e2, i0]; omega)
  have x5 := x_St_takeFrame cs lim dE w4 A.st h4.lay.mok s5
  have f6 := x5.xcI (k := 6) o4 (by decide)
  have f7 := x5.xcI (k := 7) o4 (by decide)
  have f3 := x5.xcI (k := 3) p4 (by decide)
  generalize F_St_takeFrame cs dE w4 A.st = w5 at y1 h5 u5 f6 f7 f3 ⊢
  rw [y1]
  have b5 : MB A 0 w5.2 := by
    refine ⟨by rw [f7, e7, i0]; omega, by rw [f7, f3, e7, e3]; omega, ?_, by rw [f6, e6, i0]; omega⟩
    rw [f7, f6, e7, e6, i0]
    rw [e2, i0] at u5
    omega
  have o5 := h5.lay.ma_0.1
  have h6 := h5.putQ (ci := 8) (k := 10) (r := some f) o5 (Or.inr ⟨by simp [si_1, si_2, sl_1, sl_2, sl_3, ai_1, ai_2, ai_3, ai_4, al_1, al_2, al_3, al_4], fun z hz => by cases hz; exact y2⟩)
  have q6 : cQ (cP 8 w5.2 A.ma 10 (va_rf (some f))) A.ma 10 = some f := cQ_put o5 (by decide)
  have x6 : Ext [(8, 10)] [] false w5.2 (cP 8 w5.2 A.ma 10 (va_rf (some f))) := (Ext.rf h5.lay.mok).putQ 10 o5 (by decide) (by decide) (by decide)
  have b6 := b5.ext h5.lay x6 (by decide)
  generalize cP 8 w5.2 A.ma 10 (va_rf (some f)) = w6 at h6 q6 b6 ⊢
  rw [q6]
  simp only [Option.getD_some]
  obtain ⟨s7, h7⟩ := fr_open h6 y2 (r := none) (fun z hz => by cases hz) 0
  have x7 := x_Fr_open cs lim w6 f none 0 h6.lay.mok s7
  have b7 := b6.ext h6.lay x7 (by decide)
  have o6 := h6.lay.ma_0.1
  have q7 : cQ (F_Fr_open cs w6 f none 0) A.ma 10 = some f := by rw [x7.xcQ o6 (by decide)]; exact q6
  generalize F_Fr_open cs w6 f none 0 = w7 at h7 b7 q7 ⊢
  rw [q7]
  simp only [Option.getD_some]
  have h8 := h7.putQ (ci := 10) (k := 4) (r := none) (h7.fr y2).ok (Or.inr ⟨by simp [si_1, si_2, sl_1, sl_2, sl_3, ai_1, ai_2, ai_3, ai_4, al_1, al_2, al_3, al_4], fun z hz => by cases hz⟩)
  have x8 : Ext [(10, 4)] [] false w7 (cP 10 w7 f 4 (va_rf (none : Option Nat))) := (Ext.rf h7.lay.mok).putQ 4 (h7.fr y2).ok (by decide) (by decide) (by decide)
  have b8 := b7.ext h7.lay x8 (by decide)
  generalize cP 10 w7 f 4 (va_rf (none : Option Nat)) = w8 at h8 b8 ⊢
  have o8 := h8.lay.ma_0.1
  have h9 := h8.putN (ci := 8) (k := 4) (x := 1) o8 (by decide) (by decide)
  have x9 : Ext [(8, 4)] [] false w8 (cP 8 w8 A.ma 4 (.int 1)) := (Ext.rf h8.lay.mok).putI 4 o8 (by decide) (by decide)
  have b9 := b8.ext h8.lay x9 (by decide)
  exact ⟨⟨o0, s1, o1, ⟨_, rfl, p1⟩, sr, o4, ⟨_, rfl, p4⟩, s5, o5, o6, ⟨f, rfl, (h6.fr y2).ok⟩, s7, h7.lay.ma_0.1, ⟨f, rfl, (h7.fr y2).ok⟩, o8, trivial⟩, Fs', h9, b9, cI_put o8 (by decide)⟩
/-- the program goes on -/
theorem ma_goOnFor (h : (HS cs lim dE A r1 r2 NF g4 k4) Fs Ts M) (m : MB A f M) (hf : 0 ≤ f ∧ f + 1201 ≤ NF ∧ f ≤ 2000000) (hn : 4100000 ≤ n) {x : Int32} (hx : 0 ≤ x.toInt ∧ x.toInt ≤ 200) : S_Ma_goOnFor cs lim dE n M A.ma x ∧ ∃ Fs' Ts', (HS cs lim dE A r1 r2 NF g4 k4) Fs' Ts' (F_Ma_goOnFor cs dE n M A.ma x).2 ∧ MB A (f + 200) (F_Ma_goOnFor cs dE n M A.ma x).2 := by
  unfold S_Ma_goOnFor F_Ma_goOnFor
  have o0 := h.lay.ma_0.1
  have i0 : (0 : Int32).toInt = 0 := rfl
  have hne : A.st ≠ A.ma := fun q => by have := (q ▸ h.lay.st_0.1 : cOk 9 M A.ma).uniq o0; omega
  have h1 := h.putN (ci := 8) (k := 11) (x := x) o0 (by decide) (by decide)
  have o1 := h1.lay.ma_0.1
  have h2 := h1.putN (ci := 8) (k := 12) (x := 0) o1 (by decide) (by decide)
  have o2 := h2.lay.ma_0.1
  have h3 := h2.putN (ci := 8) (k := 13) (x := 0) o2 (by decide) (by decide)
  have v11 : cI (cP 8 (cP 8 (cP 8 M A.ma 11 (.int x)) A.ma 12 (.int 0)) A.ma 13 (.int 0)) A.ma 11 = x := by rw [cI_put_ne (Or.inr (by decide)), cI_put_ne (Or.inr (by decide)), cI_put o0 (by decide)]
  have v12 : cI (cP 8 (cP 8 (cP 8 M A.ma 11 (.int x)) A.ma 12 (.int 0)) A.ma 13 (.int 0)) A.ma 12 = 0 := by rw [cI_put_ne (Or.inr (by decide)), cI_put o1 (by decide)]
  have vo : ∀ z j, (z ≠ A.ma ∨ (j ≠ 11 ∧ j ≠ 12 ∧ j ≠ 13)) → cI (cP 8 (cP 8 (cP 8 M A.ma 11 (.int x)) A.ma 12 (.int 0)) A.ma 13 (.int 0)) z j = cI M z j := fun z j hz => by
    rw [cI_put_ne (hz.imp id (fun q => q.2.2)), cI_put_ne (hz.imp id (fun q => q.2.1)), cI_put_ne (hz.imp id (fun q => q.1))]
  have mfl := m.fl
  have c3 : MC A NF (cI M A.ma 6).toInt 0 0 (cP 8 (cP 8 (cP 8 M A.ma 11 (.int x)) A.ma 12 (.int 0)) A.ma 13 (.int 0)) := by
    refine ⟨?_, ?_, ?_, ?_, ?_, ?_, ?_⟩
    · rw [vo A.ma 7 (Or.inr (by decide))]; exact m.tc
    · rw [vo A.ma 7 (Or.inr (by decide)), vo A.st 3 (Or.inl hne)]; have := m.tu; omega
    · rw [vo A.ma 7 (Or.inr (by decide)), vo A.st 2 (Or.inl hne), vo A.ma 6 (Or.inr (by decide))]; have := m.fu; omega
    · rw [v11]; exact hx
    · rw [v11, v12, i0]; omega
    · rw [v12, i0, vo A.ma 6 (Or.inr (by decide))]; omega
    · omega
  obtain ⟨s4, Fs', Ts', h4, c4⟩ := ma_goOn17 (cs := cs) (lim := lim) (dE := dE) (A := A) (r1 := r1) (r2 := r2) (NF := NF) (g4 := g4) (k4 := k4) (b := (cI M A.ma 6).toInt) (x1 := x) 4000001 0 n _ (by decide) (by decide) (by decide) (by omega) ⟨Fs, Ts, h3, c3⟩
  refine ⟨⟨o0, o1, o2, s4⟩, Fs', Ts', h4, c4.tc, ?_, ?_, ?_⟩
  · have := c4.tu; omega
  · have := c4.fu; omega
  · have := c4.fl; have := c4.ta; have := c4.al; omega
end
end
section
/-! pure rows, the reference: what a telling call leaves, exactly -/
/-- the new node but for its own numbers -/
def NewX (σ σ' : mSt) (N : Nat) (k a b c : Int32) : Prop := (σ'.2.2.1 5 N = k) ∧ (σ'.2.2.1 9 N = a) ∧ (σ'.2.2.1 10 N = b) ∧ (σ'.2.2.1 11 N = c) ∧ (σ'.2.2.1 15 N = 0) ∧ (Sz σ' N = min 100000 (min 100000 (min 100000 (1 + sz σ a) + sz σ b) + sz σ c)) ∧ (Dp σ' N = max (max (max 1 (dpp σ a + 1)) (dpp σ b + 1)) (dpp σ c + 1))
theorem NewX.k5 {σ σ' : mSt} {N : Nat} {k a b c : Int32} (self : NewX σ σ' N k a b c) : σ'.2.2.1 5 N = k := self.1
theorem NewX.k9 {σ σ' : mSt} {N : Nat} {k a b c : Int32} (self : NewX σ σ' N k a b c) : σ'.2.2.1 9 N = a := self.2.1
theorem NewX.k10 {σ σ' : mSt} {N : Nat} {k a b c : Int32} (self : NewX σ σ' N k a b c) : σ'.2.2.1 10 N = b := self.2.2.1
theorem NewX.k11 {σ σ' : mSt} {N : Nat} {k a b c : Int32} (self : NewX σ σ' N k a b c) : σ'.2.2.1 11 N = c := self.2.2.2.1
theorem NewX.k15 {σ σ' : mSt} {N : Nat} {k a b c : Int32} (self : NewX σ σ' N k a b c) : σ'.2.2.1 15 N = 0 := self.2.2.2.2.1
theorem NewX.sx {σ σ' : mSt} {N : Nat} {k a b c : Int32} (self : NewX σ σ' N k a b c) : Sz σ' N = min 100000 (min 100000 (min 100000 (1 + sz σ a) + sz σ b) + sz σ c) := self.2.2.2.2.2.1
theorem NewX.dx {σ σ' : mSt} {N : Nat} {k a b c : Int32} (self : NewX σ σ' N k a b c) : Dp σ' N = max (max (max 1 (dpp σ a + 1)) (dpp σ b + 1)) (dpp σ c + 1) := self.2.2.2.2.2.2
theorem AddP.x {σ σ' σ'' : mSt} {N : Nat} {x1 x3 x4 x5 : Int32} (p : AddP σ σ' N x1 x3 x4 x5) (ea : ∀ k i, ¬ (i = N ∧ (k = 6 ∨ k = 7 ∨ k = 8)) → σ''.2.2.1 k i = σ'.2.2.1 k i) : NewX σ σ'' N x1 x3 x4 x5 := by
  have p5 := p.k5
  have p9 := p.k9
  have p10 := p.k10
  have p11 := p.k11
  have p15 := p.k15
  have ps := p.sx
  have pd := p.dx
  refine ⟨?_, ?_, ?_, ?_, ?_, ?_, ?_⟩
  · rw [ea 5 N (by omega)]; exact p5
  · rw [ea 9 N (by omega)]; exact p9
  · rw [ea 10 N (by omega)]; exact p10
  · rw [ea 11 N (by omega)]; exact p11
  · rw [ea 15 N (by omega)]; exact p15
  · unfold Sz at ps ⊢; rw [ea 12 N (by omega)]; exact ps
  · unfold Dp at pd ⊢; rw [ea 13 N (by omega)]; exact pd
theorem let_x {σ : mSt} {N C R T : Nat} (h : NOk σ N C R T) (hN : N < 200) {x1 x2 x3 : Int32} (g : Nm x1 ∧ Is N x2 ∧ Is N x3) : NewX σ (F_Mo_let σ x1 x2 x3).2 N 4 x2 x3 (-1) ∧ (F_Mo_let σ x1 x2 x3).2.2.2.1 6 N = x1 ∧ (F_Mo_let σ x1 x2 x3).2.2.2.1 7 N = 0 ∧ (F_Mo_let σ x1 x2 x3).2.2.2.1 8 N = 0 := by
  have h0 := h.n
  have hn := h.hn
  obtain ⟨a, b, c⟩ := g
  obtain ⟨sn, rn, pn⟩ := add_new h hN (x1 := 4) (Pn.of b) (Pn.of c) Pn.no
  obtain ⟨e1, -⟩ := addN (k := 4) (a := x2) (b := x3) (c := (-1)) h0 hN
  have f4 := pn.f4
  simp only [F_Mo_let, F_Mo_let_j30, F_Mo_let_j29, isName_F, isEffect_F, isNode_F h0, mbind_eq, if_pos a, if_pos b, if_pos c, e1, f4, if_true, if_neg (show ¬ (1 : Int32) = 0 by decide)]
  generalize F_Mo_add_j24 σ 4 x2 x3 (-1) 0 = w at *
  have hw : w.1.toNatClampNeg = N := by ((try (simp only [vp_in, Int32.toNatClampNeg, Int32.lt_iff_toInt_lt, Int32.le_iff_toInt_le, ← Int32.toInt_inj, Int32.toInt_add, Int32.toInt_sub, Int32.toInt_mul, Int32.reduceToInt, i32_neg1, Nat.reducePow, Int.reducePow, ne_eq, ge_iff_le, gt_iff_lt] at *)) <;> (first | omega | ((simp (disch := omega) only [bm32] at *) <;> omega)))
  have p6 := pn.k6
  have p7 := pn.k7
  have p8 := pn.k8
  refine ⟨pn.x (fun k i hk => by rw [ai_3, if_neg (by omega)]), ?_, ?_, ?_⟩
  all_goals simp [si_1, si_2, sl_1, sl_2, sl_3, ai_1, ai_2, ai_3, ai_4, al_1, al_2, al_3, al_4, hw, p6, p7, p8]
theorem choice_x {σ : mSt} {N C R T : Nat} (h : NOk σ N C R T) (hN : N < 200) {x1 x2 x3 : Int32} (g : Is N x1 ∧ Is N x2 ∧ Is N x3) : NewX σ (F_Mo_choice σ x1 x2 x3).2 N 6 x1 x2 x3 ∧ (F_Mo_choice σ x1 x2 x3).2.2.2.1 6 N = 0 ∧ (F_Mo_choice σ x1 x2 x3).2.2.2.1 7 N = 0 ∧ (F_Mo_choice σ x1 x2 x3).2.2.2.1 8 N = 0 := by
  have h0 := h.n
  have hn := h.hn
  obtain ⟨a, b, c⟩ := g
  obtain ⟨sn, rn, pn⟩ := add_new h hN (x1 := 6) (Pn.of a) (Pn.of b) (Pn.of c)
  obtain ⟨e1, -⟩ := addN (k := 6) (a := x1) (b := x2) (c := x3) h0 hN
  have f4 := pn.f4
  simp only [F_Mo_choice, F_Mo_choice_j31, isName_F, isEffect_F, isNode_F h0, mbind_eq, if_pos a, if_pos b, if_pos c, e1, f4, if_true, if_neg (show ¬ (1 : Int32) = 0 by decide)]
  generalize F_Mo_add_j24 σ 6 x1 x2 x3 0 = w at *
  have hw : w.1.toNatClampNeg = N := by ((try (simp only [vp_in, Int32.toNatClampNeg, Int32.lt_iff_toInt_lt, Int32.le_iff_toInt_le, ← Int32.toInt_inj, Int32.toInt_add, Int32.toInt_sub, Int32.toInt_mul, Int32.reduceToInt, i32_neg1, Nat.reducePow, Int.reducePow, ne_eq, ge_iff_le, gt_iff_lt] at *)) <;> (first | omega | ((simp (disch := omega) only [bm32] at *) <;> omega)))
  have p6 := pn.k6
  have p7 := pn.k7
  have p8 := pn.k8
  exact ⟨pn.x (fun k i hk => rfl), p6, p7, p8⟩
theorem fn_x {σ : mSt} {N C R T : Nat} (h : NOk σ N C R T) (hT : (σ.1 3).toInt = T) (hN : N < 200) {x1 x2 x3 : Int32} (g : Nm x1 ∧ Is T x2 ∧ Is N x3) : NewX σ (F_Mo_fn σ x1 x2 x3).2 N 7 x3 (-1) (-1) ∧ (F_Mo_fn σ x1 x2 x3).2.2.2.1 6 N = x1 ∧ (F_Mo_fn σ x1 x2 x3).2.2.2.1 7 N = x2 ∧ (F_Mo_fn σ x1 x2 x3).2.2.2.1 8 N = 0 := by
  have h0 := h.n
  have hn := h.hn
  obtain ⟨a, b, c⟩ := g
  obtain ⟨sn, rn, pn⟩ := add_new h hN (x1 := 7) (Pn.of c) Pn.no Pn.no
  obtain ⟨e1, -⟩ := addN (k := 7) (a := x3) (b := (-1)) (c := (-1)) h0 hN
  have f4 := pn.f4
  simp only [F_Mo_fn, F_Mo_fn_j31, F_Mo_fn_j30, isName_F, isEffect_F, isNode_F h0, isType_F hT, mbind_eq, if_pos a, if_pos b, if_pos c, e1, f4, if_true, if_neg (show ¬ (1 : Int32) = 0 by decide)]
  generalize F_Mo_add_j24 σ 7 x3 (-1) (-1) 0 = w at *
  have hw : w.1.toNatClampNeg = N := by ((try (simp only [vp_in, Int32.toNatClampNeg, Int32.lt_iff_toInt_lt, Int32.le_iff_toInt_le, ← Int32.toInt_inj, Int32.toInt_add, Int32.toInt_sub, Int32.toInt_mul, Int32.reduceToInt, i32_neg1, Nat.reducePow, Int.reducePow, ne_eq, ge_iff_le, gt_iff_lt] at *)) <;> (first | omega | ((simp (disch := omega) only [bm32] at *) <;> omega)))
  have p6 := pn.k6
  have p7 := pn.k7
  have p8 := pn.k8
  refine ⟨pn.x (fun k i hk => by rw [ai_3, if_neg (by omega), ai_3, if_neg (by omega)]), ?_, ?_, ?_⟩
  all_goals simp [si_1, si_2, sl_1, sl_2, sl_3, ai_1, ai_2, ai_3, ai_4, al_1, al_2, al_3, al_4, hw, p6, p7, p8]
theorem two_x {σ : mSt} {N C R T : Nat} (h : NOk σ N C R T) (hN : N < 200) {x1 x2 x3 : Int32} (g : Is 5 x1 ∧ Is N x2 ∧ Is N x3) : NewX σ (F_Mo_two σ x1 x2 x3).2 N 9 x2 x3 (-1) ∧ (F_Mo_two σ x1 x2 x3).2.2.2.1 6 N = x1 ∧ (F_Mo_two σ x1 x2 x3).2.2.2.1 7 N = 0 ∧ (F_Mo_two σ x1 x2 x3).2.2.2.1 8 N = 0 := by
  have h0 := h.n
  have hn := h.hn
  obtain ⟨a, b, c⟩ := g
  obtain ⟨a1, a2⟩ := two_ix.mpr a
  obtain ⟨sn, rn, pn⟩ := add_new h hN (x1 := 9) (Pn.of b) (Pn.of c) Pn.no
  obtain ⟨e1, -⟩ := addN (k := 9) (a := x2) (b := x3) (c := (-1)) h0 hN
  have f4 := pn.f4
  simp only [F_Mo_two, F_Mo_two_j33, F_Mo_two_j32, isName_F, isEffect_F, isNode_F h0, mbind_eq, if_pos b, if_pos c, e1, f4, if_true, if_neg (show ¬ (1 : Int32) = 0 by decide), if_neg a1, if_neg a2]
  generalize F_Mo_add_j24 σ 9 x2 x3 (-1) 0 = w at *
  have hw : w.1.toNatClampNeg = N := by ((try (simp only [vp_in, Int32.toNatClampNeg, Int32.lt_iff_toInt_lt, Int32.le_iff_toInt_le, ← Int32.toInt_inj, Int32.toInt_add, Int32.toInt_sub, Int32.toInt_mul, Int32.reduceToInt, i32_neg1, Nat.reducePow, Int.reducePow, ne_eq, ge_iff_le, gt_iff_lt] at *)) <;> (first | omega | ((simp (disch := omega) only [bm32] at *) <;> omega)))
  have p6 := pn.k6
  have p7 := pn.k7
  have p8 := pn.k8
  refine ⟨pn.x (fun k i hk => by rw [ai_3, if_neg (by omega)]), ?_, ?_, ?_⟩
  all_goals simp [si_1, si_2, sl_1, sl_2, sl_3, ai_1, ai_2, ai_3, ai_4, al_1, al_2, al_3, al_4, hw, p6, p7, p8]
theorem call_x {σ : mSt} {N C R T : Nat} (h : NOk σ N C R T) (hN : N < 200) {x1 x2 : Int32} (g : Is N x1 ∧ Is N x2) : NewX σ (F_Mo_call σ x1 x2).2 N 10 x1 x2 (-1) ∧ (F_Mo_call σ x1 x2).2.2.2.1 6 N = 0 ∧ (F_Mo_call σ x1 x2).2.2.2.1 7 N = 0 ∧ (F_Mo_call σ x1 x2).2.2.2.1 8 N = 0 := by
  have h0 := h.n
  have hn := h.hn
  obtain ⟨a, b⟩ := g
  obtain ⟨sn, rn, pn⟩ := add_new h hN (x1 := 10) (Pn.of a) (Pn.of b) Pn.no
  obtain ⟨e1, -⟩ := addN (k := 10) (a := x1) (b := x2) (c := (-1)) h0 hN
  have f4 := pn.f4
  simp only [F_Mo_call, F_Mo_call_j23, isName_F, isEffect_F, isNode_F h0, mbind_eq, if_pos a, if_pos b, e1, f4, if_true, if_neg (show ¬ (1 : Int32) = 0 by decide)]
  generalize F_Mo_add_j24 σ 10 x1 x2 (-1) 0 = w at *
  have hw : w.1.toNatClampNeg = N := by ((try (simp only [vp_in, Int32.toNatClampNeg, Int32.lt_iff_toInt_lt, Int32.le_iff_toInt_le, ← Int32.toInt_inj, Int32.toInt_add, Int32.toInt_sub, Int32.toInt_mul, Int32.reduceToInt, i32_neg1, Nat.reducePow, Int.reducePow, ne_eq, ge_iff_le, gt_iff_lt] at *)) <;> (first | omega | ((simp (disch := omega) only [bm32] at *) <;> omega)))
  have p6 := pn.k6
  have p7 := pn.k7
  have p8 := pn.k8
  exact ⟨pn.x (fun k i hk => rfl), p6, p7, p8⟩
theorem perform_x {σ : mSt} {N C R T : Nat} (h : NOk σ N C R T) (hN : N < 200) {x1 x2 : Int32} (g : Is 8 x1 ∧ Is N x2) : NewX σ (F_Mo_perform σ x1 x2).2 N 11 x2 (-1) (-1) ∧ (F_Mo_perform σ x1 x2).2.2.2.1 6 N = x1 ∧ (F_Mo_perform σ x1 x2).2.2.2.1 7 N = 0 ∧ (F_Mo_perform σ x1 x2).2.2.2.1 8 N = 0 := by
  have h0 := h.n
  have hn := h.hn
  obtain ⟨a, b⟩ := g
  obtain ⟨sn, rn, pn⟩ := add_new h hN (x1 := 11) (Pn.of b) Pn.no Pn.no
  obtain ⟨e1, -⟩ := addN (k := 11) (a := x2) (b := (-1)) (c := (-1)) h0 hN
  have f4 := pn.f4
  simp only [F_Mo_perform, F_Mo_perform_j23, F_Mo_perform_j22, isName_F, isEffect_F, isNode_F h0, mbind_eq, if_pos a, if_pos b, e1, f4, if_true, if_neg (show ¬ (1 : Int32) = 0 by decide)]
  generalize F_Mo_add_j24 σ 11 x2 (-1) (-1) 0 = w at *
  have hw : w.1.toNatClampNeg = N := by ((try (simp only [vp_in, Int32.toNatClampNeg, Int32.lt_iff_toInt_lt, Int32.le_iff_toInt_le, ← Int32.toInt_inj, Int32.toInt_add, Int32.toInt_sub, Int32.toInt_mul, Int32.reduceToInt, i32_neg1, Nat.reducePow, Int.reducePow, ne_eq, ge_iff_le, gt_iff_lt] at *)) <;> (first | omega | ((simp (disch := omega) only [bm32] at *) <;> omega)))
  have p6 := pn.k6
  have p7 := pn.k7
  have p8 := pn.k8
  refine ⟨pn.x (fun k i hk => by rw [ai_3, if_neg (by omega)]), ?_, ?_, ?_⟩
  all_goals simp [si_1, si_2, sl_1, sl_2, sl_3, ai_1, ai_2, ai_3, ai_4, al_1, al_2, al_3, al_4, hw, p6, p7, p8]
theorem rec_x {σ : mSt} {N C R T : Nat} (h : NOk σ N C R T) (hT : (σ.1 3).toInt = T) (hN : N < 200) {x1 x2 x3 x4 x5 : Int32} (g : Nm x1 ∧ Nm x2 ∧ FnT T x3 ∧ Is N x4 ∧ Is N x5) : NewX σ (F_Mo_rec σ x1 x2 x3 x4 x5).2 N 5 x4 x5 (-1) ∧ (F_Mo_rec σ x1 x2 x3 x4 x5).2.2.2.1 6 N = x1 ∧ (F_Mo_rec σ x1 x2 x3 x4 x5).2.2.2.1 7 N = x2 ∧ (F_Mo_rec σ x1 x2 x3 x4 x5).2.2.2.1 8 N = x3 := by
  have h0 := h.n
  have hn := h.hn
  obtain ⟨a, b, c, d, e⟩ := g
  have c1 : ¬ x3 < 3 := by unfold FnT at c; ((try (simp only [vp_in, Int32.toNatClampNeg, Int32.lt_iff_toInt_lt, Int32.le_iff_toInt_le, ← Int32.toInt_inj, Int32.toInt_add, Int32.toInt_sub, Int32.toInt_mul, Int32.reduceToInt, i32_neg1, Nat.reducePow, Int.reducePow, ne_eq, ge_iff_le, gt_iff_lt] at *)) <;> (first | omega | ((simp (disch := omega) only [bm32] at *) <;> omega)))
  have c2 : ¬ σ.1 3 ≤ x3 := by unfold FnT at c; ((try (simp only [vp_in, Int32.toNatClampNeg, Int32.lt_iff_toInt_lt, Int32.le_iff_toInt_le, ← Int32.toInt_inj, Int32.toInt_add, Int32.toInt_sub, Int32.toInt_mul, Int32.reduceToInt, i32_neg1, Nat.reducePow, Int.reducePow, ne_eq, ge_iff_le, gt_iff_lt] at *)) <;> (first | omega | ((simp (disch := omega) only [bm32] at *) <;> omega)))
  obtain ⟨sn, rn, pn⟩ := add_new h hN (x1 := 5) (Pn.of d) (Pn.of e) Pn.no
  obtain ⟨e1, -⟩ := addN (k := 5) (a := x4) (b := x5) (c := (-1)) h0 hN
  have f4 := pn.f4
  simp only [F_Mo_rec, F_Mo_rec_j52, isName_F, isEffect_F, isNode_F h0, mbind_eq, if_pos a, if_pos b, if_pos d, if_pos e, e1, f4, if_true, if_neg (show ¬ (1 : Int32) = 0 by decide), if_neg c1, if_neg c2]
  generalize F_Mo_add_j24 σ 5 x4 x5 (-1) 0 = w at *
  have hw : w.1.toNatClampNeg = N := by ((try (simp only [vp_in, Int32.toNatClampNeg, Int32.lt_iff_toInt_lt, Int32.le_iff_toInt_le, ← Int32.toInt_inj, Int32.toInt_add, Int32.toInt_sub, Int32.toInt_mul, Int32.reduceToInt, i32_neg1, Nat.reducePow, Int.reducePow, ne_eq, ge_iff_le, gt_iff_lt] at *)) <;> (first | omega | ((simp (disch := omega) only [bm32] at *) <;> omega)))
  have p6 := pn.k6
  have p7 := pn.k7
  have p8 := pn.k8
  refine ⟨pn.x (fun k i hk => by rw [ai_3, if_neg (by omega), ai_3, if_neg (by omega), ai_3, if_neg (by omega)]), ?_, ?_, ?_⟩
  all_goals simp [si_1, si_2, sl_1, sl_2, sl_3, ai_1, ai_2, ai_3, ai_4, al_1, al_2, al_3, al_4, hw, p6, p7, p8]
theorem atom_j40_x {σ : mSt} {N C R T : Nat} (h : NOk σ N C R T) (hN : N < 200) {x1 x2 : Int32} : NewX σ (F_Mo_atom_j40 σ x1 x2 1).2 N x1 (-1) (-1) (-1) ∧ (F_Mo_atom_j40 σ x1 x2 1).2.2.2.1 6 N = x2 ∧ (F_Mo_atom_j40 σ x1 x2 1).2.2.2.1 7 N = 0 ∧ (F_Mo_atom_j40 σ x1 x2 1).2.2.2.1 8 N = 0 := by
  have h0 := h.n
  have hn := h.hn
  obtain ⟨sn, rn, pn⟩ := add_new h hN (x1 := x1) (x3 := -1) (x4 := -1) (x5 := -1) Pn.no Pn.no Pn.no
  obtain ⟨e1, -⟩ := addN (k := x1) (a := -1) (b := -1) (c := -1) h0 hN
  have f4 := pn.f4
  simp only [F_Mo_atom_j40, mbind_eq, e1, f4, if_true]
  generalize F_Mo_add_j24 σ x1 (-1) (-1) (-1) 0 = w at *
  have hw : w.1.toNatClampNeg = N := by ((try (simp only [vp_in, Int32.toNatClampNeg, Int32.lt_iff_toInt_lt, Int32.le_iff_toInt_le, ← Int32.toInt_inj, Int32.toInt_add, Int32.toInt_sub, Int32.toInt_mul, Int32.reduceToInt, i32_neg1, Nat.reducePow, Int.reducePow, ne_eq, ge_iff_le, gt_iff_lt] at *)) <;> (first | omega | ((simp (disch := omega) only [bm32] at *) <;> omega)))
  have p6 := pn.k6
  have p7 := pn.k7
  have p8 := pn.k8
  refine ⟨pn.x (fun k i hk => by rw [ai_3, if_neg (by omega)]), ?_, ?_, ?_⟩
  all_goals simp [si_1, si_2, sl_1, sl_2, sl_3, ai_1, ai_2, ai_3, ai_4, al_1, al_2, al_3, al_4, hw, p6, p7, p8]
theorem atom_good {σ : mSt} {x1 x2 : Int32} (g : AtG x1 x2) : F_Mo_atom σ x1 x2 = F_Mo_atom_j40 σ x1 x2 1 := by
  obtain ⟨g1, g2, g3⟩ := g
  have n1 : ¬ (1 : Int32) = 0 := by decide
  have a1 : ¬ x1 < 0 := by unfold Is at g1; ((try (simp only [vp_in, Int32.toNatClampNeg, Int32.lt_iff_toInt_lt, Int32.le_iff_toInt_le, ← Int32.toInt_inj, Int32.toInt_add, Int32.toInt_sub, Int32.toInt_mul, Int32.reduceToInt, i32_neg1, Nat.reducePow, Int.reducePow, ne_eq, ge_iff_le, gt_iff_lt] at *)) <;> (first | omega | ((simp (disch := omega) only [bm32] at *) <;> omega)))
  have a2 : ¬ 3 < x1 := by unfold Is at g1; ((try (simp only [vp_in, Int32.toNatClampNeg, Int32.lt_iff_toInt_lt, Int32.le_iff_toInt_le, ← Int32.toInt_inj, Int32.toInt_add, Int32.toInt_sub, Int32.toInt_mul, Int32.reduceToInt, i32_neg1, Nat.reducePow, Int.reducePow, ne_eq, ge_iff_le, gt_iff_lt] at *)) <;> (first | omega | ((simp (disch := omega) only [bm32] at *) <;> omega)))
  have j23 : F_Mo_atom_j23 σ x1 x2 = F_Mo_atom_j40 σ x1 x2 1 := by
    simp only [F_Mo_atom_j23, F_Mo_atom_j39, F_Mo_atom_j35, isName_F, mbind_eq]
    by_cases h3 : x1 = 3
    · simp only [if_pos h3, if_pos (g3 h3), if_neg n1]
    · simp only [if_neg h3]
  simp only [F_Mo_atom, if_neg a1, if_neg a2]
  by_cases h1 : x1 = 1
  · simp only [if_pos h1]
    by_cases hz : x2 = 0
    · simp only [if_pos hz]; exact j23
    · simp only [if_neg hz, if_pos ((g2 h1).resolve_left hz)]; exact j23
  · simp only [if_neg h1]; exact j23
theorem atom_x {σ : mSt} {N C R T : Nat} (h : NOk σ N C R T) (hN : N < 200) {x1 x2 : Int32} (g : AtG x1 x2) : NewX σ (F_Mo_atom σ x1 x2).2 N x1 (-1) (-1) (-1) ∧ (F_Mo_atom σ x1 x2).2.2.2.1 6 N = x2 ∧ (F_Mo_atom σ x1 x2).2.2.2.1 7 N = 0 ∧ (F_Mo_atom σ x1 x2).2.2.2.1 8 N = 0 := by
  rw [atom_good g]
  exact atom_j40_x h hN
end
section
/-! pure rows: a new node measures the same on both sides; handle exactly -/
theorem nd9 (A : Nat → Nat → Int32) (i : Nat) : ndOf A i 9 = A 12 i := rfl
theorem nd10 (A : Nat → Nat → Int32) (i : Nat) : ndOf A i 10 = A 13 i := rfl
theorem ms_x {σ : mSt} {a b c : Int32} : ms (ndOf σ.2.2.1) (ms (ndOf σ.2.2.1) (ms (ndOf σ.2.2.1) (1, 1) a) b) c = (min 100000 (min 100000 (min 100000 (1 + sz σ a) + sz σ b) + sz σ c), max (max (max 1 (dpp σ a + 1)) (dpp σ b + 1)) (dpp σ c + 1)) := by
  unfold ms sz dpp
  by_cases ha : a = -1 <;> by_cases hb : b = -1 <;> by_cases hc : c = -1 <;> simp only [ha, hb, hc, if_true, if_false, nd9, nd10, Sz, Dp] <;> refine Prod.ext ?_ ?_ <;> dsimp only <;> omega
theorem handle_loop_x {N C : Nat} (hN : N < 200) (hC : C ≤ 40) (σ0 : mSt) (hs : ∀ p, p < N → 1 ≤ Sz σ0 p ∧ Sz σ0 p ≤ 100000) (hd : ∀ p, p < N → 1 ≤ Dp σ0 p ∧ Dp σ0 p ≤ p + 1) (hx : ∀ j, j < C → 0 ≤ (σ0.2.2.1 19 j).toInt ∧ (σ0.2.2.1 19 j).toInt < N) (hc : (σ0.1 1).toInt = C) :
    ∀ (m n : Nat) (σ : mSt) (x y : Int32) (j : Nat), x.toInt = N → y.toInt = j → j ≤ C → C - j = m → m < n → CFr N σ0 σ → (1 ≤ Sz σ N ∧ Sz σ N ≤ 100000) → (1 ≤ Dp σ N ∧ Dp σ N ≤ N + 1) →
    CFr N σ0 (F_Mo_handle_113 n σ x y).1 ∧ (Sz (F_Mo_handle_113 n σ x y).1 N, Dp (F_Mo_handle_113 n σ x y).1 N) = (bodies (cdOf σ0.2.2.1) j m).foldl (ms (ndOf σ0.2.2.1)) (Sz σ N, Dp σ N) := by
  intro m
  induction m with
  | zero =>
    intro n σ x y j hxN hy hj hm hn fr s d
    obtain ⟨n, rfl⟩ : ∃ k, n = k + 1 := ⟨n - 1, by omega⟩
    have hjC : j = C := by omega
    subst hjC
    have hcc : σ.1 1 ≤ y := by rw [fr.f]; ((try (simp only [vp_in, Int32.toNatClampNeg, Int32.lt_iff_toInt_lt, Int32.le_iff_toInt_le, ← Int32.toInt_inj, Int32.toInt_add, Int32.toInt_sub, Int32.toInt_mul, Int32.reduceToInt, i32_neg1, Nat.reducePow, Int.reducePow, ne_eq, ge_iff_le, gt_iff_lt] at *)) <;> (first | omega | ((simp (disch := omega) only [bm32] at *) <;> omega)))
    simp only [F_Mo_handle_113, if_pos hcc]
    exact ⟨fr, rfl⟩
  | succ m ih =>
    intro n σ x y j hxN hy hj hm hn fr s d
    obtain ⟨n, rfl⟩ : ∃ k, n = k + 1 := ⟨n - 1, by omega⟩
    have hcc : ¬ σ.1 1 ≤ y := by rw [fr.f]; ((try (simp only [vp_in, Int32.toNatClampNeg, Int32.lt_iff_toInt_lt, Int32.le_iff_toInt_le, ← Int32.toInt_inj, Int32.toInt_add, Int32.toInt_sub, Int32.toInt_mul, Int32.reduceToInt, i32_neg1, Nat.reducePow, Int.reducePow, ne_eq, ge_iff_le, gt_iff_lt] at *)) <;> (first | omega | ((simp (disch := omega) only [bm32] at *) <;> omega)))
    have hyn : y.toNatClampNeg = j := by ((try (simp only [vp_in, Int32.toNatClampNeg, Int32.lt_iff_toInt_lt, Int32.le_iff_toInt_le, ← Int32.toInt_inj, Int32.toInt_add, Int32.toInt_sub, Int32.toInt_mul, Int32.reduceToInt, i32_neg1, Nat.reducePow, Int.reducePow, ne_eq, ge_iff_le, gt_iff_lt] at *)) <;> (first | omega | ((simp (disch := omega) only [bm32] at *) <;> omega)))
    have hj1 := hx j (by omega)
    have e19 : σ.2.2.1 19 j = σ0.2.2.1 19 j := fr.a 19 j (by omega)
    simp only [F_Mo_handle_113, if_neg hcc, mbind_eq, hyn, e19]
    have lowS : ∀ p, p < N → Sz σ p = Sz σ0 p := fun p hp => by unfold Sz; rw [fr.a 12 p (by omega)]
    have lowD : ∀ p, p < N → Dp σ p = Dp σ0 p := fun p hp => by unfold Dp; rw [fr.a 13 p (by omega)]
    have c1 := counts_ok (σ := σ) (x := x) (y := σ0.2.2.1 19 j) (n := N) (p := (σ0.2.2.1 19 j).toInt.toNat) hxN (by omega) hN (by omega) s (by rw [lowS (σ0.2.2.1 19 j).toInt.toNat (by omega)]; exact hs _ (by omega)) (by omega) (by rw [lowD (σ0.2.2.1 19 j).toInt.toNat (by omega)]; have := hd (σ0.2.2.1 19 j).toInt.toNat (by omega); omega)
    rw [lowS (σ0.2.2.1 19 j).toInt.toNat (by omega), lowD (σ0.2.2.1 19 j).toInt.toNat (by omega)] at c1
    have hs' := hs (σ0.2.2.1 19 j).toInt.toNat (by omega)
    have hd' := hd (σ0.2.2.1 19 j).toInt.toNat (by omega)
    generalize F_Mo_counts σ x (σ0.2.2.1 19 j) = σ1 at c1 ⊢
    obtain ⟨a1, f1, b1, b2⟩ := c1
    obtain ⟨r1, r2⟩ := ih n σ1 x (y + 1) (j + 1) hxN (by ((try (simp only [vp_in, Int32.toNatClampNeg, Int32.lt_iff_toInt_lt, Int32.le_iff_toInt_le, ← Int32.toInt_inj, Int32.toInt_add, Int32.toInt_sub, Int32.toInt_mul, Int32.reduceToInt, i32_neg1, Nat.reducePow, Int.reducePow, ne_eq, ge_iff_le, gt_iff_lt] at *)) <;> (first | omega | ((simp (disch := omega) only [bm32] at *) <;> omega)))) (by omega) (by omega) (by omega) (fr.trans f1) (by omega) (by omega)
    refine ⟨r1, r2.trans ?_⟩
    have hne : ¬ σ0.2.2.1 19 j = -1 := by ((try (simp only [vp_in, Int32.toNatClampNeg, Int32.lt_iff_toInt_lt, Int32.le_iff_toInt_le, ← Int32.toInt_inj, Int32.toInt_add, Int32.toInt_sub, Int32.toInt_mul, Int32.reduceToInt, i32_neg1, Nat.reducePow, Int.reducePow, ne_eq, ge_iff_le, gt_iff_lt] at *)) <;> (first | omega | ((simp (disch := omega) only [bm32] at *) <;> omega)))
    have eb : bodies (cdOf σ0.2.2.1) j (m + 1) = σ0.2.2.1 19 j :: bodies (cdOf σ0.2.2.1) (j + 1) m := rfl
    rw [eb, List.foldl_cons]
    congr 1
    unfold ms
    rw [if_neg hne, nd9, nd10, b1, b2]
theorem ms_neg {nd : Nat → Nat → Int32} {m : Int × Int} {p : Int32} (h : ¬ p = -1) : ms nd m p = (min 100000 (m.1 + (nd p.toInt.toNat 9).toInt), max m.2 ((nd p.toInt.toNat 10).toInt + 1)) := if_neg h
theorem fold_cong {σ σ1 : mSt} {N : Nat} (l12 : ∀ i, i < N → σ1.2.2.1 12 i = σ.2.2.1 12 i) (l13 : ∀ i, i < N → σ1.2.2.1 13 i = σ.2.2.1 13 i) : ∀ (l : List Int32) (m : Int × Int), (∀ p ∈ l, 0 ≤ p.toInt ∧ p.toInt < N) → l.foldl (ms (ndOf σ1.2.2.1)) m = l.foldl (ms (ndOf σ.2.2.1)) m := by
  intro l
  induction l with
  | nil => intro m _; exact Eq.refl m
  | cons p l ih =>
    intro m hl
    rw [List.foldl_cons, List.foldl_cons]
    have hp := hl p (List.mem_cons_self ..)
    have hm : ¬ p = -1 := by ((try (simp only [vp_in, Int32.toNatClampNeg, Int32.lt_iff_toInt_lt, Int32.le_iff_toInt_le, ← Int32.toInt_inj, Int32.toInt_add, Int32.toInt_sub, Int32.toInt_mul, Int32.reduceToInt, i32_neg1, Nat.reducePow, Int.reducePow, ne_eq, ge_iff_le, gt_iff_lt] at *)) <;> (first | omega | ((simp (disch := omega) only [bm32] at *) <;> omega)))
    have e9 : ndOf σ1.2.2.1 p.toInt.toNat 9 = ndOf σ.2.2.1 p.toInt.toNat 9 := l12 _ (by omega)
    have e10 : ndOf σ1.2.2.1 p.toInt.toNat 10 = ndOf σ.2.2.1 p.toInt.toNat 10 := l13 _ (by omega)
    have e : ms (ndOf σ1.2.2.1) m p = ms (ndOf σ.2.2.1) m p := by rw [ms_neg hm, ms_neg hm, e9, e10]
    rw [e]
    exact ih _ (fun q hq => hl q (List.mem_cons_of_mem _ hq))
theorem bodies_cons (A : Nat → Nat → Int32) (j m : Nat) : bodies (cdOf A) j (m + 1) = A 19 j :: bodies (cdOf A) (j + 1) m := rfl
theorem bodies_cong {σ σ1 : mSt} (h : σ1.2.2.1 19 = σ.2.2.1 19) : ∀ (m j : Nat), bodies (cdOf σ1.2.2.1) j m = bodies (cdOf σ.2.2.1) j m := by
  intro m
  induction m with
  | zero => intro j; rfl
  | succ m ih =>
    intro j
    rw [bodies_cons, bodies_cons, h, ih]
theorem bodies_mem {σ : mSt} {N C R T : Nat} (h : NOk σ N C R T) : ∀ (m j : Nat), j + m ≤ C → ∀ p ∈ bodies (cdOf σ.2.2.1) j m, 0 ≤ p.toInt ∧ p.toInt < N := by
  intro m
  induction m with
  | zero => intro j _ p hp; cases hp
  | succ m ih =>
    intro j hj p hp
    rw [bodies_cons] at hp
    rcases List.mem_cons.mp hp with rfl | hp
    · exact (h.cl j (by omega)).b
    · exact ih (j + 1) (by omega) p hp
theorem handle_x {σ : mSt} {N C R T : Nat} (h : NOk σ N C R T) (hN : N < 200) {n : Nat} (hn : 50 ≤ n) {x1 x2 x3 x4 : Int32} (g : HdG N x1 x2 x3 x4) :
    (F_Mo_handle n σ x1 x2 x3 x4).2.2.2.1 5 N = 8 ∧ (F_Mo_handle n σ x1 x2 x3 x4).2.2.2.1 6 N = x3 ∧ (F_Mo_handle n σ x1 x2 x3 x4).2.2.2.1 7 N = x2 ∧ (F_Mo_handle n σ x1 x2 x3 x4).2.2.2.1 9 N = x1 ∧ (F_Mo_handle n σ x1 x2 x3 x4).2.2.2.1 10 N = x4 ∧ (F_Mo_handle n σ x1 x2 x3 x4).2.2.2.1 11 N = -1 ∧ (F_Mo_handle n σ x1 x2 x3 x4).2.2.2.1 14 N = σ.1 1 - σ.1 2 ∧ (F_Mo_handle n σ x1 x2 x3 x4).2.2.2.1 15 N = σ.1 2 ∧
    (Sz (F_Mo_handle n σ x1 x2 x3 x4).2 N, Dp (F_Mo_handle n σ x1 x2 x3 x4).2 N) = (bodies (cdOf σ.2.2.1) (C - R) R).foldl (ms (ndOf σ.2.2.1)) (ms (ndOf σ.2.2.1) (ms (ndOf σ.2.2.1) (ms (ndOf σ.2.2.1) (1, 1) x1) x4) (-1)) := by
  have h0 := h.n
  have hc := h.c
  have hr := h.r
  have hrc := h.hr
  have hC := h.hc
  obtain ⟨g3, g1, g4, g2⟩ := g
  have n1 : ¬ (1 : Int32) = 0 := by decide
  have d1 : ¬ x2 < 0 := by unfold Is at g2; ((try (simp only [vp_in, Int32.toNatClampNeg, Int32.lt_iff_toInt_lt, Int32.le_iff_toInt_le, ← Int32.toInt_inj, Int32.toInt_add, Int32.toInt_sub, Int32.toInt_mul, Int32.reduceToInt, i32_neg1, Nat.reducePow, Int.reducePow, ne_eq, ge_iff_le, gt_iff_lt] at *)) <;> (first | omega | ((simp (disch := omega) only [bm32] at *) <;> omega)))
  have d2 : ¬ 255 < x2 := by unfold Is at g2; ((try (simp only [vp_in, Int32.toNatClampNeg, Int32.lt_iff_toInt_lt, Int32.le_iff_toInt_le, ← Int32.toInt_inj, Int32.toInt_add, Int32.toInt_sub, Int32.toInt_mul, Int32.reduceToInt, i32_neg1, Nat.reducePow, Int.reducePow, ne_eq, ge_iff_le, gt_iff_lt] at *)) <;> (first | omega | ((simp (disch := omega) only [bm32] at *) <;> omega)))
  have eH : F_Mo_handle n σ x1 x2 x3 x4 = F_Mo_handle_j43 n σ x1 x2 x3 x4 1 8 := by
    simp only [F_Mo_handle, isName_F, isNode_F h0, mbind_eq, if_pos g3, if_pos g1, if_pos g4, if_neg n1, if_neg d1, if_neg d2]
  rw [eH]
  obtain ⟨sn, rn, pn⟩ := add_new h hN (x1 := 8) (Pn.of g1) (Pn.of g4) Pn.no
  obtain ⟨e1, -⟩ := addN (k := 8) (a := x1) (b := x4) (c := -1) h0 hN
  have f4 := pn.f4
  have f1 := pn.f 1 (by decide) (by decide)
  have f2 := pn.f 2 (by decide) (by decide)
  simp only [F_Mo_handle_j43, mbind_eq, e1, f4, if_true, ai_1, f1, f2]
  generalize F_Mo_add_j24 σ 8 x1 x4 (-1) 0 = w at *
  have hw : w.1.toNatClampNeg = N := by ((try (simp only [vp_in, Int32.toNatClampNeg, Int32.lt_iff_toInt_lt, Int32.le_iff_toInt_le, ← Int32.toInt_inj, Int32.toInt_add, Int32.toInt_sub, Int32.toInt_mul, Int32.reduceToInt, i32_neg1, Nat.reducePow, Int.reducePow, ne_eq, ge_iff_le, gt_iff_lt] at *)) <;> (first | omega | ((simp (disch := omega) only [bm32] at *) <;> omega)))
  rw [hw]
  generalize hσ1 : mo_ai (mo_ai (mo_ai (mo_ai w.2 6 N x3) 7 N x2) 14 N (σ.1 1 - σ.1 2)) 15 N (σ.1 2) = σ1
  have fr1 : ∀ k i, ¬ (i = N ∧ (k = 6 ∨ k = 7 ∨ k = 14 ∨ k = 15)) → σ1.2.2.1 k i = w.2.2.2.1 k i := by
    intro k i hk
    subst hσ1
    simp only [ai_3]
    repeat (rw [if_neg (by omega)])
  have q6 : σ1.2.2.1 6 N = x3 := by subst hσ1; simp [si_1, si_2, sl_1, sl_2, sl_3, ai_1, ai_2, ai_3, ai_4, al_1, al_2, al_3, al_4]
  have q7 : σ1.2.2.1 7 N = x2 := by subst hσ1; simp [si_1, si_2, sl_1, sl_2, sl_3, ai_1, ai_2, ai_3, ai_4, al_1, al_2, al_3, al_4]
  have q14 : σ1.2.2.1 14 N = σ.1 1 - σ.1 2 := by subst hσ1; simp [si_1, si_2, sl_1, sl_2, sl_3, ai_1, ai_2, ai_3, ai_4, al_1, al_2, al_3, al_4]
  have q15 : σ1.2.2.1 15 N = σ.1 2 := by subst hσ1; simp [si_1, si_2, sl_1, sl_2, sl_3, ai_1, ai_2, ai_3, ai_4, al_1, al_2, al_3, al_4]
  have w14 : (σ1.2.2.1 14 N).toInt = (C - R : Nat) := by rw [q14]; ((try (simp only [vp_in, Int32.toNatClampNeg, Int32.lt_iff_toInt_lt, Int32.le_iff_toInt_le, ← Int32.toInt_inj, Int32.toInt_add, Int32.toInt_sub, Int32.toInt_mul, Int32.reduceToInt, i32_neg1, Nat.reducePow, Int.reducePow, ne_eq, ge_iff_le, gt_iff_lt] at *)) <;> (first | omega | ((simp (disch := omega) only [bm32] at *) <;> omega)))
  have ff : σ1.1 = w.2.1 := by subst hσ1; rfl
  have low1 : ∀ k i, i < N → σ1.2.2.1 k i = σ.2.2.1 k i := fun k i hi => (fr1 k i (by omega)).trans (pn.a k i (by omega))
  have hi1 : ∀ k, 16 ≤ k → σ1.2.2.1 k = σ.2.2.1 k := fun k hk => funext fun i => (fr1 k i (by omega)).trans (pn.a k i (by omega))
  have bs : ∀ p, p < N → 1 ≤ Sz σ1 p ∧ Sz σ1 p ≤ 100000 := fun p hp => by unfold Sz; rw [low1 12 p hp]; exact (h.nd p hp).s1
  have bd : ∀ p, p < N → 1 ≤ Dp σ1 p ∧ Dp σ1 p ≤ p + 1 := fun p hp => by unfold Dp; rw [low1 13 p hp]; exact (h.nd p hp).dp
  have bx : ∀ j, j < C → 0 ≤ (σ1.2.2.1 19 j).toInt ∧ (σ1.2.2.1 19 j).toInt < N := fun j hj => by rw [hi1 19 (by decide)]; exact (h.cl j hj).b
  have eS : Sz σ1 N = Sz w.2 N := by unfold Sz; rw [fr1 12 N (by omega)]
  have eD : Dp σ1 N = Dp w.2 N := by unfold Dp; rw [fr1 13 N (by omega)]
  have pd := pn.dp
  have ps := pn.s1
  have psx := pn.sx
  have pdx := pn.dx
  have p5 := pn.k5
  have p9 := pn.k9
  have p10 := pn.k10
  have p11 := pn.k11
  obtain ⟨r3, r4⟩ := handle_loop_x hN hC σ1 bs bd bx (by rw [ff, f1]; exact hc) R n σ1 w.1 (σ1.2.2.1 14 N) (C - R) rn (by omega) (by omega) (by omega) (by omega) CFr.rfl' (by omega) (by omega)
  generalize F_Mo_handle_113 n σ1 w.1 (σ1.2.2.1 14 N) = u at r3 r4 ⊢
  have ea : ∀ k i, ¬ (i = N ∧ (k = 12 ∨ k = 13)) → u.1.2.2.1 k i = σ1.2.2.1 k i := fun k i hk => r3.a k i (by omega)
  refine ⟨?_, ?_, ?_, ?_, ?_, ?_, ?_, ?_, ?_⟩
  · show u.1.2.2.1 5 N = 8; rw [ea 5 N (by omega), fr1 5 N (by omega)]; exact p5
  · show u.1.2.2.1 6 N = x3; rw [ea 6 N (by omega)]; exact q6
  · show u.1.2.2.1 7 N = x2; rw [ea 7 N (by omega)]; exact q7
  · show u.1.2.2.1 9 N = x1; rw [ea 9 N (by omega), fr1 9 N (by omega)]; exact p9
  · show u.1.2.2.1 10 N = x4; rw [ea 10 N (by omega), fr1 10 N (by omega)]; exact p10
  · show u.1.2.2.1 11 N = -1; rw [ea 11 N (by omega), fr1 11 N (by omega)]; exact p11
  · show u.1.2.2.1 14 N = _; rw [ea 14 N (by omega)]; exact q14
  · show u.1.2.2.1 15 N = _; rw [ea 15 N (by omega)]; exact q15
  · show (Sz u.1 N, Dp u.1 N) = _
    rw [r4, bodies_cong (hi1 19 (by decide)), fold_cong (fun i hi => low1 12 i hi) (fun i hi => low1 13 i hi) _ _ (bodies_mem h R (C - R) (by omega)), ms_x, eS, eD, psx, pdx]
end
section
/-! pure rows: class and reference together -/
/-- the class alone, with q calls to come -/
def KC (cs : Nat → ClassId) (lim dE : Nat × Nat) (A : Ad) (q : Nat) (τ : TT) (M : gMem) : Prop := (∃ r1 r2 g4 k4 K Fs Ts, HS cs lim dE A r1 r2 103401 g4 k4 Fs Ts M ∧ TyA cs A M τ K ∧ k4 ≤ 16384 ∧ 36000 + q ≤ r1 + K + k4 ∧ 120000 + 11 * q ≤ r2 + 2 * K + 2 * k4) ∧ (cI M A.ma 4 = 0 ∨ MB A ((200 * (512 - q) : Nat) : Int) M) ∧ (∃ l : Nat, (cI M A.co 2).toInt = l)
theorem KC.hs {cs : Nat → ClassId} {lim dE : Nat × Nat} {A : Ad} {q : Nat} {τ : TT} {M : gMem} (self : KC cs lim dE A q τ M) : ∃ r1 r2 g4 k4 K Fs Ts, HS cs lim dE A r1 r2 103401 g4 k4 Fs Ts M ∧ TyA cs A M τ K ∧ k4 ≤ 16384 ∧ 36000 + q ≤ r1 + K + k4 ∧ 120000 + 11 * q ≤ r2 + 2 * K + 2 * k4 := self.1
theorem KC.mb {cs : Nat → ClassId} {lim dE : Nat × Nat} {A : Ad} {q : Nat} {τ : TT} {M : gMem} (self : KC cs lim dE A q τ M) : cI M A.ma 4 = 0 ∨ MB A ((200 * (512 - q) : Nat) : Int) M := self.2.1
theorem KC.co {cs : Nat → ClassId} {lim dE : Nat × Nat} {A : Ad} {q : Nat} {τ : TT} {M : gMem} (self : KC cs lim dE A q τ M) : ∃ l : Nat, (cI M A.co 2).toInt = l := self.2.2
/-- class and reference -/
def JC (cs : Nat → ClassId) (lim dE : Nat × Nat) (A : Ad) (q : Nat) (σ : mSt) (τ : TT) (N C R : Nat) (M : gMem) : Prop := (KC cs lim dE A q τ M) ∧ (NsIs A M N C (C - R) (ndOf σ.2.2.1) (cdOf σ.2.2.1)) ∧ (EfIs A M (σ.2.2.1 24) (σ.2.2.1 25)) ∧ (∀ x ∈ τ, Byte x.2.2) ∧ (τ.length ≤ 60) ∧ (TX σ τ) ∧ (MoI σ N C R (3 + τ.length)) ∧ (∀ i, i < N → (σ.2.2.1 5 i).toInt = 8 → Byte (σ.2.2.1 7 i)) ∧ (cI M A.ma 2 = 0 ↔ σ.1 36 = -1)
theorem JC.kc {cs : Nat → ClassId} {lim dE : Nat × Nat} {A : Ad} {q : Nat} {σ : mSt} {τ : TT} {N C R : Nat} {M : gMem} (self : JC cs lim dE A q σ τ N C R M) : KC cs lim dE A q τ M := self.1
theorem JC.ns {cs : Nat → ClassId} {lim dE : Nat × Nat} {A : Ad} {q : Nat} {σ : mSt} {τ : TT} {N C R : Nat} {M : gMem} (self : JC cs lim dE A q σ τ N C R M) : NsIs A M N C (C - R) (ndOf σ.2.2.1) (cdOf σ.2.2.1) := self.2.1
theorem JC.ef {cs : Nat → ClassId} {lim dE : Nat × Nat} {A : Ad} {q : Nat} {σ : mSt} {τ : TT} {N C R : Nat} {M : gMem} (self : JC cs lim dE A q σ τ N C R M) : EfIs A M (σ.2.2.1 24) (σ.2.2.1 25) := self.2.2.1
theorem JC.rows {cs : Nat → ClassId} {lim dE : Nat × Nat} {A : Ad} {q : Nat} {σ : mSt} {τ : TT} {N C R : Nat} {M : gMem} (self : JC cs lim dE A q σ τ N C R M) : ∀ x ∈ τ, Byte x.2.2 := self.2.2.2.1
theorem JC.len {cs : Nat → ClassId} {lim dE : Nat × Nat} {A : Ad} {q : Nat} {σ : mSt} {τ : TT} {N C R : Nat} {M : gMem} (self : JC cs lim dE A q σ τ N C R M) : τ.length ≤ 60 := self.2.2.2.2.1
theorem JC.tx {cs : Nat → ClassId} {lim dE : Nat × Nat} {A : Ad} {q : Nat} {σ : mSt} {τ : TT} {N C R : Nat} {M : gMem} (self : JC cs lim dE A q σ τ N C R M) : TX σ τ := self.2.2.2.2.2.1
theorem JC.moi {cs : Nat → ClassId} {lim dE : Nat × Nat} {A : Ad} {q : Nat} {σ : mSt} {τ : TT} {N C R : Nat} {M : gMem} (self : JC cs lim dE A q σ τ N C R M) : MoI σ N C R (3 + τ.length) := self.2.2.2.2.2.2.1
theorem JC.hrow {cs : Nat → ClassId} {lim dE : Nat × Nat} {A : Ad} {q : Nat} {σ : mSt} {τ : TT} {N C R : Nat} {M : gMem} (self : JC cs lim dE A q σ τ N C R M) : ∀ i, i < N → (σ.2.2.1 5 i).toInt = 8 → Byte (σ.2.2.1 7 i) := self.2.2.2.2.2.2.2.1
theorem JC.ld {cs : Nat → ClassId} {lim dE : Nat × Nat} {A : Ad} {q : Nat} {σ : mSt} {τ : TT} {N C R : Nat} {M : gMem} (self : JC cs lim dE A q σ τ N C R M) : cI M A.ma 2 = 0 ↔ σ.1 36 = -1 := self.2.2.2.2.2.2.2.2
section
variable {cs : Nat → ClassId} {lim dE : Nat × Nat} {A : Ad} {Fs Ts : Nat → Prop} {r1 r2 NF : Nat} {g4 : Nat → Int32} {k4 : Nat} {M M' : gMem} {q : Nat} {τ : TT} {σ : mSt} {N C R : Nat}
theorem HS.step {W V : List (Nat × Nat)} {al : Bool} {g4' : Nat → Int32} {k4' r1' r2' : Nat} (h : HS cs lim dE A r1 r2 NF g4 k4 Fs Ts M) (e : Ext W V al M M') (hW : W.all (fun w => !BAD.contains w) = true) (hV : V.contains (13, 0) = false) (c4 : CeIs cs M' A.c4 g4' k4') (s1 : M'.2.1 + r1' ≤ M.2.1 + r1) (s2 : M'.2.2 + r2' ≤ M.2.2 + r2) : HS cs lim dE A r1' r2' NF g4' k4' Fs Ts M' := by
  obtain ⟨nf, nt, kf, kt, h, R⟩ := h
  have rc := R.c
  have rs := R.s
  exact ⟨nf, nt, kf, kt, h.move e hW hV c4, R.f, R.F, R.t, R.kf, R.kt, by omega, by omega⟩
theorem HS.room (h : HS cs lim dE A r1 r2 NF g4 k4 Fs Ts M) : M.2.1 + r1 + 23 ≤ lim.1 ∧ M.2.2 + r2 + 77 ≤ lim.2 := by
  obtain ⟨nf, nt, kf, kt, h, R⟩ := h
  have rc := R.c
  have rs := R.s
  have rf := R.f
  have rt := R.t
  have k1 := R.kf
  have k2 := R.kt
  have g1 := gs_le k1
  have g2 := gs_le13 k2
  exact ⟨by omega, by omega⟩
theorem KC.lay (k : KC cs lim dE A q τ M) : Lay cs A M := by
  obtain ⟨r1, r2, g4, k4, K, Fs, Ts, h, -⟩ := k.hs
  exact h.lay
theorem KC.cnt (k : KC cs lim dE A q τ M) : (cI M A.ty 4).toInt = 3 + τ.length := by
  obtain ⟨r1, r2, g4, k4, K, Fs, Ts, -, t, -⟩ := k.hs
  exact t.cnt
theorem KC.room (k : KC cs lim dE A q τ M) : M.2.1 + 1 ≤ lim.1 ∧ M.2.2 + 11 ≤ lim.2 := by
  obtain ⟨r1, r2, g4, k4, K, Fs, Ts, h, -⟩ := k.hs
  have := h.room
  omega
theorem KC.room6 (k : KC cs lim dE A q τ M) : M.2.1 + 1 ≤ lim.1 ∧ M.2.2 + 6 ≤ lim.2 := by
  have := k.room
  omega
def KW : List (Nat × Nat) := [(2, 0), (1, 4), (8, 4), (7, 2)]
theorem all_of {p r : Nat × Nat → Bool} {W : List (Nat × Nat)} (h : W.all p = true) (i : ∀ w, p w = true → r w = true) : W.all r = true := List.all_eq_true.mpr fun w hw => i w (List.all_eq_true.mp h w hw)
theorem not_in {x : Nat × Nat} {p : Nat × Nat → Bool} {W : List (Nat × Nat)} (h : W.all p = true) (hx : p x = false) : W.contains x = false := by
  cases hc : W.contains x with
  | false => rfl
  | true =>
    have := List.all_eq_true.mp h x (List.contains_iff_mem.mp hc)
    rw [hx] at this
    cases this
theorem not_mem {x : Nat × Nat} {p : Nat × Nat → Bool} {W : List (Nat × Nat)} (h : W.all p = true) (hx : p x = false) : x ∉ W := fun z => by
  have := List.all_eq_true.mp h x z
  rw [hx] at this
  cases this
/-- a step that leaves types, code and machine alone -/
theorem KC.keep {W V : List (Nat × Nat)} {al : Bool} (k : KC cs lim dE A (q + 1) τ M) (e : Ext W V al M M') (hW : W.all (fun w => !BAD.contains w && !CNT.contains w && !KW.contains w) = true) (hV : V.all (fun w => !([(13, 0), (2, 0)] : List (Nat × Nat)).contains w) = true) (s1 : M'.2.1 ≤ M.2.1 + 1) (s2 : M'.2.2 ≤ M.2.2 + 11) : KC cs lim dE A q τ M' := by
  have wB : W.all (fun w => !BAD.contains w) = true := all_of hW fun w h => by simp only [Bool.and_eq_true] at h; exact h.1.1
  have wC : W.all (fun w => !CNT.contains w) = true := all_of hW fun w h => by simp only [Bool.and_eq_true] at h; exact h.1.2
  have w20 : W.contains (2, 0) = false := not_in hW (by decide)
  have w14 : W.contains (1, 4) = false := not_in hW (by decide)
  have v13 : V.contains (13, 0) = false := not_in hV (by decide)
  have v20 : V.contains (2, 0) = false := not_in hV (by decide)
  obtain ⟨r1, r2, g4, k4, K, Fs, Ts, h, t, b1, b2, b3⟩ := k.hs
  have L := h.lay
  have hK := t.Kb
  have c4 := h.c4.ext e w20 v20
  refine ⟨⟨r1 - 1, r2 - 11, g4, k4, K, Fs, Ts, h.step e wB v13 c4 (by omega) (by omega), t.ext L e w14 w20 v20, b1, by omega, by omega⟩, ?_, ?_⟩
  · have e4 : cI M' A.ma 4 = cI M A.ma 4 := e.xcI L.ma_0.1 (not_mem hW (by decide))
    rw [e4]
    rcases k.mb with z | z
    · exact Or.inl z
    · exact Or.inr ((z.ext L e wC).more (by omega))
  · have e2 : cI M' A.co 2 = cI M A.co 2 := e.xcI L.co_0.1 (not_mem hW (by decide))
    rw [e2]
    exact k.co
theorem gsk_ext (h : MOk M) : Ext [] [] true M (gsk M) := (Ext.rf (W := []) (V := []) (al := true) h).xgsk
theorem gsk_sz : (gsk M).2.1 = M.2.1 + 1 ∧ (gsk M).2.2 = M.2.2 + 6 := ⟨rfl, rfl⟩
theorem KC.thrown (k : KC cs lim dE A (q + 1) τ M) : KC cs lim dE A q τ (gsk M) := k.keep (gsk_ext k.lay.mok) (by decide) (by decide) (by rw [gsk_sz.1]; omega) (by rw [gsk_sz.2]; omega)
theorem KC.less (k : KC cs lim dE A (q + 1) τ M) : KC cs lim dE A q τ M := k.keep (Ext.rf (W := []) (V := []) (al := false) k.lay.mok) (by decide) (by decide) (by omega) (by omega)
theorem JC.lay (J : JC cs lim dE A q σ τ N C R M) : Lay cs A M := J.kc.lay
/-- the call is refused -/
theorem JC.thrown (J : JC cs lim dE A (q + 1) σ τ N C R M) (z : Int32) : JC cs lim dE A q (mo_si σ 4 z) τ N C R (gsk M) := by
  have L := J.lay
  have e := gsk_ext L.mok
  refine ⟨J.kc.thrown, J.ns.ext L e (by decide) (by decide) (by decide), J.ef.ext L e (by decide), J.rows, J.len, J.tx.congr rfl (fun _ _ _ => rfl), J.moi.si4 z, J.hrow, ?_⟩
  rw [e.xcI L.ma_0.1 (by decide)]
  exact J.ld
/-- nothing but the reference's own mark changes -/
theorem JC.mark (J : JC cs lim dE A (q + 1) σ τ N C R M) (z : Int32) : JC cs lim dE A q (mo_si σ 4 z) τ N C R M :=
  ⟨J.kc.less, J.ns, J.ef, J.rows, J.len, J.tx.congr rfl (fun _ _ _ => rfl), J.moi.si4 z, J.hrow, J.ld⟩
theorem NsIs.congr {F : Nat} {nd nd' cd cd' : Nat → Nat → Int32} (h : NsIs A M N C F nd cd) (h1 : ∀ i, i < N → ∀ k, k < 11 → nd' i k = nd i k) (h2 : ∀ j, j < C → ∀ k, k < 4 → cd' j k = cd j k) : NsIs A M N C F nd' cd' := by
  refine ⟨h.n, h.hn, h.c, h.hc, h.f, h.hf, fun i hi => ?_, fun j hj => ?_⟩
  · obtain ⟨a, a1, a2, a3⟩ := h.nds i hi
    exact ⟨a, a1, a2, fun k hk => by rw [h1 i hi k hk]; exact a3 k hk⟩
  · obtain ⟨a, a1, a2, a3⟩ := h.cls j hj
    exact ⟨a, a1, a2, fun k hk => by rw [h2 j hj k hk]; exact a3 k hk⟩
theorem ndOf_congr {B B' : Nat → Nat → Int32} {i : Nat} (h : ∀ k, 5 ≤ k → k ≤ 15 → B' k i = B k i) (k : Nat) : ndOf B' i k = ndOf B i k := by
  have e5 := h 5 (by omega) (by omega)
  have e6 := h 6 (by omega) (by omega)
  have e7 := h 7 (by omega) (by omega)
  have e8 := h 8 (by omega) (by omega)
  have e9 := h 9 (by omega) (by omega)
  have e10 := h 10 (by omega) (by omega)
  have e11 := h 11 (by omega) (by omega)
  have e12 := h 12 (by omega) (by omega)
  have e13 := h 13 (by omega) (by omega)
  have e14 := h 14 (by omega) (by omega)
  have e15 := h 15 (by omega) (by omega)
  unfold ndOf valOf nameOf ownOf fromOf toOf
  rw [e5, e6, e7, e8, e9, e10, e11, e12, e13, e14, e15]
theorem cdOf_congr {B B' : Nat → Nat → Int32} {j : Nat} (h : ∀ k, 16 ≤ k → k ≤ 19 → B' k j = B k j) (k : Nat) (hk : k < 4) : cdOf B' j k = cdOf B j k := by
  unfold cdOf
  exact h (16 + k) (by omega) (by omega)
theorem JC.ndb (J : JC cs lim dE A q σ τ N C R M) : NdB N (ndOf σ.2.2.1) := fun i hi => ⟨(J.moi.nok.nd i hi).s1, (J.moi.nok.nd i hi).dp⟩
/-- a node is told -/
theorem JC.told {W V : List (Nat × Nat)} {good : Prop} {v : Nat → Int32} {wc : Nat × Int32 × gMem} {wm : Int32 × mSt} (J : JC cs lim dE A (q + 1) σ τ N C R M)
    (ct : CTold cs A M N C (C - R) (ndOf σ.2.2.1) (cdOf σ.2.2.1) good v wc) (mt : Told σ N C R (3 + τ.length) good wm) (e : Ext W V true M wc.2.2)
    (hW : W.all (fun w => !BAD.contains w && !CNT.contains w && !KW.contains w && w != (8, 2)) = true) (hV : V.all (fun w => !([(13, 0), (2, 0), (0, 2), (6, 2), (0, 3), (6, 3)] : List (Nat × Nat)).contains w) = true)
    (hx : good → N < 200 → (∀ k, k < 9 → ndOf wm.2.2.2.1 N k = v k) ∧ (Sz wm.2 N, Dp wm.2 N) = ms (ndOf σ.2.2.1) (ms (ndOf σ.2.2.1) (ms (ndOf σ.2.2.1) (1, 1) (v 4)) (v 5)) (v 6) ∧ (wm.2.2.2.1 5 N).toInt ≠ 8) :
    ((wc.1 = 0 ∧ wm.2.1 4 = 0 ∧ wc.2.1 = wm.1) ∨ (wc.1 = 1 ∧ wm.2.1 4 = 1) ∨ (wc.1 = 2 ∧ wm.2.1 4 = 2)) ∧ ∃ N', JC cs lim dE A q wm.2 τ N' C R wc.2.2 := by
  have hn := J.moi.nok.hn
  by_cases g : good
  rotate_left
  · obtain ⟨c1, c2⟩ := ct.1 g
    have m1 := mt.1 g
    rw [c2, m1]
    exact ⟨Or.inr (Or.inl ⟨c1, by simp [si_1, si_2, sl_1, sl_2, sl_3, ai_1, ai_2, ai_3, ai_4, al_1, al_2, al_3, al_4]⟩), N, J.thrown 1⟩
  by_cases hN : N < 200
  rotate_left
  · obtain ⟨c1, c2⟩ := ct.2.1 g (by omega)
    have m1 := mt.2.1 g (by omega)
    rw [c2, m1]
    exact ⟨Or.inr (Or.inr ⟨c1, by simp [si_1, si_2, sl_1, sl_2, sl_3, ai_1, ai_2, ai_3, ai_4, al_1, al_2, al_3, al_4]⟩), N, J.thrown 2⟩
  obtain ⟨c1, c2, c3, c4⟩ := ct.2.2 g hN
  obtain ⟨m1, m2, m3, m4, m5, m6⟩ := mt.2.2 g hN
  obtain ⟨x1, x2, x3⟩ := hx g hN
  obtain ⟨nd', n1, n2, n3, n4, n5⟩ := c3.is
  have L := J.lay
  have w1 : W.all (fun w => !BAD.contains w && !CNT.contains w && !KW.contains w) = true := all_of hW fun w h => by simp only [Bool.and_eq_true] at h ⊢; exact h.1
  have v1 : V.all (fun w => !([(13, 0), (2, 0)] : List (Nat × Nat)).contains w) = true := all_of hV fun w h => by
    cases hc : ([(13, 0), (2, 0)] : List (Nat × Nat)).contains w with
    | false => rfl
    | true =>
      have hc := List.contains_iff_mem.mp hc
      have : ([(13, 0), (2, 0), (0, 2), (6, 2), (0, 3), (6, 3)] : List (Nat × Nat)).contains w = true := List.contains_iff_mem.mpr (by
        simp only [List.mem_cons, List.not_mem_nil, or_false] at hc ⊢
        rcases hc with h | h
        · exact Or.inl h
        · exact Or.inr (Or.inl h))
      rw [this] at h
      cases h
  have vE : ([(0, 2), (6, 2), (0, 3), (6, 3)] : List (Nat × Nat)).all (fun w => !V.contains w) = true := by
    have a1 := not_in hV (x := (0, 2)) (by decide)
    have a2 := not_in hV (x := (6, 2)) (by decide)
    have a3 := not_in hV (x := (0, 3)) (by decide)
    have a4 := not_in hV (x := (6, 3)) (by decide)
    simp only [List.all_cons, List.all_nil, a1, a2, a3, a4, Bool.not_false, Bool.and_true]
  have kc : KC cs lim dE A q τ wc.2.2 := J.kc.keep e w1 v1 (by rw [c4]; omega) (by rw [c4]; omega)
  have ev : wc.2.1 = wm.1 := Int32.toInt_inj.mp (c2.trans m1.symm)
  refine ⟨Or.inl ⟨c1, m2, ev⟩, N + 1, kc, ?_, ?_, J.rows, J.len, J.tx.congr (m4.f 3 (Or.inl rfl)) (fun k h1 h2 => m4.a k (by omega) (by omega) (by omega)), ?_, ?_, ?_⟩
  · refine n1.congr (fun i hi k hk => ?_) (fun j hj k hk => cdOf_congr (fun k h1 h2 => m4.cl k j h1 h2 hj) k hk)
    by_cases hiN : i = N
    · subst hiN
      by_cases h9 : k < 9
      · rw [x1 k h9, n3 k h9]
      · have hs : Sz wm.2 i = (nd' i 9).toInt := by rw [n4, ← x2]
        have hd : Dp wm.2 i = (nd' i 10).toInt := by rw [n5, ← x2]
        rcases (show k = 9 ∨ k = 10 by omega) with rfl | rfl
        · exact Int32.toInt_inj.mp hs
        · exact Int32.toInt_inj.mp hd
    · rw [n2 i (by omega)]
      exact ndOf_congr (fun k h1 h2 => m4.nd k i h1 h2 (by omega)) k
  · have := J.ef.ext L e vE
    rw [m5, m6]
    exact this
  · obtain ⟨N', hm⟩ := J.moi.told mt
    have e1 := hm.nok.n
    have e2 := m3.n
    have : N' = N + 1 := by omega
    subst this
    exact hm
  · intro i hi h8
    by_cases hiN : i = N
    · subst hiN; exact absurd h8 x3
    · rw [m4.nd 5 i (by omega) (by omega) (by omega)] at h8
      rw [m4.nd 7 i (by omega) (by omega) (by omega)]
      exact J.hrow i (by omega) h8
  · rw [e.xcI L.ma_0.1 (not_mem hW (by decide)), m4.f 36 (Or.inr (by omega))]
    exact J.ld
end
end
