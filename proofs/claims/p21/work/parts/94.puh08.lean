-- pure rows: HL
section
/-! pure rows, the class: the machine's larger steps, told of what frames and things hold -/
/-- what is known of c stays -/
def Same (w w' : Vw) (c : Nat) : Prop := (∀ j, w'.1 c j = w.1 c j) ∧ (∀ k, w'.2.1 c k = w.2.1 c k) ∧ (∀ k, w'.2.2 c k = w.2.2 c k)
theorem Same.rfl' {w : Vw} {c : Nat} : Same w w c := ⟨fun _ => rfl, fun _ => rfl, fun _ => rfl⟩
theorem Same.trans {w w1 w2 : Vw} {c : Nat} (h : Same w w1 c) (g : Same w1 w2 c) : Same w w2 c := ⟨fun j => (g.1 j).trans (h.1 j), fun k => (g.2.1 k).trans (h.2.1 k), fun k => (g.2.2 k).trans (h.2.2 k)⟩
theorem Oth1.same {w w' : Vw} {a c : Nat} (o : Oth1 w w' a) (hc : c ≠ a) : Same w w' c := ⟨fun j => o.1 c j hc, fun k => o.2.1 c k (fun z => hc z.1), fun k => o.2.2 c k⟩
theorem FSt.same {w w' : Vw} {a H r : Nat} {s : Nat → Int32} (f : FSt w a s H r) (h : Same w w' a) : FSt w' a s H r := ⟨fun j => (h.1 j).trans (f.1 j), (h.2.1 1).trans f.2.1, (h.2.1 2).trans f.2.2⟩
theorem vpi_same {w : Vw} {a k c : Nat} {x : Int32} (h : c ≠ a) : Same w (vpi w a k x) c := ⟨fun _ => rfl, fun j => by rw [vpi_i, if_neg (fun z => h z.1)], fun _ => rfl⟩
theorem vpq_same {w : Vw} {a k c : Nat} {x : Option Nat} (h : c ≠ a) : Same w (vpq w a k x) c := ⟨fun _ => rfl, fun _ => rfl, fun j => by rw [vpq_q, if_neg (fun z => h z.1)]⟩
theorem vps_same {w : Vw} {a k c : Nat} {x : Int32} (h : c ≠ a) : Same w (vps w a k x) c := ⟨fun j => by rw [vps_s, if_neg (fun z => h z.1)], fun _ => rfl, fun _ => rfl⟩
theorem vpS_same {w : Vw} {a c : Nat} {f : Nat → Int32} (h : c ≠ a) : Same w (vpS w a f) c := ⟨fun j => by rw [vpS_s, if_neg h], fun _ => rfl, fun _ => rfl⟩
/-- the machine's own ints but those of L -/
def MaI (w w' : Vw) (m : Nat) (L : List Nat) : Prop := ∀ k, k ∉ L → w'.2.1 m k = w.2.1 m k
section
variable {cs : Nat → ClassId} {lim dE : Nat × Nat} {A : Ad} {r1 r2 NF : Nat} {g4 : Nat → Int32} {k4 : Nat} {fa ta : Nat → Nat} {nf nt : Nat} {M M' : gMem} {w w' : Vw} {a b c t n ci k H K u v r r' : Nat} {s sb : Nat → Int32} {x y : Int32}
theorem VS.fDone (h : (VS cs lim dE A r1 r2 NF g4 k4) fa ta nf nt M w) (ha : FsO fa nf a) (f : FSt w a s 11 r) (hb : w.2.2 a 4 = none) : ∃ w', (VS cs lim dE A r1 r2 NF g4 k4) fa ta nf nt (F_Ma_end cs M A.ma (some a)) w' ∧ w'.2.1 A.ma 4 = 2 ∧ w'.2.1 A.ma 5 = (if w.2.1 A.ma 3 = 0 then 0 else s 10) ∧ MaI w w' A.ma [4, 5] := by
  unfold F_Ma_end
  simp only [Option.getD_some, mbind_eq]
  obtain ⟨e1, w1, g1, f1, o1⟩ := h.fPop (H := 10) ha f (by omega) (by omega)
  generalize F_Fr_pop cs M a = w3 at e1 g1 ⊢
  have hb1 : cQ w3.2 a 4 = none := by rw [g1.Q (Or.inl ha), o1.2.2]; exact hb
  have nm := h.neFM ha
  simp only [if_pos hb1]
  have h2 := g1.putN (ci := 8) (k := 4) (x := 2) g1.oM (by decide) (by decide) (by decide) (by decide)
  have e3 : cI (cP 8 w3.2 A.ma 4 (.int 2)) A.ma 3 = w.2.1 A.ma 3 := by rw [h2.I (Or.inr (Or.inr (Or.inl rfl))) 3, vpi_i, if_neg (by omega), o1.2.1 A.ma 3 (fun z => nm z.1.symm)]
  rw [e3, e1]
  have mi : ∀ z : Int32, MaI w (vpi (vpi w1 A.ma 4 2) A.ma 5 z) A.ma [4, 5] := fun z k hk => by
    simp only [List.mem_cons, List.not_mem_nil, or_false, not_or] at hk
    rw [vpi_i, if_neg (fun q => hk.2 q.2), vpi_i, if_neg (fun q => hk.1 q.2), o1.2.1 A.ma k (fun q => nm q.1.symm)]
  by_cases d : w.2.1 A.ma 3 = 0
  · simp only [if_pos d]
    exact ⟨_, h2.putN (ci := 8) (k := 5) (x := 0) h2.oM (by decide) (by decide) (by decide) (by decide), by rw [vpi_i, if_neg (by omega), vpi_i, if_pos ⟨rfl, rfl⟩], by rw [vpi_i, if_pos ⟨rfl, rfl⟩], mi 0⟩
  · simp only [if_neg d]
    exact ⟨_, h2.putN (ci := 8) (k := 5) (x := s 10) h2.oM (by decide) (by decide) (by decide) (by decide), by rw [vpi_i, if_neg (by omega), vpi_i, if_pos ⟨rfl, rfl⟩], by rw [vpi_i, if_pos ⟨rfl, rfl⟩], mi _⟩
theorem VS.fEnd {Hb rb : Nat} (h : (VS cs lim dE A r1 r2 NF g4 k4) fa ta nf nt M w) (ha : FsO fa nf a) (f : FSt w a s 11 r) (hb : w.2.2 a 4 = some b) (hab : a ≠ b) (fb : FSt w b sb Hb rb) (h10 : 10 ≤ Hb) (h50 : Hb < 50) : ∃ w', (VS cs lim dE A r1 r2 NF g4 k4) fa ta nf nt (F_Ma_end cs M A.ma (some a)) w' ∧ FSt w' b (upd sb Hb (s 10)) (Hb + 1) rb ∧ (∀ k, w'.2.2 b k = w.2.2 b k) ∧ w'.2.2 A.ma 10 = some b ∧ w'.2.1 A.ma 8 = w.2.1 A.ma 8 - 1 ∧ MaI w w' A.ma [8] ∧ (w'.2.2 A.st 4 = some a ∧ w'.2.2 a 4 = w.2.2 A.st 4 ∧ ∀ k, w'.2.1 A.st k = w.2.1 A.st k) ∧ (∀ c, c ≠ a → c ≠ b → c ≠ A.ma → c ≠ A.st → Same w w' c) := by
  unfold F_Ma_end
  simp only [Option.getD_some, mbind_eq]
  obtain ⟨e1, w1, g1, f1, o1⟩ := h.fPop (H := 10) ha f (by omega) (by omega)
  generalize F_Fr_pop cs M a = w3 at e1 g1 ⊢
  have hb1 : cQ w3.2 a 4 = some b := by rw [g1.Q (Or.inl ha), o1.2.2]; exact hb
  have hn : ¬ (some b : Option Nat) = none := by simp [si_1, si_2, sl_1, sl_2, sl_3, ai_1, ai_2, ai_3, ai_4, al_1, al_2, al_3, al_4, cp_1, cp_2, cp_3, cp_4]
  simp only [hb1, if_neg hn, Option.getD_some]
  have hB : FsO fa nf b := (g1.hs.fr ha).be b hb1
  rw [e1]
  obtain ⟨w2, g2, f2, o2⟩ := g1.fPush hB (fb.same (o1.same (Ne.symm hab))) h10 h50 (s 10)
  generalize F_Fr_push cs w3.2 b (s 10) = M2 at g2 ⊢
  have h3 := g2.putQ (ci := 8) (k := 10) (r := some b) g2.oM (Or.inr ⟨by simp [si_1, si_2, sl_1, sl_2, sl_3, ai_1, ai_2, ai_3, ai_4, al_1, al_2, al_3, al_4, cp_1, cp_2, cp_3, cp_4], fun z hz => by cases hz; exact hB⟩)
  generalize cP 8 M2 A.ma 10 (va_rf (some b)) = M3 at h3 ⊢
  rw [h3.I (Or.inr (Or.inr (Or.inl rfl))) 8]
  have h4 := h3.putN (ci := 8) (k := 8) (x := (vpq w2 A.ma 10 (some b)).2.1 A.ma 8 - 1) h3.oM (by decide) (by decide) (by decide) (by decide)
  generalize cP 8 M3 A.ma 8 (.int ((vpq w2 A.ma 10 (some b)).2.1 A.ma 8 - 1)) = M4 at h4 ⊢
  rw [h4.lay.ma_1.2]
  simp only [Option.getD_some]
  have nma := h.neFM ha
  have nsa := h.neFS ha
  have nmb := h.neFM hB
  have nsb := h.neFS hB
  have nms := h.neMS
  have m1 : Same w w2 A.ma := (o1.same (Ne.symm nma)).trans (o2.same (Ne.symm nmb))
  have s1 : Same w w2 A.st := (o1.same (Ne.symm nsa)).trans (o2.same (Ne.symm nsb))
  have sc : ∀ c, c ≠ a → c ≠ A.ma → c ≠ A.st → Same w2 (vpq (vpq (vpq (vpi (vpq w2 A.ma 10 (some b)) A.ma 8 ((vpq w2 A.ma 10 (some b)).2.1 A.ma 8 - 1)) a 4 ((vpi (vpq w2 A.ma 10 (some b)) A.ma 8 ((vpq w2 A.ma 10 (some b)).2.1 A.ma 8 - 1)).2.2 A.st 4)) a 3 none) A.st 4 (some a)) c := fun c c1 c2 c3 => ((((vpq_same c2).trans (vpi_same c2)).trans (vpq_same c1)).trans (vpq_same c1)).trans (vpq_same c3)
  refine ⟨_, h4.back ha, f2.same (sc b (Ne.symm hab) nmb nsb), fun k => ?_, ?_, ?_, fun k hk => ?_, ⟨?_, ?_, fun k => ?_⟩, fun c c1 c2 c3 c4 => ((o1.same c1).trans (o2.same c2)).trans (sc c c1 c3 c4)⟩
  · rw [(sc b (Ne.symm hab) nmb nsb).2.2 k, o2.2.2, o1.2.2]
  · rw [vpq_q, if_neg (by omega), vpq_q, if_neg (by omega), vpq_q, if_neg (by omega), vpi_q, vpq_q, if_pos ⟨rfl, rfl⟩]
  · rw [vpq_i, vpq_i, vpq_i, vpi_i, if_pos ⟨rfl, rfl⟩, vpq_i, m1.2.1]
  · simp only [List.mem_cons, List.not_mem_nil, or_false] at hk
    rw [vpq_i, vpq_i, vpq_i, vpi_i, if_neg (fun q => hk q.2), vpq_i, m1.2.1]
  · rw [vpq_q, if_pos ⟨rfl, rfl⟩]
  · rw [vpq_q, if_neg (fun q => nsa q.1), vpq_q, if_neg (by omega), vpq_q, if_pos ⟨rfl, rfl⟩, vpi_q, vpq_q, if_neg (by omega), s1.2.2]
  · rw [vpq_i, vpq_i, vpq_i, vpi_i, if_neg (fun q => nms q.1.symm), vpq_i, s1.2.1]
/-- too many things -/
theorem VS.fFull {T m : Nat} (h : (VS cs lim dE A r1 r2 NF g4 k4) fa ta nf nt M w) (hT : w.2.1 A.ma 7 = nI T) (hx : x = nI m) (hm : T + m < 5000) : (1000 < T + m → F_Ma_isFull cs M A.ma x = (1, cP 8 M A.ma 4 (.int 5)) ∧ (VS cs lim dE A r1 r2 NF g4 k4) fa ta nf nt (cP 8 M A.ma 4 (.int 5)) (vpi w A.ma 4 5)) ∧ (T + m ≤ 1000 → F_Ma_isFull cs M A.ma x = (0, M)) := by
  have e : cI M A.ma 7 = nI T := by rw [h.I (Or.inr (Or.inr (Or.inl rfl)))]; exact hT
  have es : (nI T + nI m).toInt = (T + m : Nat) := by
    have h1 := nT (n := T) (by omega)
    have h2 := nT (n := m) (by omega)
    ((try (simp only [vp_in, Int32.toNatClampNeg, Int32.lt_iff_toInt_lt, Int32.le_iff_toInt_le, ← Int32.toInt_inj, Int32.toInt_add, Int32.toInt_sub, Int32.toInt_mul, Int32.reduceToInt, i32_neg1, Nat.reducePow, Int.reducePow, ne_eq, ge_iff_le, gt_iff_lt] at *)) <;> (first | omega | ((simp (disch := omega) only [bm32] at *) <;> omega)))
  have e1000 : (1000 : Int32).toInt = 1000 := rfl
  subst hx
  unfold F_Ma_isFull
  rw [e]
  constructor
  · intro hc
    rw [if_pos (Int32.lt_iff_toInt_lt.mpr (by rw [es, e1000]; omega))]
    exact ⟨rfl, h.putN (ci := 8) (k := 4) (x := 5) h.oM (by decide) (by decide) (by decide) (by decide)⟩
  · intro hc
    rw [if_neg (fun z => by have := Int32.lt_iff_toInt_lt.mp z; rw [es, e1000] at this; omega)]
theorem VS.fDeep {D m : Nat} (h : (VS cs lim dE A r1 r2 NF g4 k4) fa ta nf nt M w) (hD : w.2.1 A.ma 8 = nI D) (hx : x = nI m) (hm : D + m < 5000) : (400 < D + m → F_Ma_isDeep cs M A.ma x = (1, cP 8 M A.ma 4 (.int 6)) ∧ (VS cs lim dE A r1 r2 NF g4 k4) fa ta nf nt (cP 8 M A.ma 4 (.int 6)) (vpi w A.ma 4 6)) ∧ (D + m ≤ 400 → F_Ma_isDeep cs M A.ma x = (0, M)) := by
  have e : cI M A.ma 8 = nI D := by rw [h.I (Or.inr (Or.inr (Or.inl rfl)))]; exact hD
  have es : (nI D + nI m).toInt = (D + m : Nat) := by
    have h1 := nT (n := D) (by omega)
    have h2 := nT (n := m) (by omega)
    ((try (simp only [vp_in, Int32.toNatClampNeg, Int32.lt_iff_toInt_lt, Int32.le_iff_toInt_le, ← Int32.toInt_inj, Int32.toInt_add, Int32.toInt_sub, Int32.toInt_mul, Int32.reduceToInt, i32_neg1, Nat.reducePow, Int.reducePow, ne_eq, ge_iff_le, gt_iff_lt] at *)) <;> (first | omega | ((simp (disch := omega) only [bm32] at *) <;> omega)))
  have e400 : (400 : Int32).toInt = 400 := rfl
  subst hx
  unfold F_Ma_isDeep
  rw [e]
  constructor
  · intro hc
    rw [if_pos (Int32.lt_iff_toInt_lt.mpr (by rw [es, e400]; omega))]
    exact ⟨rfl, h.putN (ci := 8) (k := 4) (x := 6) h.oM (by decide) (by decide) (by decide) (by decide)⟩
  · intro hc
    rw [if_neg (fun z => by have := Int32.lt_iff_toInt_lt.mp z; rw [es, e400] at this; omega)]
/-- fuel is taken, or the frame waits -/
theorem VS.fFuel {al tk : Nat} (h : (VS cs lim dE A r1 r2 NF g4 k4) fa ta nf nt M w) (ha : FsO fa nf a) (f : FSt w a s H r') (h11 : w.2.1 A.ma 11 = nI al) (h12 : w.2.1 A.ma 12 = nI tk) (hb : al < 5000 ∧ tk < 5000) :
    (al ≤ tk → (F_Ma_takesFuel cs M A.ma (some a) (nI r)).1 = 0 ∧ ∃ w', (VS cs lim dE A r1 r2 NF g4 k4) fa ta nf nt (F_Ma_takesFuel cs M A.ma (some a) (nI r)).2 w' ∧ FSt w' a s H r ∧ w'.2.1 A.ma 13 = 1 ∧ MaI w w' A.ma [13] ∧ (∀ k, w'.2.2 A.ma k = w.2.2 A.ma k) ∧ (∀ k, w'.2.2 a k = w.2.2 a k) ∧ (∀ c, c ≠ a → c ≠ A.ma → Same w w' c)) ∧
    (tk < al → (F_Ma_takesFuel cs M A.ma (some a) (nI r)).1 = 1 ∧ ∃ w', (VS cs lim dE A r1 r2 NF g4 k4) fa ta nf nt (F_Ma_takesFuel cs M A.ma (some a) (nI r)).2 w' ∧ w'.2.1 A.ma 12 = nI (tk + 1) ∧ w'.2.1 A.ma 6 = w.2.1 A.ma 6 + 1 ∧ MaI w w' A.ma [12, 6] ∧ (∀ k, w'.2.2 A.ma k = w.2.2 A.ma k) ∧ (∀ c, c ≠ A.ma → Same w w' c)) := by
  have kM : FsO fa nf A.ma ∨ FsO ta nt A.ma ∨ A.ma = A.ma ∨ A.ma = A.st := Or.inr (Or.inr (Or.inl rfl))
  have e11 : cI M A.ma 11 = nI al := by rw [h.I kM]; exact h11
  have e12 : cI M A.ma 12 = nI tk := by rw [h.I kM]; exact h12
  have nm := h.neFM ha
  unfold F_Ma_takesFuel
  rw [e11, e12]
  constructor
  · intro hc
    rw [if_neg (nI_nlt hc (Nat.lt_trans hb.2 (by decide)))]
    have h1 := h.putN (ci := 8) (k := 13) (x := 1) h.oM (by decide) (by decide) (by decide) (by decide)
    obtain ⟨w2, h2, f2, o2⟩ := h1.fRow (x := nI r) ha (f.same (vpi_same nm)) rfl
    refine ⟨rfl, w2, h2, f2, ?_, fun k hk => ?_, fun k => ?_, fun k => ?_, fun c c1 c2 => (vpi_same c2).trans (o2.same c1)⟩
    · rw [o2.2.1 A.ma 13 (fun z => nm z.1.symm), vpi_i, if_pos ⟨rfl, rfl⟩]
    · simp only [List.mem_cons, List.not_mem_nil, or_false] at hk
      rw [o2.2.1 A.ma k (fun z => nm z.1.symm), vpi_i, if_neg (fun z => hk z.2)]
    · rw [o2.2.2, vpi_q]
    · rw [o2.2.2, vpi_q]
  · intro hc
    rw [if_pos (nI_lt hc (Nat.lt_trans hb.1 (by decide)))]
    have h1 := h.putN (ci := 8) (k := 12) (x := nI tk + 1) h.oM (by decide) (by decide) (by decide) (by decide)
    rw [h1.I kM 6]
    have h2 := h1.putN (ci := 8) (k := 6) (x := (vpi w A.ma 12 (nI tk + 1)).2.1 A.ma 6 + 1) h1.oM (by decide) (by decide) (by decide) (by decide)
    refine ⟨rfl, _, h2, ?_, ?_, fun k hk => ?_, fun _ => rfl, fun c c1 => (vpi_same c1).trans (vpi_same c1)⟩
    · rw [vpi_i, if_neg (by omega), vpi_i, if_pos ⟨rfl, rfl⟩, nI_succ]
    · rw [vpi_i, if_pos ⟨rfl, rfl⟩, vpi_i, if_neg (by omega)]
    · simp only [List.mem_cons, List.not_mem_nil, or_false, not_or] at hk
      rw [vpi_i, if_neg (fun z => hk.2 z.2), vpi_i, if_neg (fun z => hk.1 z.2)]
end
end
