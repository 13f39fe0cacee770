-- pure rows: HN
section
/-! pure rows, the class: handlers are set up, functions called, continuations gone on with -/
/-- where the new frame came from -/
def StF (A : Ad) (fa : Nat → Nat) (nf u : Nat) (w w' : Vw) (f : Nat) : Prop := (w.2.2 A.st 4 = some f ∧ w'.2.2 A.st 4 = w.2.2 f 4 ∧ w'.2.1 A.st 2 = w.2.1 A.st 2) ∨ (w.2.2 A.st 4 = none ∧ (fa u = f ∧ u < nf) ∧ w'.2.2 A.st 4 = none ∧ w'.2.1 A.st 2 = nI (u + 1))
theorem nI_ad {m n : Nat} (h : m + n < 90000) : nI m + nI n = nI (m + n) := by
  apply Int32.toInt_inj.mp
  rw [nT (n := m + n) (by omega)]
  have h1 := nT (n := m) (by omega)
  have h2 := nT (n := n) (by omega)
  ((try (simp only [vp_in, Int32.toNatClampNeg, Int32.lt_iff_toInt_lt, Int32.le_iff_toInt_le, ← Int32.toInt_inj, Int32.toInt_add, Int32.toInt_sub, Int32.toInt_mul, Int32.reduceToInt, i32_neg1, Nat.reducePow, Int.reducePow, ne_eq, ge_iff_le, gt_iff_lt] at *)) <;> (first | omega | ((simp (disch := omega) only [bm32] at *) <;> omega)))
section
variable {cs : Nat → ClassId} {lim dE : Nat × Nat} {A : Ad} {r1 r2 NF : Nat} {g4 : Nat → Int32} {k4 : Nat} {fa ta : Nat → Nat} {nf nt : Nat} {M M' : gMem} {w w' : Vw} {a b c t n ci k H K u v r r' T D : Nat} {s sb : Nat → Int32} {x y : Int32}
theorem VS.fInstall {l m : Nat} (h : (VS cs lim dE A r1 r2 NF g4 k4) fa ta nf nt M w) (ha : FsO fa nf a) (f : FSt w a s H r') (hus : Usd A fa u w a) (hT : w.2.1 A.ma 7 = nI T) (hT1 : T < 1000) (hD : w.2.1 A.ma 8 = nI D) (hD1 : D < 400) (hv : w.2.1 A.st 3 = nI v) (hv1 : v < 1000) (hu : w.2.1 A.st 2 = nI u) (hN : u < NF) (hr : r ≤ 2000) (h1 : cFd g4 r 1 = nI l) (h4 : cFd g4 r 4 = nI m) (hm : m < 100) :
    ∃ f' fa' nf' ta' nt' w', (VS cs lim dE A r1 r2 NF g4 k4) fa' ta' nf' nt' (F_Ma_install cs dE M A.ma (some a) (nI r)) w' ∧ (nf ≤ nf' ∧ (∀ i, i < nf → fa' i = fa i) ∧ FsO fa' nf' f' ∧ (∀ c, Usd A fa u w c → c ≠ f')) ∧ (nt ≤ nt' ∧ (∀ i, i < nt → ta' i = ta i) ∧ v < nt') ∧
    (FSt w' a s H l ∧ ∀ k, w'.2.2 a k = w.2.2 a k) ∧ ((∀ j, j < 10 → w'.1 f' j = s j) ∧ w'.2.1 f' 1 = nI 10 ∧ w'.2.1 f' 2 = nI (r + 1 + m) ∧ w'.2.2 f' 3 = some (ta' v) ∧ w'.2.2 f' 4 = some a) ∧
    (w'.2.1 (ta' v) 1 = nI r ∧ w'.2.1 (ta' v) 2 = 0 ∧ ∀ j, j < 10 → w'.1 (ta' v) j = s j) ∧ (w'.2.1 A.ma 7 = nI (T + 1) ∧ w'.2.1 A.ma 8 = nI (D + 1) ∧ MaI w w' A.ma [7, 8] ∧ w'.2.2 A.ma 10 = some f') ∧ w'.2.1 A.st 3 = nI (v + 1) ∧ StF A fa' nf' u w w' f' ∧ (∀ c, c ≠ a → c ≠ f' → c ≠ ta' v → c ≠ A.ma → c ≠ A.st → Same w w' c) := by
  have kM : FsO fa nf A.ma ∨ FsO ta nt A.ma ∨ A.ma = A.ma ∨ A.ma = A.st := Or.inr (Or.inr (Or.inl rfl))
  have e7 : cI M A.ma 7 = nI T := by rw [h.I kM]; exact hT
  have nma := h.neFM ha
  have nsa := h.neFS ha
  have nms := h.neMS
  unfold F_Ma_install
  rw [(h.fFull hT (x := 1) (m := 1) rfl (by omega)).2 (by omega)]
  simp only [Option.getD_some, mbind_eq, if_true]
  rw [(h.fDeep hD (x := 1) (m := 1) rfl (by omega)).2 (by omega)]
  simp only [if_true, e7, ← nI_succ]
  have h1' := h.putN (ci := 8) (k := 7) (x := nI (T + 1)) h.oM (by decide) (by decide) (by decide) (by decide)
  generalize cP 8 M A.ma 7 (.int (nI (T + 1))) = M1 at h1' ⊢
  rw [h1'.lay.ma_1.2]
  simp only [Option.getD_some]
  obtain ⟨e2, ta', nt', w2, e4, h4', p1, p2, p3, ⟨t1, t2, t3⟩, s3, sS, sQ, sm⟩ := h1'.fThing ha (v := v) (by rw [vpi_i, if_neg (fun z => nms z.1.symm)]; exact hv) hv1 (nI r)
  have hT' : FsO ta' nt' (ta' v) := ⟨v, p3, rfl⟩
  have na : a ≠ ta' v := h4'.neFT ha hT'
  have nm : A.ma ≠ ta' v := fun z => h4'.neTM hT' z.symm
  have ns : A.st ≠ ta' v := fun z => h4'.neTS hT' z.symm
  rw [e2, e4]
  have hn : ¬ (some (ta' v) : Option Nat) = none := by simp [si_1, si_2, sl_1, sl_2, sl_3, ai_1, ai_2, ai_3, ai_4, al_1, al_2, al_3, al_4, cp_1, cp_2, cp_3, cp_4]
  simp only [if_neg hn, Option.getD_some]
  generalize F_Fr_keepNames cs (F_Th_make cs (F_St_takeThing cs dE M1 A.st).2 (ta' v) (nI r)) a (some (ta' v)) = M4 at h4' ⊢
  rw [h4'.lay.ma_0.2]
  simp only [Option.getD_some]
  rw [h4'.fld hr (j := 1) (x := 1) (by decide) rfl, h1]
  have fa5 : FSt w2 a s H r' := (f.same (vpi_same nma)).same (sm a na nsa)
  obtain ⟨w5, h5, f5, o5⟩ := h4'.fRow ha fa5 (rfl : nI l = nI l)
  generalize cP 10 M4 a 2 (.int (nI l)) = M5 at h5 ⊢
  rw [h5.lay.ma_0.2]
  simp only [Option.getD_some]
  rw [h5.fld hr (j := 4) (x := 4) (by decide) rfl, h4, nI_ad (by omega)]
  have w12 : ∀ c, c ≠ a → c ≠ ta' v → c ≠ A.st → Same (vpi w A.ma 7 (nI (T + 1))) w5 c := fun c c1 c2 c3 => (sm c c2 c3).trans (o5.same c1)
  have u5 : w5.2.1 A.st 2 = nI u := by rw [(o5.same (Ne.symm nsa)).2.1, sS 2 (by decide), vpi_i, if_neg (fun z => nms z.1.symm)]; exact hu
  obtain ⟨f', fa', nf', w6, h6, q1, q2, q3, q4, ⟨m1, m2, m3, m4, m5, m6, m7⟩, b1, b2, b3, b4⟩ := h5.enter u5 hN hT' (x1 := some a) (fun z hz => by cases hz; exact ha) (nI (r + 1 + m))
  have qs : w5.2.2 A.st 4 = w.2.2 A.st 4 := by rw [(o5.same (Ne.symm nsa)).2.2, sQ, vpi_q]
  have us5 : ∀ c, Usd A fa u w c → c ≠ f' := fun c hc => q4 c ⟨hc.1, by rw [qs]; exact hc.2⟩
  have naf : a ≠ f' := us5 a hus
  have nmf : A.ma ≠ f' := fun z => h6.neFM q3 z.symm
  have nsf : A.st ≠ f' := fun z => h6.neFS q3 z.symm
  have ntf : ta' v ≠ f' := fun z => h6.neFT q3 hT' z.symm
  generalize F_Ma_enter cs dE M5 A.ma (some a) (some (ta' v)) (nI (r + 1 + m)) = M6 at h6 ⊢
  have t6 : cQ M6 A.ma 10 = some f' := by rw [h6.Q (Or.inr (Or.inr (Or.inl rfl)))]; exact m6
  rw [t6]
  simp only [Option.getD_some]
  have h7 := h6.putQ (ci := 10) (k := 3) (r := some (ta' v)) (h6.oF q3) (Or.inl ⟨rfl, rfl, fun z hz => by cases hz; exact hT'⟩)
  have S6 : ∀ c, c ≠ f' → c ≠ A.ma → c ≠ A.st → Same w5 w6 c := fun c c1 c2 c3 => ⟨fun j => b1 c j c1, fun k => b2 c k c1 (fun z => c2 z.1) (fun z => c3 z.1), fun k => b3 c k c1 (fun z => c2 z.1) (fun z => c3 z.1)⟩
  have Sa : Same w5 (vpq w6 f' 3 (some (ta' v))) a := (S6 a naf nma nsa).trans (vpq_same naf)
  have St : Same w2 (vpq w6 f' 3 (some (ta' v))) (ta' v) := ((o5.same (Ne.symm na)).trans (S6 (ta' v) ntf (Ne.symm nm) (Ne.symm ns))).trans (vpq_same ntf)
  have Sw : ∀ j, w2.1 a j = s j := fa5.1
  refine ⟨f', fa', nf', ta', nt', _, h7, ⟨q1, q2, q3, us5⟩, ⟨p1, p2, p3⟩, ⟨f5.same Sa, fun k => ?_⟩, ⟨fun j hj => ?_, ?_, ?_, ?_, ?_⟩, ⟨?_, ?_, fun j hj => ?_⟩, ⟨?_, ?_, fun k hk => ?_, ?_⟩, ?_, ?_, fun c c1 c2 c3 c4 c5 => ((((vpi_same c4).trans (w12 c c1 c3 c5))).trans (S6 c c2 c4 c5)).trans (vpq_same c2)⟩
  · rw [Sa.2.2, o5.2.2, (sm a na nsa).2.2, vpi_q]
  · rw [vpq_s, m1 j hj, (o5.same (Ne.symm na)).1, t3 j hj]; exact f.1 j
  · rw [vpq_i]; exact m2
  · rw [vpq_i]; exact m3
  · rw [vpq_q, if_pos ⟨rfl, rfl⟩]
  · rw [vpq_q, if_neg (by omega)]; exact m5
  · rw [St.2.1]; exact t1
  · rw [St.2.1]; exact t2
  · rw [St.1, t3 j hj]; exact f.1 j
  · rw [vpq_i, b2 A.ma 7 nmf (by omega) (fun z => nms z.1), (w12 A.ma (Ne.symm nma) nm nms).2.1, vpi_i, if_pos ⟨rfl, rfl⟩]
  · rw [vpq_i, m7, (w12 A.ma (Ne.symm nma) nm nms).2.1, vpi_i, if_neg (by omega), hD, nI_succ]
  · simp only [List.mem_cons, List.not_mem_nil, or_false, not_or] at hk
    rw [vpq_i, b2 A.ma k nmf (fun z => hk.2 z.2) (fun z => nms z.1), (w12 A.ma (Ne.symm nma) nm nms).2.1, vpi_i, if_neg (fun z => hk.1 z.2)]
  · rw [vpq_q, if_neg (fun z => nmf z.1)]; exact m6
  · rw [vpq_i, b2 A.st 3 nsf (fun z => nms z.1.symm) (by omega), (o5.same (Ne.symm nsa)).2.1]; exact s3
  · unfold StF
    rw [vpq_q, if_neg (fun z => nsf z.1), vpq_i]
    rcases b4 with ⟨z1, z2, z3⟩ | ⟨z1, z2, z3, z4⟩
    · refine Or.inl ⟨by rw [← qs]; exact z1, ?_, ?_⟩
      · rw [z2]
        have ef : ∀ k, w5.2.2 f' k = w.2.2 f' k := fun k => by rw [(w12 f' (Ne.symm naf) (Ne.symm ntf) (Ne.symm nsf)).2.2, vpi_q]
        exact ef 4
      · rw [z3, u5, hu]
    · exact Or.inr ⟨by rw [← qs]; exact z1, z2, z3, z4⟩
/-- the frame waits for fuel -/
theorem VS.fWait {al tk : Nat} (h : (VS cs lim dE A r1 r2 NF g4 k4) fa ta nf nt M w) (ha : FsO fa nf a) (f : FSt w a s H r') (h11 : w.2.1 A.ma 11 = nI al) (h12 : w.2.1 A.ma 12 = nI tk) (hb : al < 5000 ∧ tk < 5000) (hl : al ≤ tk) :
    F_Ma_apply cs dE M A.ma (some a) (nI r) = (F_Ma_takesFuel cs M A.ma (some a) (nI r)).2 ∧ ∀ y, F_Ma_raise cs dE n M A.ma (some a) (nI r) y = (F_Ma_takesFuel cs M A.ma (some a) (nI r)).2 := by
  obtain ⟨e, -⟩ := (h.fFuel (r := r) ha f h11 h12 hb).1 hl
  constructor
  · unfold F_Ma_apply
    simp only [mbind_eq, e, if_true]
  · intro y
    unfold F_Ma_raise
    simp only [mbind_eq, e, if_true]
/-- fuel is taken; argument and function come off the frame -/
theorem VS.fApply {al tk i : Nat} (h : (VS cs lim dE A r1 r2 NF g4 k4) fa ta nf nt M w) (ha : FsO fa nf a) (f : FSt w a s (H + 2) r') (h10 : 10 ≤ H) (h50 : H + 1 < 50) (h11 : w.2.1 A.ma 11 = nI al) (h12 : w.2.1 A.ma 12 = nI tk) (hb : al < 5000 ∧ tk < 5000) (hl : tk < al) (hv : w.2.1 A.st 3 = nI v) (hv1 : v ≤ 1000) (hi : s H = nI i) (hiv : i < v) :
    ∃ M3 w3, (VS cs lim dE A r1 r2 NF g4 k4) fa ta nf nt M3 w3 ∧ FSt w3 a s H r' ∧ (∀ k, w3.2.2 a k = w.2.2 a k) ∧ w3.2.1 A.ma 12 = nI (tk + 1) ∧ w3.2.1 A.ma 6 = w.2.1 A.ma 6 + 1 ∧ MaI w w3 A.ma [12, 6] ∧ (∀ k, w3.2.2 A.ma k = w.2.2 A.ma k) ∧ (∀ c, c ≠ a → c ≠ A.ma → Same w w3 c) ∧ FsO ta nt (ta i) ∧
    (w.2.1 (ta i) 2 = 0 → F_Ma_apply cs dE M A.ma (some a) (nI r) = if (F_Ma_isDeep cs M3 A.ma 1).1 = 0 then F_Fr_give cs (F_Ma_enter cs dE (F_Ma_isDeep cs M3 A.ma 1).2 A.ma (some a) (some (ta i)) (cI (F_Ma_isDeep cs M3 A.ma 1).2 (ta i) 1 + 1)) ((cQ (F_Ma_enter cs dE (F_Ma_isDeep cs M3 A.ma 1).2 A.ma (some a) (some (ta i)) (cI (F_Ma_isDeep cs M3 A.ma 1).2 (ta i) 1 + 1)) A.ma 10).getD 0) (F_Co_field cs (F_Ma_enter cs dE (F_Ma_isDeep cs M3 A.ma 1).2 A.ma (some a) (some (ta i)) (cI (F_Ma_isDeep cs M3 A.ma 1).2 (ta i) 1 + 1)) ((cQ (F_Ma_enter cs dE (F_Ma_isDeep cs M3 A.ma 1).2 A.ma (some a) (some (ta i)) (cI (F_Ma_isDeep cs M3 A.ma 1).2 (ta i) 1 + 1)) A.ma 0).getD 0) (cI (F_Ma_enter cs dE (F_Ma_isDeep cs M3 A.ma 1).2 A.ma (some a) (some (ta i)) (cI (F_Ma_isDeep cs M3 A.ma 1).2 (ta i) 1 + 1)) (ta i) 1) 1) (s (H + 1)) else (F_Ma_isDeep cs M3 A.ma 1).2) ∧
    (w.2.1 (ta i) 2 ≠ 0 → F_Ma_apply cs dE M A.ma (some a) (nI r) = F_Ma_resume cs M3 A.ma (some a) (some (ta i)) (s (H + 1))) := by
  obtain ⟨e, w1, h1, x12, x6, xm, xq, xs⟩ := (h.fFuel (r := r) ha f h11 h12 hb).2 hl
  have nma := h.neFM ha
  have nsa := h.neFS ha
  have nms := h.neMS
  have f1 : FSt w1 a s (H + 2) r' := f.same (xs a nma)
  have ne0 : ¬ (1 : Int32) = 0 := by decide
  unfold F_Ma_apply
  simp only [mbind_eq, e, if_neg ne0, Option.getD_some]
  generalize (F_Ma_takesFuel cs M A.ma (some a) (nI r)).2 = M1 at h1 ⊢
  obtain ⟨e2, w2, h2, f2, o2⟩ := h1.fPop (H := H + 1) ha f1 (by omega) h50
  generalize F_Fr_pop cs M1 a = p2 at e2 h2 ⊢
  obtain ⟨e3, w3, h3, f3, o3⟩ := h2.fPop (H := H) ha f2 h10 (by omega)
  rw [h2.lay.ma_1.2, e2]
  simp only [Option.getD_some]
  generalize F_Fr_pop cs p2.2 a = p3 at e3 h3 ⊢
  have sS : Same w w3 A.st := ((xs A.st (Ne.symm nms)).trans (o2.same (Ne.symm nsa))).trans (o3.same (Ne.symm nsa))
  have sM : Same w1 w3 A.ma := (o2.same (Ne.symm nma)).trans (o3.same (Ne.symm nma))
  obtain ⟨e4, hT⟩ := h3.thing (i := i) (v := v) (by rw [sS.2.1]; exact hv) hiv hv1
  rw [e3, hi, e4]
  have hn : ¬ (some (ta i) : Option Nat) = none := by simp [si_1, si_2, sl_1, sl_2, sl_3, ai_1, ai_2, ai_3, ai_4, al_1, al_2, al_3, al_4, cp_1, cp_2, cp_3, cp_4]
  simp only [if_neg hn, Option.getD_some]
  have nat : ta i ≠ a := fun z => h3.neFT ha hT z.symm
  have nmt : ta i ≠ A.ma := h3.neTM hT
  have sT : Same w w3 (ta i) := ((xs (ta i) nmt).trans (o2.same nat)).trans (o3.same nat)
  have e5 : cI p3.2 (ta i) 2 = w.2.1 (ta i) 2 := by rw [h3.I (Or.inr (Or.inl hT)), sT.2.1]
  rw [e5]
  refine ⟨p3.2, w3, h3, f3, fun k => ?_, ?_, ?_, fun k hk => ?_, fun k => ?_, fun c c1 c2 => ((xs c c2).trans (o2.same c1)).trans (o3.same c1), hT, fun z => ?_, fun z => ?_⟩
  · rw [o3.2.2, o2.2.2, (xs a nma).2.2]
  · rw [sM.2.1]; exact x12
  · rw [sM.2.1]; exact x6
  · rw [sM.2.1]; exact xm k hk
  · rw [sM.2.2]; exact xq k
  · rw [if_pos z]
  · rw [if_neg z]
/-- a function is called -/
theorem VS.fCall {l : Nat} (h : (VS cs lim dE A r1 r2 NF g4 k4) fa ta nf nt M w) (ha : FsO fa nf a) (f : FSt w a s H r') (hus : Usd A fa u w a) (hT : FsO ta nt t) (hl : w.2.1 t 1 = nI l) (hl2 : l ≤ 2000) (hK : cFd g4 l 1 = nI K) (hK1 : K < 10) (hD : w.2.1 A.ma 8 = nI D) (hD1 : D < 400) (hu : w.2.1 A.st 2 = nI u) (hN : u < NF) (y : Int32) :
    ∃ f' fa' nf' w', (VS cs lim dE A r1 r2 NF g4 k4) fa' ta nf' nt (F_Fr_give cs (F_Ma_enter cs dE M A.ma (some a) (some t) (cI M t 1 + 1)) ((cQ (F_Ma_enter cs dE M A.ma (some a) (some t) (cI M t 1 + 1)) A.ma 10).getD 0) (F_Co_field cs (F_Ma_enter cs dE M A.ma (some a) (some t) (cI M t 1 + 1)) ((cQ (F_Ma_enter cs dE M A.ma (some a) (some t) (cI M t 1 + 1)) A.ma 0).getD 0) (cI (F_Ma_enter cs dE M A.ma (some a) (some t) (cI M t 1 + 1)) t 1) 1) y) w' ∧ (nf ≤ nf' ∧ (∀ i, i < nf → fa' i = fa i) ∧ FsO fa' nf' f' ∧ (∀ c, Usd A fa u w c → c ≠ f')) ∧
    ((∀ j, j < 10 → w'.1 f' j = if j = K then y else w.1 t j) ∧ w'.2.1 f' 1 = nI 10 ∧ w'.2.1 f' 2 = nI (l + 1) ∧ w'.2.2 f' 3 = none ∧ w'.2.2 f' 4 = some a) ∧ (w'.2.1 A.ma 8 = nI (D + 1) ∧ MaI w w' A.ma [8] ∧ w'.2.2 A.ma 10 = some f') ∧ MaI w w' A.st [2] ∧ StF A fa' nf' u w w' f' ∧ (∀ c, c ≠ f' → c ≠ A.ma → c ≠ A.st → Same w w' c) := by
  have nma := h.neFM ha
  have nms := h.neMS
  have el : cI M t 1 = nI l := by rw [h.I (Or.inr (Or.inl hT))]; exact hl
  rw [el, ← nI_succ]
  obtain ⟨f', fa', nf', w6, h6, q1, q2, q3, q4, ⟨m1, m2, m3, m4, m5, m6, m7⟩, b1, b2, b3, b4⟩ := h.enter hu hN hT (x1 := some a) (fun z hz => by cases hz; exact ha) (nI (l + 1))
  have nmf : A.ma ≠ f' := fun z => h6.neFM q3 z.symm
  have nsf : A.st ≠ f' := fun z => h6.neFS q3 z.symm
  have ntf : t ≠ f' := fun z => h6.neFT q3 hT z.symm
  have ntm : t ≠ A.ma := h6.neTM hT
  have nts : t ≠ A.st := h6.neTS hT
  generalize F_Ma_enter cs dE M A.ma (some a) (some t) (nI (l + 1)) = M6 at h6 ⊢
  have t6 : cQ M6 A.ma 10 = some f' := by rw [h6.Q (Or.inr (Or.inr (Or.inl rfl)))]; exact m6
  have el6 : cI M6 t 1 = nI l := by rw [h6.I (Or.inr (Or.inl hT)), b2 t 1 ntf (fun z => ntm z.1) (fun z => nts z.1)]; exact hl
  rw [t6, h6.lay.ma_0.2, el6]
  simp only [Option.getD_some]
  rw [h6.fld hl2 (j := 1) (x := 1) (by decide) rfl, hK]
  refine ⟨f', fa', nf', _, h6.give q3 rfl hK1, ⟨q1, q2, q3, q4⟩, ⟨fun j hj => ?_, ?_, ?_, ?_, ?_⟩, ⟨?_, fun k hk => ?_, ?_⟩, fun k hk => ?_, ?_, fun c c1 c2 c3 => ⟨fun j => ?_, fun k => ?_, fun k => ?_⟩⟩
  · rw [vps_s]
    by_cases z : j = K
    · rw [if_pos ⟨rfl, z⟩, if_pos z]
    · rw [if_neg (fun y => z y.2), if_neg z]; exact m1 j hj
  · rw [vps_i]; exact m2
  · rw [vps_i]; exact m3
  · rw [vps_q]; exact m4
  · rw [vps_q]; exact m5
  · rw [vps_i, m7, hD, nI_succ]
  · simp only [List.mem_cons, List.not_mem_nil, or_false] at hk
    rw [vps_i]; exact b2 A.ma k nmf (fun z => hk z.2) (fun z => nms z.1)
  · rw [vps_q]; exact m6
  · simp only [List.mem_cons, List.not_mem_nil, or_false] at hk
    rw [vps_i]; exact b2 A.st k nsf (fun z => nms z.1.symm) (fun z => hk z.2)
  · unfold StF
    rw [vps_q, vps_i]
    exact b4
  · rw [vps_s, if_neg (fun z => c1 z.1)]; exact b1 c j c1
  · rw [vps_i]; exact b2 c k c1 (fun z => c2 z.1) (fun z => c3 z.1)
  · rw [vps_q]; exact b3 c k c1 (fun z => c2 z.1) (fun z => c3 z.1)
/-- a continuation is gone on with -/
theorem VS.fResume {m up lo Hu ru : Nat} {su : Nat → Int32} (h : (VS cs lim dE A r1 r2 NF g4 k4) fa ta nf nt M w) (ha : FsO fa nf a) (hT : FsO ta nt t) (hg : w.2.1 t 3 = 0) (hm : w.2.1 t 6 = nI m) (hD : w.2.1 A.ma 8 = nI D) (hDm : D + m ≤ 400) (hup : w.2.2 t 4 = some up) (hlo : w.2.2 t 5 = some lo) (fu : FSt w up su Hu ru) (h10 : 10 ≤ Hu) (h50 : Hu < 50) (y : Int32) :
    ∃ w', (VS cs lim dE A r1 r2 NF g4 k4) fa ta nf nt (F_Ma_resume cs M A.ma (some a) (some t) y) w' ∧ FSt w' up (upd su Hu y) (Hu + 1) ru ∧ (w'.2.1 t 3 = 1 ∧ (∀ k, k ≠ 3 → w'.2.1 t k = w.2.1 t k) ∧ (∀ k, w'.2.2 t k = w.2.2 t k) ∧ ∀ j, w'.1 t j = w.1 t j) ∧ (w'.2.1 A.ma 8 = nI (D + m) ∧ MaI w w' A.ma [8] ∧ w'.2.2 A.ma 10 = some up) ∧ (∀ c k, c ≠ A.ma → ¬ (c = lo ∧ k = 4) → w'.2.2 c k = w.2.2 c k) ∧ w'.2.2 lo 4 = some a ∧ (∀ c j, c ≠ up → w'.1 c j = w.1 c j) ∧ (∀ c k, c ≠ up → c ≠ t → c ≠ A.ma → w'.2.1 c k = w.2.1 c k) := by
  have kT : FsO fa nf t ∨ FsO ta nt t ∨ t = A.ma ∨ t = A.st := Or.inr (Or.inl hT)
  have ntm := h.neTM hT
  have q4 : cQ M t 4 = some up := by rw [h.Q kT]; exact hup
  have q5 : cQ M t 5 = some lo := by rw [h.Q kT]; exact hlo
  have hU : FsO fa nf up := (h.hs.th hT).up up q4
  have hL : FsO fa nf lo := (h.hs.th hT).lo lo q5
  have nut := h.neFT hU hT
  have nlt := h.neFT hL hT
  have num := h.neFM hU
  have nlm := h.neFM hL
  have i3 : cI M t 3 = 0 := by rw [h.I kT]; exact hg
  have i6 : cI M t 6 = nI m := by rw [h.I kT]; exact hm
  unfold F_Ma_resume
  simp only [Option.getD_some, i3, if_true, mbind_eq, i6]
  rw [(h.fDeep hD (x := nI m) (m := m) rfl (by omega)).2 hDm]
  have hn4 : ¬ (some up : Option Nat) = none := by simp [si_1, si_2, sl_1, sl_2, sl_3, ai_1, ai_2, ai_3, ai_4, al_1, al_2, al_3, al_4, cp_1, cp_2, cp_3, cp_4]
  have hn5 : ¬ (some lo : Option Nat) = none := by simp [si_1, si_2, sl_1, sl_2, sl_3, ai_1, ai_2, ai_3, ai_4, al_1, al_2, al_3, al_4, cp_1, cp_2, cp_3, cp_4]
  simp only [if_true, q4, q5, if_neg hn4, if_neg hn5]
  have h1 := h.putN (ci := 11) (k := 3) (x := 1) (h.oT hT) (by decide) (by decide) (by decide) (by decide)
  generalize cP 11 M t 3 (.int 1) = M1 at h1 ⊢
  have j8 : cI M1 A.ma 8 = nI D := by rw [h1.I (Or.inr (Or.inr (Or.inl rfl))), vpi_i, if_neg (fun z => ntm z.1.symm)]; exact hD
  have j6 : cI M1 t 6 = nI m := by rw [h1.I kT, vpi_i, if_neg (by omega)]; exact hm
  rw [j8, j6, nI_ad (by omega)]
  have h2 := h1.putN (ci := 8) (k := 8) (x := nI (D + m)) h1.oM (by decide) (by decide) (by decide) (by decide)
  generalize cP 8 M1 A.ma 8 (.int (nI (D + m))) = M2 at h2 ⊢
  have k5 : cQ M2 t 5 = some lo := by rw [h2.Q kT]; exact hlo
  rw [k5]
  simp only [Option.getD_some]
  have h3 := h2.putQ (ci := 10) (k := 4) (r := some a) (h2.oF hL) (Or.inr ⟨by simp [si_1, si_2, sl_1, sl_2, sl_3, ai_1, ai_2, ai_3, ai_4, al_1, al_2, al_3, al_4, cp_1, cp_2, cp_3, cp_4], fun z hz => by cases hz; exact ha⟩)
  generalize cP 10 M2 lo 4 (va_rf (some a)) = M3 at h3 ⊢
  have k4' : cQ M3 t 4 = some up := by rw [h3.Q kT, vpq_q, if_neg (fun z => nlt z.1.symm)]; exact hup
  rw [k4']
  have h4 := h3.putQ (ci := 8) (k := 10) (r := some up) h3.oM (Or.inr ⟨by simp [si_1, si_2, sl_1, sl_2, sl_3, ai_1, ai_2, ai_3, ai_4, al_1, al_2, al_3, al_4, cp_1, cp_2, cp_3, cp_4], fun z hz => by cases hz; exact hU⟩)
  generalize cP 8 M3 A.ma 10 (va_rf (some up)) = M4 at h4 ⊢
  have k10 : cQ M4 A.ma 10 = some up := by rw [h4.Q (Or.inr (Or.inr (Or.inl rfl))), vpq_q, if_pos ⟨rfl, rfl⟩]
  rw [k10]
  simp only [Option.getD_some]
  have fu4 : FSt (vpq (vpq (vpi (vpi w t 3 1) A.ma 8 (nI (D + m))) lo 4 (some a)) A.ma 10 (some up)) up su Hu ru := ⟨fu.1, by rw [vpq_i, vpq_i, vpi_i, if_neg (fun z => num z.1), vpi_i, if_neg (fun z => nut z.1)]; exact fu.2.1, by rw [vpq_i, vpq_i, vpi_i, if_neg (fun z => num z.1), vpi_i, if_neg (fun z => nut z.1)]; exact fu.2.2⟩
  obtain ⟨w5, h5, f5, o5⟩ := h4.fPush hU fu4 h10 h50 y
  have st5 := o5.same (Ne.symm nut)
  have sm5 := o5.same (Ne.symm num)
  refine ⟨w5, h5, f5, ⟨?_, fun k hk => ?_, fun k => ?_, fun j => ?_⟩, ⟨?_, fun k hk => ?_, ?_⟩, fun c k c1 c2 => ?_, ?_, fun c j c1 => ?_, fun c k c1 c2 c3 => ?_⟩
  · rw [st5.2.1, vpq_i, vpq_i, vpi_i, if_neg (fun z => ntm z.1), vpi_i, if_pos ⟨rfl, rfl⟩]
  · rw [st5.2.1, vpq_i, vpq_i, vpi_i, if_neg (fun z => ntm z.1), vpi_i, if_neg (fun z => hk z.2)]
  · rw [st5.2.2, vpq_q, if_neg (fun z => ntm z.1), vpq_q, if_neg (fun z => nlt z.1.symm), vpi_q, vpi_q]
  · rw [st5.1]; rfl
  · rw [sm5.2.1, vpq_i, vpq_i, vpi_i, if_pos ⟨rfl, rfl⟩]
  · simp only [List.mem_cons, List.not_mem_nil, or_false] at hk
    rw [sm5.2.1, vpq_i, vpq_i, vpi_i, if_neg (fun z => hk z.2), vpi_i, if_neg (fun z => ntm z.1.symm)]
  · rw [sm5.2.2, vpq_q, if_pos ⟨rfl, rfl⟩]
  · rw [o5.2.2, vpq_q, if_neg (fun z => c1 z.1), vpq_q, if_neg c2, vpi_q, vpi_q]
  · rw [o5.2.2, vpq_q, if_neg (fun z => nlm z.1), vpq_q, if_pos ⟨rfl, rfl⟩]
  · rw [o5.1 c j c1]; rfl
  · rw [o5.2.1 c k (fun z => c1 z.1), vpq_i, vpq_i, vpi_i, if_neg (fun z => c3 z.1), vpi_i, if_neg (fun z => c2 z.1)]
end
end
