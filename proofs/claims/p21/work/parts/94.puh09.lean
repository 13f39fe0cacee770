-- pure rows: HM
section
/-! pure rows, the class: functions are made, handlers set up, bodies ended -/
section
variable {cs : Nat → ClassId} {lim dE : Nat × Nat} {A : Ad} {r1 r2 NF : Nat} {g4 : Nat → Int32} {k4 : Nat} {fa ta : Nat → Nat} {nf nt : Nat} {M M' : gMem} {w w' : Vw} {a b c t n ci k H K u v r r' T D : Nat} {s sb : Nat → Int32} {x y : Int32}
theorem VS.tgiveO (h : (VS cs lim dE A r1 r2 NF g4 k4) fa ta nf nt M w) (ht : FsO ta nt t) (hx : x = -1 ∨ ∃ K, K < 10 ∧ x = nI K) (v : Int32) : ∃ w', (VS cs lim dE A r1 r2 NF g4 k4) fa ta nf nt (F_Th_give cs M t x v) w' ∧ (∀ j, j < 10 → w'.1 t j = if x = nI j then v else w.1 t j) ∧ (∀ k, w'.2.1 t k = w.2.1 t k) ∧ (∀ k, w'.2.2 t k = w.2.2 t k) ∧ (∀ c, c ≠ t → Same w w' c) := by
  rcases hx with rfl | ⟨K, hK, rfl⟩
  · refine ⟨w, h.tgive', fun j hj => ?_, fun _ => rfl, fun _ => rfl, fun _ _ => Same.rfl'⟩
    rw [if_neg (fun q => by have := congrArg Int32.toInt q; rw [nT (by omega), i32_neg1] at this; omega)]
  · refine ⟨_, h.tgive ht rfl hK, fun j hj => ?_, fun _ => rfl, fun _ => rfl, fun c hc => vps_same hc⟩
    rw [vps_s]
    by_cases q : j = K
    · rw [if_pos ⟨rfl, q⟩, if_pos (by rw [q])]
    · rw [if_neg (fun z => q z.2), if_neg (fun z => q (nI_inj (by omega) (by omega) z).symm)]
/-- a thing is taken and told where it stands and what names had -/
theorem VS.fThing (h : (VS cs lim dE A r1 r2 NF g4 k4) fa ta nf nt M w) (ha : FsO fa nf a) (hv : w.2.1 A.st 3 = nI v) (hv1 : v < 1000) (x : Int32) : (F_St_takeThing cs dE M A.st).1 = nI v ∧ ∃ ta' nt' w', F_St_thingAt cs dE (F_St_takeThing cs dE M A.st).2 A.st (nI v) = some (ta' v) ∧ (VS cs lim dE A r1 r2 NF g4 k4) fa ta' nf nt' (F_Fr_keepNames cs (F_Th_make cs (F_St_takeThing cs dE M A.st).2 (ta' v) x) a (some (ta' v))) w' ∧ nt ≤ nt' ∧ (∀ i, i < nt → ta' i = ta i) ∧ v < nt' ∧
    (w'.2.1 (ta' v) 1 = x ∧ w'.2.1 (ta' v) 2 = 0 ∧ ∀ j, j < 10 → w'.1 (ta' v) j = w.1 a j) ∧ w'.2.1 A.st 3 = nI (v + 1) ∧ MaI w w' A.st [3] ∧ (∀ k, w'.2.2 A.st k = w.2.2 A.st k) ∧ (∀ c, c ≠ ta' v → c ≠ A.st → Same w w' c) := by
  obtain ⟨e2, ta', nt', w2, h2, p1, p2, p3, T1, T2, T3⟩ := h.takeT hv hv1
  have hT : FsO ta' nt' (ta' v) := ⟨v, p3, rfl⟩
  have ns : A.st ≠ ta' v := fun z => h2.neTS hT z.symm
  have na : a ≠ ta' v := h2.neFT ha hT
  have s3 : w2.2.1 A.st 3 = nI (v + 1) := by rw [T2 A.st 3 ns, vpi_i, if_pos ⟨rfl, rfl⟩]
  obtain ⟨e4, -⟩ := h2.thing (i := v) (v := v + 1) s3 (by omega) (by omega)
  have h3 := h2.make hT x
  have h4 := h3.keepN ha hT
  have sm : ∀ c, c ≠ ta' v → Same w2 (vpS (vpq (vpq (vpi (vpi w2 (ta' v) 1 x) (ta' v) 2 0) (ta' v) 4 none) (ta' v) 5 none) (ta' v) (fun j => if j < 10 then (vpq (vpq (vpi (vpi w2 (ta' v) 1 x) (ta' v) 2 0) (ta' v) 4 none) (ta' v) 5 none).1 a j else (vpq (vpq (vpi (vpi w2 (ta' v) 1 x) (ta' v) 2 0) (ta' v) 4 none) (ta' v) 5 none).1 (ta' v) j)) c := fun c hc => ((((vpi_same hc).trans (vpi_same hc)).trans (vpq_same hc)).trans (vpq_same hc)).trans (vpS_same hc)
  have sw : ∀ c, c ≠ ta' v → c ≠ A.st → Same w w2 c := fun c hc hs => ⟨fun j => T1 c j hc, fun k => by rw [T2 c k hc, vpi_i, if_neg (fun z => hs z.1)], fun k => T3 c k hc⟩
  refine ⟨e2, ta', nt', _, e4, h4, p1, p2, p3, ⟨?_, ?_, fun j hj => ?_⟩, ?_, fun k hk => ?_, fun k => ?_, fun c hc hs => (sw c hc hs).trans (sm c hc)⟩
  · rw [vpS_i, vpq_i, vpq_i, vpi_i, if_neg (by omega), vpi_i, if_pos ⟨rfl, rfl⟩]
  · rw [vpS_i, vpq_i, vpq_i, vpi_i, if_pos ⟨rfl, rfl⟩]
  · rw [vpS_s, if_pos rfl, if_pos hj]
    exact T1 a j na
  · rw [(sm A.st ns).2.1 3]; exact s3
  · simp only [List.mem_cons, List.not_mem_nil, or_false] at hk
    rw [(sm A.st ns).2.1 k, T2 A.st k ns, vpi_i, if_neg (fun z => hk z.2)]
  · rw [(sm A.st ns).2.2 k, T3 A.st k ns]
theorem VS.fClose (h : (VS cs lim dE A r1 r2 NF g4 k4) fa ta nf nt M w) (ha : FsO fa nf a) (f : FSt w a s H r') (h10 : 10 ≤ H) (h50 : H < 50) (hT : w.2.1 A.ma 7 = nI T) (hT1 : T < 1000) (hv : w.2.1 A.st 3 = nI v) (hv1 : v < 1000) (hr : r ≤ 2000) {l : Nat} (h3 : cFd g4 r 3 = nI l) (h2 : cFd g4 r 2 = -1 ∨ ∃ K, K < 10 ∧ cFd g4 r 2 = nI K) :
    ∃ ta' nt' w', (VS cs lim dE A r1 r2 NF g4 k4) fa ta' nf nt' (F_Ma_close cs dE M A.ma (some a) (nI r)) w' ∧ nt ≤ nt' ∧ (∀ i, i < nt → ta' i = ta i) ∧ v < nt' ∧ FSt w' a (upd s H (nI v)) (H + 1) l ∧ (∀ k, w'.2.2 a k = w.2.2 a k) ∧
    (w'.2.1 (ta' v) 1 = nI r ∧ w'.2.1 (ta' v) 2 = 0 ∧ ∀ j, j < 10 → w'.1 (ta' v) j = if cFd g4 r 2 = nI j then nI v else s j) ∧ w'.2.1 A.ma 7 = nI (T + 1) ∧ MaI w w' A.ma [7] ∧ (∀ k, w'.2.2 A.ma k = w.2.2 A.ma k) ∧ w'.2.1 A.st 3 = nI (v + 1) ∧ MaI w w' A.st [3] ∧ (∀ k, w'.2.2 A.st k = w.2.2 A.st k) ∧ (∀ c, c ≠ a → c ≠ ta' v → c ≠ A.ma → c ≠ A.st → Same w w' c) := by
  have kM : FsO fa nf A.ma ∨ FsO ta nt A.ma ∨ A.ma = A.ma ∨ A.ma = A.st := Or.inr (Or.inr (Or.inl rfl))
  have e7 : cI M A.ma 7 = nI T := by rw [h.I kM]; exact hT
  have nma := h.neFM ha
  have nsa := h.neFS ha
  have nms := h.neMS
  unfold F_Ma_close
  rw [(h.fFull hT (x := 1) (m := 1) rfl (by omega)).2 (by omega)]
  simp only [Option.getD_some, mbind_eq, if_true, e7, ← nI_succ]
  have h1 := h.putN (ci := 8) (k := 7) (x := nI (T + 1)) h.oM (by decide) (by decide) (by decide) (by decide)
  generalize cP 8 M A.ma 7 (.int (nI (T + 1))) = M1 at h1 ⊢
  rw [h1.lay.ma_1.2]
  simp only [Option.getD_some]
  obtain ⟨e2, ta', nt', w2, e4, h4, p1, p2, p3, ⟨t1, t2, t3⟩, s3, sS, sQ, sm⟩ := h1.fThing ha (v := v) (by rw [vpi_i, if_neg (fun z => nms z.1.symm)]; exact hv) hv1 (nI r)
  have hT' : FsO ta' nt' (ta' v) := ⟨v, p3, rfl⟩
  have na : a ≠ ta' v := h4.neFT ha hT'
  have nm : A.ma ≠ ta' v := fun z => h4.neTM hT' z.symm
  have ns : A.st ≠ ta' v := fun z => h4.neTS hT' z.symm
  rw [e2]
  have h9 : (cQ (F_St_takeThing cs dE M1 A.st).2 A.ma 1).getD 0 = A.st := by
    have := (h1.takeT (v := v) (by rw [vpi_i, if_neg (fun z => nms z.1.symm)]; exact hv) hv1).2
    obtain ⟨_, _, _, g, -⟩ := this
    rw [g.lay.ma_1.2]; rfl
  rw [h9, e4]
  have hn : ¬ (some (ta' v) : Option Nat) = none := by simp [si_1, si_2, sl_1, sl_2, sl_3, ai_1, ai_2, ai_3, ai_4, al_1, al_2, al_3, al_4, cp_1, cp_2, cp_3, cp_4]
  simp only [if_neg hn, Option.getD_some]
  generalize F_Fr_keepNames cs (F_Th_make cs (F_St_takeThing cs dE M1 A.st).2 (ta' v) (nI r)) a (some (ta' v)) = M4 at h4 ⊢
  rw [h4.lay.ma_0.2]
  simp only [Option.getD_some]
  rw [h4.fld hr (j := 2) (x := 2) (by decide) rfl]
  obtain ⟨w5, h5, g1, g2, g3, g4'⟩ := h4.tgiveO hT' h2 (nI v)
  generalize F_Th_give cs M4 (ta' v) (cFd g4 r 2) (nI v) = M5 at h5 ⊢
  have fa5 : FSt w5 a s H r' := ((f.same (vpi_same nma)).same (sm a na nsa)).same (g4' a na)
  obtain ⟨w6, h6, f6, o6⟩ := h5.fPush ha fa5 h10 h50 (nI v)
  generalize F_Fr_push cs M5 a (nI v) = M6 at h6 ⊢
  rw [h6.lay.ma_0.2]
  simp only [Option.getD_some]
  rw [h6.fld hr (j := 3) (x := 3) (by decide) rfl]
  obtain ⟨w7, h7, f7, o7⟩ := h6.fRow ha f6 h3
  have S : ∀ c, c ≠ a → c ≠ ta' v → c ≠ A.st → Same (vpi w A.ma 7 (nI (T + 1))) w7 c := fun c c1 c2 c3 => (((sm c c2 c3).trans (g4' c c2)).trans (o6.same c1)).trans (o7.same c1)
  have St : Same w5 w7 (ta' v) := (o6.same (Ne.symm na)).trans (o7.same (Ne.symm na))
  have Ss : Same w2 w7 A.st := ((g4' A.st ns).trans (o6.same (Ne.symm nsa))).trans (o7.same (Ne.symm nsa))
  refine ⟨ta', nt', w7, h7, p1, p2, p3, f7, fun k => ?_, ⟨?_, ?_, fun j hj => ?_⟩, ?_, fun k hk => ?_, fun k => ?_, ?_, fun k hk => ?_, fun k => ?_, fun c c1 c2 c3 c4 => (vpi_same c3).trans (S c c1 c2 c4)⟩
  · rw [o7.2.2, o6.2.2, (g4' a na).2.2, (sm a na nsa).2.2, vpi_q]
  · rw [St.2.1, g2]; exact t1
  · rw [St.2.1, g2]; exact t2
  · rw [St.1, g1 j hj, t3 j hj]
    have : (vpi w A.ma 7 (nI (T + 1))).1 a j = s j := f.1 j
    rw [this]
  · rw [(S A.ma (Ne.symm nma) nm nms).2.1, vpi_i, if_pos ⟨rfl, rfl⟩]
  · simp only [List.mem_cons, List.not_mem_nil, or_false] at hk
    rw [(S A.ma (Ne.symm nma) nm nms).2.1, vpi_i, if_neg (fun z => hk z.2)]
  · rw [(S A.ma (Ne.symm nma) nm nms).2.2, vpi_q]
  · rw [Ss.2.1]; exact s3
  · rw [Ss.2.1, sS k hk, vpi_i, if_neg (fun z => nms z.1.symm)]
  · rw [Ss.2.2, sQ k, vpi_q]
/-- the body of a handler has come to its end -/
theorem VS.fEndBody {l q : Nat} (h : (VS cs lim dE A r1 r2 NF g4 k4) fa ta nf nt M w) (ha : FsO fa nf a) (f : FSt w a s 11 r) (ht : w.2.2 a 3 = some t) (hr : w.2.1 t 1 = nI l) (hl : l ≤ 2000) (h2 : cFd g4 l 2 = nI q) (h3 : cFd g4 l 3 = nI K) (hK : K < 10) :
    ∃ w', (VS cs lim dE A r1 r2 NF g4 k4) fa ta nf nt (F_Ma_endBody cs M A.ma (some a)) w' ∧ (∀ j, j < 10 → w'.1 a j = if j = K then s 10 else w.1 t j) ∧ w'.2.1 a 1 = nI 10 ∧ w'.2.1 a 2 = nI q ∧ w'.2.2 a 3 = none ∧ (∀ k, k ≠ 3 → w'.2.2 a k = w.2.2 a k) ∧ (∀ c, c ≠ a → Same w w' c) := by
  have q3 : cQ M a 3 = some t := by rw [h.Q (Or.inl ha)]; exact ht
  have hT : FsO ta nt t := (h.hs.fr ha).ha t q3
  have nat := h.neFT ha hT
  unfold F_Ma_endBody
  have hn : ¬ (some t : Option Nat) = none := by simp [si_1, si_2, sl_1, sl_2, sl_3, ai_1, ai_2, ai_3, ai_4, al_1, al_2, al_3, al_4, cp_1, cp_2, cp_3, cp_4]
  simp only [Option.getD_some, mbind_eq, q3, if_neg hn]
  obtain ⟨e1, w1, g1, f1, o1⟩ := h.fPop (H := 10) ha f (by omega) (by omega)
  generalize F_Fr_pop cs M a = w3 at e1 g1 ⊢
  rw [g1.lay.ma_0.2, e1]
  simp only [Option.getD_some]
  have er : cI w3.2 t 1 = nI l := by rw [g1.I (Or.inr (Or.inl hT)), (o1.same (Ne.symm nat)).2.1]; exact hr
  rw [er, g1.fld hl (j := 2) (x := 2) (by decide) rfl, h2]
  have g2 := g1.opens ha hT (nI q)
  generalize F_Fr_open cs w3.2 a (some t) (nI q) = M2 at g2 ⊢
  rw [g2.lay.ma_0.2]
  simp only [Option.getD_some]
  have sm : ∀ c, c ≠ a → Same w1 (vpq (vpi (vpi (vpS w1 a (fun j => if j < 10 then w1.1 t j else w1.1 a j)) a 2 (nI q)) a 1 (nI 10)) a 3 none) c := fun c hc => (((vpS_same hc).trans (vpi_same hc)).trans (vpi_same hc)).trans (vpq_same hc)
  have er2 : cI M2 t 1 = nI l := by rw [g2.I (Or.inr (Or.inl hT)), (sm t (Ne.symm nat)).2.1, (o1.same (Ne.symm nat)).2.1]; exact hr
  rw [er2, g2.fld hl (j := 3) (x := 3) (by decide) rfl, h3]
  have g3 := g2.give (v := s 10) ha rfl hK
  refine ⟨_, g3, fun j hj => ?_, ?_, ?_, ?_, fun k hk => ?_, fun c hc => ((o1.same hc).trans (sm c hc)).trans (vps_same hc)⟩
  · rw [vps_s]
    by_cases z : j = K
    · rw [if_pos ⟨rfl, z⟩, if_pos z]
    · rw [if_neg (fun y => z y.2), if_neg z, vpq_s, vpi_s, vpi_s, vpS_s, if_pos rfl, if_pos hj]
      exact (o1.same (Ne.symm nat)).1 j
  · rw [vps_i, vpq_i, vpi_i, if_pos ⟨rfl, rfl⟩]
  · rw [vps_i, vpq_i, vpi_i, if_neg (by omega), vpi_i, if_pos ⟨rfl, rfl⟩]
  · rw [vps_q, vpq_q, if_pos ⟨rfl, rfl⟩]
  · rw [vps_q, vpq_q, if_neg (fun z => hk z.2), vpi_q, vpi_q, vpS_q, o1.2.2]
end
end
