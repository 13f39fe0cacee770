-- pure rows: AP AQ
section
/-! pure rows: a value comes to a frame -/
theorem ite_same {c : Prop} {h : Decidable c} {p : Prop} (hp : p) : @ite Prop c h p p := by cases h <;> exact hp
theorem frm_mark {σ : mSt} {F i : Nat} {x : Int32} : frm (mo_si (mo_ai σ 40 F (-1)) 44 x) i = if i = F then ⟨-1, (frm σ F).stage, (frm σ F).val, (frm σ F).see⟩ else frm σ i := by
  by_cases h : i = F
  · subst h; rw [if_pos rfl]; unfold frm; simp [si_1, si_2, sl_1, sl_2, sl_3, ai_1, ai_2, ai_3, ai_4, al_1, al_2, al_3, al_4, cp_1, cp_2, cp_3, cp_4]
  · rw [if_neg h]; unfold frm; simp [si_1, si_2, sl_1, sl_2, sl_3, ai_1, ai_2, ai_3, ai_4, al_1, al_2, al_3, al_4, cp_1, cp_2, cp_3, cp_4, h]
theorem RunJ.marks {X : Cx} {S : Sto} {σ : mSt} {K q F c w v u tb : Nat} {d : Int} (hX : X.Ok) (arr : Arr X σ) (hp : Heap X S σ K q) (seg : Seg X S (frm σ) 0 F v u c d w) (f44 : (σ.1 44).toInt = F) (f49 : (σ.1 49).toInt = c + 1) (c400 : c + 1 ≤ 400) {x : Int32} {n : Nat} (hx : x.toInt = n) (good : Good X n) {g : Nat → Int} (ty : Ty X.A X.P X.tk X.gv g n tb) (see : SeeOk X.P S (nsee σ) g) (hs : Sbt X.P tb v) :
    S_Mo_workMarked σ x ∧ RFr σ (F_Mo_workMarked σ x) ∧ (F_Mo_workMarked σ x).1 47 = σ.1 47 ∧ RunOk X (F_Mo_workMarked σ x) (w + 1 + 3 * (X.A 12 n).toInt.toNat) := by
  have hb := seg.bound hX
  have v44 : vp_in (σ.1 44) 17000 := by clear seg hp ty see arr; ((try (simp only [vp_in, Int32.toNatClampNeg, Int32.lt_iff_toInt_lt, Int32.le_iff_toInt_le, ← Int32.toInt_inj, Int32.toInt_add, Int32.toInt_sub, Int32.toInt_mul, Int32.reduceToInt, i32_neg1, Nat.reducePow, Int.reducePow, ne_eq, ge_iff_le, gt_iff_lt] at *)) <;> (first | omega | ((simp (disch := omega) only [bm32] at *) <;> omega)))
  have e44 : (σ.1 44).toNatClampNeg = F := by clear seg hp ty see arr; ((try (simp only [vp_in, Int32.toNatClampNeg, Int32.lt_iff_toInt_lt, Int32.le_iff_toInt_le, ← Int32.toInt_inj, Int32.toInt_add, Int32.toInt_sub, Int32.toInt_mul, Int32.reduceToInt, i32_neg1, Nat.reducePow, Int.reducePow, ne_eq, ge_iff_le, gt_iff_lt] at *)) <;> (first | omega | ((simp (disch := omega) only [bm32] at *) <;> omega)))
  have e1 : (σ.1 44 + 1).toInt = F + 1 := by clear seg hp ty see arr; ((try (simp only [vp_in, Int32.toNatClampNeg, Int32.lt_iff_toInt_lt, Int32.le_iff_toInt_le, ← Int32.toInt_inj, Int32.toInt_add, Int32.toInt_sub, Int32.toInt_mul, Int32.reduceToInt, i32_neg1, Nat.reducePow, Int.reducePow, ne_eq, ge_iff_le, gt_iff_lt] at *)) <;> (first | omega | ((simp (disch := omega) only [bm32] at *) <;> omega)))
  simp only [S_Mo_workMarked, F_Mo_workMarked, mbind_eq, e44, ai_1, S_Mo_work]
  generalize hs2 : mo_si (mo_ai σ 40 F (-1)) 44 (σ.1 44 + 1) = σ2
  have fr : ∀ i, frm σ2 i = if i = F then ⟨-1, (frm σ F).stage, (frm σ F).val, (frm σ F).see⟩ else frm σ i := fun i => by rw [← hs2]; exact frm_mark
  have f2 : ∀ k, k ≠ 44 → σ2.1 k = σ.1 k := fun k hk => by rw [← hs2]; simp [si_1, si_2, sl_1, sl_2, sl_3, ai_1, ai_2, ai_3, ai_4, al_1, al_2, al_3, al_4, cp_1, cp_2, cp_3, cp_4, hk]
  have a2 : ∀ k, k ≠ 40 → σ2.2.2.1 k = σ.2.2.1 k := fun k hk => by rw [← hs2]; funext i; simp [si_1, si_2, sl_1, sl_2, sl_3, ai_1, ai_2, ai_3, ai_4, al_1, al_2, al_3, al_4, cp_1, cp_2, cp_3, cp_4, hk]
  have al2 : σ2.2.2.2 = σ.2.2.2 := by rw [← hs2]; rfl
  have f244 : (σ2.1 44).toInt = F + 1 := by rw [← hs2]; simp [si_1, si_2, sl_1, sl_2, sl_3, ai_1, ai_2, ai_3, ai_4, al_1, al_2, al_3, al_4, cp_1, cp_2, cp_3, cp_4, e1]
  have frF : frm σ2 F = ⟨-1, (frm σ F).stage, (frm σ F).val, (frm σ F).see⟩ := by rw [fr F, if_pos rfl]
  have sg := seg.push (get' := frm σ2) (fun i hi => by rw [fr i, if_neg (by omega)]) (t := tb) (by rw [frF]; exact .mark rfl hs) (by rw [frF]; left; rfl)
  have c1 : ctd X.A (frm σ2 F).node = 1 := by rw [frF]; rfl
  have d1 : dpt X.A (frm σ2 F).node = 41 := by rw [frF]; rfl
  have w1 : fw X.A (frm σ2 F) = 1 := by rw [frF]; rfl
  rw [c1, d1, w1] at sg
  refine ⟨⟨v44, trivial, trivial⟩, ⟨fun k hk => ?_, fun k hk => ?_⟩, ?_, S, K, q, F + 1, c + 1, w + 1, tb, u, 41, ⟨?_, ?_, ?_, ?_, c400, ?_⟩, Or.inr ⟨by simp [si_1, si_2, sl_1, sl_2, sl_3, ai_1, ai_2, ai_3, ai_4, al_1, al_2, al_3, al_4, cp_1, cp_2, cp_3, cp_4, F_Mo_work], n, ⟨?_, good, ?_, g, ty, ?_⟩, rfl⟩⟩
  · simp only [F_Mo_work, si_1]; rw [if_neg (by omega), if_neg (by omega), f2 k (by omega)]
  · simp only [F_Mo_work, si_2]; rw [a2 k (by omega)]
  · simp only [F_Mo_work, si_1]; rw [if_neg (by omega), if_neg (by omega), f2 47 (by omega)]
  · exact arr.congr (fun k h1 h2 => by simp only [F_Mo_work, si_2]; rw [a2 k (by omega)])
  · have th := hp.th
    refine hp.congr (fun k hk => ?_) ?_ (fun k hk => ?_) (fun k hk => ?_)
    · simp only [F_Mo_work, si_1]; rw [if_neg (by omega), if_neg (by omega), f2 k (by omega)]
    · simp only [F_Mo_work, si_1]; rw [if_neg (by omega), if_neg (by omega), f2 48 (by omega)]; omega
    · simp only [F_Mo_work, si_2]; rw [a2 k (by omega)]
    · simp only [F_Mo_work, si_2]; rw [al2]
  · simp only [F_Mo_work, si_1]; rw [if_neg (by omega), if_neg (by omega)]; exact f244
  · simp only [F_Mo_work, si_1]; rw [if_neg (by omega), if_neg (by omega), f2 49 (by omega)]; exact f49
  · exact sg
  · rw [show (F_Mo_work σ2 x).1 45 = x by simp [si_1, si_2, sl_1, sl_2, sl_3, ai_1, ai_2, ai_3, ai_4, al_1, al_2, al_3, al_4, cp_1, cp_2, cp_3, cp_4, F_Mo_work]]; exact hx
  · have := good.2.2; omega
  · have : nsee (F_Mo_work σ2 x) = nsee σ := by unfold nsee; simp only [F_Mo_work, si_2]; rw [al2]
    rw [this]; exact see
theorem FrameOk.un {X : Cx} {S : Sto} {f : Fr} {t u n : Nat} (h : FrameOk X S f t u) (hn : f.node.toInt = n) : Good X n ∧
    (((X.A 5 n).toInt = 4 ∧ ∃ (g : Nat → Int) (t0 u0 : Nat), SeeOk X.P S f.see g ∧ Sbt X.P t t0 ∧ Ty X.A X.P X.tk X.gv (env g (X.A 6 n).toInt.toNat t0) (X.A 10 n).toInt.toNat u0 ∧ Sbt X.P u0 u) ∨
     ((X.A 5 n).toInt = 6 ∧ ∃ (g : Nat → Int) (u0 : Nat), SeeOk X.P S f.see g ∧ Ty X.A X.P X.tk X.gv g (X.A 10 n).toInt.toNat u0 ∧ Ty X.A X.P X.tk X.gv g (X.A 11 n).toInt.toNat u0 ∧ Sbt X.P u0 u) ∨
     ((X.A 5 n).toInt = 8 ∧ ∃ (g : Nat → Int) (t0 u0 : Nat) (ks us : Nat → Nat), SeeOk X.P S f.see g ∧ Sbt X.P t t0 ∧ Ty X.A X.P X.tk X.gv (env g (X.A 6 n).toInt.toNat t0) (X.A 10 n).toInt.toNat u0 ∧ (∀ q, (X.A 14 n).toInt.toNat ≤ q → q < (X.A 14 n).toInt.toNat + (X.A 15 n).toInt.toNat → X.P.fn (ks q) (X.gv (X.A 16 q).toInt.toNat) u0 ∧ Ty X.A X.P X.tk X.gv (env (env g (X.A 17 q).toInt.toNat (X.tk (X.A 16 q).toInt.toNat)) (X.A 18 q).toInt.toNat (ks q)) (X.A 19 q).toInt.toNat (us q) ∧ X.P.fit (us q) u0) ∧ Sbt X.P u0 u) ∨
     ((X.A 5 n).toInt = 9 ∧ Sbt X.P (if (X.A 6 n).toInt < 3 then 0 else 1) u ∧ (f.stage = 0 → ∃ g, SeeOk X.P S f.see g ∧ Ty X.A X.P X.tk X.gv g (X.A 10 n).toInt.toNat 0)) ∨
     ((X.A 5 n).toInt = 10 ∧ f.stage = 0 ∧ ∃ (g : Nat → Int) (f0 a r t2 : Nat), SeeOk X.P S f.see g ∧ Sbt X.P t f0 ∧ X.P.fn f0 a r ∧ Ty X.A X.P X.tk X.gv g (X.A 10 n).toInt.toNat t2 ∧ X.P.fit t2 a ∧ Sbt X.P r u) ∨
     ((X.A 5 n).toInt = 10 ∧ f.stage ≠ 0 ∧ ∃ (f0 a r : Nat), V X.P S f.val f0 ∧ X.P.fn f0 a r ∧ Sbt X.P t a ∧ Sbt X.P r u) ∨
     ((X.A 5 n).toInt = 11 ∧ Sbt X.P t (X.tk (X.A 6 n).toInt.toNat) ∧ Sbt X.P (X.gv (X.A 6 n).toInt.toNat) u)) := by
  cases h using FrameOk.cs with
  | mark a b => rw [a] at hn; simp only [i32_neg1] at hn; omega
  | lett n' g t0 u0 a b c d e f g =>
    have : n' = n := by omega
    subst this
    exact ⟨b, Or.inl ⟨c, _, _, _, d, e, f, g⟩⟩
  | ite n' g u0 a b c d e f g =>
    have : n' = n := by omega
    subst this
    exact ⟨b, Or.inr (Or.inl ⟨c, _, _, d, e, f, g⟩)⟩
  | han n' g t0 u0 ks us a b c d e f g h =>
    have : n' = n := by omega
    subst this
    exact ⟨b, Or.inr (Or.inr (Or.inl ⟨c, _, _, _, ks, us, d, e, f, g, h⟩))⟩
  | two0 n' g a b c d e f g =>
    have : n' = n := by omega
    subst this
    exact ⟨b, Or.inr (Or.inr (Or.inr (Or.inl ⟨c, g, fun _ => ⟨_, e, f⟩⟩)))⟩
  | two1 n' a b c d e =>
    have : n' = n := by omega
    subst this
    exact ⟨b, Or.inr (Or.inr (Or.inr (Or.inl ⟨c, e, fun h => absurd h d⟩)))⟩
  | cal0 n' g f0 a r t2 a' b c d e f g h i j =>
    have : n' = n := by omega
    subst this
    exact ⟨b, Or.inr (Or.inr (Or.inr (Or.inr (Or.inl ⟨c, d, _, f0, a, r, t2, e, f, g, h, i, j⟩))))⟩
  | cal1 n' f0 a r a' b c d e f g h =>
    have : n' = n := by omega
    subst this
    exact ⟨b, Or.inr (Or.inr (Or.inr (Or.inr (Or.inr (Or.inl ⟨c, d, f0, a, r, e, f, g, h⟩)))))⟩
  | per n' a b c d e =>
    have : n' = n := by omega
    subst this
    exact ⟨b, Or.inr (Or.inr (Or.inr (Or.inr (Or.inr (Or.inr ⟨c, d, e⟩)))))⟩
theorem FrameOk.at1 {X : Cx} {S : Sto} {f : Fr} {t u : Nat} (h : FrameOk X S f t u) (hm : f.node = -1) : Sbt X.P t u := by
  have hm' : f.node.toInt = -1 := by rw [hm]; rfl
  cases h using FrameOk.cs with
  | mark _ b => exact b
  | _ => omega
/-- what is found at the top -/
def Top (X : Cx) (S : Sto) (σ : mSt) (F v u c t w : Nat) (d : Int) (c0 w0 : Nat) : Prop := (Seg X S (frm σ) 0 F v u c d w) ∧ (FrameOk X S (frm σ F) t v) ∧ (ctd X.A (frm σ F).node = 1 ∨ dpt X.A (frm σ F).node < d) ∧ (c0 = c + ctd X.A (frm σ F).node) ∧ (w0 = w + fw X.A (frm σ F))
theorem Top.seg {X : Cx} {S : Sto} {σ : mSt} {F v u c t w : Nat} {d : Int} {c0 w0 : Nat} (self : Top X S σ F v u c t w d c0 w0) : Seg X S (frm σ) 0 F v u c d w := self.1
theorem Top.ok {X : Cx} {S : Sto} {σ : mSt} {F v u c t w : Nat} {d : Int} {c0 w0 : Nat} (self : Top X S σ F v u c t w d c0 w0) : FrameOk X S (frm σ F) t v := self.2.1
theorem Top.ch {X : Cx} {S : Sto} {σ : mSt} {F v u c t w : Nat} {d : Int} {c0 w0 : Nat} (self : Top X S σ F v u c t w d c0 w0) : ctd X.A (frm σ F).node = 1 ∨ dpt X.A (frm σ F).node < d := self.2.2.1
theorem Top.hc {X : Cx} {S : Sto} {σ : mSt} {F v u c t w : Nat} {d : Int} {c0 w0 : Nat} (self : Top X S σ F v u c t w d c0 w0) : c0 = c + ctd X.A (frm σ F).node := self.2.2.2.1
theorem Top.hw {X : Cx} {S : Sto} {σ : mSt} {F v u c t w : Nat} {d : Int} {c0 w0 : Nat} (self : Top X S σ F v u c t w d c0 w0) : w0 = w + fw X.A (frm σ F) := self.2.2.2.2
theorem RunJ.top {X : Cx} {S : Sto} {σ : mSt} {K q F c w t u : Nat} {d : Int} (r : RunJ X S σ K q (F + 1) c w t u d) : ∃ v c' w' d', Top X S σ F v u c' t w' d' c w ∧ d = dpt X.A (frm σ F).node := by
  obtain ⟨v, c', d', w', h1, h2, h3, h4, h5, h6⟩ := r.seg.inv
  rw [Nat.zero_add] at h2 h3 h4 h5 h6
  exact ⟨v, c', w', d', ⟨h1, h2, h3, h4, h6⟩, h5⟩
theorem comes_mark {X : Cx} (hX : X.Ok) {S : Sto} {σ : mSt} {K q F c w t u : Nat} {d : Int} (r : RunJ X S σ K q (F + 1) c w t u d) (h51 : σ.1 51 ≠ 0) (hv : V X.P S σ.2.1 t) (hm : (frm σ F).node = -1) : StepR X σ (mo_si (mo_si σ 44 (σ.1 44 - 1)) 49 (σ.1 49 - 1)) w := by
  obtain ⟨v, c', w', d', tp, _⟩ := r.top
  have f44 := r.f44
  have f49 := r.f49
  have c400 := r.c400
  have hF := r.F hX
  have c1 : ctd X.A (frm σ F).node = 1 := by rw [hm]; rfl
  have w1 : fw X.A (frm σ F) = 1 := by unfold fw; rw [if_pos hm]
  have hc := tp.hc
  have hw := tp.hw
  rw [c1] at hc
  rw [w1] at hw
  have hsub : Sbt X.P t v := tp.ok.at1 hm
  have i1 : (σ.1 44 - 1).toInt = F := by clear r tp hv; ((try (simp only [vp_in, Int32.toNatClampNeg, Int32.lt_iff_toInt_lt, Int32.le_iff_toInt_le, ← Int32.toInt_inj, Int32.toInt_add, Int32.toInt_sub, Int32.toInt_mul, Int32.reduceToInt, i32_neg1, Nat.reducePow, Int.reducePow, ne_eq, ge_iff_le, gt_iff_lt] at *)) <;> (first | omega | ((simp (disch := omega) only [bm32] at *) <;> omega)))
  have i2 : (σ.1 49 - 1).toInt = c' := by clear r tp hv; ((try (simp only [vp_in, Int32.toNatClampNeg, Int32.lt_iff_toInt_lt, Int32.le_iff_toInt_le, ← Int32.toInt_inj, Int32.toInt_add, Int32.toInt_sub, Int32.toInt_mul, Int32.reduceToInt, i32_neg1, Nat.reducePow, Int.reducePow, ne_eq, ge_iff_le, gt_iff_lt] at *)) <;> (first | omega | ((simp (disch := omega) only [bm32] at *) <;> omega)))
  have th := r.hp.th
  have r' : RunJ X S (mo_si (mo_si σ 44 (σ.1 44 - 1)) 49 (σ.1 49 - 1)) K q F c' w' v u d' := r.to (fun _ _ _ _ => rfl) (fun _ _ _ _ => rfl) (fun k hk => by simp only [si_1]; rw [if_neg (by omega), if_neg (by omega)]) (by simp only [si_1]; rw [if_neg (by omega), if_neg (by omega)]; omega) (by simp [si_1, si_2, sl_1, sl_2, sl_3, ai_1, ai_2, ai_3, ai_4, al_1, al_2, al_3, al_4, cp_1, cp_2, cp_3, cp_4, i1]) (by simp [si_1, si_2, sl_1, sl_2, sl_3, ai_1, ai_2, ai_3, ai_4, al_1, al_2, al_3, al_4, cp_1, cp_2, cp_3, cp_4, i2]) (by omega) tp.seg
  refine ⟨(RFr.rfl'.si (by omega)).si (by omega), by simp [si_1, si_2, sl_1, sl_2, sl_3, ai_1, ai_2, ai_3, ai_4, al_1, al_2, al_3, al_4, cp_1, cp_2, cp_3, cp_4], fun _ => ⟨w', ⟨S, K, q, F, c', w', v, u, d', r', Or.inl ⟨by simpa [si_1, si_2, sl_1, sl_2, sl_3, ai_1, ai_2, ai_3, ai_4, al_1, al_2, al_3, al_4, cp_1, cp_2, cp_3, cp_4] using h51, hv.sub hX.fo hsub, rfl⟩⟩, by omega⟩⟩
/-- a value comes to the first part of two or call -/
theorem comes_second {X : Cx} (hX : X.Ok) {S : Sto} {σ : mSt} {K q F c w t u : Nat} {d : Int} (r : RunJ X S σ K q (F + 1) c w t u d) (hv : V X.P S σ.2.1 t) {nd : Nat} (hn : (frm σ F).node.toInt = nd) (h9 : (X.A 5 nd).toInt = 9 ∨ (X.A 5 nd).toInt = 10) (hst : (frm σ F).stage = 0) :
    StepR X σ (F_Mo_work (cp (mo_ai (mo_al σ 42 F σ.2.1) 41 F 1) 53 0 43 (10 * F) 0) (X.A 10 nd)) w := by
  obtain ⟨v, c', w', d', tp, hd⟩ := r.top
  obtain ⟨good, un⟩ := tp.ok.un hn
  obtain ⟨ct, dt, ne, en1, en2⟩ := ctd_of (X := X) hn
  have hp := good.part hX (parts_b (n := nd) (by omega))
  have hpb := hX.pb nd good.1 (by omega)
  generalize hs2 : cp (mo_ai (mo_al σ 42 F σ.2.1) 41 F 1) 53 0 43 (10 * F) 0 = σ2
  have f2 : σ2.1 = σ.1 := by rw [← hs2]; rfl
  have a2 : ∀ k, k ≠ 41 → σ2.2.2.1 k = σ.2.2.1 k := fun k hk => by rw [← hs2]; funext i; simp [si_1, si_2, sl_1, sl_2, sl_3, ai_1, ai_2, ai_3, ai_4, al_1, al_2, al_3, al_4, cp_1, cp_2, cp_3, cp_4, hk]
  have al2 : ∀ k, k ≠ 42 → k ≠ 53 → σ2.2.2.2 k = σ.2.2.2 k := fun k h1 h2 => by rw [← hs2]; funext i; simp [si_1, si_2, sl_1, sl_2, sl_3, ai_1, ai_2, ai_3, ai_4, al_1, al_2, al_3, al_4, cp_1, cp_2, cp_3, cp_4, h1, h2]
  have frF : frm σ2 F = ⟨(frm σ F).node, 1, σ.2.1, (frm σ F).see⟩ := by
    rw [← hs2]; unfold frm
    simp (decide := true) only [cp_3, cp_4, ai_3, ai_4, al_3, al_4, if_true, if_false, false_and, and_self]
    congr 1
  have fri : ∀ i, i < F → frm σ2 i = frm σ i := by
    intro i hi
    have hne : i ≠ F := by omega
    rw [← hs2]; unfold frm
    simp (decide := true) only [cp_3, cp_4, ai_3, ai_4, al_3, al_4, if_true, if_false, false_and, and_self, hne, and_false]
    congr 1
  have ns : nsee σ2 = (frm σ F).see := by
    rw [← hs2, nsee_cp]
    unfold frm; simp only [Fr.see_mk]
    apply seen_congr; intro k hk; simp [si_1, si_2, sl_1, sl_2, sl_3, ai_1, ai_2, ai_3, ai_4, al_1, al_2, al_3, al_4, cp_1, cp_2, cp_3, cp_4]
  have fin : ∀ t1 g, FrameOk X S ⟨(frm σ F).node, 1, σ.2.1, (frm σ F).see⟩ t1 v → Ty X.A X.P X.tk X.gv g (X.A 10 nd).toInt.toNat t1 → SeeOk X.P S (frm σ F).see g → StepR X σ (F_Mo_work σ2 (X.A 10 nd)) w := by
    intro t1 g fok ty see
    have sg := tp.seg.push (get' := frm σ2) fri (t := t1) (by rw [frF]; exact fok) (by rw [frF]; exact tp.ch)
    rw [frF] at sg
    simp only [← tp.hc] at sg
    have th := r.hp.th
    have r2 : RunJ X S σ2 K q (F + 1) c _ t1 u _ := r.to (fun k _ h2 _ => a2 k h2) (fun k h1 h2 h3 => al2 k h1 h3) (fun k _ => by rw [f2]) (by rw [f2]; omega) (by rw [f2]; exact r.f44) (by rw [f2]; exact r.f49) r.c400 sg
    refine ⟨⟨fun k hk => ?_, fun k hk => ?_⟩, ?_, fun _ => ⟨_, ⟨S, K, q, F + 1, c, _, t1, u, _, r2.congr (fun k hk => ?_) (fun _ _ => rfl) (fun _ _ => rfl), Or.inr ⟨by simp [si_1, si_2, sl_1, sl_2, sl_3, ai_1, ai_2, ai_3, ai_4, al_1, al_2, al_3, al_4, cp_1, cp_2, cp_3, cp_4, F_Mo_work], (X.A 10 nd).toInt.toNat, ⟨?_, hp.1, ?_, g, ty, ?_⟩, rfl⟩⟩, ?_⟩⟩
    · simp only [F_Mo_work, si_1]; rw [if_neg (by omega), if_neg (by omega), f2]
    · simp only [F_Mo_work, si_2]; rw [a2 k (by omega)]
    · simp only [F_Mo_work, si_1]; rw [if_neg (by omega), if_neg (by omega), f2]
    · simp only [F_Mo_work, si_1]; rw [if_neg (by omega), if_neg (by omega)]
    · rw [show (F_Mo_work σ2 (X.A 10 nd)).1 45 = X.A 10 nd by simp [si_1, si_2, sl_1, sl_2, sl_3, ai_1, ai_2, ai_3, ai_4, al_1, al_2, al_3, al_4, cp_1, cp_2, cp_3, cp_4, F_Mo_work]]; omega
    · simp only [dt]; exact hp.2.1
    · have : nsee (F_Mo_work σ2 (X.A 10 nd)) = nsee σ2 := rfl
      rw [this, ns]; exact see
    · have e1 : fw X.A ⟨(frm σ F).node, 1, σ.2.1, (frm σ F).see⟩ = 1 := by
        unfold fw
        simp only [if_neg ne, en2]
        rw [if_neg (by omega), if_neg (by omega), if_pos ⟨by omega, show (1 : Int32) ≠ 0 by decide⟩]
      have e2 : fw X.A (frm σ F) = sz3 X.A (X.A 10 nd) + 2 := by
        unfold fw
        simp only [if_neg ne, en2, hst]
        rw [if_neg (by omega), if_neg (by omega), if_neg (by simp [si_1, si_2, sl_1, sl_2, sl_3, ai_1, ai_2, ai_3, ai_4, al_1, al_2, al_3, al_4, cp_1, cp_2, cp_3, cp_4])]
      have hw := tp.hw
      rw [e2] at hw
      rw [e1]
      unfold sz3 at hw
      omega
  rcases un with ⟨k, un⟩ | ⟨k, un⟩ | ⟨k, un⟩ | ⟨k, s1, s2⟩ | ⟨k, _, g, f0, a, rr, t2, h1, h2, h3, h4, h5, h6⟩ | ⟨k, ks, un⟩ | ⟨k, un⟩
  · omega
  · omega
  · omega
  · obtain ⟨g, h1, h2⟩ := s2 hst
    exact fin 0 g (.two1 nd hn good k (show (1 : Int32) ≠ 0 by decide) s1) h2 h1
  · exact fin t2 g (.cal1 nd f0 a rr hn good k (show (1 : Int32) ≠ 0 by decide) (hv.sub hX.fo h2) h3 (.of h5) h6) h4 h1
  · exact absurd hst ks
  · omega

/-- a value comes to a frame that then goes -/
theorem goesBehind_ok {X : Cx} (hX : X.Ok) {S : Sto} {σ : mSt} {K q F c w t u : Nat} {d : Int} (r : RunJ X S σ K q (F + 1) c w t u d) (hv : V X.P S σ.2.1 t) {nd : Nat} (hn : (frm σ F).node.toInt = nd) (h9 : (X.A 5 nd).toInt = 9 ∧ (frm σ F).stage ≠ 0 ∨ (X.A 5 nd).toInt = 4 ∨ (X.A 5 nd).toInt = 6 ∨ (X.A 5 nd).toInt = 8) {x1 x2 : Int32} (hx1 : x1.toInt = F) (hx2 : x2.toInt = nd) {n : Nat} (hn12 : 12 ≤ n) :
    S_Mo_goesBehind n σ x1 x2 ∧ StepR X σ (F_Mo_goesBehind n σ x1 x2) w := by
  obtain ⟨v, c', w', d', tp, hd⟩ := r.top
  obtain ⟨good, un⟩ := tp.ok.un hn
  obtain ⟨ct, dt, ne, en1, en2⟩ := ctd_of (X := X) hn
  have hF := r.F hX
  have hN := hX.hN
  have g1 := good.1
  have f44 := r.f44
  have f49 := r.f49
  have c400 := r.c400
  have e2 : x2.toNatClampNeg = nd := by show x2.toInt.toNat = nd; omega
  have e1 : x1.toNatClampNeg = F := by show x1.toInt.toNat = F; omega
  have v2 : vp_in x2 200 := by clear r tp hv un; ((try (simp only [vp_in, Int32.toNatClampNeg, Int32.lt_iff_toInt_lt, Int32.le_iff_toInt_le, ← Int32.toInt_inj, Int32.toInt_add, Int32.toInt_sub, Int32.toInt_mul, Int32.reduceToInt, i32_neg1, Nat.reducePow, Int.reducePow, ne_eq, ge_iff_le, gt_iff_lt] at *)) <;> (first | omega | ((simp (disch := omega) only [bm32] at *) <;> omega)))
  have v1 : vp_in x1 17000 := by clear r tp hv un; ((try (simp only [vp_in, Int32.toNatClampNeg, Int32.lt_iff_toInt_lt, Int32.le_iff_toInt_le, ← Int32.toInt_inj, Int32.toInt_add, Int32.toInt_sub, Int32.toInt_mul, Int32.reduceToInt, i32_neg1, Nat.reducePow, Int.reducePow, ne_eq, ge_iff_le, gt_iff_lt] at *)) <;> (first | omega | ((simp (disch := omega) only [bm32] at *) <;> omega)))
  have i44 : (σ.1 44 - 1).toInt = F := by clear r tp hv un; ((try (simp only [vp_in, Int32.toNatClampNeg, Int32.lt_iff_toInt_lt, Int32.le_iff_toInt_le, ← Int32.toInt_inj, Int32.toInt_add, Int32.toInt_sub, Int32.toInt_mul, Int32.reduceToInt, i32_neg1, Nat.reducePow, Int.reducePow, ne_eq, ge_iff_le, gt_iff_lt] at *)) <;> (first | omega | ((simp (disch := omega) only [bm32] at *) <;> omega)))
  have th := r.hp.th
  have hc := tp.hc
  have hw := tp.hw
  rw [ct] at hc
  have E : ∀ k, 5 ≤ k → k ≤ 19 → ∀ i, i < bnd X k → σ.2.2.1 k i = X.A k i := r.arr
  have e5 := E 5 (by omega) (by omega) nd g1
  obtain ⟨ss, sf⟩ := seeAgain_ok (σ := σ) (F := F) (by omega) hx1 hn12
  -- work goes on with a part, in what the frame saw
  have fin : ∀ (σ1 : mSt) (x : Int32) (p : Nat) (g : Nat → Int) (t1 : Nat), (∀ k, k ≠ 44 → σ1.1 k = σ.1 k) → (σ1.1 44).toInt = F → σ1.2.2.1 = σ.2.2.1 → (∀ k, k ≠ 53 → σ1.2.2.2 k = σ.2.2.2 k) → (X.A 5 nd).toInt ≠ 8 → x.toInt = p → p ∈ parts X.A nd → 3 * (X.A 12 p).toInt.toNat + 2 ≤ fw X.A (frm σ F) → Ty X.A X.P X.tk X.gv g p t1 → SeeOk X.P S (nsee σ1) g → Sbt X.P t1 v → StepR X σ (F_Mo_work σ1 x) w := by
    intro σ1 x p g t1 h1 h2 h3 h4 h8 hx hp hfw ty see hs
    have gp := good.part hX hp
    have r' : RunJ X S σ1 K q F c' w' t1 u d' := r.to (fun k _ _ _ => by rw [h3]) (fun k _ _ h => h4 k h) (fun k hk => h1 k (by omega)) (by rw [h1 48 (by omega)]; omega) h2 (by rw [h1 49 (by omega)]; rw [if_neg h8] at hc; omega) (by omega) (by
      rw [frm_of (σ := σ) (σ' := σ1) (fun k _ => by rw [h3]) (fun k hk => h4 k (by omega))]; exact tp.seg.sub hs)
    refine ⟨⟨fun k hk => ?_, fun k hk => ?_⟩, ?_, fun _ => ⟨_, ⟨S, K, q, F, c', w', t1, u, d', r'.congr (fun k hk => ?_) (fun _ _ => rfl) (fun _ _ => rfl), Or.inr ⟨by simp [si_1, si_2, sl_1, sl_2, sl_3, ai_1, ai_2, ai_3, ai_4, al_1, al_2, al_3, al_4, cp_1, cp_2, cp_3, cp_4, F_Mo_work], p, ⟨?_, gp.1, ?_, g, ty, see⟩, rfl⟩⟩, by omega⟩⟩
    · simp only [F_Mo_work, si_1]; rw [if_neg (by omega), if_neg (by omega), h1 k (by omega)]
    · simp only [F_Mo_work, si_2]; rw [h3]
    · simp only [F_Mo_work, si_1]; rw [if_neg (by omega), if_neg (by omega), h1 47 (by omega)]
    · simp only [F_Mo_work, si_1]; rw [if_neg (by omega), if_neg (by omega)]
    · rw [show (F_Mo_work σ1 x).1 45 = x by simp [si_1, si_2, sl_1, sl_2, sl_3, ai_1, ai_2, ai_3, ai_4, al_1, al_2, al_3, al_4, cp_1, cp_2, cp_3, cp_4, F_Mo_work]]; exact hx
    · have := tp.ch
      rw [ct, dt, if_neg h8] at this
      omega
  have ns : nsee (mo_si (cp σ 53 0 43 (10 * F) 0) 44 (σ.1 44 - 1)) = (frm σ F).see := by
    show nsee (cp σ 53 0 43 (10 * F) 0) = _
    exact nsee_cp
  rcases h9 with ⟨h9, hst⟩ | h4 | h6 | h8
  · -- two
    have k9 : X.A 5 nd = 9 := by clear r tp hv un fin; ((try (simp only [vp_in, Int32.toNatClampNeg, Int32.lt_iff_toInt_lt, Int32.le_iff_toInt_le, ← Int32.toInt_inj, Int32.toInt_add, Int32.toInt_sub, Int32.toInt_mul, Int32.reduceToInt, i32_neg1, Nat.reducePow, Int.reducePow, ne_eq, ge_iff_le, gt_iff_lt] at *)) <;> (first | omega | ((simp (disch := omega) only [bm32] at *) <;> omega)))
    simp only [S_Mo_goesBehind, F_Mo_goesBehind, e2, e5, if_pos k9, e1, mbind_eq]
    have rk : ∀ a b : Int32, S_Mo_reckoned σ (σ.2.2.1 6 nd) a b ∧ (F_Mo_reckoned σ (σ.2.2.1 6 nd) a b).2 = σ := by
      intro a b
      simp only [S_Mo_reckoned, F_Mo_reckoned]
      constructor
      · repeat' split
        all_goals trivial
      · repeat' split
        all_goals rfl
    obtain ⟨k1, k2⟩ := rk (σ.2.2.2 42 F).toInt32 σ.2.1.toInt32
    rw [k2]
    have hv' : Sbt X.P (if (X.A 6 nd).toInt < 3 then 0 else 1) v := by
      rcases un with ⟨k, un⟩ | ⟨k, un⟩ | ⟨k, un⟩ | ⟨k, s1, s2⟩ | ⟨k, un⟩ | ⟨k, ks, un⟩ | ⟨k, un⟩
      all_goals first | exact s1 | omega
    have hvl : v < 3 := by have := hv'.lo hX.fo (by split <;> omega); rw [← this]; split <;> omega
    generalize (F_Mo_reckoned σ (σ.2.2.1 6 nd) (σ.2.2.2 42 F).toInt32 σ.2.1.toInt32).1.toInt64 = vv
    refine ⟨⟨v2, v2, v1, k1, trivial, trivial⟩, ?_⟩
    have fw1 : fw X.A (frm σ F) = 1 := by
      unfold fw
      simp only [if_neg ne, en2]
      rw [if_neg (by omega), if_neg (by omega), if_pos ⟨by omega, hst⟩]
    have hg44 : (F_Mo_give σ vv).1 44 = σ.1 44 := by simp [si_1, si_2, sl_1, sl_2, sl_3, ai_1, ai_2, ai_3, ai_4, al_1, al_2, al_3, al_4, cp_1, cp_2, cp_3, cp_4, F_Mo_give]
    rw [hg44]
    have r' : RunJ X S (mo_si (F_Mo_give σ vv) 44 (σ.1 44 - 1)) K q F c' w' v u d' := r.to (fun k _ _ _ => rfl) (fun k _ _ h => rfl) (fun k hk => by simp only [F_Mo_give, si_1, sl_1]; rw [if_neg (by omega), if_neg (by omega)]) (by simp only [F_Mo_give, si_1, sl_1]; rw [if_neg (by omega), if_neg (by omega)]; omega) (by simp [si_1, si_2, sl_1, sl_2, sl_3, ai_1, ai_2, ai_3, ai_4, al_1, al_2, al_3, al_4, cp_1, cp_2, cp_3, cp_4, i44]) (by simp only [F_Mo_give, si_1, sl_1]; rw [if_neg (by omega), if_neg (by omega)]; rw [if_neg (by omega)] at hc; omega) (by omega) tp.seg
    refine ⟨give_fr.1.si (by omega), by simp [si_1, si_2, sl_1, sl_2, sl_3, ai_1, ai_2, ai_3, ai_4, al_1, al_2, al_3, al_4, cp_1, cp_2, cp_3, cp_4, F_Mo_give], fun _ => ⟨w', ⟨S, K, q, F, c', w', v, u, d', r', Or.inl ⟨by simp [si_1, si_2, sl_1, sl_2, sl_3, ai_1, ai_2, ai_3, ai_4, al_1, al_2, al_3, al_4, cp_1, cp_2, cp_3, cp_4, F_Mo_give], V.lo hvl, rfl⟩⟩, by omega⟩⟩
  · -- let
    have k9 : ¬ X.A 5 nd = 9 := by clear r tp hv un fin; ((try (simp only [vp_in, Int32.toNatClampNeg, Int32.lt_iff_toInt_lt, Int32.le_iff_toInt_le, ← Int32.toInt_inj, Int32.toInt_add, Int32.toInt_sub, Int32.toInt_mul, Int32.reduceToInt, i32_neg1, Nat.reducePow, Int.reducePow, ne_eq, ge_iff_le, gt_iff_lt] at *)) <;> (first | omega | ((simp (disch := omega) only [bm32] at *) <;> omega)))
    have k6 : ¬ X.A 5 nd = 6 := by clear r tp hv un fin; ((try (simp only [vp_in, Int32.toNatClampNeg, Int32.lt_iff_toInt_lt, Int32.le_iff_toInt_le, ← Int32.toInt_inj, Int32.toInt_add, Int32.toInt_sub, Int32.toInt_mul, Int32.reduceToInt, i32_neg1, Nat.reducePow, Int.reducePow, ne_eq, ge_iff_le, gt_iff_lt] at *)) <;> (first | omega | ((simp (disch := omega) only [bm32] at *) <;> omega)))
    have k8 : ¬ X.A 5 nd = 8 := by clear r tp hv un fin; ((try (simp only [vp_in, Int32.toNatClampNeg, Int32.lt_iff_toInt_lt, Int32.le_iff_toInt_le, ← Int32.toInt_inj, Int32.toInt_add, Int32.toInt_sub, Int32.toInt_mul, Int32.reduceToInt, i32_neg1, Nat.reducePow, Int.reducePow, ne_eq, ge_iff_le, gt_iff_lt] at *)) <;> (first | omega | ((simp (disch := omega) only [bm32] at *) <;> omega)))
    have nm := hX.nm nd g1 (by omega)
    have hpb := hX.pb nd g1 (by omega)
    have v6 : vp_in (X.A 6 nd) 10 := by clear r tp hv un fin; ((try (simp only [vp_in, Int32.toNatClampNeg, Int32.lt_iff_toInt_lt, Int32.le_iff_toInt_le, ← Int32.toInt_inj, Int32.toInt_add, Int32.toInt_sub, Int32.toInt_mul, Int32.reduceToInt, i32_neg1, Nat.reducePow, Int.reducePow, ne_eq, ge_iff_le, gt_iff_lt] at *)) <;> (first | omega | ((simp (disch := omega) only [bm32] at *) <;> omega)))
    simp only [S_Mo_goesBehind, F_Mo_goesBehind, e2, e5, if_neg k9, mbind_eq, sf, si_2, cp_3, if_neg k6, E 6 (by omega) (by omega) nd g1, al_3, if_neg k8, E 10 (by omega) (by omega) nd g1, cp_1, S_Mo_work]
    have y6 : (X.A 6 nd).toNatClampNeg = (X.A 6 nd).toInt.toNat := rfl
    rw [y6]
    refine ⟨⟨v2, ss, v2, v2, v6, v2, v2, trivial, trivial⟩, ?_⟩
    have e := nsee_al (σ := mo_si (cp σ 53 0 43 (10 * F) 0) 44 (σ.1 44 - 1)) (y := (X.A 6 nd).toInt.toNat) (v := σ.2.1) (by omega)
    rcases un with ⟨k, g, t0, u0, s1, s2, s3, s4⟩ | ⟨k, un⟩ | ⟨k, un⟩ | ⟨k, un⟩ | ⟨k, un⟩ | ⟨k, ks, un⟩ | ⟨k, un⟩
    · refine fin _ (X.A 10 nd) _ (env g (X.A 6 nd).toInt.toNat t0) u0 (fun k hk => by simp [si_1, si_2, sl_1, sl_2, sl_3, ai_1, ai_2, ai_3, ai_4, al_1, al_2, al_3, al_4, cp_1, cp_2, cp_3, cp_4, hk]) (by simp [si_1, si_2, sl_1, sl_2, sl_3, ai_1, ai_2, ai_3, ai_4, al_1, al_2, al_3, al_4, cp_1, cp_2, cp_3, cp_4, i44]) rfl (fun k hk => by funext i; simp [si_1, si_2, sl_1, sl_2, sl_3, ai_1, ai_2, ai_3, ai_4, al_1, al_2, al_3, al_4, cp_1, cp_2, cp_3, cp_4, hk]) (by omega) (Int.toNat_of_nonneg hpb).symm (parts_b (by omega)) ?_ s3 ?_ s4
      · unfold fw
        simp only [if_neg ne, en2]
        rw [if_neg (by omega), if_neg (by omega), if_neg (by omega)]
        exact Nat.le_refl _
      · refine s1.xenv ?_ (fun k hk hne => ?_)
        · have := e.1
          first | (simp only [cp_2, si_2] at this ⊢) | skip
          rw [this]; exact hv.sub hX.fo s2
        · have := e.2 k hk hne
          first | (simp only [cp_2, si_2] at this ⊢) | skip
          rw [this, ns]
    all_goals omega
  · -- if
    have k9 : ¬ X.A 5 nd = 9 := by clear r tp hv un fin; ((try (simp only [vp_in, Int32.toNatClampNeg, Int32.lt_iff_toInt_lt, Int32.le_iff_toInt_le, ← Int32.toInt_inj, Int32.toInt_add, Int32.toInt_sub, Int32.toInt_mul, Int32.reduceToInt, i32_neg1, Nat.reducePow, Int.reducePow, ne_eq, ge_iff_le, gt_iff_lt] at *)) <;> (first | omega | ((simp (disch := omega) only [bm32] at *) <;> omega)))
    have k6 : X.A 5 nd = 6 := by clear r tp hv un fin; ((try (simp only [vp_in, Int32.toNatClampNeg, Int32.lt_iff_toInt_lt, Int32.le_iff_toInt_le, ← Int32.toInt_inj, Int32.toInt_add, Int32.toInt_sub, Int32.toInt_mul, Int32.reduceToInt, i32_neg1, Nat.reducePow, Int.reducePow, ne_eq, ge_iff_le, gt_iff_lt] at *)) <;> (first | omega | ((simp (disch := omega) only [bm32] at *) <;> omega)))
    have hpb := hX.pb nd g1 (by omega)
    have hpc := hX.pc nd g1 (by omega)
    simp only [S_Mo_goesBehind, F_Mo_goesBehind, e2, e5, if_neg k9, mbind_eq, sf, si_2, cp_3, if_pos k6, E 11 (by omega) (by omega) nd g1, E 10 (by omega) (by omega) nd g1, cp_1, cp_2, S_Mo_work]
    have hfw : fw X.A (frm σ F) = sz3 X.A (X.A 10 nd) + sz3 X.A (X.A 11 nd) + 2 := by
      unfold fw
      simp only [if_neg ne, en2]
      rw [if_pos h6]
    rcases un with ⟨k, un⟩ | ⟨k, g, u0, s1, s2, s3, s4⟩ | ⟨k, un⟩ | ⟨k, un⟩ | ⟨k, un⟩ | ⟨k, ks, un⟩ | ⟨k, un⟩
    · omega
    · by_cases hz : lg_cmp σ.2.1 0 = 0
      · simp only [if_pos hz, ite_self]
        refine ⟨⟨v2, ss, v2, ite_same ⟨v2, trivial, trivial⟩⟩, fin _ (X.A 11 nd) _ g u0 (fun k hk => by simp [si_1, si_2, sl_1, sl_2, sl_3, ai_1, ai_2, ai_3, ai_4, al_1, al_2, al_3, al_4, cp_1, cp_2, cp_3, cp_4, hk]) (by simp [si_1, si_2, sl_1, sl_2, sl_3, ai_1, ai_2, ai_3, ai_4, al_1, al_2, al_3, al_4, cp_1, cp_2, cp_3, cp_4, i44]) rfl (fun k hk => by funext i; simp [si_1, si_2, sl_1, sl_2, sl_3, ai_1, ai_2, ai_3, ai_4, al_1, al_2, al_3, al_4, cp_1, cp_2, cp_3, cp_4, hk]) (by omega) (Int.toNat_of_nonneg hpc).symm (parts_c (by omega)) (by rw [hfw]; unfold sz3; omega) s3 (by rw [ns]; exact s1) s4⟩
      · simp only [if_neg hz, ite_self]
        refine ⟨⟨v2, ss, v2, ite_same ⟨v2, trivial, trivial⟩⟩, fin _ (X.A 10 nd) _ g u0 (fun k hk => by simp [si_1, si_2, sl_1, sl_2, sl_3, ai_1, ai_2, ai_3, ai_4, al_1, al_2, al_3, al_4, cp_1, cp_2, cp_3, cp_4, hk]) (by simp [si_1, si_2, sl_1, sl_2, sl_3, ai_1, ai_2, ai_3, ai_4, al_1, al_2, al_3, al_4, cp_1, cp_2, cp_3, cp_4, i44]) rfl (fun k hk => by funext i; simp [si_1, si_2, sl_1, sl_2, sl_3, ai_1, ai_2, ai_3, ai_4, al_1, al_2, al_3, al_4, cp_1, cp_2, cp_3, cp_4, hk]) (by omega) (Int.toNat_of_nonneg hpb).symm (parts_b (by omega)) (by rw [hfw]; unfold sz3; omega) s2 (by rw [ns]; exact s1) s4⟩
    all_goals omega
  · -- handle
    have k9 : ¬ X.A 5 nd = 9 := by clear r tp hv un fin; ((try (simp only [vp_in, Int32.toNatClampNeg, Int32.lt_iff_toInt_lt, Int32.le_iff_toInt_le, ← Int32.toInt_inj, Int32.toInt_add, Int32.toInt_sub, Int32.toInt_mul, Int32.reduceToInt, i32_neg1, Nat.reducePow, Int.reducePow, ne_eq, ge_iff_le, gt_iff_lt] at *)) <;> (first | omega | ((simp (disch := omega) only [bm32] at *) <;> omega)))
    have k6 : ¬ X.A 5 nd = 6 := by clear r tp hv un fin; ((try (simp only [vp_in, Int32.toNatClampNeg, Int32.lt_iff_toInt_lt, Int32.le_iff_toInt_le, ← Int32.toInt_inj, Int32.toInt_add, Int32.toInt_sub, Int32.toInt_mul, Int32.reduceToInt, i32_neg1, Nat.reducePow, Int.reducePow, ne_eq, ge_iff_le, gt_iff_lt] at *)) <;> (first | omega | ((simp (disch := omega) only [bm32] at *) <;> omega)))
    have k8 : X.A 5 nd = 8 := by clear r tp hv un fin; ((try (simp only [vp_in, Int32.toNatClampNeg, Int32.lt_iff_toInt_lt, Int32.le_iff_toInt_le, ← Int32.toInt_inj, Int32.toInt_add, Int32.toInt_sub, Int32.toInt_mul, Int32.reduceToInt, i32_neg1, Nat.reducePow, Int.reducePow, ne_eq, ge_iff_le, gt_iff_lt] at *)) <;> (first | omega | ((simp (disch := omega) only [bm32] at *) <;> omega)))
    have nm := hX.nm nd g1 (by omega)
    have hpb := hX.pb nd g1 (by omega)
    have v6 : vp_in (X.A 6 nd) 10 := by clear r tp hv un fin; ((try (simp only [vp_in, Int32.toNatClampNeg, Int32.lt_iff_toInt_lt, Int32.le_iff_toInt_le, ← Int32.toInt_inj, Int32.toInt_add, Int32.toInt_sub, Int32.toInt_mul, Int32.reduceToInt, i32_neg1, Nat.reducePow, Int.reducePow, ne_eq, ge_iff_le, gt_iff_lt] at *)) <;> (first | omega | ((simp (disch := omega) only [bm32] at *) <;> omega)))
    simp only [S_Mo_goesBehind, F_Mo_goesBehind, e2, e5, if_neg k9, mbind_eq, sf, si_2, cp_3, if_neg k6, E 6 (by omega) (by omega) nd g1, al_3, if_pos k8, E 10 (by omega) (by omega) nd g1, cp_1]
    have y6 : (X.A 6 nd).toNatClampNeg = (X.A 6 nd).toInt.toNat := rfl
    rw [y6]
    have e := nsee_al (σ := mo_si (cp σ 53 0 43 (10 * F) 0) 44 (σ.1 44 - 1)) (y := (X.A 6 nd).toInt.toNat) (v := σ.2.1) (by omega)
    rw [if_pos h8] at hc
    rcases un with ⟨k, un⟩ | ⟨k, un⟩ | ⟨k, g, t0, u0, ks, us, s1, s2, s3, s4, s5⟩ | ⟨k, un⟩ | ⟨k, un⟩ | ⟨k, ks, un⟩ | ⟨k, un⟩
    · omega
    · omega
    · have gp := good.part hX (parts_b (n := nd) (by omega))
      obtain ⟨m1, m2, m3, m4⟩ := RunJ.marks (X := X) (S := S) (σ := mo_al (mo_si (cp σ 53 0 43 (10 * F) 0) 44 (σ.1 44 - 1)) 53 (X.A 6 nd).toInt.toNat σ.2.1) (K := K) (q := q) (F := F) (c := c') (w := w') (v := v) (u := u) (tb := u0) (d := d') hX r.arr (r.hp.congr (fun k hk => by simp only [al_1, si_1, cp_1]; rw [if_neg (by omega)]) (by simp only [al_1, si_1, cp_1]; rw [if_neg (by omega)]; omega) (fun k hk => rfl) (fun k hk => by funext i; simp only [al_4, si_2, cp_4]; rw [if_neg (by omega), if_neg (by omega)])) (by
        rw [frm_of (σ := σ) (σ' := mo_al (mo_si (cp σ 53 0 43 (10 * F) 0) 44 (σ.1 44 - 1)) 53 (X.A 6 nd).toInt.toNat σ.2.1) (fun k _ => rfl) (fun k hk => by funext i; simp only [al_4, si_2, cp_4]; rw [if_neg (by omega), if_neg (by omega)])]; exact tp.seg) (by simp [si_1, si_2, sl_1, sl_2, sl_3, ai_1, ai_2, ai_3, ai_4, al_1, al_2, al_3, al_4, cp_1, cp_2, cp_3, cp_4, i44]) (by simp only [al_1, si_1, cp_1]; rw [if_neg (by omega)]; omega) (by omega) (x := X.A 10 nd) (n := (X.A 10 nd).toInt.toNat) (Int.toNat_of_nonneg hpb).symm gp.1 (g := env g (X.A 6 nd).toInt.toNat t0) s3 (by
        refine s1.xenv ?_ (fun k hk hne => ?_)
        · have := e.1
          first | (simp only [cp_2, si_2] at this ⊢) | skip
          rw [this]; exact hv.sub hX.fo s2
        · have := e.2 k hk hne
          first | (simp only [cp_2, si_2] at this ⊢) | skip
          rw [this, ns]) s5
      simp only [cp_2]
      refine ⟨⟨v2, ss, v2, v2, v6, v2, v2, m1, trivial⟩, (((RFr.rfl'.cp).si (by omega)).al).trans m2, by rw [m3]; simp [si_1, si_2, sl_1, sl_2, sl_3, ai_1, ai_2, ai_3, ai_4, al_1, al_2, al_3, al_4, cp_1, cp_2, cp_3, cp_4], fun _ => ⟨_, m4, ?_⟩⟩
      have hfw : fw X.A (frm σ F) = sz3 X.A (X.A 10 nd) + 2 := by
        unfold fw
        simp only [if_neg ne, en2]
        rw [if_neg (by omega), if_neg (by omega), if_neg (by omega)]
      rw [hfw] at hw
      unfold sz3 at hw
      omega
    all_goals omega
end
section
/-! pure rows: a function is called -/
def CallR (X : Cx) (σ σ' : mSt) : Prop := RFr σ σ' ∧ σ'.1 47 = σ.1 47 ∧ (σ'.1 46 = 1 → ∃ M', RunOk X σ' M')
theorem nsee_cp2 {σ : mSt} {i : Nat} : nsee (cp σ 53 0 55 (10 * i) 0) = seen (σ.2.2.2 55) (10 * i) := by
  unfold nsee
  apply seen_congr
  intro k hk
  simp only [cp_4, true_and]
  rw [if_pos ⟨by omega, by omega⟩]; simp [si_1, si_2, sl_1, sl_2, sl_3, ai_1, ai_2, ai_3, ai_4, al_1, al_2, al_3, al_4, cp_1, cp_2, cp_3, cp_4]
theorem callFunction_ok {X : Cx} (hX : X.Ok) {S : Sto} {σ : mSt} {K q F c w t u v c' w' : Nat} {d d' : Int} (r : RunJ X S σ K q (F + 1) c w t u d) (tp : Top X S σ F v u c' t w' d' c w) (hv : V X.P S σ.2.1 t) (hct : ctd X.A (frm σ F).node = 0) {f0 a r0 i : Nat} (hf : X.P.fn f0 a r0) (hi : i < S.nf) (hs : Sbt X.P (S.ft i) f0) (ha : Sbt X.P t a) (hr : Sbt X.P r0 v) {x1 : Int32} (hx1 : x1.toInt = i) {n : Nat} (hn : 12 ≤ n) :
    S_Mo_callFunction n σ x1 ∧ CallR X σ (F_Mo_callFunction n σ x1) := by
  have f44 := r.f44
  have f49 := r.f49
  have c400 := r.c400
  have hF := r.F hX
  have th := r.hp.th
  have hc := tp.hc
  rw [hct] at hc
  by_cases h400 : σ.1 49 = 400
  · simp only [S_Mo_callFunction, F_Mo_callFunction, if_pos h400]
    exact ⟨trivial, RFr.rfl'.si (by omega), by simp [si_1, si_2, sl_1, sl_2, sl_3, ai_1, ai_2, ai_3, ai_4, al_1, al_2, al_3, al_4, cp_1, cp_2, cp_3, cp_4], fun h => by simp [si_1, si_2, sl_1, sl_2, sl_3, ai_1, ai_2, ai_3, ai_4, al_1, al_2, al_3, al_4, cp_1, cp_2, cp_3, cp_4] at h⟩
  have v1 : vp_in x1 1000 := by clear r tp hv; ((try (simp only [vp_in, Int32.toNatClampNeg, Int32.lt_iff_toInt_lt, Int32.le_iff_toInt_le, ← Int32.toInt_inj, Int32.toInt_add, Int32.toInt_sub, Int32.toInt_mul, Int32.reduceToInt, i32_neg1, Nat.reducePow, Int.reducePow, ne_eq, ge_iff_le, gt_iff_lt] at *)) <;> (first | omega | ((simp (disch := omega) only [bm32] at *) <;> omega)))
  have e1 : x1.toNatClampNeg = i := by show x1.toInt.toNat = i; omega
  have i44 : (σ.1 44 - 1).toInt = F := by clear r tp hv; ((try (simp only [vp_in, Int32.toNatClampNeg, Int32.lt_iff_toInt_lt, Int32.le_iff_toInt_le, ← Int32.toInt_inj, Int32.toInt_add, Int32.toInt_sub, Int32.toInt_mul, Int32.reduceToInt, i32_neg1, Nat.reducePow, Int.reducePow, ne_eq, ge_iff_le, gt_iff_lt] at *)) <;> (first | omega | ((simp (disch := omega) only [bm32] at *) <;> omega)))
  have i49 : (σ.1 49 + 1).toInt = c' + 1 ∧ c' + 1 ≤ 400 := by clear r tp hv; constructor <;> ((try (simp only [vp_in, Int32.toNatClampNeg, Int32.lt_iff_toInt_lt, Int32.le_iff_toInt_le, ← Int32.toInt_inj, Int32.toInt_add, Int32.toInt_sub, Int32.toInt_mul, Int32.reduceToInt, i32_neg1, Nat.reducePow, Int.reducePow, ne_eq, ge_iff_le, gt_iff_lt] at *)) <;> (first | omega | ((simp (disch := omega) only [bm32] at *) <;> omega)))
  obtain ⟨nd, g, hnd, good, see, o⟩ := r.hp.fo i hi
  obtain ⟨a1, r1, hf1, ha1, hr1⟩ := hs.fn hX.fo hf
  have hN := hX.hN
  have g1 := good.1
  have e2 : (σ.2.2.1 54 i).toNatClampNeg = nd := by show (σ.2.2.1 54 i).toInt.toNat = nd; omega
  have v2 : vp_in (σ.2.2.1 54 i) 200 := by clear r tp hv; ((try (simp only [vp_in, Int32.toNatClampNeg, Int32.lt_iff_toInt_lt, Int32.le_iff_toInt_le, ← Int32.toInt_inj, Int32.toInt_add, Int32.toInt_sub, Int32.toInt_mul, Int32.reduceToInt, i32_neg1, Nat.reducePow, Int.reducePow, ne_eq, ge_iff_le, gt_iff_lt] at *)) <;> (first | omega | ((simp (disch := omega) only [bm32] at *) <;> omega)))
  have E : ∀ k, 5 ≤ k → k ≤ 19 → ∀ i, i < bnd X k → σ.2.2.1 k i = X.A k i := r.arr
  simp (decide := true) only [S_Mo_callFunction, F_Mo_callFunction, if_neg h400, mbind_eq, si_1, if_false, si_2, e1]
  obtain ⟨s1, f1⟩ := callFunction_46_ok (F := i) (by omega) (x1 := x1) (x2 := σ.2.2.1 54 i) hx1 10 n 0 (mo_si (mo_si σ 44 (σ.1 44 - 1)) 49 (σ.1 49 + 1)) 0 rfl (by omega) (by omega)
  rw [f1]
  simp only [cp_3, si_2, e2, E 5 (by omega) (by omega) nd g1, E 6 (by omega) (by omega) nd g1]
  generalize hσ2 : cp (mo_si (mo_si σ 44 (σ.1 44 - 1)) 49 (σ.1 49 + 1)) 53 0 55 (10 * i) 0 = σ2
  have g2f : ∀ k, k ≠ 44 → k ≠ 49 → σ2.1 k = σ.1 k := fun k h1 h2 => by rw [← hσ2]; simp [si_1, si_2, sl_1, sl_2, sl_3, ai_1, ai_2, ai_3, ai_4, al_1, al_2, al_3, al_4, cp_1, cp_2, cp_3, cp_4, h1, h2]
  have g244 : (σ2.1 44).toInt = F := by rw [← hσ2]; simp [si_1, si_2, sl_1, sl_2, sl_3, ai_1, ai_2, ai_3, ai_4, al_1, al_2, al_3, al_4, cp_1, cp_2, cp_3, cp_4, i44]
  have g249 : (σ2.1 49).toInt = c' + 1 := by rw [← hσ2]; simp [si_1, si_2, sl_1, sl_2, sl_3, ai_1, ai_2, ai_3, ai_4, al_1, al_2, al_3, al_4, cp_1, cp_2, cp_3, cp_4, i49.1]
  have g2l : σ2.2.1 = σ.2.1 := by rw [← hσ2]; rfl
  have g2a : σ2.2.2.1 = σ.2.2.1 := by rw [← hσ2]; rfl
  have g2al : ∀ k, k ≠ 53 → σ2.2.2.2 k = σ.2.2.2 k := fun k hk => by rw [← hσ2]; funext j; simp [si_1, si_2, sl_1, sl_2, sl_3, ai_1, ai_2, ai_3, ai_4, al_1, al_2, al_3, al_4, cp_1, cp_2, cp_3, cp_4, hk]
  have ns : nsee σ2 = seen (σ.2.2.2 55) (10 * i) := by rw [← hσ2]; exact nsee_cp2
  have hpa : 4 ≤ (X.A 5 nd).toInt ∧ (X.A 5 nd).toInt ≤ 11 := by rcases o with ⟨k, _⟩ | ⟨k, _⟩ <;> omega
  have pa := hX.pa nd g1 (by omega)
  have gp := good.part hX (parts_a (n := nd) (by omega) (by omega))
  have nm := hX.nm nd g1 (by rcases o with ⟨k, _⟩ | ⟨k, _⟩ <;> omega)
  have v6 : vp_in (X.A 6 nd) 10 := by clear r tp hv; ((try (simp only [vp_in, Int32.toNatClampNeg, Int32.lt_iff_toInt_lt, Int32.le_iff_toInt_le, ← Int32.toInt_inj, Int32.toInt_add, Int32.toInt_sub, Int32.toInt_mul, Int32.reduceToInt, i32_neg1, Nat.reducePow, Int.reducePow, ne_eq, ge_iff_le, gt_iff_lt] at *)) <;> (first | omega | ((simp (disch := omega) only [bm32] at *) <;> omega)))
  -- the body, marked
  have fin : ∀ (σ3 : mSt) (z0 : Int32) (y tb : Nat) (g' : Nat → Int), (∀ k, k ≠ 53 → σ3.2.2.2 k = σ2.2.2.2 k) → σ3.1 = σ2.1 → σ3.2.1 = σ2.2.1 → σ3.2.2.1 = σ2.2.2.1 → z0.toInt = y → y < 10 → SeeOk X.P S (nsee σ3) g' → Ty X.A X.P X.tk X.gv (env g' y a1) (X.A 9 nd).toInt.toNat tb → Sbt X.P tb v → S_Mo_callFunction_j127 n σ3 (σ.2.2.1 54 i) z0 ∧ CallR X σ (F_Mo_callFunction_j127 n σ3 (σ.2.2.1 54 i) z0) := by
    intro σ3 z0 y tb g' h1 h2 h3 h4 hz hy hsee hty hsb
    have vz : vp_in z0 10 := by clear r tp hv hsee hty o; ((try (simp only [vp_in, Int32.toNatClampNeg, Int32.lt_iff_toInt_lt, Int32.le_iff_toInt_le, ← Int32.toInt_inj, Int32.toInt_add, Int32.toInt_sub, Int32.toInt_mul, Int32.reduceToInt, i32_neg1, Nat.reducePow, Int.reducePow, ne_eq, ge_iff_le, gt_iff_lt] at *)) <;> (first | omega | ((simp (disch := omega) only [bm32] at *) <;> omega)))
    have ez : z0.toNatClampNeg = y := by show z0.toInt.toNat = y; omega
    have e9 : σ3.2.2.1 9 nd = X.A 9 nd := by rw [h4, g2a]; exact E 9 (by omega) (by omega) nd g1
    simp only [S_Mo_callFunction_j127, F_Mo_callFunction_j127, mbind_eq, e2, ez, al_3, e9]
    have e := nsee_al (σ := σ3) (y := y) (v := σ3.2.1) hy
    obtain ⟨m1, m2, m3, m4⟩ := RunJ.marks (X := X) (S := S) (σ := mo_al σ3 53 y σ3.2.1) (K := K) (q := q) (F := F) (c := c') (w := w') (v := v) (u := u) (tb := tb) (d := d') hX (r.arr.congr (fun k h1 h2 => by rw [al_3, h4, g2a])) (r.hp.congr (fun k hk => by rw [al_1, h2, g2f k (by omega) (by omega)]) (by rw [al_1, h2, g2f 48 (by omega) (by omega)]; omega) (fun k hk => by rw [al_3, h4, g2a]) (fun k hk => by
          have : (mo_al σ3 53 y σ3.2.1).2.2.2 k = σ3.2.2.2 k := by funext j; rw [al_4, if_neg (by omega)]
          rw [this, h1 k (by omega), g2al k (by omega)])) (by
        rw [frm_of (σ := σ) (σ' := mo_al σ3 53 y σ3.2.1) (fun k _ => by rw [al_3, h4, g2a]) (fun k hk => by
          have : (mo_al σ3 53 y σ3.2.1).2.2.2 k = σ3.2.2.2 k := by funext j; rw [al_4, if_neg (by omega)]
          rw [this, h1 k (by omega), g2al k (by omega)])]; exact tp.seg) (by rw [al_1, h2]; exact g244) (by rw [al_1, h2]; exact g249) i49.2 (x := X.A 9 nd) (n := (X.A 9 nd).toInt.toNat) (Int.toNat_of_nonneg pa).symm gp.1 (g := env g' y a1) hty (by
        refine hsee.xenv ?_ (fun k hk hne => e.2 k hk hne)
        rw [e.1, h3, g2l]; exact hv.sub hX.fo (ha.trans ha1)) hsb
    refine ⟨⟨vz, v2, m1, trivial⟩, ?_, ?_, fun _ => ⟨_, m4⟩⟩
    · refine RFr.trans ⟨fun k hk => ?_, fun k hk => ?_⟩ m2
      · rw [al_1, h2, g2f k (by omega) (by omega)]
      · rw [al_3, h4, g2a]
    · rw [m3, al_1, h2, g2f 47 (by omega) (by omega)]
  rcases o with ⟨k7, a2, t2, h7, hty, hfn⟩ | ⟨k5, a2, r2, t2, hfn, hty, hfit⟩
  · have n5 : ¬ X.A 5 nd = 5 := by clear r tp hv fin hty; ((try (simp only [vp_in, Int32.toNatClampNeg, Int32.lt_iff_toInt_lt, Int32.le_iff_toInt_le, ← Int32.toInt_inj, Int32.toInt_add, Int32.toInt_sub, Int32.toInt_mul, Int32.reduceToInt, i32_neg1, Nat.reducePow, Int.reducePow, ne_eq, ge_iff_le, gt_iff_lt] at *)) <;> (first | omega | ((simp (disch := omega) only [bm32] at *) <;> omega)))
    obtain ⟨ea, er⟩ := hX.fo.un _ _ _ _ _ hf1 hfn
    subst ea er
    have e6 : σ2.2.2.1 6 nd = X.A 6 nd := by rw [g2a]; exact E 6 (by omega) (by omega) nd g1
    have e5 : σ2.2.2.1 5 nd = X.A 5 nd := by rw [g2a]; exact E 5 (by omega) (by omega) nd g1
    obtain ⟨s2, c2⟩ := fin σ2 (X.A 6 nd) (X.A 6 nd).toInt.toNat _ g (fun _ _ => rfl) rfl rfl rfl (Int.toNat_of_nonneg nm.1).symm (by omega) (by rw [ns]; exact see) hty (hr1.trans hr)
    simp only [if_neg n5, S_Mo_callFunction_j98, F_Mo_callFunction_j98, e2, e5, e6]
    exact ⟨⟨v1, s1, v2, v2, v2, s2⟩, c2⟩
  · have y5 : X.A 5 nd = 5 := by clear r tp hv fin hty; ((try (simp only [vp_in, Int32.toNatClampNeg, Int32.lt_iff_toInt_lt, Int32.le_iff_toInt_le, ← Int32.toInt_inj, Int32.toInt_add, Int32.toInt_sub, Int32.toInt_mul, Int32.reduceToInt, i32_neg1, Nat.reducePow, Int.reducePow, ne_eq, ge_iff_le, gt_iff_lt] at *)) <;> (first | omega | ((simp (disch := omega) only [bm32] at *) <;> omega)))
    obtain ⟨ea, er⟩ := hX.fo.un _ _ _ _ _ hf1 hfn
    subst ea er
    have rc := hX.rc nd g1 k5
    have y6 : (X.A 6 nd).toNatClampNeg = (X.A 6 nd).toInt.toNat := rfl
    have e5 : σ2.2.2.1 5 nd = X.A 5 nd := by rw [g2a]; exact E 5 (by omega) (by omega) nd g1
    have e7 : σ2.2.2.1 7 nd = X.A 7 nd := by rw [g2a]; exact E 7 (by omega) (by omega) nd g1
    have e := nsee_al (σ := σ2) (y := (X.A 6 nd).toInt.toNat) (v := x1.toInt64) (by omega)
    obtain ⟨s2, c2⟩ := fin (mo_al σ2 53 (X.A 6 nd).toInt.toNat x1.toInt64) (X.A 7 nd) (X.A 7 nd).toInt.toNat t2 (env g (X.A 6 nd).toInt.toNat (S.ft i)) (fun k hk => by funext j; rw [al_4, if_neg (by omega)]) rfl rfl rfl (Int.toNat_of_nonneg rc.1).symm (by omega) (by
      refine see.xenv ?_ (fun k hk hne => by rw [e.2 k hk hne, ns])
      rw [e.1]
      intro _
      left
      rw [Int32.toInt_toInt64, hx1]
      exact ⟨by omega, by omega, by rw [Int.toNat_natCast]; exact .rfl'⟩) hty ((Sbt.of hfit).trans (hr1.trans hr))
    simp only [if_pos y5, S_Mo_callFunction_j98, F_Mo_callFunction_j98, e2, al_3, e5, e7, y6]
    exact ⟨⟨v1, s1, v2, v2, v6, v2, v2, s2⟩, c2⟩
theorem ctd_le (A : Nat → Nat → Int32) (x : Int32) : ctd A x ≤ 1 := by unfold ctd; split <;> (try split) <;> omega
theorem Seg.cle {X : Cx} {S : Sto} {get : Nat → Fr} {lo m t u c w : Nat} {d : Int} (h : Seg X S get lo m t u c d w) : c ≤ m := by
  induction h using Seg.ind with
  | nil _ => omega
  | @cons m t v u c w d a f k ih => have := ctd_le X.A (get (lo + m)).node; omega
theorem goOn_ok {X : Cx} (hX : X.Ok) {S : Sto} {σ : mSt} {K q F c w t u v c' w' : Nat} {d d' : Int} (r : RunJ X S σ K q (F + 1) c w t u d) (tp : Top X S σ F v u c' t w' d' c w) (hv : V X.P S σ.2.1 t) (hct : ctd X.A (frm σ F).node = 0) {f0 a r0 k : Nat} (hf : X.P.fn f0 a r0) (hk : k < S.nk) (hs : Sbt X.P (S.kt k) f0) (ha : Sbt X.P t a) (hr : Sbt X.P r0 v) {x1 : Int32} (hx1 : x1.toInt = k) {n : Nat} (hn : 42100 ≤ n) :
    S_Mo_goOn n σ x1 ∧ CallR X σ (F_Mo_goOn n σ x1) := by
  have f44 := r.f44
  have f49 := r.f49
  have c400 := r.c400
  have hF := r.F hX
  have th := r.hp.th
  have hc := tp.hc
  have hkK := r.hp.hk
  rw [hct] at hc
  have v1 : vp_in x1 1000 := by clear r tp hv; ((try (simp only [vp_in, Int32.toNatClampNeg, Int32.lt_iff_toInt_lt, Int32.le_iff_toInt_le, ← Int32.toInt_inj, Int32.toInt_add, Int32.toInt_sub, Int32.toInt_mul, Int32.reduceToInt, i32_neg1, Nat.reducePow, Int.reducePow, ne_eq, ge_iff_le, gt_iff_lt] at *)) <;> (first | omega | ((simp (disch := omega) only [bm32] at *) <;> omega)))
  have e1 : x1.toNatClampNeg = k := by show x1.toInt.toNat = k; omega
  have j26 : S_Mo_goOn_j26 n σ x1 ∧ CallR X σ (F_Mo_goOn_j26 n σ x1) := by
    simp only [S_Mo_goOn_j26, F_Mo_goOn_j26]
    split
    · exact ⟨⟨v1, trivial⟩, RFr.rfl'.si (by omega), by simp [si_1, si_2, sl_1, sl_2, sl_3, ai_1, ai_2, ai_3, ai_4, al_1, al_2, al_3, al_4, cp_1, cp_2, cp_3, cp_4], fun h => by simp [si_1, si_2, sl_1, sl_2, sl_3, ai_1, ai_2, ai_3, ai_4, al_1, al_2, al_3, al_4, cp_1, cp_2, cp_3, cp_4] at h⟩
    · exact ⟨⟨v1, trivial⟩, RFr.rfl'.si (by omega), by simp [si_1, si_2, sl_1, sl_2, sl_3, ai_1, ai_2, ai_3, ai_4, al_1, al_2, al_3, al_4, cp_1, cp_2, cp_3, cp_4], fun h => by simp [si_1, si_2, sl_1, sl_2, sl_3, ai_1, ai_2, ai_3, ai_4, al_1, al_2, al_3, al_4, cp_1, cp_2, cp_3, cp_4] at h⟩
  simp only [S_Mo_goOn, F_Mo_goOn, mbind_eq, e1]
  by_cases h60 : σ.2.2.1 60 k = 0
  rotate_left
  · simp only [if_neg h60]; exact ⟨⟨v1, j26.1⟩, j26.2⟩
  simp only [if_pos h60]
  by_cases h400 : σ.1 49 + σ.2.2.1 59 k ≤ 400
  rotate_left
  · simp only [if_neg h400]; exact ⟨⟨v1, v1, j26.1⟩, j26.2⟩
  simp only [if_pos h400]
  obtain ⟨f, m, a1, u1, ck, wk, dk, k57, k58, k59, kfm, km, kct, kfn, kseg⟩ := r.hp.ko k hk
  obtain ⟨a2, r2, hf2, ha2, hr2⟩ := hs.fn hX.fo hf
  obtain ⟨ea, er⟩ := hX.fo.un _ _ _ _ _ hf2 kfn
  subst ea er
  have hck := kseg.cle
  have i44 : (σ.1 44 - 1).toInt = F := by clear r tp hv kseg; ((try (simp only [vp_in, Int32.toNatClampNeg, Int32.lt_iff_toInt_lt, Int32.le_iff_toInt_le, ← Int32.toInt_inj, Int32.toInt_add, Int32.toInt_sub, Int32.toInt_mul, Int32.reduceToInt, i32_neg1, Nat.reducePow, Int.reducePow, ne_eq, ge_iff_le, gt_iff_lt] at *)) <;> (first | omega | ((simp (disch := omega) only [bm32] at *) <;> omega)))
  have i49 : (σ.1 49 + σ.2.2.1 59 k).toInt = c' + ck ∧ c' + ck ≤ 400 := by clear r tp hv kseg; constructor <;> ((try (simp only [vp_in, Int32.toNatClampNeg, Int32.lt_iff_toInt_lt, Int32.le_iff_toInt_le, ← Int32.toInt_inj, Int32.toInt_add, Int32.toInt_sub, Int32.toInt_mul, Int32.reduceToInt, i32_neg1, Nat.reducePow, Int.reducePow, ne_eq, ge_iff_le, gt_iff_lt] at *)) <;> (first | omega | ((simp (disch := omega) only [bm32] at *) <;> omega)))
  -- the stack that is to be
  have lower : Seg X S (fun i => if i < F then frm σ i else kfr σ (f + (i - F))) 0 F r2 u c' d' w' := (tp.seg.sub (hr2.trans hr)).copy (fun i hi => by rw [if_pos (by omega)])
  have upper : Seg X S (fun i => if i < F then frm σ i else kfr σ (f + (i - F))) F m a2 r2 ck dk wk := kseg.copy (fun i hi => by rw [if_neg (by omega)]; congr 1; omega)
  obtain ⟨wn, comp⟩ := lower.comp (by omega) upper (fun _ => by rw [if_neg (by omega), Nat.sub_self, Nat.add_zero]; exact kct)
  rw [if_neg (by omega)] at comp
  have hb := comp.bound hX
  simp (decide := true) only [si_1, ai_1, if_false, if_true, si_2, ai_3, false_and]
  obtain ⟨s2, gp⟩ := goOn_85_ok (x1 := x1) (k := k) (from' := f) (many := m) hx1 (by omega) m n F f (mo_si (mo_ai (mo_si σ 44 (σ.1 44 - 1)) 60 k 1) 49 (σ.1 49 + σ.2.2.1 59 k)) (σ.2.2.1 57 k) (by simp [si_1, si_2, sl_1, sl_2, sl_3, ai_1, ai_2, ai_3, ai_4, al_1, al_2, al_3, al_4, cp_1, cp_2, cp_3, cp_4, k57]) (by simp [si_1, si_2, sl_1, sl_2, sl_3, ai_1, ai_2, ai_3, ai_4, al_1, al_2, al_3, al_4, cp_1, cp_2, cp_3, cp_4, k58]) (by omega) rfl k57 (by simp [si_1, si_2, sl_1, sl_2, sl_3, ai_1, ai_2, ai_3, ai_4, al_1, al_2, al_3, al_4, cp_1, cp_2, cp_3, cp_4, i44]) (by omega) (by omega)
  generalize F_Mo_goOn_85 n (mo_si (mo_ai (mo_si σ 44 (σ.1 44 - 1)) 60 k 1) 49 (σ.1 49 + σ.2.2.1 59 k)) x1 (σ.2.2.1 57 k) = σ2 at *
  refine ⟨⟨v1, v1, v1, v1, v1, s2, trivial⟩, ⟨fun j hj => ?_, fun j hj => ?_⟩, ?_, fun _ => ⟨wn, S, K, q, F + m, c' + ck, wn, a2, u, dk, ?_, Or.inl ⟨by simp [si_1, si_2, sl_1, sl_2, sl_3, ai_1, ai_2, ai_3, ai_4, al_1, al_2, al_3, al_4, cp_1, cp_2, cp_3, cp_4], ?_, rfl⟩⟩⟩
  · rw [si_1, if_neg (by omega), gp.f j (by omega)]; simp only [si_1, ai_1]; rw [if_neg (by omega), if_neg (by omega)]
  · rw [si_2, gp.a j (by omega) (by omega)]; funext x; simp only [si_2, ai_3]; rw [if_neg (by omega)]
  · rw [si_1, if_neg (by omega), gp.f 47 (by omega)]; simp [si_1, si_2, sl_1, sl_2, sl_3, ai_1, ai_2, ai_3, ai_4, al_1, al_2, al_3, al_4, cp_1, cp_2, cp_3, cp_4]
  · refine r.to (fun j h1 h2 h3 => ?_) (fun j h1 h2 h3 => ?_) (fun j hj => ?_) ?_ ?_ ?_ i49.2 ?_
    · rw [si_2, gp.a j h1 h2]; funext x; simp only [si_2, ai_3]; rw [if_neg (by omega)]
    · rw [si_2, gp.al j h1 h2]; rfl
    · rw [si_1, if_neg (by omega), gp.f j (by omega)]; simp only [si_1, ai_1]; rw [if_neg (by omega), if_neg (by omega)]
    · rw [si_1, if_neg (by omega), gp.f 48 (by omega)]; simp only [si_1, ai_1]; rw [if_neg (by omega), if_neg (by omega)]; omega
    · rw [si_1, if_neg (by omega), gp.f44]; omega
    · rw [si_1, if_neg (by omega), gp.f 49 (by omega)]; simp [si_1, si_2, sl_1, sl_2, sl_3, ai_1, ai_2, ai_3, ai_4, al_1, al_2, al_3, al_4, cp_1, cp_2, cp_3, cp_4, i49.1]
    · refine comp.copy (fun i hi => ?_)
      have ef : frm (mo_si σ2 51 1) = frm σ2 := rfl
      rw [ef, gp.fr (0 + i)]
      simp only [Nat.zero_add]
      by_cases h : i < F
      · rw [if_neg (by omega), if_pos h]
        rw [frm_of (σ := σ) (σ' := mo_si (mo_ai (mo_si σ 44 (σ.1 44 - 1)) 60 k 1) 49 (σ.1 49 + σ.2.2.1 59 k)) (fun j hj => by funext x; simp only [si_2, ai_3]; rw [if_neg (by omega)]) (fun j _ => rfl)]
      · rw [if_pos (by omega), if_neg h]
        rw [kfr_of (σ := σ) (σ' := mo_si (mo_ai (mo_si σ 44 (σ.1 44 - 1)) 60 k 1) 49 (σ.1 49 + σ.2.2.1 59 k)) (fun j hj => by funext x; simp only [si_2, ai_3]; rw [if_neg (by omega)]) (fun j _ => rfl)]
  · rw [si_2, gp.l]
    exact hv.sub hX.fo (ha.trans ha2)
end
