-- pure rows: HO
section
/-! pure rows, the class: an effect is performed -/
theorem nI_sub {m n : Nat} (h : m < 90000) (hn : n ≤ m) : nI m - nI n = nI (m - n) := by
  apply Int32.toInt_inj.mp
  rw [nT (n := m - n) (by omega)]
  have h1 := nT (n := m) (by omega)
  have h2 := nT (n := n) (by omega)
  ((try (simp only [vp_in, Int32.toNatClampNeg, Int32.lt_iff_toInt_lt, Int32.le_iff_toInt_le, ← Int32.toInt_inj, Int32.toInt_add, Int32.toInt_sub, Int32.toInt_mul, Int32.reduceToInt, i32_neg1, Nat.reducePow, Int.reducePow, ne_eq, ge_iff_le, gt_iff_lt] at *)) <;> (first | omega | ((simp (disch := omega) only [bm32] at *) <;> omega)))
/-- the first CASE for an effect -/
def fcase (g : Nat → Int32) (l : Nat) (e : Int32) : Nat → Nat → Option Nat
  | 0, _ => none
  | d + 1, j => if cFd g (l + 1 + j) 1 = e then some j else fcase g l e d (j + 1)
def cres (l : Nat) (o : Option Nat) : Int32 := match o with
  | some q => nI (l + 1 + q)
  | none => -1
theorem fcase_lt {g : Nat → Int32} {l : Nat} {e : Int32} : ∀ {d j q : Nat}, fcase g l e d j = some q → j ≤ q ∧ q < j + d ∧ cFd g (l + 1 + q) 1 = e := by
  intro d
  induction d with
  | zero => intro j q h; cases h
  | succ d ih =>
    intro j q h
    unfold fcase at h
    by_cases c : cFd g (l + 1 + j) 1 = e
    · rw [if_pos c] at h
      cases h
      exact ⟨Nat.le_refl _, by omega, c⟩
    · rw [if_neg c] at h
      have := ih h
      exact ⟨by omega, by omega, this.2.2⟩
theorem fcase_none {g : Nat → Int32} {l : Nat} {e : Int32} : ∀ {d j : Nat}, fcase g l e d j = none → ∀ q, j ≤ q → q < j + d → cFd g (l + 1 + q) 1 ≠ e := by
  intro d
  induction d with
  | zero => intro j h q h1 h2; omega
  | succ d ih =>
    intro j h q h1 h2
    unfold fcase at h
    by_cases c : cFd g (l + 1 + j) 1 = e
    · rw [if_pos c] at h; cases h
    · rw [if_neg c] at h
      by_cases z : q = j
      · rw [z]; exact c
      · exact ih h q (by omega) (by omega)
/-- frames, each below the other -/
def Lnk (w : Vw) : Option Nat → List Nat → Prop
  | r, [] => r = none
  | r, a :: L => r = some a ∧ Lnk w (w.2.2 a 4) L
/-- the CASE that a frame's handler has for an effect -/
def hitR (w : Vw) (g : Nat → Int32) (e : Int32) (c : Nat) : Int32 := match w.2.2 c 3 with
  | none => -1
  | some t => cres (w.2.1 t 1).toInt.toNat (fcase g (w.2.1 t 1).toInt.toNat e (cFd g (w.2.1 t 1).toInt.toNat 4).toInt.toNat 0)
def GoodH (w : Vw) (g : Nat → Int32) (c : Nat) : Prop := ∀ t, w.2.2 c 3 = some t → ∃ l m, w.2.1 t 1 = nI l ∧ l ≤ 1900 ∧ cFd g l 4 = nI m ∧ m ≤ 8
/-- what follows once a handler is found -/
def RTl (cs : Nat → ClassId) (dE : Nat × Nat) (M : gMem) (a0 : Nat) (x5 : Option Nat) (x6 x7 x4 : Int32) : gMem := mbind (F_Ma_isFull cs M a0 (1 + x7)) (fun w5 => if w5.1 = 0 then (mbind (F_Ma_holdFrames cs dE w5.2 a0 x5 x7) (fun w10 => mbind (F_Co_field cs w10.2 ((cQ w10.2 a0 0).getD 0) x6 2) (fun w15 => mbind (F_Ma_enter cs dE w10.2 a0 (cQ w5.2 (x5.getD 0) 4) (cQ w10.2 (x5.getD 0) 3) w15) (fun w18 => mbind (F_Co_field cs w18 ((cQ w18 a0 0).getD 0) x6 3) (fun w23 => mbind (F_Fr_give cs w18 ((cQ w18 a0 10).getD 0) w23 x4) (fun w26 => mbind (F_Co_field cs w26 ((cQ w26 a0 0).getD 0) x6 4) (fun w31 => mbind (F_Fr_give cs w26 ((cQ w26 a0 10).getD 0) w31 w10.1) (fun w34 => w34)))))))) else (w5.2))
section
variable {cs : Nat → ClassId} {lim dE : Nat × Nat} {A : Ad} {r1 r2 NF : Nat} {g4 : Nat → Int32} {k4 : Nat} {fa ta : Nat → Nat} {nf nt : Nat} {M M' : gMem} {w w' : Vw} {a b c t n ci k H K u v r r' T D l m : Nat} {s sb : Nat → Int32} {x y e : Int32}
theorem VS.case22 (h : (VS cs lim dE A r1 r2 NF g4 k4) fa ta nf nt M w) {x1 : Option Nat} (hl : l ≤ 1900) (hm : m ≤ 8) : ∀ (d j n : Nat), j + d = m → d < n → F_Co_caseOf_22 cs n M A.co x1 e (nI l) (nI m) (nI (j + 1)) = cres l (fcase g4 l e d j) := by
  intro d
  induction d with
  | zero =>
    intro j n hj hn
    obtain ⟨n, rfl⟩ : ∃ z, n = z + 1 := ⟨n - 1, by omega⟩
    have : nI m < nI (j + 1) := nI_lt (by omega) (Nat.lt_trans (show j + 1 < 100 by omega) (by decide))
    simp only [F_Co_caseOf_22, if_pos this, fcase, cres]
  | succ d ih =>
    intro j n hj hn
    obtain ⟨n, rfl⟩ : ∃ z, n = z + 1 := ⟨n - 1, by omega⟩
    have h1 : ¬ nI m < nI (j + 1) := nI_nlt (by omega) (Nat.lt_trans (show m < 100 by omega) (by decide))
    have h2 : ¬ (8 : Int32) < nI (j + 1) := (nI_nlt (a := 8) (b := j + 1) (by omega) (by decide) : ¬ nI 8 < nI (j + 1))
    have h3 : nI l + nI (j + 1) = nI (l + 1 + j) := by rw [nI_ad (by omega)]; congr 1; omega
    simp only [F_Co_caseOf_22, if_neg h1, if_neg h2, mbind_eq, h3]
    rw [h.fld (r := l + 1 + j) (j := 1) (x := 1) (by omega) (by decide) rfl]
    unfold fcase
    by_cases c : cFd g4 (l + 1 + j) 1 = e
    · rw [if_pos c, if_pos c]; rfl
    · rw [if_neg c, if_neg c, ← nI_succ]
      exact ih (j + 1) n (by omega) (by omega)
theorem VS.caseOf (h : (VS cs lim dE A r1 r2 NF g4 k4) fa ta nf nt M w) (hc : FsO fa nf c) (hg : GoodH w g4 c) (hn : 10 ≤ n) : F_Co_caseOf cs n M A.co (cQ M c 3) e = hitR w g4 e c := by
  have q3 : cQ M c 3 = w.2.2 c 3 := h.Q (Or.inl hc) 3
  unfold hitR
  rw [q3]
  cases ht : w.2.2 c 3 with
  | none =>
    unfold F_Co_caseOf
    rw [if_pos rfl]
  | some t =>
    have hT : FsO ta nt t := (h.hs.fr hc).ha t (by rw [q3]; exact ht)
    obtain ⟨l, m, g1, g2, g3, g5⟩ := hg t ht
    have el : cI M t 1 = nI l := by rw [h.I (Or.inr (Or.inl hT))]; exact g1
    have hnn : ¬ (some t : Option Nat) = none := by simp [si_1, si_2, sl_1, sl_2, sl_3, ai_1, ai_2, ai_3, ai_4, al_1, al_2, al_3, al_4, cp_1, cp_2, cp_3, cp_4]
    unfold F_Co_caseOf
    simp only [if_neg hnn, Option.getD_some, mbind_eq, el, g1]
    have nl : (nI l).toInt.toNat = l := by rw [nT (by omega)]; omega
    have nm : (nI m).toInt.toNat = m := by rw [nT (by omega)]; omega
    rw [h.fld (r := l) (j := 4) (x := 4) (by omega) (by decide) rfl, nl, g3, nm]
    exact h.case22 g2 g5 m 0 n (by omega) (by omega)
theorem VS.search (h : (VS cs lim dE A r1 r2 NF g4 k4) fa ta nf nt M w) {x1 : Option Nat} {x2 x4 : Int32} {L2 : List Nat} (hb : hitR w g4 e b ≠ -1) : ∀ (L1 : List Nat) (c m n : Nat), Lnk w (some c) (L1 ++ b :: L2) → (∀ z, z ∈ L1 ++ b :: L2 → FsO fa nf z ∧ GoodH w g4 z) → (∀ z, z ∈ L1 → hitR w g4 e z = -1) → m + L1.length ≤ 401 → L1.length + 20 < n →
    F_Ma_raise_37 cs dE n M A.ma x1 x2 e x4 (some c) (hitR w g4 e c) (nI m) = RTl cs dE M A.ma (some b) (hitR w g4 e b) (nI (m + L1.length)) x4 := by
  intro L1
  induction L1 with
  | nil =>
    intro c m n hL hG hM hm hn
    obtain ⟨n, rfl⟩ : ∃ z, n = z + 1 := ⟨n - 1, by omega⟩
    have : c = b := by have := hL.1; cases this; rfl
    subst this
    simp only [F_Ma_raise_37, if_neg hb]
    rfl
  | cons z L1 ih =>
    intro c m n hL hG hM hm hn
    obtain ⟨n, rfl⟩ : ∃ z, n = z + 1 := ⟨n - 1, by omega⟩
    have : c = z := by have := hL.1; cases this; rfl
    subst this
    have hz := hM c (by simp [si_1, si_2, sl_1, sl_2, sl_3, ai_1, ai_2, ai_3, ai_4, al_1, al_2, al_3, al_4, cp_1, cp_2, cp_3, cp_4])
    have hcF := (hG c (by simp [si_1, si_2, sl_1, sl_2, sl_3, ai_1, ai_2, ai_3, ai_4, al_1, al_2, al_3, al_4, cp_1, cp_2, cp_3, cp_4])).1
    simp only [List.length_cons] at hm hn
    obtain ⟨c', hc', hmem⟩ : ∃ c', w.2.2 c 4 = some c' ∧ c' ∈ L1 ++ b :: L2 := by
      have := hL.2
      cases L1 with
      | nil => exact ⟨b, this.1, by simp [si_1, si_2, sl_1, sl_2, sl_3, ai_1, ai_2, ai_3, ai_4, al_1, al_2, al_3, al_4, cp_1, cp_2, cp_3, cp_4]⟩
      | cons y L1 => exact ⟨y, this.1, by simp [si_1, si_2, sl_1, sl_2, sl_3, ai_1, ai_2, ai_3, ai_4, al_1, al_2, al_3, al_4, cp_1, cp_2, cp_3, cp_4]⟩
    have q4 : cQ M c 4 = some c' := by rw [h.Q (Or.inl hcF)]; exact hc'
    have hn4 : ¬ (some c' : Option Nat) = none := by simp [si_1, si_2, sl_1, sl_2, sl_3, ai_1, ai_2, ai_3, ai_4, al_1, al_2, al_3, al_4, cp_1, cp_2, cp_3, cp_4]
    have n400 : ¬ (400 : Int32) < nI m := (nI_nlt (a := 400) (b := m) (by omega) (by decide) : ¬ nI 400 < nI m)
    have g' := hG c' (by simp only [List.cons_append, List.mem_cons]; exact Or.inr hmem)
    rw [hz]
    simp only [F_Ma_raise_37, if_true, Option.getD_some, q4, if_neg hn4, if_neg n400, mbind_eq]
    rw [h.lay.ma_0.2]
    simp only [Option.getD_some]
    rw [h.caseOf g'.1 g'.2 (by omega), ← nI_succ]
    have := ih c' (m + 1) n (by rw [← hc']; exact hL.2) (fun y hy => hG y (by simp only [List.cons_append, List.mem_cons]; exact Or.inr hy)) (fun y hy => hM y (by simp [si_1, si_2, sl_1, sl_2, sl_3, ai_1, ai_2, ai_3, ai_4, al_1, al_2, al_3, al_4, cp_1, cp_2, cp_3, cp_4, hy])) (by omega) (by omega)
    rw [this]
    congr 2
    simp only [List.length_cons]
    omega
theorem VS.miss (h : (VS cs lim dE A r1 r2 NF g4 k4) fa ta nf nt M w) {x1 : Option Nat} {x2 x4 : Int32} : ∀ (L : List Nat) (c m n : Nat), Lnk w (some c) L → (∀ z, z ∈ L → FsO fa nf z ∧ GoodH w g4 z) → (∀ z, z ∈ L → hitR w g4 e z = -1) → m + L.length ≤ 402 → L.length + 20 < n →
    F_Ma_raise_37 cs dE n M A.ma x1 x2 e x4 (some c) (hitR w g4 e c) (nI m) = cP 8 (cP 8 M A.ma 9 (.int e)) A.ma 4 (.int 4) := by
  intro L
  induction L with
  | nil => intro c m n hL; cases hL
  | cons z L ih =>
    intro c m n hL hG hM hm hn
    obtain ⟨n, rfl⟩ : ∃ z, n = z + 1 := ⟨n - 1, by omega⟩
    have : c = z := by have := hL.1; cases this; rfl
    subst this
    have hz := hM c (by simp [si_1, si_2, sl_1, sl_2, sl_3, ai_1, ai_2, ai_3, ai_4, al_1, al_2, al_3, al_4, cp_1, cp_2, cp_3, cp_4])
    have hcF := (hG c (by simp [si_1, si_2, sl_1, sl_2, sl_3, ai_1, ai_2, ai_3, ai_4, al_1, al_2, al_3, al_4, cp_1, cp_2, cp_3, cp_4])).1
    simp only [List.length_cons] at hm hn
    have q4 : cQ M c 4 = w.2.2 c 4 := h.Q (Or.inl hcF) 4
    rw [hz]
    simp only [F_Ma_raise_37, if_true, Option.getD_some, q4]
    cases L with
    | nil =>
      have : w.2.2 c 4 = none := hL.2
      rw [if_pos this]
    | cons y L =>
      have hy : w.2.2 c 4 = some y := hL.2.1
      have hn4 : ¬ (some y : Option Nat) = none := by simp [si_1, si_2, sl_1, sl_2, sl_3, ai_1, ai_2, ai_3, ai_4, al_1, al_2, al_3, al_4, cp_1, cp_2, cp_3, cp_4]
      simp only [List.length_cons] at hm hn
      have n400 : ¬ (400 : Int32) < nI m := (nI_nlt (a := 400) (b := m) (by omega) (by decide) : ¬ nI 400 < nI m)
      have g' := hG y (by simp [si_1, si_2, sl_1, sl_2, sl_3, ai_1, ai_2, ai_3, ai_4, al_1, al_2, al_3, al_4, cp_1, cp_2, cp_3, cp_4])
      simp only [hy, if_neg hn4, if_neg n400, mbind_eq, Option.getD_some]
      rw [h.lay.ma_0.2]
      simp only [Option.getD_some]
      rw [h.caseOf g'.1 g'.2 (by omega), ← nI_succ]
      exact ih y (m + 1) n (by rw [← hy]; exact hL.2) (fun z hz => hG z (by simp only [List.mem_cons] at hz ⊢; exact Or.inr hz)) (fun z hz => hM z (by simp only [List.mem_cons] at hz ⊢; exact Or.inr hz)) (by simp only [List.length_cons]; omega) (by simp only [List.length_cons]; omega)
/-- fuel is taken, and the argument comes off the frame -/
theorem VS.fRaise0 {al tk : Nat} (h : (VS cs lim dE A r1 r2 NF g4 k4) fa ta nf nt M w) (ha : FsO fa nf a) (hg : GoodH w g4 a) (f : FSt w a s (H + 1) r') (h10 : 10 ≤ H) (h50 : H < 50) (h11 : w.2.1 A.ma 11 = nI al) (h12 : w.2.1 A.ma 12 = nI tk) (hb : al < 5000 ∧ tk < 5000) (hl : tk < al) (hn : 10 ≤ n) :
    ∃ M3 w3, (VS cs lim dE A r1 r2 NF g4 k4) fa ta nf nt M3 w3 ∧ FSt w3 a s H r' ∧ (∀ k, w3.2.2 a k = w.2.2 a k) ∧ w3.2.1 A.ma 12 = nI (tk + 1) ∧ w3.2.1 A.ma 6 = w.2.1 A.ma 6 + 1 ∧ MaI w w3 A.ma [12, 6] ∧ (∀ k, w3.2.2 A.ma k = w.2.2 A.ma k) ∧ (∀ c, c ≠ a → c ≠ A.ma → Same w w3 c) ∧
    F_Ma_raise cs dE n M A.ma (some a) (nI r) e = F_Ma_raise_37 cs dE n M3 A.ma (some a) (nI r) e (s H) (some a) (hitR w3 g4 e a) (nI 1) := by
  obtain ⟨e1, w1, h1, x12, x6, xm, xq, xs⟩ := (h.fFuel (r := r) ha f h11 h12 hb).2 hl
  have nma := h.neFM ha
  have f1 : FSt w1 a s (H + 1) r' := f.same (xs a nma)
  have ne0 : ¬ (1 : Int32) = 0 := by decide
  unfold F_Ma_raise
  simp only [mbind_eq, e1, if_neg ne0, Option.getD_some]
  generalize (F_Ma_takesFuel cs M A.ma (some a) (nI r)).2 = M1 at h1 ⊢
  obtain ⟨e2, w2, h2, f2, o2⟩ := h1.fPop (H := H) ha f1 h10 h50
  generalize F_Fr_pop cs M1 a = p2 at e2 h2 ⊢
  rw [h2.lay.ma_0.2, e2]
  simp only [Option.getD_some]
  have sM : Same w1 w2 A.ma := o2.same (Ne.symm nma)
  have qa : ∀ k, w2.2.2 a k = w.2.2 a k := fun k => by rw [o2.2.2, (xs a nma).2.2]
  have hg2 : GoodH w2 g4 a := fun t ht => by
    rw [qa 3] at ht
    obtain ⟨l, m, z1, z2⟩ := hg t ht
    have hT : FsO ta nt t := (h.hs.fr ha).ha t (by rw [h.Q (Or.inl ha)]; exact ht)
    have nat : t ≠ a := fun z => h.neFT ha hT z.symm
    exact ⟨l, m, by rw [(o2.same nat).2.1, (xs t (h.neTM hT)).2.1]; exact z1, z2⟩
  rw [h2.caseOf ha hg2 hn]
  refine ⟨p2.2, w2, h2, f2, qa, ?_, ?_, fun k hk => ?_, fun k => ?_, fun c c1 c2 => (xs c c2).trans (o2.same c1), rfl⟩
  · rw [sM.2.1]; exact x12
  · rw [sM.2.1]; exact x6
  · rw [sM.2.1]; exact xm k hk
  · rw [sM.2.2]; exact xq k
/-- the frames down to the handler's are held -/
theorem VS.fHold (h : (VS cs lim dE A r1 r2 NF g4 k4) fa ta nf nt M w) (hb : FsO fa nf b) (hm : m ≤ 402) (hT : w.2.1 A.ma 7 = nI T) (hTm : T + 1 + m ≤ 1000) (hD : w.2.1 A.ma 8 = nI D) (hD4 : D ≤ 400) (hmD : m ≤ D) (hv : w.2.1 A.st 3 = nI v) (hv1 : v < 1000) (htop : w.2.2 A.ma 10 = some a) :
    (F_Ma_holdFrames cs dE M A.ma (some b) (nI m)).1 = nI v ∧ ∃ ta' nt' w', (VS cs lim dE A r1 r2 NF g4 k4) fa ta' nf nt' (F_Ma_holdFrames cs dE M A.ma (some b) (nI m)).2 w' ∧ (nt ≤ nt' ∧ (∀ i, i < nt → ta' i = ta i) ∧ v < nt') ∧
    (w'.2.1 (ta' v) 2 = 1 ∧ w'.2.1 (ta' v) 3 = 0 ∧ w'.2.2 (ta' v) 4 = some a ∧ w'.2.2 (ta' v) 5 = some b ∧ w'.2.1 (ta' v) 6 = nI m) ∧ (w'.2.2 b 4 = none ∧ (∀ k, k ≠ 4 → w'.2.2 b k = w.2.2 b k) ∧ (∀ k, w'.2.1 b k = w.2.1 b k) ∧ ∀ j, w'.1 b j = w.1 b j) ∧
    (w'.2.1 A.ma 7 = nI (T + 1 + m) ∧ w'.2.1 A.ma 8 = nI (D - m) ∧ MaI w w' A.ma [7, 8] ∧ ∀ k, w'.2.2 A.ma k = w.2.2 A.ma k) ∧ (w'.2.1 A.st 3 = nI (v + 1) ∧ MaI w w' A.st [3] ∧ ∀ k, w'.2.2 A.st k = w.2.2 A.st k) ∧ (∀ c, c ≠ b → c ≠ ta' v → c ≠ A.ma → c ≠ A.st → Same w w' c) := by
  have kM : FsO fa nf A.ma ∨ FsO ta nt A.ma ∨ A.ma = A.ma ∨ A.ma = A.st := Or.inr (Or.inr (Or.inl rfl))
  have nmb := h.neFM hb
  have nsb := h.neFS hb
  have nms := h.neMS
  have e1m : (1 : Int32) + nI m = nI (1 + m) := (nI_ad (m := 1) (n := m) (by omega) : nI 1 + nI m = _)
  have e7 : cI M A.ma 7 = nI T := by rw [h.I kM]; exact hT
  unfold F_Ma_holdFrames
  simp only [mbind_eq, Option.getD_some, e1m, e7]
  rw [nI_ad (m := T) (n := 1 + m) (by omega)]
  have g1 := h.putN (ci := 8) (k := 7) (x := nI (T + (1 + m))) h.oM (by decide) (by decide) (by decide) (by decide)
  generalize cP 8 M A.ma 7 (.int (nI (T + (1 + m)))) = M1 at g1 ⊢
  have e8 : cI M1 A.ma 8 = nI D := by rw [g1.I kM, vpi_i, if_neg (by omega)]; exact hD
  rw [e8, nI_sub (by omega) hmD]
  have g2 := g1.putN (ci := 8) (k := 8) (x := nI (D - m)) g1.oM (by decide) (by decide) (by decide) (by decide)
  generalize cP 8 M1 A.ma 8 (.int (nI (D - m))) = M2 at g2 ⊢
  rw [g2.lay.ma_1.2]
  simp only [Option.getD_some]
  obtain ⟨e2, ta', nt', w3, g3, p1, p2, p3, T1, T2, T3⟩ := g2.takeT (v := v) (by rw [vpi_i, if_neg (fun z => nms z.1.symm), vpi_i, if_neg (fun z => nms z.1.symm)]; exact hv) hv1
  have hT' : FsO ta' nt' (ta' v) := ⟨v, p3, rfl⟩
  have nbt : b ≠ ta' v := g3.neFT hb hT'
  have nmt : A.ma ≠ ta' v := fun z => g3.neTM hT' z.symm
  have nst : A.st ≠ ta' v := fun z => g3.neTS hT' z.symm
  have s3 : w3.2.1 A.st 3 = nI (v + 1) := by rw [T2 A.st 3 nst, vpi_i, if_pos ⟨rfl, rfl⟩]
  obtain ⟨e4, -⟩ := g3.thing (i := v) (v := v + 1) s3 (by omega) (by omega)
  generalize F_St_takeThing cs dE M2 A.st = w9 at e2 g3 e4 ⊢
  rw [g3.lay.ma_1.2, e2]
  simp only [Option.getD_some, e4]
  have hnn : ¬ (some (ta' v) : Option Nat) = none := by simp [si_1, si_2, sl_1, sl_2, sl_3, ai_1, ai_2, ai_3, ai_4, al_1, al_2, al_3, al_4, cp_1, cp_2, cp_3, cp_4]
  simp only [if_neg hnn, Option.getD_some]
  have t3 : cQ w9.2 A.ma 10 = some a := by rw [g3.Q (Or.inr (Or.inr (Or.inl rfl))), T3 A.ma 10 nmt, vpi_q, vpi_q]; exact htop
  rw [t3]
  have hA : FsO fa nf a := h.hs.top a (by rw [h.Q kM]; exact htop)
  have g4' := g3.hold hT' (u := some a) (l := some b) (fun z hz => by cases hz; exact hA) (fun z hz => by cases hz; exact hb) (nI m)
  generalize F_Th_hold cs w9.2 (ta' v) (some a) (some b) (nI m) = M4 at g4' ⊢
  have g5 := g4'.putQ (ci := 10) (k := 4) (r := none) (g4'.oF hb) (Or.inr ⟨by simp [si_1, si_2, sl_1, sl_2, sl_3, ai_1, ai_2, ai_3, ai_4, al_1, al_2, al_3, al_4, cp_1, cp_2, cp_3, cp_4], fun z hz => by cases hz⟩)
  have W0 : ∀ c, c ≠ A.ma → Same w (vpi (vpi w A.ma 7 (nI (T + (1 + m)))) A.ma 8 (nI (D - m))) c := fun c c1 => (vpi_same c1).trans (vpi_same c1)
  have W3 : ∀ c, c ≠ ta' v → c ≠ A.st → Same (vpi (vpi w A.ma 7 (nI (T + (1 + m)))) A.ma 8 (nI (D - m))) w3 c := fun c c1 c2 => ⟨fun j => T1 c j c1, fun k => by rw [T2 c k c1, vpi_i, if_neg (fun z => c2 z.1)], fun k => T3 c k c1⟩
  have W4 : ∀ c, c ≠ ta' v → Same w3 (vpi (vpq (vpq (vpi (vpi w3 (ta' v) 2 1) (ta' v) 3 0) (ta' v) 4 (some a)) (ta' v) 5 (some b)) (ta' v) 6 (nI m)) c := fun c c1 => ((((vpi_same c1).trans (vpi_same c1)).trans (vpq_same c1)).trans (vpq_same c1)).trans (vpi_same c1)
  have Wm := ((W3 A.ma nmt nms).trans (W4 A.ma nmt)).trans (vpq_same (k := 4) (x := none) (Ne.symm nmb))
  have Wb := ((W0 b nmb).trans (W3 b nbt nsb)).trans (W4 b nbt)
  refine ⟨trivial, ta', nt', _, g5, ⟨p1, p2, p3⟩, ⟨?_, ?_, ?_, ?_, ?_⟩, ⟨?_, fun k hk => ?_, fun k => ?_, fun j => ?_⟩, ⟨?_, ?_, fun k hk => ?_, fun k => ?_⟩, ⟨?_, fun k hk => ?_, fun k => ?_⟩, fun c c1 c2 c3 c4 => (((W0 c c3).trans (W3 c c2 c4)).trans (W4 c c2)).trans (vpq_same c1)⟩
  · rw [vpq_i, vpi_i, if_neg (by omega), vpq_i, vpq_i, vpi_i, if_neg (by omega), vpi_i, if_pos ⟨rfl, rfl⟩]
  · rw [vpq_i, vpi_i, if_neg (by omega), vpq_i, vpq_i, vpi_i, if_pos ⟨rfl, rfl⟩]
  · rw [vpq_q, if_neg (fun z => nbt z.1.symm), vpi_q, vpq_q, if_neg (by omega), vpq_q, if_pos ⟨rfl, rfl⟩]
  · rw [vpq_q, if_neg (fun z => nbt z.1.symm), vpi_q, vpq_q, if_pos ⟨rfl, rfl⟩]
  · rw [vpq_i, vpi_i, if_pos ⟨rfl, rfl⟩]
  · rw [vpq_q, if_pos ⟨rfl, rfl⟩]
  · rw [vpq_q, if_neg (fun z => hk z.2), Wb.2.2]
  · rw [vpq_i, Wb.2.1]
  · rw [vpq_s, Wb.1]
  · rw [Wm.2.1, vpi_i, if_neg (by omega), vpi_i, if_pos ⟨rfl, rfl⟩, Nat.add_assoc]
  · rw [Wm.2.1, vpi_i, if_pos ⟨rfl, rfl⟩]
  · simp only [List.mem_cons, List.not_mem_nil, or_false, not_or] at hk
    rw [Wm.2.1, vpi_i, if_neg (fun z => hk.2 z.2), vpi_i, if_neg (fun z => hk.1 z.2)]
  · rw [Wm.2.2, vpi_q, vpi_q]
  · rw [vpq_i, (W4 A.st nst).2.1]; exact s3
  · simp only [List.mem_cons, List.not_mem_nil, or_false] at hk
    rw [vpq_i, (W4 A.st nst).2.1, T2 A.st k nst, vpi_i, if_neg (fun z => hk z.2), vpi_i, if_neg (fun z => nms z.1.symm), vpi_i, if_neg (fun z => nms z.1.symm)]
  · rw [vpq_q, if_neg (fun z => nsb z.1.symm), (W4 A.st nst).2.2, T3 A.st k nst, vpi_q, vpi_q]
/-- the clause begins -/
theorem VS.fRaise {p rb K1 K2 th : Nat} (h : (VS cs lim dE A r1 r2 NF g4 k4) fa ta nf nt M w) (hb : FsO fa nf b) (hus : Usd A fa u w b) (htb : w.2.2 b 3 = some th) (hm : m ≤ 402) (hT : w.2.1 A.ma 7 = nI T) (hTm : T + 1 + m ≤ 1000) (hD : w.2.1 A.ma 8 = nI D) (hD4 : D ≤ 400) (hmD : m ≤ D) (hv : w.2.1 A.st 3 = nI v) (hv1 : v < 1000) (hvt : ∀ i, v ≤ i → i < nt → ta i ≠ th) (hu : w.2.1 A.st 2 = nI u) (hN : u < NF) (hp : p ≤ 1950) (h2 : cFd g4 p 2 = nI rb) (h3 : cFd g4 p 3 = nI K1) (hK1 : K1 < 10) (h4 : cFd g4 p 4 = nI K2) (hK2 : K2 < 10) (htop : w.2.2 A.ma 10 = some a) (x4 : Int32) :
    ∃ f' fa' nf' ta' nt' w', (VS cs lim dE A r1 r2 NF g4 k4) fa' ta' nf' nt' (RTl cs dE M A.ma (some b) (nI p) (nI m) x4) w' ∧ (nf ≤ nf' ∧ (∀ i, i < nf → fa' i = fa i) ∧ FsO fa' nf' f' ∧ (∀ c, Usd A fa u w c → c ≠ f')) ∧ (nt ≤ nt' ∧ (∀ i, i < nt → ta' i = ta i) ∧ v < nt') ∧
    (w'.2.1 (ta' v) 2 = 1 ∧ w'.2.1 (ta' v) 3 = 0 ∧ w'.2.2 (ta' v) 4 = some a ∧ w'.2.2 (ta' v) 5 = some b ∧ w'.2.1 (ta' v) 6 = nI m) ∧ (w'.2.2 b 4 = none ∧ (∀ k, k ≠ 4 → w'.2.2 b k = w.2.2 b k) ∧ (∀ k, w'.2.1 b k = w.2.1 b k) ∧ ∀ j, w'.1 b j = w.1 b j) ∧
    ((∀ j, j < 10 → w'.1 f' j = if j = K2 then nI v else if j = K1 then x4 else w.1 th j) ∧ w'.2.1 f' 1 = nI 10 ∧ w'.2.1 f' 2 = nI rb ∧ w'.2.2 f' 3 = none ∧ w'.2.2 f' 4 = w.2.2 b 4) ∧
    (w'.2.1 A.ma 7 = nI (T + 1 + m) ∧ w'.2.1 A.ma 8 = nI (D - m + 1) ∧ MaI w w' A.ma [7, 8] ∧ w'.2.2 A.ma 10 = some f') ∧ w'.2.1 A.st 3 = nI (v + 1) ∧ StF A fa' nf' u w w' f' ∧ (∀ c, c ≠ b → c ≠ f' → c ≠ ta' v → c ≠ A.ma → c ≠ A.st → Same w w' c) := by
  have nmb := h.neFM hb
  have nsb := h.neFS hb
  have nms := h.neMS
  have hth : FsO ta nt th := (h.hs.fr hb).ha th (by rw [h.Q (Or.inl hb)]; exact htb)
  have qb4 : cQ M b 4 = w.2.2 b 4 := h.Q (Or.inl hb) 4
  have e1m : (1 : Int32) + nI m = nI (1 + m) := (nI_ad (m := 1) (n := m) (by omega) : nI 1 + nI m = _)
  unfold RTl
  rw [e1m, (h.fFull hT (m := 1 + m) rfl (by omega)).2 (by omega)]
  simp only [mbind_eq, if_true, Option.getD_some, qb4]
  obtain ⟨e1, ta', nt', w1, g1, ⟨p1, p2, p3⟩, ⟨t1, t2, t3, t4, t5⟩, ⟨b1, b2, b3, b4⟩, ⟨m1, m2, m3, m4⟩, ⟨s1, s2, s3⟩, S1⟩ := h.fHold hb hm hT hTm hD hD4 hmD hv hv1 htop
  generalize F_Ma_holdFrames cs dE M A.ma (some b) (nI m) = w10 at e1 g1 ⊢
  have hT' : FsO ta' nt' (ta' v) := ⟨v, p3, rfl⟩
  have hth' : FsO ta' nt' th := hth.le p1 p2
  have nthv : th ≠ ta' v := fun z => by
    obtain ⟨i, i1, i2⟩ := hth
    have : i = v := g1.ti i v (by omega) p3 (by rw [p2 i i1, i2, z])
    exact hvt i (by omega) i1 i2
  have nmt : A.ma ≠ ta' v := fun z => g1.neTM hT' z.symm
  have nst : A.st ≠ ta' v := fun z => g1.neTS hT' z.symm
  have nbt : b ≠ ta' v := g1.neFT hb hT'
  have nbh : th ≠ b := fun z => g1.neFT hb hth' z.symm
  have qb3 : cQ w10.2 b 3 = some th := by rw [g1.Q (Or.inl hb), b2 3 (by decide)]; exact htb
  rw [g1.lay.ma_0.2, qb3]
  simp only [Option.getD_some]
  rw [g1.fld (r := p) (by omega) (j := 2) (x := 2) (by decide) rfl, h2, e1]
  have u1 : w1.2.1 A.st 2 = nI u := by rw [s2 2 (by decide)]; exact hu
  have hbe : ∀ z, w.2.2 b 4 = some z → FsO fa nf z := fun z hz => (h.hs.fr hb).be z (by rw [qb4]; exact hz)
  obtain ⟨f', fa', nf', w6, h6, q1, q2, q3, q4, ⟨c1, c2, c3, c4, c5, c6, c7⟩, d1, d2, d3, d4⟩ := g1.enter u1 hN hth' (x1 := w.2.2 b 4) hbe (nI rb)
  have qs : w1.2.2 A.st 4 = w.2.2 A.st 4 := s3 4
  have us5 : ∀ c, Usd A fa u w c → c ≠ f' := fun c hc => q4 c ⟨hc.1, by rw [qs]; exact hc.2⟩
  have nbf : b ≠ f' := us5 b hus
  have nmf : A.ma ≠ f' := fun z => h6.neFM q3 z.symm
  have nsf : A.st ≠ f' := fun z => h6.neFS q3 z.symm
  have ntf : ta' v ≠ f' := fun z => h6.neFT q3 hT' z.symm
  generalize F_Ma_enter cs dE w10.2 A.ma (w.2.2 b 4) (some th) (nI rb) = M6 at h6 ⊢
  have t6 : cQ M6 A.ma 10 = some f' := by rw [h6.Q (Or.inr (Or.inr (Or.inl rfl)))]; exact c6
  rw [t6, h6.lay.ma_0.2]
  simp only [Option.getD_some]
  rw [h6.fld (r := p) (by omega) (j := 3) (x := 3) (by decide) rfl, h3]
  have h7 := h6.give (v := x4) q3 rfl hK1
  generalize F_Fr_give cs M6 f' (nI K1) x4 = M7 at h7 ⊢
  have t7 : cQ M7 A.ma 10 = some f' := by rw [h7.Q (Or.inr (Or.inr (Or.inl rfl))), vps_q]; exact c6
  rw [t7, h7.lay.ma_0.2]
  simp only [Option.getD_some]
  rw [h7.fld (r := p) (by omega) (j := 4) (x := 4) (by decide) rfl, h4]
  have h8 := h7.give (v := nI v) q3 rfl hK2
  have S6 : ∀ c, c ≠ f' → c ≠ A.ma → c ≠ A.st → Same w1 w6 c := fun c z1 z2 z3 => ⟨fun j => d1 c j z1, fun k => d2 c k z1 (fun z => z2 z.1) (fun z => z3 z.1), fun k => d3 c k z1 (fun z => z2 z.1) (fun z => z3 z.1)⟩
  have S8 : ∀ c, c ≠ f' → Same w6 (vps (vps w6 f' K1 x4) f' K2 (nI v)) c := fun c z => (vps_same z).trans (vps_same z)
  have St := (S6 (ta' v) ntf (Ne.symm nmt) (Ne.symm nst)).trans (S8 (ta' v) ntf)
  have Sb := (S6 b nbf nmb nsb).trans (S8 b nbf)
  refine ⟨f', fa', nf', ta', nt', _, h8, ⟨q1, q2, q3, us5⟩, ⟨p1, p2, p3⟩, ⟨?_, ?_, ?_, ?_, ?_⟩, ⟨?_, fun k hk => ?_, fun k => ?_, fun j => ?_⟩, ⟨fun j hj => ?_, ?_, ?_, ?_, ?_⟩, ⟨?_, ?_, fun k hk => ?_, ?_⟩, ?_, ?_, fun c z1 z2 z3 z4 z5 => ((S1 c z1 z3 z4 z5).trans (S6 c z2 z4 z5)).trans (S8 c z2)⟩
  · rw [St.2.1]; exact t1
  · rw [St.2.1]; exact t2
  · rw [St.2.2]; exact t3
  · rw [St.2.2]; exact t4
  · rw [St.2.1]; exact t5
  · rw [Sb.2.2]; exact b1
  · rw [Sb.2.2]; exact b2 k hk
  · rw [Sb.2.1]; exact b3 k
  · rw [Sb.1]; exact b4 j
  · rw [vps_s]
    by_cases z : j = K2
    · rw [if_pos ⟨rfl, z⟩, if_pos z]
    · rw [if_neg (fun y => z y.2), if_neg z, vps_s]
      by_cases z1 : j = K1
      · rw [if_pos ⟨rfl, z1⟩, if_pos z1]
      · rw [if_neg (fun y => z1 y.2), if_neg z1, c1 j hj]
        exact (S1 th nbh nthv (h.neTM hth) (h.neTS hth)).1 j
  · rw [vps_i, vps_i]; exact c2
  · rw [vps_i, vps_i]; exact c3
  · rw [vps_q, vps_q]; exact c4
  · rw [vps_q, vps_q]; exact c5
  · rw [vps_i, vps_i, d2 A.ma 7 nmf (by omega) (fun z => nms z.1)]; exact m1
  · rw [vps_i, vps_i, c7, m2, nI_succ]
  · have hk' := hk
    simp only [List.mem_cons, List.not_mem_nil, or_false, not_or] at hk
    rw [vps_i, vps_i, d2 A.ma k nmf (fun z => hk.2 z.2) (fun z => nms z.1)]; exact m3 k hk'
  · rw [vps_q, vps_q]; exact c6
  · rw [vps_i, vps_i, d2 A.st 3 nsf (fun z => nms z.1.symm) (by omega)]; exact s1
  · unfold StF
    rw [vps_q, vps_q, vps_i, vps_i]
    rcases d4 with ⟨z1, z2, z3⟩ | ⟨z1, z2, z3, z4⟩
    · refine Or.inl ⟨by rw [← qs]; exact z1, ?_, ?_⟩
      · rw [z2]
        by_cases zb : f' = b
        · exact absurd zb.symm nbf
        · exact (S1 f' zb (Ne.symm ntf) (Ne.symm nmf) (Ne.symm nsf)).2.2 4
      · rw [z3, u1, hu]
    · exact Or.inr ⟨by rw [← qs]; exact z1, z2, z3, z4⟩
end
end
