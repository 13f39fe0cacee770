-- pure rows: FJ FK FL FM FN
section
/-! pure rows, the class: the machine's steps -/
section
variable {cs : Nat → ClassId} {lim dE : Nat × Nat} {A : Ad} {Fs Ts : Nat → Prop} {r1 r2 NF : Nat} {g4 : Nat → Int32} {k4 : Nat} {M M' : gMem} {a t n fu : Nat} {b st sf : Int}
theorem pushC (h : (HS cs lim dE A r1 r2 NF g4 k4) Fs Ts M) (c : (MC A NF b st sf) M) (ha : Fs a) (v : Int32) : S_Fr_push cs lim M a v ∧ (HS cs lim dE A r1 r2 NF g4 k4) Fs Ts (F_Fr_push cs M a v) ∧ (MC A NF b st sf) (F_Fr_push cs M a v) := by
  obtain ⟨s, h2⟩ := fr_push h ha v
  exact ⟨s, h2, c.ext h.lay (x_Fr_push cs lim M a v h.lay.mok s) (by decide)⟩
theorem popC (h : (HS cs lim dE A r1 r2 NF g4 k4) Fs Ts M) (c : (MC A NF b st sf) M) (ha : Fs a) : S_Fr_pop cs lim M a ∧ (HS cs lim dE A r1 r2 NF g4 k4) Fs Ts (F_Fr_pop cs M a).2 ∧ (MC A NF b st sf) (F_Fr_pop cs M a).2 := by
  obtain ⟨s, h2⟩ := fr_pop h ha
  exact ⟨s, h2, c.ext h.lay (x_Fr_pop cs lim M a h.lay.mok s) (by decide)⟩
theorem giveC (h : (HS cs lim dE A r1 r2 NF g4 k4) Fs Ts M) (c : (MC A NF b st sf) M) (ha : Fs a) (x v : Int32) : S_Fr_give cs lim M a x v ∧ (HS cs lim dE A r1 r2 NF g4 k4) Fs Ts (F_Fr_give cs M a x v) ∧ (MC A NF b st sf) (F_Fr_give cs M a x v) := by
  obtain ⟨s, h2⟩ := fr_give h ha x v
  exact ⟨s, h2, c.ext h.lay (x_Fr_give cs lim M a x v h.lay.mok s) (by decide)⟩
theorem tgiveC (h : (HS cs lim dE A r1 r2 NF g4 k4) Fs Ts M) (c : (MC A NF b st sf) M) (ha : Ts t) (x v : Int32) : S_Th_give cs lim M t x v ∧ (HS cs lim dE A r1 r2 NF g4 k4) Fs Ts (F_Th_give cs M t x v) ∧ (MC A NF b st sf) (F_Th_give cs M t x v) := by
  obtain ⟨s, h2⟩ := th_give h ha x v
  exact ⟨s, h2, c.ext h.lay (x_Th_give cs lim M t x v h.lay.mok s) (by decide)⟩
theorem openC (h : (HS cs lim dE A r1 r2 NF g4 k4) Fs Ts M) (c : (MC A NF b st sf) M) (ha : Fs a) {r : Option Nat} (ht : ∀ t, r = some t → Ts t) (x : Int32) : S_Fr_open cs lim M a r x ∧ (HS cs lim dE A r1 r2 NF g4 k4) Fs Ts (F_Fr_open cs M a r x) ∧ (MC A NF b st sf) (F_Fr_open cs M a r x) := by
  obtain ⟨s, h2⟩ := fr_open h ha ht x
  exact ⟨s, h2, c.ext h.lay (x_Fr_open cs lim M a r x h.lay.mok s) (by decide)⟩
theorem keepC (h : (HS cs lim dE A r1 r2 NF g4 k4) Fs Ts M) (c : (MC A NF b st sf) M) (ha : Fs a) (ht : Ts t) : S_Fr_keepNames cs lim M a (some t) ∧ (HS cs lim dE A r1 r2 NF g4 k4) Fs Ts (F_Fr_keepNames cs M a (some t)) ∧ (MC A NF b st sf) (F_Fr_keepNames cs M a (some t)) := by
  obtain ⟨s, h2⟩ := fr_keepNames h ha ht
  exact ⟨s, h2, c.ext h.lay (x_Fr_keepNames cs lim M a (some t) h.lay.mok s) (by decide)⟩
theorem makeC (h : (HS cs lim dE A r1 r2 NF g4 k4) Fs Ts M) (c : (MC A NF b st sf) M) (ht : Ts t) (x : Int32) : S_Th_make cs lim M t x ∧ (HS cs lim dE A r1 r2 NF g4 k4) Fs Ts (F_Th_make cs M t x) ∧ (MC A NF b st sf) (F_Th_make cs M t x) := by
  obtain ⟨s, h2⟩ := th_make h ht x
  exact ⟨s, h2, c.ext h.lay (x_Th_make cs lim M t x h.lay.mok s) (by decide)⟩
theorem holdC (h : (HS cs lim dE A r1 r2 NF g4 k4) Fs Ts M) (c : (MC A NF b st sf) M) (ht : Ts t) {u l : Option Nat} (hu : ∀ z, u = some z → Fs z) (hl : ∀ z, l = some z → Fs z) (x : Int32) : S_Th_hold cs lim M t u l x ∧ (HS cs lim dE A r1 r2 NF g4 k4) Fs Ts (F_Th_hold cs M t u l x) ∧ (MC A NF b st sf) (F_Th_hold cs M t u l x) := by
  obtain ⟨s, h2⟩ := th_hold h ht hu hl x
  exact ⟨s, h2, c.ext h.lay (x_Th_hold cs lim M t u l x h.lay.mok s) (by decide)⟩
theorem backC (h : (HS cs lim dE A r1 r2 NF g4 k4) Fs Ts M) (c : (MC A NF b st sf) M) (ha : Fs a) : S_St_giveBack cs lim M A.st (some a) ∧ (HS cs lim dE A r1 r2 NF g4 k4) Fs Ts (F_St_giveBack cs M A.st (some a)) ∧ (MC A NF b st sf) (F_St_giveBack cs M A.st (some a)) := by
  obtain ⟨s, h2⟩ := st_giveBack h ha
  exact ⟨s, h2, c.ext h.lay (x_St_giveBack cs lim M A.st (some a) h.lay.mok s) (by decide)⟩
/-- an int field that isn't counted -/
theorem putNC {ci k : Nat} (h : (HS cs lim dE A r1 r2 NF g4 k4) Fs Ts M) (c : (MC A NF b st sf) M) {x : Int32} (ho : cOk ci M a) (h2 : (ckd ci).getD k 0 ≠ 2) (hW : ([(ci, k)] : List (Nat × Nat)).all (fun w => !BAD.contains w && w != (2, 0)) = true) (hC : ([(ci, k)] : List (Nat × Nat)).all (fun w => !CNT.contains w) = true) : (HS cs lim dE A r1 r2 NF g4 k4) Fs Ts (cP ci M a k (.int x)) ∧ (MC A NF b st sf) (cP ci M a k (.int x)) :=
  ⟨h.putN ho h2 hW, c.ext h.lay ((Ext.rf (W := [(ci, k)]) (V := []) (al := false) h.lay.mok).putI k ho (by simp [si_1, si_2, sl_1, sl_2, sl_3, ai_1, ai_2, ai_3, ai_4, al_1, al_2, al_3, al_4]) h2) hC⟩
theorem putQC {ci k : Nat} (h : (HS cs lim dE A r1 r2 NF g4 k4) Fs Ts M) (c : (MC A NF b st sf) M) {r : Option Nat} (ho : cOk ci M a) (hf : (ci = 10 ∧ k = 3 ∧ ∀ z, r = some z → Ts z) ∨ (((ci = 10 ∧ k = 4) ∨ (ci = 11 ∧ k = 4) ∨ (ci = 11 ∧ k = 5) ∨ (ci = 8 ∧ k = 10) ∨ (ci = 9 ∧ k = 4)) ∧ ∀ z, r = some z → Fs z)) : (HS cs lim dE A r1 r2 NF g4 k4) Fs Ts (cP ci M a k (va_rf r)) ∧ (MC A NF b st sf) (cP ci M a k (va_rf r)) := by
  have hk : ((ckd ci).getD k 0 = 2) ∧ OWN.contains (ci, k) = false ∧ ([(ci, k)] : List (Nat × Nat)).all (fun w => !CNT.contains w) = true := by rcases hf with ⟨rfl, rfl, -⟩ | ⟨⟨rfl, rfl⟩ | ⟨rfl, rfl⟩ | ⟨rfl, rfl⟩ | ⟨rfl, rfl⟩ | ⟨rfl, rfl⟩, -⟩ <;> decide
  exact ⟨h.putQ ho hf, c.ext h.lay ((Ext.rf (W := [(ci, k)]) (V := []) (al := false) h.lay.mok).putQ k ho (by simp [si_1, si_2, sl_1, sl_2, sl_3, ai_1, ai_2, ai_3, ai_4, al_1, al_2, al_3, al_4]) hk.1 hk.2.1) hk.2.2⟩
theorem ma_bind (h : (HS cs lim dE A r1 r2 NF g4 k4) Fs Ts M) (c : (MC A NF b st sf) M) (ha : Fs a) (x : Int32) : S_Ma_bind cs lim M A.ma (some a) x ∧ (HS cs lim dE A r1 r2 NF g4 k4) Fs Ts (F_Ma_bind cs M A.ma (some a) x) ∧ (MC A NF b st sf) (F_Ma_bind cs M A.ma (some a) x) := by
  unfold S_Ma_bind F_Ma_bind
  simp only [Option.getD_some, mbind_eq]
  obtain ⟨s1, h1, c1⟩ := popC h c ha
  generalize F_Fr_pop cs M a = w1 at h1 c1 ⊢
  have sv := fr_valueOf h1 ha x
  obtain ⟨s2, h2, c2⟩ := pushC h1 c1 ha (F_Fr_valueOf cs w1.2 a x)
  generalize F_Fr_push cs w1.2 a (F_Fr_valueOf cs w1.2 a x) = w2 at h2 c2 ⊢
  obtain ⟨s3, h3, c3⟩ := giveC h2 c2 ha x w1.1
  exact ⟨⟨⟨a, rfl, (h.fr ha).ok⟩, s1, ⟨a, rfl, (h1.fr ha).ok⟩, sv, ⟨a, rfl, (h1.fr ha).ok⟩, s2, ⟨a, rfl, (h2.fr ha).ok⟩, s3, trivial⟩, h3, c3⟩
theorem ma_unbind (h : (HS cs lim dE A r1 r2 NF g4 k4) Fs Ts M) (c : (MC A NF b st sf) M) (ha : Fs a) (x : Int32) : S_Ma_unbind cs lim M A.ma (some a) x ∧ (HS cs lim dE A r1 r2 NF g4 k4) Fs Ts (F_Ma_unbind cs M A.ma (some a) x) ∧ (MC A NF b st sf) (F_Ma_unbind cs M A.ma (some a) x) := by
  unfold S_Ma_unbind F_Ma_unbind
  simp only [Option.getD_some, mbind_eq]
  obtain ⟨s1, h1, c1⟩ := popC h c ha
  generalize F_Fr_pop cs M a = w1 at h1 c1 ⊢
  obtain ⟨s2, h2, c2⟩ := popC h1 c1 ha
  generalize F_Fr_pop cs w1.2 a = w2 at h2 c2 ⊢
  obtain ⟨s3, h3, c3⟩ := giveC h2 c2 ha x w2.1
  generalize F_Fr_give cs w2.2 a x w2.1 = w3 at h3 c3 ⊢
  obtain ⟨s4, h4, c4⟩ := pushC h3 c3 ha w1.1
  exact ⟨⟨⟨a, rfl, (h.fr ha).ok⟩, s1, ⟨a, rfl, (h1.fr ha).ok⟩, s2, ⟨a, rfl, (h2.fr ha).ok⟩, s3, ⟨a, rfl, (h3.fr ha).ok⟩, s4, trivial⟩, h4, c4⟩
theorem ma_combine (h : (HS cs lim dE A r1 r2 NF g4 k4) Fs Ts M) (c : (MC A NF b st sf) M) (ha : Fs a) (x : Int32) : S_Ma_combine cs lim M A.ma (some a) x ∧ (HS cs lim dE A r1 r2 NF g4 k4) Fs Ts (F_Ma_combine cs M A.ma (some a) x) ∧ (MC A NF b st sf) (F_Ma_combine cs M A.ma (some a) x) := by
  unfold S_Ma_combine F_Ma_combine
  simp only [Option.getD_some, mbind_eq]
  obtain ⟨s1, h1, c1⟩ := popC h c ha
  generalize F_Fr_pop cs M a = w1 at h1 c1 ⊢
  obtain ⟨s2, h2, c2⟩ := popC h1 c1 ha
  generalize F_Fr_pop cs w1.2 a = w2 at h2 c2 ⊢
  have o := (h.fr ha).ok
  have o1 := (h1.fr ha).ok
  have o2 := (h2.fr ha).ok
  have key : ∀ v, S_Fr_push cs lim w2.2 a v ∧ (HS cs lim dE A r1 r2 NF g4 k4) Fs Ts (F_Fr_push cs w2.2 a v) ∧ (MC A NF b st sf) (F_Fr_push cs w2.2 a v) := fun v => pushC h2 c2 ha v
  by_cases c0 : x = 0
  · simp only [if_pos c0]
    obtain ⟨s, r⟩ := key (w2.1 + w1.1)
    exact ⟨⟨⟨a, rfl, o⟩, s1, ⟨a, rfl, o1⟩, s2, ⟨a, rfl, o2⟩, s, trivial⟩, r⟩
  simp only [if_neg c0]
  by_cases c1 : x = 1
  · simp only [if_pos c1]
    obtain ⟨s, r⟩ := key (w2.1 - w1.1)
    exact ⟨⟨⟨a, rfl, o⟩, s1, ⟨a, rfl, o1⟩, s2, ⟨a, rfl, o2⟩, s, trivial⟩, r⟩
  simp only [if_neg c1]
  by_cases c2 : x = 2
  · simp only [if_pos c2]
    obtain ⟨s, r⟩ := key (w2.1 * w1.1)
    exact ⟨⟨⟨a, rfl, o⟩, s1, ⟨a, rfl, o1⟩, s2, ⟨a, rfl, o2⟩, s, trivial⟩, r⟩
  simp only [if_neg c2]
  by_cases c3 : x = 3
  · simp only [if_pos c3]
    by_cases d : w1.1 ≤ w2.1
    · simp only [if_pos d]
      obtain ⟨s, r⟩ := key 0
      exact ⟨⟨⟨a, rfl, o⟩, s1, ⟨a, rfl, o1⟩, s2, ⟨a, rfl, o2⟩, s, trivial⟩, r⟩
    · simp only [if_neg d]
      obtain ⟨s, r⟩ := key 1
      exact ⟨⟨⟨a, rfl, o⟩, s1, ⟨a, rfl, o1⟩, s2, ⟨a, rfl, o2⟩, s, trivial⟩, r⟩
  simp only [if_neg c3]
  by_cases d : w2.1 = w1.1
  · simp only [if_pos d]
    obtain ⟨s, r⟩ := key 1
    exact ⟨⟨⟨a, rfl, o⟩, s1, ⟨a, rfl, o1⟩, s2, ⟨a, rfl, o2⟩, s, trivial⟩, r⟩
  · simp only [if_neg d]
    obtain ⟨s, r⟩ := key 0
    exact ⟨⟨⟨a, rfl, o⟩, s1, ⟨a, rfl, o1⟩, s2, ⟨a, rfl, o2⟩, s, trivial⟩, r⟩
theorem ma_end (h : (HS cs lim dE A r1 r2 NF g4 k4) Fs Ts M) (c : (MC A NF b st sf) M) (ha : Fs a) : S_Ma_end cs lim M A.ma (some a) ∧ (HS cs lim dE A r1 r2 NF g4 k4) Fs Ts (F_Ma_end cs M A.ma (some a)) ∧ (MC A NF b st sf) (F_Ma_end cs M A.ma (some a)) := by
  unfold S_Ma_end F_Ma_end
  simp only [Option.getD_some, mbind_eq]
  obtain ⟨s1, h1, c1⟩ := popC h c ha
  generalize F_Fr_pop cs M a = w1 at h1 c1 ⊢
  have o := (h.fr ha).ok
  have F1 := h1.fr ha
  by_cases d : cQ w1.2 a 4 = none
  · simp only [if_pos d]
    obtain ⟨h2, c2⟩ := putNC h1 c1 (ci := 8) (k := 4) (x := 2) h1.lay.ma_0.1 (by decide) (by decide) (by decide)
    have o2 := h2.lay.ma_0.1
    split
    · obtain ⟨h3, c3⟩ := putNC h2 c2 (ci := 8) (k := 5) (x := 0) o2 (by decide) (by decide) (by decide)
      exact ⟨⟨⟨a, rfl, o⟩, s1, ⟨a, rfl, F1.ok⟩, h1.lay.ma_0.1, o2, o2, trivial⟩, h3, c3⟩
    · obtain ⟨h3, c3⟩ := putNC h2 c2 (ci := 8) (k := 5) (x := w1.1) o2 (by decide) (by decide) (by decide)
      exact ⟨⟨⟨a, rfl, o⟩, s1, ⟨a, rfl, F1.ok⟩, h1.lay.ma_0.1, o2, o2, trivial⟩, h3, c3⟩
  · simp only [if_neg d]
    obtain ⟨f, hf⟩ := Option.ne_none_iff_exists'.mp d
    have hF := F1.be f hf
    rw [hf]
    simp only [Option.getD_some]
    obtain ⟨s2, h2, c2⟩ := pushC h1 c1 hF w1.1
    generalize F_Fr_push cs w1.2 f w1.1 = w2 at h2 c2 ⊢
    obtain ⟨h3, c3⟩ := putQC h2 c2 (ci := 8) (k := 10) (r := some f) h2.lay.ma_0.1 (Or.inr ⟨by simp [si_1, si_2, sl_1, sl_2, sl_3, ai_1, ai_2, ai_3, ai_4, al_1, al_2, al_3, al_4], fun z hz => by cases hz; exact hF⟩)
    generalize cP 8 w2 A.ma 10 (va_rf (some f)) = w3 at h3 c3 ⊢
    obtain ⟨h4, c4⟩ := putNC h3 c3 (ci := 8) (k := 8) (x := cI w3 A.ma 8 - 1) h3.lay.ma_0.1 (by decide) (by decide) (by decide)
    generalize cP 8 w3 A.ma 8 (.int (cI w3 A.ma 8 - 1)) = w4 at h4 c4 ⊢
    rw [h4.lay.ma_1.2]
    simp only [Option.getD_some]
    obtain ⟨s5, h5, c5⟩ := backC h4 c4 ha
    exact ⟨⟨⟨a, rfl, o⟩, s1, ⟨a, rfl, F1.ok⟩, ⟨f, rfl, (h1.fr hF).ok⟩, s2, h2.lay.ma_0.1, h3.lay.ma_0.1, h3.lay.ma_0.1, h4.lay.ma_0.1, ⟨_, rfl, h4.lay.st_0.1⟩, s5, trivial⟩, h5, c5⟩
theorem ma_endBody (h : (HS cs lim dE A r1 r2 NF g4 k4) Fs Ts M) (c : (MC A NF b st sf) M) (ha : Fs a) : S_Ma_endBody cs lim M A.ma (some a) ∧ (HS cs lim dE A r1 r2 NF g4 k4) Fs Ts (F_Ma_endBody cs M A.ma (some a)) ∧ (MC A NF b st sf) (F_Ma_endBody cs M A.ma (some a)) := by
  unfold S_Ma_endBody F_Ma_endBody
  simp only [Option.getD_some, mbind_eq]
  have F0 := h.fr ha
  by_cases d : cQ M a 3 = none
  · simp only [if_pos d]
    exact ⟨⟨⟨a, rfl, F0.ok⟩, trivial⟩, h, c⟩
  · simp only [if_neg d]
    obtain ⟨t, ht⟩ := Option.ne_none_iff_exists'.mp d
    have hT := F0.ha t ht
    rw [ht]
    simp only [Option.getD_some]
    obtain ⟨s1, h1, c1⟩ := popC h c ha
    generalize F_Fr_pop cs M a = w1 at h1 c1 ⊢
    rw [h1.lay.ma_0.2]
    simp only [Option.getD_some]
    generalize F_Co_field cs w1.2 A.co (cI w1.2 t 1) 2 = v2
    obtain ⟨s2, h2, c2⟩ := openC h1 c1 ha (r := some t) (fun z hz => by cases hz; exact hT) v2
    generalize F_Fr_open cs w1.2 a (some t) v2 = w2 at h2 c2 ⊢
    rw [h2.lay.ma_0.2]
    simp only [Option.getD_some]
    generalize F_Co_field cs w2 A.co (cI w2 t 1) 3 = v3
    obtain ⟨s3, h3, c3⟩ := giveC h2 c2 ha v3 w1.1
    exact ⟨⟨⟨a, rfl, F0.ok⟩, ⟨a, rfl, F0.ok⟩, s1, h1.lay.ma_0.1, ⟨t, rfl, (h1.th hT).ok⟩, ⟨_, rfl, h1.lay.co_0.1⟩, co_field h1 _ _, ⟨a, rfl, (h1.fr ha).ok⟩, s2, h2.lay.ma_0.1, ⟨t, rfl, (h2.th hT).ok⟩, ⟨_, rfl, h2.lay.co_0.1⟩, co_field h2 _ _, ⟨a, rfl, (h2.fr ha).ok⟩, s3, trivial⟩, h3, c3⟩
end
end
section
/-! pure rows, the class: the machine's larger steps -/
/-- the machine stands well -/
def MX (cs : Nat → ClassId) (lim dE : Nat × Nat) (A : Ad) (r1 r2 NF : Nat) (g4 : Nat → Int32) (k4 : Nat) (b : Int) (M : gMem) : Prop := ∃ Fs Ts, HS cs lim dE A r1 r2 NF g4 k4 Fs Ts M ∧ MC A NF b 0 0 M
section
variable {cs : Nat → ClassId} {lim dE : Nat × Nat} {A : Ad} {Fs Ts : Nat → Prop} {r1 r2 NF : Nat} {g4 : Nat → Int32} {k4 : Nat} {M M' : gMem} {a t n fu : Nat} {b st sf : Int}
theorem ma_close (h : (HS cs lim dE A r1 r2 NF g4 k4) Fs Ts M) (c : MC A NF b 0 0 M) (ha : Fs a) (x : Int32) : S_Ma_close cs lim dE M A.ma (some a) x ∧ (MX cs lim dE A r1 r2 NF g4 k4 b) (F_Ma_close cs dE M A.ma (some a) x) := by
  unfold S_Ma_close F_Ma_close
  simp only [Option.getD_some, mbind_eq]
  have o8 := h.lay.ma_0.1
  obtain ⟨s1, h1, c1, q1⟩ := ma_isFull h c 1 (by decide)
  generalize F_Ma_isFull cs M A.ma 1 = w1 at h1 c1 q1 ⊢
  by_cases d : w1.1 = 0
  rotate_left
  · simp only [if_neg d]
    exact ⟨⟨o8, s1, trivial⟩, Fs, Ts, h1, c1⟩
  simp only [if_pos d]
  have o1 := h1.lay.ma_0.1
  obtain ⟨h2, c2⟩ := ma_count h1 c1 (x := 1) (by decide) (q1 d)
  generalize cP 8 w1.2 A.ma 7 (.int (cI w1.2 A.ma 7 + 1)) = w2 at h2 c2 ⊢
  rw [h2.lay.ma_1.2]
  simp only [Option.getD_some]
  obtain ⟨s3, Ts', i3, h3, c3⟩ := ma_thing h2 c2 (by decide)
  generalize F_St_takeThing cs dE w2 A.st = w3 at h3 c3 ⊢
  rw [h3.lay.ma_1.2]
  simp only [Option.getD_some]
  obtain ⟨s4, r4⟩ := st_thingAt h3 w3.1
  have c3' : MC A NF b 0 0 w3.2 := c3.less (by decide) (by decide)
  rcases r4 with r4 | ⟨t, r4, hT⟩
  · rw [r4]
    simp only [if_true]
    exact ⟨⟨o8, s1, o1, o1, h2.lay.ma_0.1, ⟨_, rfl, h2.lay.st_0.1⟩, s3, h3.lay.ma_0.1, ⟨_, rfl, h3.lay.st_0.1⟩, s4, trivial⟩, Fs, Ts', h3, c3'⟩
  · rw [r4]
    have hne : ¬ (some t : Option Nat) = none := by simp [si_1, si_2, sl_1, sl_2, sl_3, ai_1, ai_2, ai_3, ai_4, al_1, al_2, al_3, al_4]
    simp only [if_neg hne, Option.getD_some]
    obtain ⟨s5, h5, c5⟩ := makeC h3 c3' hT x
    generalize F_Th_make cs w3.2 t x = w5 at h5 c5 ⊢
    obtain ⟨s6, h6, c6⟩ := keepC h5 c5 ha hT
    generalize F_Fr_keepNames cs w5 a (some t) = w6 at h6 c6 ⊢
    rw [h6.lay.ma_0.2]
    simp only [Option.getD_some]
    generalize F_Co_field cs w6 A.co x 2 = v6
    obtain ⟨s7, h7, c7⟩ := tgiveC h6 c6 hT v6 w3.1
    generalize F_Th_give cs w6 t v6 w3.1 = w7 at h7 c7 ⊢
    obtain ⟨s8, h8, c8⟩ := pushC h7 c7 ha w3.1
    generalize F_Fr_push cs w7 a w3.1 = w8 at h8 c8 ⊢
    rw [h8.lay.ma_0.2]
    simp only [Option.getD_some]
    generalize F_Co_field cs w8 A.co x 3 = v8
    obtain ⟨h9, c9⟩ := putNC h8 c8 (ci := 10) (k := 2) (x := v8) (h8.fr ha).ok (by decide) (by decide) (by decide)
    exact ⟨⟨o8, s1, o1, o1, h2.lay.ma_0.1, ⟨_, rfl, h2.lay.st_0.1⟩, s3, h3.lay.ma_0.1, ⟨_, rfl, h3.lay.st_0.1⟩, s4, ⟨t, rfl, (h3.th hT).ok⟩, s5, ⟨a, rfl, (h5.fr ha).ok⟩, s6, h6.lay.ma_0.1, ⟨_, rfl, h6.lay.co_0.1⟩, co_field h6 _ _, ⟨t, rfl, (h6.th hT).ok⟩, s7, ⟨a, rfl, (h7.fr ha).ok⟩, s8, h8.lay.ma_0.1, ⟨_, rfl, h8.lay.co_0.1⟩, co_field h8 _ _, ⟨a, rfl, (h8.fr ha).ok⟩, trivial⟩, Fs, Ts', h9, c9⟩
theorem ma_install (h : (HS cs lim dE A r1 r2 NF g4 k4) Fs Ts M) (c : MC A NF b 0 0 M) (ha : Fs a) (x : Int32) : S_Ma_install cs lim dE M A.ma (some a) x ∧ (MX cs lim dE A r1 r2 NF g4 k4 b) (F_Ma_install cs dE M A.ma (some a) x) := by
  unfold S_Ma_install F_Ma_install
  simp only [Option.getD_some, mbind_eq]
  have o8 := h.lay.ma_0.1
  obtain ⟨s1, h1, c1, q1⟩ := ma_isFull h c 1 (by decide)
  generalize F_Ma_isFull cs M A.ma 1 = w1 at h1 c1 q1 ⊢
  by_cases d : w1.1 = 0
  rotate_left
  · simp only [if_neg d]
    exact ⟨⟨o8, s1, trivial⟩, Fs, Ts, h1, c1⟩
  simp only [if_pos d]
  have o1 := h1.lay.ma_0.1
  have sd := ma_isDeep h1 c1 1
  have q2 : (cI (F_Ma_isDeep cs w1.2 A.ma 1).2 A.ma 7).toInt + 1 ≤ 1000 := by
    rw [(x_Ma_isDeep cs lim w1.2 A.ma 1 h1.lay.mok sd.1).xcI o1 (by decide)]
    exact q1 d
  obtain ⟨s2, h2, c2⟩ := sd
  generalize F_Ma_isDeep cs w1.2 A.ma 1 = w2 at h2 c2 q2 ⊢
  by_cases d2 : w2.1 = 0
  rotate_left
  · simp only [if_neg d2]
    exact ⟨⟨o8, s1, o1, s2, trivial⟩, Fs, Ts, h2, c2⟩
  simp only [if_pos d2]
  have o2 := h2.lay.ma_0.1
  obtain ⟨h3, c3⟩ := ma_count h2 c2 (x := 1) (by decide) q2
  generalize cP 8 w2.2 A.ma 7 (.int (cI w2.2 A.ma 7 + 1)) = w3 at h3 c3 ⊢
  rw [h3.lay.ma_1.2]
  simp only [Option.getD_some]
  obtain ⟨s4, Ts', i4, h4, c4⟩ := ma_thing h3 c3 (by decide)
  generalize F_St_takeThing cs dE w3 A.st = w4 at h4 c4 ⊢
  obtain ⟨s5, r5⟩ := st_thingAt h4 w4.1
  have o3 := h3.lay.ma_0.1
  have b4 : cOq 9 w4.2 (some A.st) := ⟨_, rfl, h4.lay.st_0.1⟩
  rcases r5 with r5 | ⟨t, r5, hT⟩
  · rw [r5]
    simp only [if_true]
    exact ⟨⟨o8, s1, o1, s2, o2, o2, o3, o3, ⟨_, rfl, h3.lay.st_0.1⟩, s4, b4, s5, trivial⟩, Fs, Ts', h4, c4.less (by decide) (by decide)⟩
  · rw [r5]
    have hne : ¬ (some t : Option Nat) = none := by simp [si_1, si_2, sl_1, sl_2, sl_3, ai_1, ai_2, ai_3, ai_4, al_1, al_2, al_3, al_4]
    simp only [if_neg hne, Option.getD_some]
    obtain ⟨s6, h6, c6⟩ := makeC h4 c4 hT x
    generalize F_Th_make cs w4.2 t x = w6 at h6 c6 ⊢
    obtain ⟨s7, h7, c7⟩ := keepC h6 c6 ha hT
    generalize F_Fr_keepNames cs w6 a (some t) = w7 at h7 c7 ⊢
    rw [h7.lay.ma_0.2]
    simp only [Option.getD_some]
    have f7 := co_field h7 x 1
    generalize F_Co_field cs w7 A.co x 1 = v7
    obtain ⟨h8, c8⟩ := putNC h7 c7 (ci := 10) (k := 2) (x := v7) (h7.fr ha).ok (by decide) (by decide) (by decide)
    generalize cP 10 w7 a 2 (.int v7) = w8 at h8 c8 ⊢
    rw [h8.lay.ma_0.2]
    simp only [Option.getD_some]
    have f8 := co_field h8 x 4
    generalize F_Co_field cs w8 A.co x 4 = v8
    obtain ⟨s9, Fs', i9, h9, c9, f, t9, hf9⟩ := ma_enter h8 c8 (by decide) (bl := some a) (hm := some t) (fun z hz => by cases hz; exact ha) (fun z hz => by cases hz; exact hT) (x + 1 + v8)
    generalize F_Ma_enter cs dE w8 A.ma (some a) (some t) (x + 1 + v8) = w9 at h9 c9 t9 ⊢
    rw [t9]
    simp only [Option.getD_some]
    obtain ⟨h10, c10⟩ := putQC h9 c9 (ci := 10) (k := 3) (r := some t) (h9.fr hf9).ok (Or.inl ⟨rfl, rfl, fun z hz => by cases hz; exact hT⟩)
    exact ⟨⟨o8, s1, o1, s2, o2, o2, o3, o3, ⟨_, rfl, h3.lay.st_0.1⟩, s4, b4, s5, ⟨t, rfl, (h4.th hT).ok⟩, s6, ⟨a, rfl, (h6.fr ha).ok⟩, s7, h7.lay.ma_0.1, ⟨_, rfl, h7.lay.co_0.1⟩, f7, ⟨a, rfl, (h7.fr ha).ok⟩, h8.lay.ma_0.1, ⟨_, rfl, h8.lay.co_0.1⟩, f8, h8.lay.ma_0.1, s9, h9.lay.ma_0.1, ⟨f, rfl, (h9.fr hf9).ok⟩, trivial⟩, Fs', Ts', h10, c10.less (by decide) (by decide)⟩
theorem ma_resume (h : (HS cs lim dE A r1 r2 NF g4 k4) Fs Ts M) (c : MC A NF b 0 0 M) (ha : Fs a) (ht : Ts t) (x : Int32) : S_Ma_resume cs lim M A.ma (some a) (some t) x ∧ (MX cs lim dE A r1 r2 NF g4 k4 b) (F_Ma_resume cs M A.ma (some a) (some t) x) := by
  unfold S_Ma_resume F_Ma_resume
  simp only [Option.getD_some, mbind_eq]
  have o8 := h.lay.ma_0.1
  have T0 := h.th ht
  by_cases d : cI M t 3 = 0
  rotate_left
  · simp only [if_neg d]
    obtain ⟨h1, c1⟩ := putNC h c (ci := 8) (k := 4) (x := 3) o8 (by decide) (by decide) (by decide)
    exact ⟨⟨⟨t, rfl, T0.ok⟩, o8, trivial⟩, Fs, Ts, h1, c1⟩
  simp only [if_pos d]
  obtain ⟨s1, h1, c1⟩ := ma_isDeep h c (cI M t 6)
  generalize F_Ma_isDeep cs M A.ma (cI M t 6) = w1 at h1 c1 ⊢
  by_cases d1 : w1.1 = 0
  rotate_left
  · simp only [if_neg d1]
    exact ⟨⟨⟨t, rfl, T0.ok⟩, ⟨t, rfl, T0.ok⟩, o8, s1, trivial⟩, Fs, Ts, h1, c1⟩
  simp only [if_pos d1]
  have T1 := h1.th ht
  have o1 := h1.lay.ma_0.1
  by_cases d2 : cQ w1.2 t 5 = none
  · simp only [if_pos d2]
    exact ⟨⟨⟨t, rfl, T0.ok⟩, ⟨t, rfl, T0.ok⟩, o8, s1, ⟨t, rfl, T1.ok⟩, trivial⟩, Fs, Ts, h1, c1⟩
  simp only [if_neg d2]
  by_cases d3 : cQ w1.2 t 4 = none
  · simp only [if_pos d3]
    exact ⟨⟨⟨t, rfl, T0.ok⟩, ⟨t, rfl, T0.ok⟩, o8, s1, ⟨t, rfl, T1.ok⟩, ⟨t, rfl, T1.ok⟩, trivial⟩, Fs, Ts, h1, c1⟩
  simp only [if_neg d3]
  obtain ⟨lo, hlo⟩ := Option.ne_none_iff_exists'.mp d2
  obtain ⟨up, hup⟩ := Option.ne_none_iff_exists'.mp d3
  have Flo := T1.lo lo hlo
  have Fup := T1.up up hup
  obtain ⟨h2, c2⟩ := putNC h1 c1 (ci := 11) (k := 3) (x := 1) T1.ok (by decide) (by decide) (by decide)
  have g5 : cQ (cP 11 w1.2 t 3 (.int 1)) t 5 = some lo := by rw [cQ_put_ne (Or.inr (by decide))]; exact hlo
  have g4' : cQ (cP 11 w1.2 t 3 (.int 1)) t 4 = some up := by rw [cQ_put_ne (Or.inr (by decide))]; exact hup
  generalize cP 11 w1.2 t 3 (.int 1) = w2 at h2 c2 g5 g4' ⊢
  have o2 := h2.lay.ma_0.1
  have T2 := h2.th ht
  obtain ⟨h3, c3⟩ := putNC h2 c2 (ci := 8) (k := 8) (x := cI w2 A.ma 8 + cI w2 t 6) o2 (by decide) (by decide) (by decide)
  have x3 : Ext [(8, 8)] [] false w2 (cP 8 w2 A.ma 8 (.int (cI w2 A.ma 8 + cI w2 t 6))) := (Ext.rf h2.lay.mok).putI 8 o2 (by decide) (by decide)
  have k5 : cQ (cP 8 w2 A.ma 8 (.int (cI w2 A.ma 8 + cI w2 t 6))) t 5 = some lo := by rw [x3.xcQ T2.ok (by decide)]; exact g5
  have k4' : cQ (cP 8 w2 A.ma 8 (.int (cI w2 A.ma 8 + cI w2 t 6))) t 4 = some up := by rw [x3.xcQ T2.ok (by decide)]; exact g4'
  generalize cP 8 w2 A.ma 8 (.int (cI w2 A.ma 8 + cI w2 t 6)) = w3 at h3 c3 k5 k4' ⊢
  rw [k5]
  simp only [Option.getD_some]
  obtain ⟨h4, c4⟩ := putQC h3 c3 (ci := 10) (k := 4) (r := some a) (h3.fr Flo).ok (Or.inr ⟨by simp [si_1, si_2, sl_1, sl_2, sl_3, ai_1, ai_2, ai_3, ai_4, al_1, al_2, al_3, al_4], fun z hz => by cases hz; exact ha⟩)
  have T3 := h3.th ht
  have x4 : Ext [(10, 4)] [] false w3 (cP 10 w3 lo 4 (va_rf (some a))) := (Ext.rf h3.lay.mok).putQ 4 (h3.fr Flo).ok (by decide) (by decide) (by decide)
  have m4 : cQ (cP 10 w3 lo 4 (va_rf (some a))) t 4 = some up := by rw [x4.xcQ T3.ok (by decide)]; exact k4'
  generalize cP 10 w3 lo 4 (va_rf (some a)) = w4 at h4 c4 m4 ⊢
  rw [m4]
  have o4 := h4.lay.ma_0.1
  obtain ⟨h5, c5⟩ := putQC h4 c4 (ci := 8) (k := 10) (r := some up) o4 (Or.inr ⟨by simp [si_1, si_2, sl_1, sl_2, sl_3, ai_1, ai_2, ai_3, ai_4, al_1, al_2, al_3, al_4], fun z hz => by cases hz; exact Fup⟩)
  have t5 : cQ (cP 8 w4 A.ma 10 (va_rf (some up))) A.ma 10 = some up := cQ_put o4 (by decide)
  generalize cP 8 w4 A.ma 10 (va_rf (some up)) = w5 at h5 c5 t5 ⊢
  rw [t5]
  simp only [Option.getD_some]
  obtain ⟨s6, h6, c6⟩ := pushC h5 c5 Fup x
  exact ⟨⟨⟨t, rfl, T0.ok⟩, ⟨t, rfl, T0.ok⟩, o8, s1, ⟨t, rfl, T1.ok⟩, ⟨t, rfl, T1.ok⟩, ⟨t, rfl, T1.ok⟩, o2, ⟨t, rfl, T2.ok⟩, o2, ⟨t, rfl, T3.ok⟩, ⟨lo, rfl, (h3.fr Flo).ok⟩, ⟨t, rfl, (h4.th ht).ok⟩, o4, h5.lay.ma_0.1, ⟨up, rfl, (h5.fr Fup).ok⟩, s6, trivial⟩, Fs, Ts, h6, c6⟩
theorem ma_apply (h : (HS cs lim dE A r1 r2 NF g4 k4) Fs Ts M) (c : MC A NF b 0 0 M) (ha : Fs a) (x : Int32) : S_Ma_apply cs lim dE M A.ma (some a) x ∧ (MX cs lim dE A r1 r2 NF g4 k4 b) (F_Ma_apply cs dE M A.ma (some a) x) := by
  unfold S_Ma_apply F_Ma_apply
  simp only [Option.getD_some, mbind_eq]
  have o8 := h.lay.ma_0.1
  obtain ⟨s1, h1, c1, q1⟩ := ma_takesFuel h c ha x
  generalize F_Ma_takesFuel cs M A.ma (some a) x = w1 at h1 c1 q1 ⊢
  by_cases d : w1.1 = 0
  · simp only [if_pos d]
    exact ⟨⟨o8, s1, trivial⟩, Fs, Ts, h1, c1⟩
  simp only [if_neg d]
  replace c1 := q1 d
  obtain ⟨s2, h2, c2⟩ := popC h1 c1 ha
  generalize F_Fr_pop cs w1.2 a = w2 at h2 c2 ⊢
  rw [h2.lay.ma_1.2]
  simp only [Option.getD_some]
  obtain ⟨s3, h3, c3⟩ := popC h2 c2 ha
  generalize F_Fr_pop cs w2.2 a = w3 at h3 c3 ⊢
  obtain ⟨s4, r4⟩ := st_thingAt h3 w3.1
  have p1 : cOq 10 w1.2 (some a) := ⟨a, rfl, (h1.fr ha).ok⟩
  have p2 : cOq 10 w2.2 (some a) := ⟨a, rfl, (h2.fr ha).ok⟩
  have p3 : cOq 9 w3.2 (some A.st) := ⟨_, rfl, h3.lay.st_0.1⟩
  rcases r4 with r4 | ⟨t, r4, hT⟩
  · rw [r4]
    simp only [if_true]
    exact ⟨⟨o8, s1, p1, s2, h2.lay.ma_0.1, p2, s3, p3, s4, trivial⟩, Fs, Ts, h3, c3.less (by decide) (by decide)⟩
  rw [r4]
  have hne : ¬ (some t : Option Nat) = none := by simp [si_1, si_2, sl_1, sl_2, sl_3, ai_1, ai_2, ai_3, ai_4, al_1, al_2, al_3, al_4]
  simp only [if_neg hne, Option.getD_some]
  have p4 : cOq 11 w3.2 (some t) := ⟨t, rfl, (h3.th hT).ok⟩
  by_cases d2 : cI w3.2 t 2 = 0
  · simp only [if_pos d2]
    obtain ⟨s5, h5, c5⟩ := ma_isDeep h3 c3 1
    generalize F_Ma_isDeep cs w3.2 A.ma 1 = w5 at h5 c5 ⊢
    by_cases d3 : w5.1 = 0
    · simp only [if_pos d3]
      obtain ⟨s6, Fs', i6, h6, c6, f, t6, hf6⟩ := ma_enter h5 c5 (by decide) (bl := some a) (hm := some t) (fun z hz => by cases hz; exact ha) (fun z hz => by cases hz; exact hT) (cI w5.2 t 1 + 1)
      generalize F_Ma_enter cs dE w5.2 A.ma (some a) (some t) (cI w5.2 t 1 + 1) = w6 at h6 c6 t6 ⊢
      rw [h6.lay.ma_0.2, t6]
      simp only [Option.getD_some]
      have f6 := co_field h6 (cI w6 t 1) 1
      generalize F_Co_field cs w6 A.co (cI w6 t 1) 1 = v6
      obtain ⟨s7, h7, c7⟩ := giveC h6 c6 hf6 v6 w2.1
      exact ⟨⟨o8, s1, p1, s2, h2.lay.ma_0.1, p2, s3, p3, s4, p4, h3.lay.ma_0.1, s5, ⟨t, rfl, (h5.th hT).ok⟩, h5.lay.ma_0.1, s6, h6.lay.ma_0.1, h6.lay.ma_0.1, ⟨t, rfl, (h6.th hT).ok⟩, ⟨_, rfl, h6.lay.co_0.1⟩, f6, ⟨f, rfl, (h6.fr hf6).ok⟩, s7, trivial⟩, Fs', Ts, h7, c7.less (by decide) (by decide)⟩
    · simp only [if_neg d3]
      exact ⟨⟨o8, s1, p1, s2, h2.lay.ma_0.1, p2, s3, p3, s4, p4, h3.lay.ma_0.1, s5, trivial⟩, Fs, Ts, h5, c5.less (by decide) (by decide)⟩
  · simp only [if_neg d2]
    obtain ⟨s5, r5⟩ := ma_resume h3 (c3.less (by decide) (by decide)) ha hT w2.1
    exact ⟨⟨o8, s1, p1, s2, h2.lay.ma_0.1, p2, s3, p3, s4, p4, h3.lay.ma_0.1, s5, trivial⟩, r5⟩
end
end
section
/-! pure rows, the class: an effect is performed -/
section
variable {cs : Nat → ClassId} {lim dE : Nat × Nat} {A : Ad} {Fs Ts : Nat → Prop} {r1 r2 NF : Nat} {g4 : Nat → Int32} {k4 : Nat} {M M' : gMem} {a t n fu : Nat} {b st sf : Int}
theorem ma_holdFrames (h : (HS cs lim dE A r1 r2 NF g4 k4) Fs Ts M) (c : MC A NF b 0 sf M) (ha : Fs a) {x : Int32} (hx : 1 ≤ x.toInt ∧ x.toInt ≤ 402) (hle : (cI M A.ma 7).toInt + (1 + x).toInt ≤ 1000) :
    S_Ma_holdFrames cs lim dE M A.ma (some a) x ∧ ∃ Ts', (∀ z, Ts z → Ts' z) ∧ (HS cs lim dE A r1 r2 NF g4 k4) Fs Ts' (F_Ma_holdFrames cs dE M A.ma (some a) x).2 ∧ MC A NF b 0 (sf + 1) (F_Ma_holdFrames cs dE M A.ma (some a) x).2 := by
  have ex : (1 + x).toInt = 1 + x.toInt := by ((try (simp only [vp_in, Int32.toNatClampNeg, Int32.lt_iff_toInt_lt, Int32.le_iff_toInt_le, ← Int32.toInt_inj, Int32.toInt_add, Int32.toInt_sub, Int32.toInt_mul, Int32.reduceToInt, i32_neg1, Nat.reducePow, Int.reducePow, ne_eq, ge_iff_le, gt_iff_lt] at *)) <;> (first | omega | ((simp (disch := omega) only [bm32] at *) <;> omega)))
  unfold S_Ma_holdFrames F_Ma_holdFrames
  simp only [Option.getD_some, mbind_eq]
  have o8 := h.lay.ma_0.1
  obtain ⟨h1, c1⟩ := ma_count h c (x := 1 + x) (by omega) hle
  generalize cP 8 M A.ma 7 (.int (cI M A.ma 7 + (1 + x))) = w1 at h1 c1 ⊢
  have o1 := h1.lay.ma_0.1
  obtain ⟨h2, c2⟩ := putNC h1 c1 (ci := 8) (k := 8) (x := cI w1 A.ma 8 - x) o1 (by decide) (by decide) (by decide)
  generalize cP 8 w1 A.ma 8 (.int (cI w1 A.ma 8 - x)) = w2 at h2 c2 ⊢
  have o2 := h2.lay.ma_0.1
  rw [h2.lay.ma_1.2]
  simp only [Option.getD_some]
  obtain ⟨s3, Ts', i3, h3, c3⟩ := ma_thing h2 c2 (by omega)
  generalize F_St_takeThing cs dE w2 A.st = w3 at h3 c3 ⊢
  rw [h3.lay.ma_1.2]
  simp only [Option.getD_some]
  obtain ⟨s4, r4⟩ := st_thingAt h3 w3.1
  have c3' : MC A NF b 0 (sf + 1) w3.2 := c3.less (by omega) (by omega)
  have o3 := h3.lay.ma_0.1
  have t3 := h3.top
  rcases r4 with r4 | ⟨t, r4, hT⟩
  · rw [r4]
    simp only [if_true]
    obtain ⟨h5, c5⟩ := putQC h3 c3' (ci := 10) (k := 4) (r := none) (h3.fr ha).ok (Or.inr ⟨by simp [si_1, si_2, sl_1, sl_2, sl_3, ai_1, ai_2, ai_3, ai_4, al_1, al_2, al_3, al_4], fun z hz => by cases hz⟩)
    exact ⟨⟨o8, o8, o1, o1, o2, ⟨_, rfl, h2.lay.st_0.1⟩, s3, o3, ⟨_, rfl, h3.lay.st_0.1⟩, s4, ⟨a, rfl, (h3.fr ha).ok⟩, trivial⟩, Ts', i3, h5, c5⟩
  · rw [r4]
    have hne : ¬ (some t : Option Nat) = none := by simp [si_1, si_2, sl_1, sl_2, sl_3, ai_1, ai_2, ai_3, ai_4, al_1, al_2, al_3, al_4]
    simp only [if_neg hne, Option.getD_some]
    obtain ⟨s5, h5, c5⟩ := holdC h3 c3' hT (u := cQ w3.2 A.ma 10) (l := some a) t3 (fun z hz => by cases hz; exact ha) x
    generalize F_Th_hold cs w3.2 t (cQ w3.2 A.ma 10) (some a) x = w5 at h5 c5 ⊢
    obtain ⟨h6, c6⟩ := putQC h5 c5 (ci := 10) (k := 4) (r := none) (h5.fr ha).ok (Or.inr ⟨by simp [si_1, si_2, sl_1, sl_2, sl_3, ai_1, ai_2, ai_3, ai_4, al_1, al_2, al_3, al_4], fun z hz => by cases hz⟩)
    exact ⟨⟨o8, o8, o1, o1, o2, ⟨_, rfl, h2.lay.st_0.1⟩, s3, o3, ⟨_, rfl, h3.lay.st_0.1⟩, s4, o3, ⟨t, rfl, (h3.th hT).ok⟩, s5, ⟨a, rfl, (h5.fr ha).ok⟩, trivial⟩, Ts', i3, h6, c6⟩
/-- a clause takes the handler's place -/
theorem ma_tail (h : (HS cs lim dE A r1 r2 NF g4 k4) Fs Ts M) (c : MC A NF b 0 1 M) (ha : Fs a) {x4 x6 x7 : Int32} (hx : 1 ≤ x7.toInt ∧ x7.toInt ≤ 402) :
    ((cOk 8 M A.ma) ∧ ((S_Ma_isFull cs lim M A.ma (1 + x7)) ∧ (mbind (F_Ma_isFull cs M A.ma (1 + x7)) (fun w5 => if w5.1 = 0 then ((cOq 10 w5.2 (some a)) ∧ ((cOk 8 w5.2 A.ma) ∧ ((S_Ma_holdFrames cs lim dE w5.2 A.ma (some a) x7) ∧ (mbind (F_Ma_holdFrames cs dE w5.2 A.ma (some a) x7) (fun w10 => (cOq 10 w10.2 (some a)) ∧ ((cOk 8 w10.2 A.ma) ∧ ((cOq 7 w10.2 (cQ w10.2 A.ma 0)) ∧ ((S_Co_field cs lim w10.2 ((cQ w10.2 A.ma 0).getD 0) x6 2) ∧ (mbind (F_Co_field cs w10.2 ((cQ w10.2 A.ma 0).getD 0) x6 2) (fun w15 => (cOk 8 w10.2 A.ma) ∧ ((S_Ma_enter cs lim dE w10.2 A.ma (cQ w5.2 ((some a).getD 0) 4) (cQ w10.2 ((some a).getD 0) 3) w15) ∧ (mbind (F_Ma_enter cs dE w10.2 A.ma (cQ w5.2 ((some a).getD 0) 4) (cQ w10.2 ((some a).getD 0) 3) w15) (fun w18 => (cOk 8 w18 A.ma) ∧ ((cOk 8 w18 A.ma) ∧ ((cOq 7 w18 (cQ w18 A.ma 0)) ∧ ((S_Co_field cs lim w18 ((cQ w18 A.ma 0).getD 0) x6 3) ∧ (mbind (F_Co_field cs w18 ((cQ w18 A.ma 0).getD 0) x6 3) (fun w23 => (cOq 10 w18 (cQ w18 A.ma 10)) ∧ ((S_Fr_give cs lim w18 ((cQ w18 A.ma 10).getD 0) w23 x4) ∧ (mbind (F_Fr_give cs w18 ((cQ w18 A.ma 10).getD 0) w23 x4) (fun w26 => (cOk 8 w26 A.ma) ∧ ((cOk 8 w26 A.ma) ∧ ((cOq 7 w26 (cQ w26 A.ma 0)) ∧ ((S_Co_field cs lim w26 ((cQ w26 A.ma 0).getD 0) x6 4) ∧ (mbind (F_Co_field cs w26 ((cQ w26 A.ma 0).getD 0) x6 4) (fun w31 => (cOq 10 w26 (cQ w26 A.ma 10)) ∧ ((S_Fr_give cs lim w26 ((cQ w26 A.ma 10).getD 0) w31 w10.1) ∧ (mbind (F_Fr_give cs w26 ((cQ w26 A.ma 10).getD 0) w31 w10.1) (fun w34 => True))))))))))))))))))))))))))))) else (True))))) ∧
    (MX cs lim dE A r1 r2 NF g4 k4 b) (mbind (F_Ma_isFull cs M A.ma (1 + x7)) (fun w5 => if w5.1 = 0 then (mbind (F_Ma_holdFrames cs dE w5.2 A.ma (some a) x7) (fun w10 => mbind (F_Co_field cs w10.2 ((cQ w10.2 A.ma 0).getD 0) x6 2) (fun w15 => mbind (F_Ma_enter cs dE w10.2 A.ma (cQ w5.2 ((some a).getD 0) 4) (cQ w10.2 ((some a).getD 0) 3) w15) (fun w18 => mbind (F_Co_field cs w18 ((cQ w18 A.ma 0).getD 0) x6 3) (fun w23 => mbind (F_Fr_give cs w18 ((cQ w18 A.ma 10).getD 0) w23 x4) (fun w26 => mbind (F_Co_field cs w26 ((cQ w26 A.ma 0).getD 0) x6 4) (fun w31 => mbind (F_Fr_give cs w26 ((cQ w26 A.ma 10).getD 0) w31 w10.1) (fun w34 => w34)))))))) else (w5.2))) := by
  have ex : (1 + x7).toInt = 1 + x7.toInt := by ((try (simp only [vp_in, Int32.toNatClampNeg, Int32.lt_iff_toInt_lt, Int32.le_iff_toInt_le, ← Int32.toInt_inj, Int32.toInt_add, Int32.toInt_sub, Int32.toInt_mul, Int32.reduceToInt, i32_neg1, Nat.reducePow, Int.reducePow, ne_eq, ge_iff_le, gt_iff_lt] at *)) <;> (first | omega | ((simp (disch := omega) only [bm32] at *) <;> omega)))
  simp only [Option.getD_some, mbind_eq]
  have o8 := h.lay.ma_0.1
  obtain ⟨s1, h1, c1, q1⟩ := ma_isFull h c (1 + x7) (by omega)
  generalize F_Ma_isFull cs M A.ma (1 + x7) = w1 at h1 c1 q1 ⊢
  by_cases d : w1.1 = 0
  rotate_left
  · simp only [if_neg d]
    exact ⟨⟨o8, s1, trivial⟩, Fs, Ts, h1, c1.less (by decide) (by decide)⟩
  simp only [if_pos d]
  have o1 := h1.lay.ma_0.1
  have b1 := (h1.fr ha).be
  obtain ⟨s2, Ts', i2, h2, c2⟩ := ma_holdFrames h1 c1 ha hx (q1 d)
  generalize F_Ma_holdFrames cs dE w1.2 A.ma (some a) x7 = w2 at h2 c2 ⊢
  rw [h2.lay.ma_0.2]
  simp only [Option.getD_some]
  have o2 := h2.lay.ma_0.1
  have f2 := co_field h2 x6 2
  generalize F_Co_field cs w2.2 A.co x6 2 = v2
  obtain ⟨s3, Fs', i3, h3, c3, f, t3, hf3⟩ := ma_enter h2 c2 (by decide) (bl := cQ w1.2 a 4) (hm := cQ w2.2 a 3) b1 (h2.fr ha).ha v2
  generalize F_Ma_enter cs dE w2.2 A.ma (cQ w1.2 a 4) (cQ w2.2 a 3) v2 = w3 at h3 c3 t3 ⊢
  rw [h3.lay.ma_0.2, t3]
  simp only [Option.getD_some]
  have o3 := h3.lay.ma_0.1
  have f3 := co_field h3 x6 3
  generalize F_Co_field cs w3 A.co x6 3 = v3
  obtain ⟨s4, h4, c4⟩ := giveC h3 c3 hf3 v3 x4
  have x4' := x_Fr_give cs lim w3 f v3 x4 h3.lay.mok s4
  have t4 : cQ (F_Fr_give cs w3 f v3 x4) A.ma 10 = some f := by rw [x4'.xcQ o3 (by decide)]; exact t3
  generalize F_Fr_give cs w3 f v3 x4 = w4 at h4 c4 t4 ⊢
  rw [h4.lay.ma_0.2, t4]
  simp only [Option.getD_some]
  have o4 := h4.lay.ma_0.1
  have f4 := co_field h4 x6 4
  generalize F_Co_field cs w4 A.co x6 4 = v4
  obtain ⟨s5, h5, c5⟩ := giveC h4 c4 hf3 v4 w2.1
  exact ⟨⟨o8, s1, ⟨a, rfl, (h1.fr ha).ok⟩, o1, s2, ⟨a, rfl, (h2.fr ha).ok⟩, o2, ⟨_, rfl, h2.lay.co_0.1⟩, f2, o2, s3, o3, o3, ⟨_, rfl, h3.lay.co_0.1⟩, f3, ⟨f, rfl, (h3.fr hf3).ok⟩, s4, o4, o4, ⟨_, rfl, h4.lay.co_0.1⟩, f4, ⟨f, rfl, (h4.fr hf3).ok⟩, s5, trivial⟩, Fs', Ts', h5, c5.less (by decide) (by decide)⟩
theorem ma_raise37 (h : (HS cs lim dE A r1 r2 NF g4 k4) Fs Ts M) (c : MC A NF b 0 1 M) {x1 : Option Nat} {x2 x3 x4 : Int32} : ∀ (d a : Nat) (x6 x7 : Int32) (n : Nat), 402 - x7.toInt.toNat = d → 1 ≤ x7.toInt → x7.toInt ≤ 401 → Fs a → d + 20 < n →
    S_Ma_raise_37 cs lim dE n M A.ma x1 x2 x3 x4 (some a) x6 x7 ∧ (MX cs lim dE A r1 r2 NF g4 k4 b) (F_Ma_raise_37 cs dE n M A.ma x1 x2 x3 x4 (some a) x6 x7) := by
  have o8 := h.lay.ma_0.1
  have none_ : ((cOk 8 M A.ma) ∧ ((cOk 8 (cP 8 M A.ma 9 (.int x3)) A.ma) ∧ (True))) ∧ (MX cs lim dE A r1 r2 NF g4 k4 b) (cP 8 (cP 8 M A.ma 9 (.int x3)) A.ma 4 (.int 4)) := by
    obtain ⟨h1, c1⟩ := putNC h c (ci := 8) (k := 9) (x := x3) o8 (by decide) (by decide) (by decide)
    obtain ⟨h2, c2⟩ := putNC h1 c1 (ci := 8) (k := 4) (x := 4) h1.lay.ma_0.1 (by decide) (by decide) (by decide)
    exact ⟨⟨o8, h1.lay.ma_0.1, trivial⟩, Fs, Ts, h2, c2.less (by decide) (by decide)⟩
  intro d
  induction d with
  | zero =>
    intro a x6 x7 n hd h1 h2 ha hn
    omega
  | succ d ih =>
    intro a x6 x7 n hd h1 h2 ha hn
    obtain ⟨n, rfl⟩ : ∃ z, n = z + 1 := ⟨n - 1, by omega⟩
    have pa : cOq 10 M (some a) := ⟨a, rfl, (h.fr ha).ok⟩
    by_cases d6 : x6 = -1
    · simp only [S_Ma_raise_37, F_Ma_raise_37, if_pos d6, Option.getD_some]
      by_cases db : cQ M a 4 = none
      · simp only [if_pos db]
        exact ⟨⟨pa, none_.1⟩, none_.2⟩
      · simp only [if_neg db]
        by_cases d4 : 400 < x7
        · simp only [if_pos d4]
          exact ⟨⟨pa, none_.1⟩, none_.2⟩
        · simp only [if_neg d4]
          obtain ⟨f, hf⟩ := Option.ne_none_iff_exists'.mp db
          have Ff := (h.fr ha).be f hf
          simp only [hf, Option.getD_some, h.lay.ma_0.2, mbind_eq]
          have s1 := co_caseOf (n := n) h (r := cQ M f 3) (h.fr Ff).ha (by omega) x3
          generalize F_Co_caseOf cs n M A.co (cQ M f 3) x3 = w1
          have e7 : (x7 + 1).toInt = x7.toInt + 1 := by ((try (simp only [vp_in, Int32.toNatClampNeg, Int32.lt_iff_toInt_lt, Int32.le_iff_toInt_le, ← Int32.toInt_inj, Int32.toInt_add, Int32.toInt_sub, Int32.toInt_mul, Int32.reduceToInt, i32_neg1, Nat.reducePow, Int.reducePow, ne_eq, ge_iff_le, gt_iff_lt] at *)) <;> (first | omega | ((simp (disch := omega) only [bm32] at *) <;> omega)))
          have l7 : x7.toInt ≤ 400 := by ((try (simp only [vp_in, Int32.toNatClampNeg, Int32.lt_iff_toInt_lt, Int32.le_iff_toInt_le, ← Int32.toInt_inj, Int32.toInt_add, Int32.toInt_sub, Int32.toInt_mul, Int32.reduceToInt, i32_neg1, Nat.reducePow, Int.reducePow, ne_eq, ge_iff_le, gt_iff_lt] at *)) <;> (first | omega | ((simp (disch := omega) only [bm32] at *) <;> omega)))
          obtain ⟨s2, r2⟩ := ih f w1 (x7 + 1) n (by omega) (by omega) (by omega) Ff (by omega)
          exact ⟨⟨pa, pa, o8, ⟨f, rfl, (h.fr Ff).ok⟩, ⟨_, rfl, h.lay.co_0.1⟩, s1, s2⟩, r2⟩
    · simp only [S_Ma_raise_37, F_Ma_raise_37, if_neg d6]
      exact ma_tail h c ha ⟨h1, by omega⟩
theorem ma_raise (h : (HS cs lim dE A r1 r2 NF g4 k4) Fs Ts M) (c : MC A NF b 0 0 M) (ha : Fs a) (hn : 500 ≤ n) (x y : Int32) : S_Ma_raise cs lim dE n M A.ma (some a) x y ∧ (MX cs lim dE A r1 r2 NF g4 k4 b) (F_Ma_raise cs dE n M A.ma (some a) x y) := by
  unfold S_Ma_raise F_Ma_raise
  simp only [Option.getD_some, mbind_eq]
  have o8 := h.lay.ma_0.1
  obtain ⟨s1, h1, c1, q1⟩ := ma_takesFuel h c ha x
  generalize F_Ma_takesFuel cs M A.ma (some a) x = w1 at h1 c1 q1 ⊢
  by_cases d : w1.1 = 0
  · simp only [if_pos d]
    exact ⟨⟨o8, s1, trivial⟩, Fs, Ts, h1, c1⟩
  simp only [if_neg d]
  have c1' : MC A NF b 0 1 w1.2 := (q1 d).less (by decide) (by decide)
  obtain ⟨s2, h2, c2⟩ := popC h1 c1' ha
  generalize F_Fr_pop cs w1.2 a = w2 at h2 c2 ⊢
  rw [h2.lay.ma_0.2]
  simp only [Option.getD_some]
  have s3 := co_caseOf (n := n) h2 (r := cQ w2.2 a 3) (h2.fr ha).ha (by omega) y
  generalize F_Co_caseOf cs n w2.2 A.co (cQ w2.2 a 3) y = w3
  obtain ⟨s4, r4⟩ := ma_raise37 h2 c2 (x1 := some a) (x2 := x) (x3 := y) (x4 := w2.1) 401 a w3 1 n (by decide) (by decide) (by decide) ha (by omega)
  exact ⟨⟨o8, s1, ⟨a, rfl, (h1.fr ha).ok⟩, s2, h2.lay.ma_0.1, ⟨a, rfl, (h2.fr ha).ok⟩, ⟨_, rfl, h2.lay.co_0.1⟩, s3, s4⟩, r4⟩
end
end
section
/-! pure rows, the class: the machine works -/
theorem and7 {p1 p2 p3 p4 p5 p6 p7 S Q : Prop} (h1 : p1) (h2 : p2) (h3 : p3) (h4 : p4) (h5 : p5) (h6 : p6) (h7 : p7) (k : S ∧ Q) : (p1 ∧ p2 ∧ p3 ∧ p4 ∧ p5 ∧ p6 ∧ p7 ∧ S) ∧ Q := ⟨⟨h1, h2, h3, h4, h5, h6, h7, k.1⟩, k.2⟩
section
variable {cs : Nat → ClassId} {lim dE : Nat × Nat} {A : Ad} {Fs Ts : Nat → Prop} {r1 r2 NF : Nat} {g4 : Nat → Int32} {k4 : Nat} {M M' : gMem} {a t n fu : Nat} {b st sf : Int}
theorem ma_work (h : (HS cs lim dE A r1 r2 NF g4 k4) Fs Ts M) (c : MC A NF b 0 0 M) (ha : Fs a) (hn : 500 ≤ n) (x : Int32) : S_Ma_work cs lim dE n M A.ma (some a) x ∧ (MX cs lim dE A r1 r2 NF g4 k4 b) (F_Ma_work cs dE n M A.ma (some a) x) := by
  unfold S_Ma_work F_Ma_work
  simp only [Option.getD_some, mbind_eq]
  have o8 := h.lay.ma_0.1
  have f0 := co_field h x 1
  obtain ⟨h1, c1⟩ := putNC h c (ci := 10) (k := 2) (x := x + 1) (h.fr ha).ok (by decide) (by decide) (by decide)
  generalize cP 10 M a 2 (.int (x + 1)) = M1 at h1 c1 ⊢
  rw [h.lay.ma_0.2, h1.lay.ma_0.2]
  simp only [Option.getD_some]
  have o1 := h1.lay.ma_0.1
  have f1 := co_operation h1 x
  have pa : cOq 10 M1 (some a) := ⟨a, rfl, (h1.fr ha).ok⟩
  generalize F_Co_field cs M A.co x 1 = v
  generalize F_Co_operation cs M1 A.co x = w
  refine and7 o8 ⟨_, rfl, h.lay.co_0.1⟩ f0 ⟨a, rfl, (h.fr ha).ok⟩ o1 ⟨_, rfl, h1.lay.co_0.1⟩ f1 ?_
  by_cases d1 : w = 1
  · simp only [if_pos d1]
    obtain ⟨s, h2, c2⟩ := pushC h1 c1 ha v
    exact ⟨⟨pa, s, trivial⟩, Fs, Ts, h2, c2⟩
  simp only [if_neg d1]
  by_cases d2 : w = 2
  · simp only [if_pos d2]
    have s0 := fr_valueOf h1 ha v
    generalize F_Fr_valueOf cs M1 a v = u
    obtain ⟨s, h2, c2⟩ := pushC h1 c1 ha u
    exact ⟨⟨pa, s0, pa, s, trivial⟩, Fs, Ts, h2, c2⟩
  simp only [if_neg d2]
  by_cases d3 : w = 3
  · simp only [if_pos d3]
    obtain ⟨s, h2, c2⟩ := ma_bind h1 c1 ha v
    exact ⟨⟨o1, s, trivial⟩, Fs, Ts, h2, c2⟩
  simp only [if_neg d3]
  by_cases d4 : w = 4
  · simp only [if_pos d4]
    obtain ⟨s, h2, c2⟩ := ma_unbind h1 c1 ha v
    exact ⟨⟨o1, s, trivial⟩, Fs, Ts, h2, c2⟩
  simp only [if_neg d4]
  by_cases d5 : w = 5
  · simp only [if_pos d5]
    obtain ⟨h2, c2⟩ := putNC h1 c1 (ci := 10) (k := 2) (x := v) (h1.fr ha).ok (by decide) (by decide) (by decide)
    exact ⟨⟨pa, trivial⟩, Fs, Ts, h2, c2⟩
  simp only [if_neg d5]
  by_cases d6 : w = 6
  · simp only [if_pos d6]
    obtain ⟨s, h2, c2⟩ := popC h1 c1 ha
    generalize F_Fr_pop cs M1 a = w2 at h2 c2 ⊢
    by_cases e : w2.1 = 0
    · simp only [if_pos e]
      obtain ⟨h3, c3⟩ := putNC h2 c2 (ci := 10) (k := 2) (x := v) (h2.fr ha).ok (by decide) (by decide) (by decide)
      exact ⟨⟨pa, s, ⟨a, rfl, (h2.fr ha).ok⟩, trivial⟩, Fs, Ts, h3, c3⟩
    · simp only [if_neg e]
      obtain ⟨h3, c3⟩ := putNC h2 c2 (ci := 10) (k := 2) (x := x + 1) (h2.fr ha).ok (by decide) (by decide) (by decide)
      exact ⟨⟨pa, s, ⟨a, rfl, (h2.fr ha).ok⟩, trivial⟩, Fs, Ts, h3, c3⟩
  simp only [if_neg d6]
  by_cases d7 : w = 7
  · simp only [if_pos d7]
    obtain ⟨s, h2, c2⟩ := ma_combine h1 c1 ha v
    exact ⟨⟨o1, s, trivial⟩, Fs, Ts, h2, c2⟩
  simp only [if_neg d7]
  by_cases d8 : w = 8
  · simp only [if_pos d8]
    obtain ⟨s, r⟩ := ma_close h1 c1 ha x
    exact ⟨⟨o1, s, trivial⟩, r⟩
  simp only [if_neg d8]
  by_cases d9 : w = 9
  · simp only [if_pos d9]
    obtain ⟨s, r⟩ := ma_install h1 c1 ha x
    exact ⟨⟨o1, s, trivial⟩, r⟩
  simp only [if_neg d9]
  by_cases d10 : w = 10
  · simp only [if_pos d10]
    obtain ⟨s, h2, c2⟩ := ma_end h1 c1 ha
    exact ⟨⟨o1, s, trivial⟩, Fs, Ts, h2, c2⟩
  simp only [if_neg d10]
  by_cases d11 : w = 11
  · simp only [if_pos d11]
    obtain ⟨s, h2, c2⟩ := ma_endBody h1 c1 ha
    exact ⟨⟨o1, s, trivial⟩, Fs, Ts, h2, c2⟩
  simp only [if_neg d11]
  by_cases d12 : w = 12
  · simp only [if_pos d12]
    obtain ⟨s, r⟩ := ma_apply h1 c1 ha x
    exact ⟨⟨o1, s, trivial⟩, r⟩
  simp only [if_neg d12]
  by_cases d13 : w = 13
  · simp only [if_pos d13]
    obtain ⟨s, r⟩ := ma_raise h1 c1 ha hn x v
    exact ⟨⟨o1, s, trivial⟩, r⟩
  simp only [if_neg d13]
  obtain ⟨s, h2, c2⟩ := ma_end h1 c1 ha
  exact ⟨⟨o1, s, trivial⟩, Fs, Ts, h2, c2⟩
theorem ma_goOn17 {x1 : Int32} : ∀ (d : Nat) (x2 : Int32) (n : Nat) (M : gMem), 4000001 - x2.toInt.toNat = d → 0 ≤ x2.toInt → x2.toInt ≤ 4000000 → d + 600 < n → (MX cs lim dE A r1 r2 NF g4 k4 b) M →
    S_Ma_goOnFor_17 cs lim dE n M A.ma x1 x2 ∧ (MX cs lim dE A r1 r2 NF g4 k4 b) (F_Ma_goOnFor_17 cs dE n M A.ma x1 x2).2 := by
  intro d
  induction d with
  | zero =>
    intro x2 n M hd h0 h1 hn hm
    omega
  | succ d ih =>
    intro x2 n M hd h0 h1 hn hm
    obtain ⟨n, rfl⟩ : ∃ z, n = z + 1 := ⟨n - 1, by omega⟩
    obtain ⟨Fs, Ts, h, c⟩ := hm
    have o8 := h.lay.ma_0.1
    simp only [S_Ma_goOnFor_17, F_Ma_goOnFor_17]
    by_cases d1 : 4000000 ≤ x2
    · simp only [if_pos d1]
      exact ⟨⟨o8, trivial⟩, Fs, Ts, h, c⟩
    simp only [if_neg d1]
    by_cases d2 : cI M A.ma 4 = 1
    rotate_left
    · simp only [if_neg d2]
      exact ⟨⟨o8, o8, trivial⟩, Fs, Ts, h, c⟩
    simp only [if_pos d2]
    by_cases d3 : cI M A.ma 13 = 0
    rotate_left
    · simp only [if_neg d3]
      exact ⟨⟨o8, o8, o8, trivial⟩, Fs, Ts, h, c⟩
    simp only [if_pos d3]
    by_cases d4 : cQ M A.ma 10 = none
    · simp only [if_pos d4]
      exact ⟨⟨o8, o8, o8, o8, trivial⟩, Fs, Ts, h, c⟩
    simp only [if_neg d4]
    obtain ⟨f, hf⟩ := Option.ne_none_iff_exists'.mp d4
    have Ff := h.top f hf
    simp only [hf, Option.getD_some, mbind_eq]
    have l2 : x2.toInt < 4000000 := by ((try (simp only [vp_in, Int32.toNatClampNeg, Int32.lt_iff_toInt_lt, Int32.le_iff_toInt_le, ← Int32.toInt_inj, Int32.toInt_add, Int32.toInt_sub, Int32.toInt_mul, Int32.reduceToInt, i32_neg1, Nat.reducePow, Int.reducePow, ne_eq, ge_iff_le, gt_iff_lt] at *)) <;> (first | omega | ((simp (disch := omega) only [bm32] at *) <;> omega)))
    have e2 : (x2 + 1).toInt = x2.toInt + 1 := by ((try (simp only [vp_in, Int32.toNatClampNeg, Int32.lt_iff_toInt_lt, Int32.le_iff_toInt_le, ← Int32.toInt_inj, Int32.toInt_add, Int32.toInt_sub, Int32.toInt_mul, Int32.reduceToInt, i32_neg1, Nat.reducePow, Int.reducePow, ne_eq, ge_iff_le, gt_iff_lt] at *)) <;> (first | omega | ((simp (disch := omega) only [bm32] at *) <;> omega)))
    obtain ⟨s1, m1⟩ := ma_work h c Ff (n := n) (by omega) (cI M f 2)
    obtain ⟨s2, m2⟩ := ih (x2 + 1) n _ (by omega) (by omega) (by omega) (by omega) m1
    exact ⟨⟨o8, o8, o8, o8, o8, ⟨f, rfl, (h.fr Ff).ok⟩, o8, s1, s2⟩, m2⟩
end
end
section
/-! pure rows, the class: the machine between the calls -/
/-- the machine has begun and stands well; at most f of fuel were taken -/
def MB (A : Ad) (f : Int) (M : gMem) : Prop := (0 ≤ (cI M A.ma 7).toInt ∧ (cI M A.ma 7).toInt ≤ 1000) ∧ ((cI M A.st 3).toInt ≤ (cI M A.ma 7).toInt) ∧ ((cI M A.st 2).toInt ≤ 1 + (cI M A.ma 7).toInt + (cI M A.ma 6).toInt) ∧ (0 ≤ (cI M A.ma 6).toInt ∧ (cI M A.ma 6).toInt ≤ f)
theorem MB.tc {A : Ad} {f : Int} {M : gMem} (self : MB A f M) : 0 ≤ (cI M A.ma 7).toInt ∧ (cI M A.ma 7).toInt ≤ 1000 := self.1
theorem MB.tu {A : Ad} {f : Int} {M : gMem} (self : MB A f M) : (cI M A.st 3).toInt ≤ (cI M A.ma 7).toInt := self.2.1
theorem MB.fu {A : Ad} {f : Int} {M : gMem} (self : MB A f M) : (cI M A.st 2).toInt ≤ 1 + (cI M A.ma 7).toInt + (cI M A.ma 6).toInt := self.2.2.1
theorem MB.fl {A : Ad} {f : Int} {M : gMem} (self : MB A f M) : 0 ≤ (cI M A.ma 6).toInt ∧ (cI M A.ma 6).toInt ≤ f := self.2.2.2
section
variable {cs : Nat → ClassId} {lim dE : Nat × Nat} {A : Ad} {Fs Ts : Nat → Prop} {r1 r2 NF : Nat} {g4 : Nat → Int32} {k4 : Nat} {M M' : gMem} {a t n fu : Nat} {b st sf f : Int}
theorem MB.ext {W V : List (Nat × Nat)} {al : Bool} (h : MB A f M) (L : Lay cs A M) (e : Ext W V al M M') (hW : W.all (fun w => !CNT.contains w) = true) : MB A f M' := by
  have o8 := L.ma_0.1
  have o9 := L.st_0.1
  have e6 := e.xcI o8 (cnt_not hW (w := (8, 6)) (by decide))
  have e7 := e.xcI o8 (cnt_not hW (w := (8, 7)) (by decide))
  have e2 := e.xcI o9 (cnt_not hW (w := (9, 2)) (by decide))
  have e3 := e.xcI o9 (cnt_not hW (w := (9, 3)) (by decide))
  exact ⟨by rw [e7]; exact h.tc, by rw [e7, e3]; exact h.tu, by rw [e2, e7, e6]; exact h.fu, by rw [e6]; exact h.fl⟩
theorem MB.more {f' : Int} (h : MB A f M) (hf : f ≤ f') : MB A f' M := ⟨h.tc, h.tu, h.fu, h.fl.1, Int.le_trans h.fl.2 hf⟩
/-- all is taken back -/
theorem ma_reset (h : (HS cs lim dE A r1 r2 NF g4 k4) Fs Ts M) : S_Ma_reset cs lim M A.ma ∧ (HS cs lim dE A r1 r2 NF g4 k4) Fs Ts (F_Ma_reset cs M A.ma) ∧ (F_Ma_reset cs M A.ma).2 = M.2 ∧ cI (F_Ma_reset cs M A.ma) A.ma 4 = 0 ∧ cI (F_Ma_reset cs M A.ma) A.ma 5 = 0 ∧ cI (F_Ma_reset cs M A.ma) A.ma 6 = 0 ∧ cI (F_Ma_reset cs M A.ma) A.ma 7 = 0 ∧ cI (F_Ma_reset cs M A.ma) A.ma 8 = 0 ∧ cI (F_Ma_reset cs M A.ma) A.ma 9 = -1 ∧ cQ (F_Ma_reset cs M A.ma) A.ma 10 = none := by
  unfold S_Ma_reset F_Ma_reset
  have o0 := h.lay.ma_0.1
  have h1 := h.putN (ci := 8) (k := 4) (x := 0) o0 (by decide) (by decide)
  have v1 : cI (cP 8 M A.ma 4 (.int 0)) A.ma 4 = 0 := cI_put o0 (by decide)
  have z1 : (cP 8 M A.ma 4 (.int 0)).2 = M.2 := rfl
  generalize cP 8 M A.ma 4 (.int 0) = w1 at h1 v1 z1 ⊢
  have o1 := h1.lay.ma_0.1
  have h2 := h1.putN (ci := 8) (k := 5) (x := 0) o1 (by decide) (by decide)
  have v2 : cI (cP 8 w1 A.ma 5 (.int 0)) A.ma 5 = 0 := cI_put o1 (by decide)
  have u2 : cI (cP 8 w1 A.ma 5 (.int 0)) A.ma 4 = 0 := by rw [cI_put_ne (Or.inr (by decide))]; exact v1
  have z2 : (cP 8 w1 A.ma 5 (.int 0)).2 = M.2 := z1
  generalize cP 8 w1 A.ma 5 (.int 0) = w2 at h2 v2 u2 z2 ⊢
  have o2 := h2.lay.ma_0.1
  have h3 := h2.putN (ci := 8) (k := 6) (x := 0) o2 (by decide) (by decide)
  have v3 : cI (cP 8 w2 A.ma 6 (.int 0)) A.ma 6 = 0 := cI_put o2 (by decide)
  have u3 : cI (cP 8 w2 A.ma 6 (.int 0)) A.ma 4 = 0 := by rw [cI_put_ne (Or.inr (by decide))]; exact u2
  have t3 : cI (cP 8 w2 A.ma 6 (.int 0)) A.ma 5 = 0 := by rw [cI_put_ne (Or.inr (by decide))]; exact v2
  have z3 : (cP 8 w2 A.ma 6 (.int 0)).2 = M.2 := z2
  generalize cP 8 w2 A.ma 6 (.int 0) = w3 at h3 v3 u3 t3 z3 ⊢
  have o3 := h3.lay.ma_0.1
  have h4 := h3.putN (ci := 8) (k := 7) (x := 0) o3 (by decide) (by decide)
  have v4 : cI (cP 8 w3 A.ma 7 (.int 0)) A.ma 7 = 0 := cI_put o3 (by decide)
  have u4 : cI (cP 8 w3 A.ma 7 (.int 0)) A.ma 4 = 0 := by rw [cI_put_ne (Or.inr (by decide))]; exact u3
  have t4 : cI (cP 8 w3 A.ma 7 (.int 0)) A.ma 5 = 0 := by rw [cI_put_ne (Or.inr (by decide))]; exact t3
  have s4 : cI (cP 8 w3 A.ma 7 (.int 0)) A.ma 6 = 0 := by rw [cI_put_ne (Or.inr (by decide))]; exact v3
  have z4 : (cP 8 w3 A.ma 7 (.int 0)).2 = M.2 := z3
  generalize cP 8 w3 A.ma 7 (.int 0) = w4 at h4 v4 u4 t4 s4 z4 ⊢
  have o4 := h4.lay.ma_0.1
  have h5 := h4.putN (ci := 8) (k := 8) (x := 0) o4 (by decide) (by decide)
  have v5 : cI (cP 8 w4 A.ma 8 (.int 0)) A.ma 8 = 0 := cI_put o4 (by decide)
  have u5 : cI (cP 8 w4 A.ma 8 (.int 0)) A.ma 4 = 0 := by rw [cI_put_ne (Or.inr (by decide))]; exact u4
  have t5 : cI (cP 8 w4 A.ma 8 (.int 0)) A.ma 5 = 0 := by rw [cI_put_ne (Or.inr (by decide))]; exact t4
  have s5 : cI (cP 8 w4 A.ma 8 (.int 0)) A.ma 6 = 0 := by rw [cI_put_ne (Or.inr (by decide))]; exact s4
  have r5 : cI (cP 8 w4 A.ma 8 (.int 0)) A.ma 7 = 0 := by rw [cI_put_ne (Or.inr (by decide))]; exact v4
  have z5 : (cP 8 w4 A.ma 8 (.int 0)).2 = M.2 := z4
  generalize cP 8 w4 A.ma 8 (.int 0) = w5 at h5 v5 u5 t5 s5 r5 z5 ⊢
  have o5 := h5.lay.ma_0.1
  have h6 := h5.putN (ci := 8) (k := 9) (x := -1) o5 (by decide) (by decide)
  have v6 : cI (cP 8 w5 A.ma 9 (.int (-1))) A.ma 9 = -1 := cI_put o5 (by decide)
  have n6 : ∀ j, j ≠ 9 → cI (cP 8 w5 A.ma 9 (.int (-1))) A.ma j = cI w5 A.ma j := fun j hj => cI_put_ne (Or.inr hj)
  have z6 : (cP 8 w5 A.ma 9 (.int (-1))).2 = M.2 := z5
  generalize cP 8 w5 A.ma 9 (.int (-1)) = w6 at h6 v6 n6 z6 ⊢
  have o6 := h6.lay.ma_0.1
  have h7 := h6.putQ (ci := 8) (k := 10) (r := none) o6 (Or.inr ⟨by simp [si_1, si_2, sl_1, sl_2, sl_3, ai_1, ai_2, ai_3, ai_4, al_1, al_2, al_3, al_4], fun z hz => by cases hz⟩)
  have n7 : ∀ j, j ≠ 10 → cI (cP 8 w6 A.ma 10 (va_rf (none : Option Nat))) A.ma j = cI w6 A.ma j := fun j hj => cI_put_ne (Or.inr hj)
  refine ⟨⟨o0, o1, o2, o3, o4, o5, o6, trivial⟩, h7, z6, ?_, ?_, ?_, ?_, ?_, ?_, cQ_put o6 (by decide)⟩
  · rw [n7 4 (by decide), n6 4 (by decide)]; exact u5
  · rw [n7 5 (by decide), n6 5 (by decide)]; exact t5
  · rw [n7 6 (by decide), n6 6 (by decide)]; exact s5
  · rw [n7 7 (by decide), n6 7 (by decide)]; exact r5
  · rw [n7 8 (by decide), n6 8 (by decide)]; exact v5
  · rw [n7 9 (by decide)]; exact v6
/-- no program -/
theorem ma_unload (h : (HS cs lim dE A r1 r2 NF g4 k4) Fs Ts M) : S_Ma_unload cs lim M A.ma ∧ (HS cs lim dE A r1 r2 NF g4 k4) Fs Ts (F_Ma_unload cs M A.ma) ∧ (F_Ma_unload cs M A.ma).2 = M.2 ∧ cI (F_Ma_unload cs M A.ma) A.ma 2 = 0 ∧ cI (F_Ma_unload cs M A.ma) A.ma 4 = 0 := by
  unfold S_Ma_unload F_Ma_unload
  simp only [mbind_eq]
  have o0 := h.lay.ma_0.1
  have h1 := h.putN (ci := 8) (k := 2) (x := 0) o0 (by decide) (by decide)
  have v1 : cI (cP 8 M A.ma 2 (.int 0)) A.ma 2 = 0 := cI_put o0 (by decide)
  have z1 : (cP 8 M A.ma 2 (.int 0)).2 = M.2 := rfl
  generalize cP 8 M A.ma 2 (.int 0) = w1 at h1 v1 z1 ⊢
  obtain ⟨s2, h2, z2, v4, -⟩ := ma_reset h1
  have x2 := x_Ma_reset cs lim w1 A.ma h1.lay.mok s2
  refine ⟨⟨o0, h1.lay.ma_0.1, s2, trivial⟩, h2, z2.trans z1, ?_, v4⟩
  rw [x2.xcI h1.lay.ma_0.1 (by decide)]
  exact v1
theorem ma_load (h : (HS cs lim dE A r1 r2 NF g4 k4) Fs Ts M) {x : Int32} (hx : x = 0 ∨ x = 1) : S_Ma_load cs lim M A.ma x ∧ (HS cs lim dE A r1 r2 NF g4 k4) Fs Ts (F_Ma_load cs M A.ma x) ∧ (F_Ma_load cs M A.ma x).2 = M.2 ∧ cI (F_Ma_load cs M A.ma x) A.ma 2 = 1 ∧ cI (F_Ma_load cs M A.ma x) A.ma 3 = x ∧ cI (F_Ma_load cs M A.ma x) A.ma 4 = 0 := by
  unfold S_Ma_load F_Ma_load
  simp only [mbind_eq]
  have o0 := h.lay.ma_0.1
  have h1 := h.putN (ci := 8) (k := 2) (x := 1) o0 (by decide) (by decide)
  have v1 : cI (cP 8 M A.ma 2 (.int 1)) A.ma 2 = 1 := cI_put o0 (by decide)
  have z1 : (cP 8 M A.ma 2 (.int 1)).2 = M.2 := rfl
  generalize cP 8 M A.ma 2 (.int 1) = w1 at h1 v1 z1 ⊢
  have o1 := h1.lay.ma_0.1
  have h2 := h1.putN (ci := 8) (k := 3) (x := x) o1 (by decide) (by decide)
  have v2 : cI (cP 8 w1 A.ma 3 (.int x)) A.ma 3 = x := cI_put o1 (by decide)
  have u2 : cI (cP 8 w1 A.ma 3 (.int x)) A.ma 2 = 1 := by rw [cI_put_ne (Or.inr (by decide))]; exact v1
  have z2 : (cP 8 w1 A.ma 3 (.int x)).2 = M.2 := z1
  generalize cP 8 w1 A.ma 3 (.int x) = w2 at h2 v2 u2 z2 ⊢
  obtain ⟨s3, h3, z3, v4, -⟩ := ma_reset h2
  have x3 := x_Ma_reset cs lim w2 A.ma h2.lay.mok s3
  have o2 := h2.lay.ma_0.1
  refine ⟨⟨o0, o1, hx, o2, s3, trivial⟩, h3, z3.trans z2, ?_, ?_, v4⟩
  · rw [x3.xcI o2 (by decide)]; exact u2
  · rw [x3.xcI o2 (by decide)]; exact v2
/-- a program begins -/
theorem ma_begin (h : (HS cs lim dE A r1 r2 NF g4 k4) Fs Ts M) (hNF : 1 ≤ NF) : S_Ma_begin cs lim dE M A.ma ∧ ∃ Fs', (HS cs lim dE A r1 r2 NF g4 k4) Fs' Ts (F_Ma_begin cs dE M A.ma) ∧ MB A 0 (F_Ma_begin cs dE M A.ma) ∧ cI (F_Ma_begin cs dE M A.ma) A.ma 4 = 1 := by
  unfold S_Ma_begin F_Ma_begin
  simp only [mbind_eq]
  have o0 := h.lay.ma_0.1
  obtain ⟨s1, h1, z1, -, -, v6, v7, -, -, -⟩ := ma_reset h
  generalize F_Ma_reset cs M A.ma = w1 at h1 z1 v6 v7 ⊢
  have o1 := h1.lay.ma_0.1
  have p1 := h1.lay.st_0.1
  rw [h1.lay.ma_1.2]
  simp only [Option.getD_some]
  have hne : A.ma ≠ A.st := fun q => by have := (q ▸ o1 : cOk 8 w1 A.st).uniq p1; omega
  have i0 : (0 : Int32).toInt = 0 := rfl
  have h2 : (HS cs lim dE A r1 r2 NF g4 k4) Fs Ts (cP 9 w1 A.st 2 (.int 0)) := h1.map rfl (fun nf _ _ _ z => z.putI p1 (Or.inr (Or.inl ⟨rfl, rfl, by rw [i0]; omega, by rw [i0]; omega⟩)))
  have h3 : (HS cs lim dE A r1 r2 NF g4 k4) Fs Ts (cP 9 (cP 9 w1 A.st 2 (.int 0)) A.st 3 (.int 0)) := h2.map rfl (fun _ nt _ _ z => z.putI h2.lay.st_0.1 (Or.inr (Or.inr ⟨rfl, rfl, by rw [i0]; omega, by rw [i0]; omega⟩)))
  have h4 := h3.putQ (ci := 9) (k := 4) (r := none) h3.lay.st_0.1 (Or.inr ⟨by simp [si_1, si_2, sl_1, sl_2, sl_3, ai_1, ai_2, ai_3, ai_4, al_1, al_2, al_3, al_4], fun z hz => by cases hz⟩)
  have sr : S_St_reset cs lim w1 A.st := ⟨p1, h2.lay.st_0.1, h3.lay.st_0.1, trivial⟩
  have hF : F_St_reset cs w1 A.st = cP 9 (cP 9 (cP 9 w1 A.st 2 (.int 0)) A.st 3 (.int 0)) A.st 4 (va_rf (none : Option Nat)) := rfl
  have e2 : cI (F_St_reset cs w1 A.st) A.st 2 = 0 := by rw [hF, cI_put_ne (Or.inr (by decide)), cI_put_ne (Or.inr (by decide)), cI_put p1 (by decide)]
  have e3 : cI (F_St_reset cs w1 A.st) A.st 3 = 0 := by rw [hF, cI_put_ne (Or.inr (by decide)), cI_put h2.lay.st_0.1 (by decide)]
  have x4 := x_St_reset cs lim w1 A.st h1.lay.mok sr
  have e6 : cI (F_St_reset cs w1 A.st) A.ma 6 = 0 := by rw [x4.xcI o1 (by decide)]; exact v6
  have e7 : cI (F_St_reset cs w1 A.st) A.ma 7 = 0 := by rw [x4.xcI o1 (by decide)]; exact v7
  rw [← hF] at h4
  generalize F_St_reset cs w1 A.st = w4 at h4 e2 e3 e6 e7 ⊢
  have o4 := h4.lay.ma_0.1
  have p4 := h4.lay.st_0.1
  rw [h4.lay.ma_1.2]
  simp only [Option.getD_some]
  obtain ⟨s5, f, Fs', y1, y2, y3, h5, u5⟩ := st_takeFrame h4 (by rw [e2, i0]; omega)
  have x5 := x_St_takeFrame cs lim dE w4 A.st h4.lay.mok s5
  have f6 := x5.xcI (k := 6) o4 (by decide)
  have f7 := x5.xcI (k := 7) o4 (by decide)
  have f3 := x5.xcI (k := 3) p4 (by decide)
  generalize F_St_takeFrame cs dE w4 A.st = w5 at y1 h5 u5 f6 f7 f3 ⊢
  rw [y1]
  have b5 : MB A 0 w5.2 := by
    refine ⟨by rw [f7, e7, i0]; omega, by rw [f7, f3, e7, e3]; omega, ?_, by rw [f6, e6, i0]; omega⟩
    rw [f7, f6, e7, e6, i0]
    rw [e2, i0] at u5
    omega
  have o5 := h5.lay.ma_0.1
  have h6 := h5.putQ (ci := 8) (k := 10) (r := some f) o5 (Or.inr ⟨by simp [si_1, si_2, sl_1, sl_2, sl_3, ai_1, ai_2, ai_3, ai_4, al_1, al_2, al_3, al_4], fun z hz => by cases hz; exact y2⟩)
  have q6 : cQ (cP 8 w5.2 A.ma 10 (va_rf (some f))) A.ma 10 = some f := cQ_put o5 (by decide)
  have x6 : Ext [(8, 10)] [] false w5.2 (cP 8 w5.2 A.ma 10 (va_rf (some f))) := (Ext.rf h5.lay.mok).putQ 10 o5 (by decide) (by decide) (by decide)
  have b6 := b5.ext h5.lay x6 (by decide)
  generalize cP 8 w5.2 A.ma 10 (va_rf (some f)) = w6 at h6 q6 b6 ⊢
  rw [q6]
  simp only [Option.getD_some]
  obtain ⟨s7, h7⟩ := fr_open h6 y2 (r := none) (fun z hz => by cases hz) 0
  have x7 := x_Fr_open cs lim w6 f none 0 h6.lay.mok s7
  have b7 := b6.ext h6.lay x7 (by decide)
  have o6 := h6.lay.ma_0.1
  have q7 : cQ (F_Fr_open cs w6 f none 0) A.ma 10 = some f := by rw [x7.xcQ o6 (by decide)]; exact q6
  generalize F_Fr_open cs w6 f none 0 = w7 at h7 b7 q7 ⊢
  rw [q7]
  simp only [Option.getD_some]
  have h8 := h7.putQ (ci := 10) (k := 4) (r := none) (h7.fr y2).ok (Or.inr ⟨by simp [si_1, si_2, sl_1, sl_2, sl_3, ai_1, ai_2, ai_3, ai_4, al_1, al_2, al_3, al_4], fun z hz => by cases hz⟩)
  have x8 : Ext [(10, 4)] [] false w7 (cP 10 w7 f 4 (va_rf (none : Option Nat))) := (Ext.rf h7.lay.mok).putQ 4 (h7.fr y2).ok (by decide) (by decide) (by decide)
  have b8 := b7.ext h7.lay x8 (by decide)
  generalize cP 10 w7 f 4 (va_rf (none : Option Nat)) = w8 at h8 b8 ⊢
  have o8 := h8.lay.ma_0.1
  have h9 := h8.putN (ci := 8) (k := 4) (x := 1) o8 (by decide) (by decide)
  have x9 : Ext [(8, 4)] [] false w8 (cP 8 w8 A.ma 4 (.int 1)) := (Ext.rf h8.lay.mok).putI 4 o8 (by decide) (by decide)
  have b9 := b8.ext h8.lay x9 (by decide)
  exact ⟨⟨o0, s1, o1, ⟨_, rfl, p1⟩, sr, o4, ⟨_, rfl, p4⟩, s5, o5, o6, ⟨f, rfl, (h6.fr y2).ok⟩, s7, h7.lay.ma_0.1, ⟨f, rfl, (h7.fr y2).ok⟩, o8, trivial⟩, Fs', h9, b9, cI_put o8 (by decide)⟩
/-- the program goes on -/
theorem ma_goOnFor (h : (HS cs lim dE A r1 r2 NF g4 k4) Fs Ts M) (m : MB A f M) (hf : 0 ≤ f ∧ f + 1201 ≤ NF ∧ f ≤ 2000000) (hn : 4100000 ≤ n) {x : Int32} (hx : 0 ≤ x.toInt ∧ x.toInt ≤ 200) : S_Ma_goOnFor cs lim dE n M A.ma x ∧ ∃ Fs' Ts', (HS cs lim dE A r1 r2 NF g4 k4) Fs' Ts' (F_Ma_goOnFor cs dE n M A.ma x).2 ∧ MB A (f + 200) (F_Ma_goOnFor cs dE n M A.ma x).2 := by
  unfold S_Ma_goOnFor F_Ma_goOnFor
  have o0 := h.lay.ma_0.1
  have i0 : (0 : Int32).toInt = 0 := rfl
  have hne : A.st ≠ A.ma := fun q => by have := (q ▸ h.lay.st_0.1 : cOk 9 M A.ma).uniq o0; omega
  have h1 := h.putN (ci := 8) (k := 11) (x := x) o0 (by decide) (by decide)
  have o1 := h1.lay.ma_0.1
  have h2 := h1.putN (ci := 8) (k := 12) (x := 0) o1 (by decide) (by decide)
  have o2 := h2.lay.ma_0.1
  have h3 := h2.putN (ci := 8) (k := 13) (x := 0) o2 (by decide) (by decide)
  have v11 : cI (cP 8 (cP 8 (cP 8 M A.ma 11 (.int x)) A.ma 12 (.int 0)) A.ma 13 (.int 0)) A.ma 11 = x := by rw [cI_put_ne (Or.inr (by decide)), cI_put_ne (Or.inr (by decide)), cI_put o0 (by decide)]
  have v12 : cI (cP 8 (cP 8 (cP 8 M A.ma 11 (.int x)) A.ma 12 (.int 0)) A.ma 13 (.int 0)) A.ma 12 = 0 := by rw [cI_put_ne (Or.inr (by decide)), cI_put o1 (by decide)]
  have vo : ∀ z j, (z ≠ A.ma ∨ (j ≠ 11 ∧ j ≠ 12 ∧ j ≠ 13)) → cI (cP 8 (cP 8 (cP 8 M A.ma 11 (.int x)) A.ma 12 (.int 0)) A.ma 13 (.int 0)) z j = cI M z j := fun z j hz => by
    rw [cI_put_ne (hz.imp id (fun q => q.2.2)), cI_put_ne (hz.imp id (fun q => q.2.1)), cI_put_ne (hz.imp id (fun q => q.1))]
  have mfl := m.fl
  have c3 : MC A NF (cI M A.ma 6).toInt 0 0 (cP 8 (cP 8 (cP 8 M A.ma 11 (.int x)) A.ma 12 (.int 0)) A.ma 13 (.int 0)) := by
    refine ⟨?_, ?_, ?_, ?_, ?_, ?_, ?_⟩
    · rw [vo A.ma 7 (Or.inr (by decide))]; exact m.tc
    · rw [vo A.ma 7 (Or.inr (by decide)), vo A.st 3 (Or.inl hne)]; have := m.tu; omega
    · rw [vo A.ma 7 (Or.inr (by decide)), vo A.st 2 (Or.inl hne), vo A.ma 6 (Or.inr (by decide))]; have := m.fu; omega
    · rw [v11]; exact hx
    · rw [v11, v12, i0]; omega
    · rw [v12, i0, vo A.ma 6 (Or.inr (by decide))]; omega
    · omega
  obtain ⟨s4, Fs', Ts', h4, c4⟩ := ma_goOn17 (cs := cs) (lim := lim) (dE := dE) (A := A) (r1 := r1) (r2 := r2) (NF := NF) (g4 := g4) (k4 := k4) (b := (cI M A.ma 6).toInt) (x1 := x) 4000001 0 n _ (by decide) (by decide) (by decide) (by omega) ⟨Fs, Ts, h3, c3⟩
  refine ⟨⟨o0, o1, o2, s4⟩, Fs', Ts', h4, c4.tc, ?_, ?_, ?_⟩
  · have := c4.tu; omega
  · have := c4.fu; omega
  · have := c4.fl; have := c4.ta; have := c4.al; omega
end
end
