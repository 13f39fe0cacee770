-- pure rows: FJ FK FL FM
section
/-! pure rows, the class: the machine's steps -/
section
variable {cs : Nat → ClassId} {lim dE : Nat × Nat} {A : Ad} {Fs Ts : Nat → Prop} {r1 r2 NF : Nat} {g4 : Nat → Int32} {k4 : Nat} {M M' : gMem} {a t n fu : Nat} {b st sf : Int}
theorem pushC (h : (HS cs lim dE A r1 r2 NF g4 k4) Fs Ts M) (c : (MC A NF b st sf) M) (ha : Fs a) (v : Int32) : S_Fr_push cs lim M a v ∧ (HS cs lim dE A r1 r2 NF g4 k4) Fs Ts (F_Fr_push cs M a v) ∧ (MC A NF b st sf) (F_Fr_push cs M a v) := by
  obtain ⟨s, h2⟩ := fr_push h ha v
  exact ⟨s, h2, c.ext h.lay (x_Fr_push cs lim M a v h.lay.mok s) (by decide)⟩
theorem popC (h : (HS cs lim dE A r1 r2 NF g4 k4) Fs Ts M) (c : (MC A NF b st sf) M) (ha : Fs a) : S_Fr_pop cs lim M a ∧ (HS cs lim dE A r1 r2 NF g4 k4) Fs Ts (F_Fr_pop cs M a).2 ∧ (MC A NF b st sf) (F_Fr_pop cs M a).2 := by
  obtain ⟨s, h2⟩ := fr_pop h ha
  exact ⟨s, h2, c.ext h.lay (x_Fr_pop cs lim M a h.lay.mok s) (by decide)⟩
theorem giveC (h : (HS cs lim dE A r1 r2 NF g4 k4) Fs Ts M) (c : (MC A NF b st sf) M) (ha : Fs a) (x v : Int32) : S_Fr_give cs lim M a x v ∧ (HS cs lim dE A r1 r2 NF g4 k4) Fs Ts (F_Fr_give cs M a x v) ∧ (MC A NF b st sf) (F_Fr_give cs M a x v) := by
  obtain ⟨s, h2⟩ := fr_give h ha x v
  exact ⟨s, h2, c.ext h.lay (x_Fr_give cs lim M a x v h.lay.mok s) (by decide)⟩
theorem tgiveC (h : (HS cs lim dE A r1 r2 NF g4 k4) Fs Ts M) (c : (MC A NF b st sf) M) (ha : Ts t) (x v : Int32) : S_Th_give cs lim M t x v ∧ (HS cs lim dE A r1 r2 NF g4 k4) Fs Ts (F_Th_give cs M t x v) ∧ (MC A NF b st sf) (F_Th_give cs M t x v) := by
  obtain ⟨s, h2⟩ := th_give h ha x v
  exact ⟨s, h2, c.ext h.lay (x_Th_give cs lim M t x v h.lay.mok s) (by decide)⟩
theorem openC (h : (HS cs lim dE A r1 r2 NF g4 k4) Fs Ts M) (c : (MC A NF b st sf) M) (ha : Fs a) {r : Option Nat} (ht : ∀ t, r = some t → Ts t) (x : Int32) : S_Fr_open cs lim M a r x ∧ (HS cs lim dE A r1 r2 NF g4 k4) Fs Ts (F_Fr_open cs M a r x) ∧ (MC A NF b st sf) (F_Fr_open cs M a r x) := by
  obtain ⟨s, h2⟩ := fr_open h ha ht x
  exact ⟨s, h2, c.ext h.lay (x_Fr_open cs lim M a r x h.lay.mok s) (by decide)⟩
theorem keepC (h : (HS cs lim dE A r1 r2 NF g4 k4) Fs Ts M) (c : (MC A NF b st sf) M) (ha : Fs a) (ht : Ts t) : S_Fr_keepNames cs lim M a (some t) ∧ (HS cs lim dE A r1 r2 NF g4 k4) Fs Ts (F_Fr_keepNames cs M a (some t)) ∧ (MC A NF b st sf) (F_Fr_keepNames cs M a (some t)) := by
  obtain ⟨s, h2⟩ := fr_keepNames h ha ht
  exact ⟨s, h2, c.ext h.lay (x_Fr_keepNames cs lim M a (some t) h.lay.mok s) (by decide)⟩
theorem makeC (h : (HS cs lim dE A r1 r2 NF g4 k4) Fs Ts M) (c : (MC A NF b st sf) M) (ht : Ts t) (x : Int32) : S_Th_make cs lim M t x ∧ (HS cs lim dE A r1 r2 NF g4 k4) Fs Ts (F_Th_make cs M t x) ∧ (MC A NF b st sf) (F_Th_make cs M t x) := by
  obtain ⟨s, h2⟩ := th_make h ht x
  exact ⟨s, h2, c.ext h.lay (x_Th_make cs lim M t x h.lay.mok s) (by decide)⟩
theorem holdC (h : (HS cs lim dE A r1 r2 NF g4 k4) Fs Ts M) (c : (MC A NF b st sf) M) (ht : Ts t) {u l : Option Nat} (hu : ∀ z, u = some z → Fs z) (hl : ∀ z, l = some z → Fs z) (x : Int32) : S_Th_hold cs lim M t u l x ∧ (HS cs lim dE A r1 r2 NF g4 k4) Fs Ts (F_Th_hold cs M t u l x) ∧ (MC A NF b st sf) (F_Th_hold cs M t u l x) := by
  obtain ⟨s, h2⟩ := th_hold h ht hu hl x
  exact ⟨s, h2, c.ext h.lay (x_Th_hold cs lim M t u l x h.lay.mok s) (by decide)⟩
theorem backC (h : (HS cs lim dE A r1 r2 NF g4 k4) Fs Ts M) (c : (MC A NF b st sf) M) (ha : Fs a) : S_St_giveBack cs lim M A.st (some a) ∧ (HS cs lim dE A r1 r2 NF g4 k4) Fs Ts (F_St_giveBack cs M A.st (some a)) ∧ (MC A NF b st sf) (F_St_giveBack cs M A.st (some a)) := by
  obtain ⟨s, h2⟩ := st_giveBack h ha
  exact ⟨s, h2, c.ext h.lay (x_St_giveBack cs lim M A.st (some a) h.lay.mok s) (by decide)⟩
/-- an int field that isn't counted -/
theorem putNC {ci k : Nat} (h : (HS cs lim dE A r1 r2 NF g4 k4) Fs Ts M) (c : (MC A NF b st sf) M) {x : Int32} (ho : cOk ci M a) (h2 : (ckd ci).getD k 0 ≠ 2) (hW : ([(ci, k)] : List (Nat × Nat)).all (fun w => !BAD.contains w && w != (2, 0)) = true) (hC : ([(ci, k)] : List (Nat × Nat)).all (fun w => !CNT.contains w) = true) : (HS cs lim dE A r1 r2 NF g4 k4) Fs Ts (cP ci M a k (.int x)) ∧ (MC A NF b st sf) (cP ci M a k (.int x)) :=
  ⟨h.putN ho h2 hW, c.ext h.lay ((Ext.rf (W := [(ci, k)]) (V := []) (al := false) h.lay.mok).putI k ho (by simp [si_1, si_2, sl_1, sl_2, sl_3, ai_1, ai_2, ai_3, ai_4, al_1, al_2, al_3, al_4]) h2) hC⟩
theorem putQC {ci k : Nat} (h : (HS cs lim dE A r1 r2 NF g4 k4) Fs Ts M) (c : (MC A NF b st sf) M) {r : Option Nat} (ho : cOk ci M a) (hf : (ci = 10 ∧ k = 3 ∧ ∀ z, r = some z → Ts z) ∨ (((ci = 10 ∧ k = 4) ∨ (ci = 11 ∧ k = 4) ∨ (ci = 11 ∧ k = 5) ∨ (ci = 8 ∧ k = 10) ∨ (ci = 9 ∧ k = 4)) ∧ ∀ z, r = some z → Fs z)) : (HS cs lim dE A r1 r2 NF g4 k4) Fs Ts (cP ci M a k (va_rf r)) ∧ (MC A NF b st sf) (cP ci M a k (va_rf r)) := by
  have hk : ((ckd ci).getD k 0 = 2) ∧ OWN.contains (ci, k) = false ∧ ([(ci, k)] : List (Nat × Nat)).all (fun w => !CNT.contains w) = true := by rcases hf with ⟨rfl, rfl, -⟩ | ⟨⟨rfl, rfl⟩ | ⟨rfl, rfl⟩ | ⟨rfl, rfl⟩ | ⟨rfl, rfl⟩ | ⟨rfl, rfl⟩, -⟩ <;> decide
  exact ⟨h.putQ ho hf, c.ext h.lay ((Ext.rf (W := [(ci, k)]) (V := []) (al := false) h.lay.mok).putQ k ho (by simp [si_1, si_2, sl_1, sl_2, sl_3, ai_1, ai_2, ai_3, ai_4, al_1, al_2, al_3, al_4]) hk.1 hk.2.1) hk.2.2⟩
theorem ma_bind (h : (HS cs lim dE A r1 r2 NF g4 k4) Fs Ts M) (c : (MC A NF b st sf) M) (ha : Fs a) (x : Int32) : S_Ma_bind cs lim M A.ma (some a) x ∧ (HS cs lim dE A r1 r2 NF g4 k4) Fs Ts (F_Ma_bind cs M A.ma (some a) x) ∧ (MC A NF b st sf) (F_Ma_bind cs M A.ma (some a) x) := by
  unfold S_Ma_bind F_Ma_bind
  simp only [Option.getD_some, mbind_eq]
  obtain ⟨s1, h1, c1⟩ := popC h c ha
  generalize F_Fr_pop cs M a = w1 at h1 c1 ⊢
  have sv := fr_valueOf h1 ha x
  obtain ⟨s2, h2, c2⟩ := pushC h1 c1 ha (F_Fr_valueOf cs w1.2 a x)
  generalize F_Fr_push cs w1.2 a (F_Fr_valueOf cs w1.2 a x) = w2 at h2 c2 ⊢
  obtain ⟨s3, h3, c3⟩ := giveC h2 c2 ha x w1.1
  exact ⟨⟨⟨a, rfl, (h.fr ha).ok⟩, s1, ⟨a, rfl, (h1.fr ha).ok⟩, sv, ⟨a, rfl, (h1.fr ha).ok⟩, s2, ⟨a, rfl, (h2.fr ha).ok⟩, s3, trivial⟩, h3, c3⟩
theorem ma_unbind (h : (HS cs lim dE A r1 r2 NF g4 k4) Fs Ts M) (c : (MC A NF b st sf) M) (ha : Fs a) (x : Int32) : S_Ma_unbind cs lim M A.ma (some a) x ∧ (HS cs lim dE A r1 r2 NF g4 k4) Fs Ts (F_Ma_unbind cs M A.ma (some a) x) ∧ (MC A NF b st sf) (F_Ma_unbind cs M A.ma (some a) x) := by
  unfold S_Ma_unbind F_Ma_unbind
  simp only [Option.getD_some, mbind_eq]
  obtain ⟨s1, h1, c1⟩ := popC h c ha
  generalize F_Fr_pop cs M a = w1 at h1 c1 ⊢
  obtain ⟨s2, h2, c2⟩ := popC h1 c1 ha
  generalize F_Fr_pop cs w1.2 a = w2 at h2 c2 ⊢
  obtain ⟨s3, h3, c3⟩ := giveC h2 c2 ha x w2.1
  generalize F_Fr_give cs w2.2 a x w2.1 = w3 at h3 c3 ⊢
  obtain ⟨s4, h4, c4⟩ := pushC h3 c3 ha w1.1
  exact ⟨⟨⟨a, rfl, (h.fr ha).ok⟩, s1, ⟨a, rfl, (h1.fr ha).ok⟩, s2, ⟨a, rfl, (h2.fr ha).ok⟩, s3, ⟨a, rfl, (h3.fr ha).ok⟩, s4, trivial⟩, h4, c4⟩
theorem ma_combine (h : (HS cs lim dE A r1 r2 NF g4 k4) Fs Ts M) (c : (MC A NF b st sf) M) (ha : Fs a) (x : Int32) : S_Ma_combine cs lim M A.ma (some a) x ∧ (HS cs lim dE A r1 r2 NF g4 k4) Fs Ts (F_Ma_combine cs M A.ma (some a) x) ∧ (MC A NF b st sf) (F_Ma_combine cs M A.ma (some a) x) := by
  unfold S_Ma_combine F_Ma_combine
  simp only [Option.getD_some, mbind_eq]
  obtain ⟨s1, h1, c1⟩ := popC h c ha
  generalize F_Fr_pop cs M a = w1 at h1 c1 ⊢
  obtain ⟨s2, h2, c2⟩ := popC h1 c1 ha
  generalize F_Fr_pop cs w1.2 a = w2 at h2 c2 ⊢
  have o := (h.fr ha).ok
  have o1 := (h1.fr ha).ok
  have o2 := (h2.fr ha).ok
  have key : ∀ v, S_Fr_push cs lim w2.2 a v ∧ (HS cs lim dE A r1 r2 NF g4 k4) Fs Ts (F_Fr_push cs w2.2 a v) ∧ (MC A NF b st sf) (F_Fr_push cs w2.2 a v) := fun v => pushC h2 c2 ha v
  by_cases c0 : x = 0
  · simp only [if_pos c0]
    obtain ⟨s, r⟩ := key (w2.1 + w1.1)
    exact ⟨⟨⟨a, rfl, o⟩, s1, ⟨a, rfl, o1⟩, s2, ⟨a, rfl, o2⟩, s, trivial⟩, r⟩
  simp only [if_neg c0]
  by_cases c1 : x = 1
  · simp only [if_pos c1]
    obtain ⟨s, r⟩ := key (w2.1 - w1.1)
    exact ⟨⟨⟨a, rfl, o⟩, s1, ⟨a, rfl, o1⟩, s2, ⟨a, rfl, o2⟩, s, trivial⟩, r⟩
  simp only [if_neg c1]
  by_cases c2 : x = 2
  · simp only [if_pos c2]
    obtain ⟨s, r⟩ := key (w2.1 * w1.1)
    exact ⟨⟨⟨a, rfl, o⟩, s1, ⟨a, rfl, o1⟩, s2, ⟨a, rfl, o2⟩, s, trivial⟩, r⟩
  simp only [if_neg c2]
  by_cases c3 : x = 3
  · simp only [if_pos c3]
    by_cases d : w1.1 ≤ w2.1
    · simp only [if_pos d]
      obtain ⟨s, r⟩ := key 0
      exact ⟨⟨⟨a, rfl, o⟩, s1, ⟨a, rfl, o1⟩, s2, ⟨a, rfl, o2⟩, s, trivial⟩, r⟩
    · simp only [if_neg d]
      obtain ⟨s, r⟩ := key 1
      exact ⟨⟨⟨a, rfl, o⟩, s1, ⟨a, rfl, o1⟩, s2, ⟨a, rfl, o2⟩, s, trivial⟩, r⟩
  simp only [if_neg c3]
  by_cases d : w2.1 = w1.1
  · simp only [if_pos d]
    obtain ⟨s, r⟩ := key 1
    exact ⟨⟨⟨a, rfl, o⟩, s1, ⟨a, rfl, o1⟩, s2, ⟨a, rfl, o2⟩, s, trivial⟩, r⟩
  · simp only [if_neg d]
    obtain ⟨s, r⟩ := key 0
    exact ⟨⟨⟨a, rfl, o⟩, s1, ⟨a, rfl, o1⟩, s2, ⟨a, rfl, o2⟩, s, trivial⟩, r⟩
theorem ma_end (h : (HS cs lim dE A r1 r2 NF g4 k4) Fs Ts M) (c : (MC A NF b st sf) M) (ha : Fs a) : S_Ma_end cs lim M A.ma (some a) ∧ (HS cs lim dE A r1 r2 NF g4 k4) Fs Ts (F_Ma_end cs M A.ma (some a)) ∧ (MC A NF b st sf) (F_Ma_end cs M A.ma (some a)) := by
  unfold S_Ma_end F_Ma_end
  simp only [Option.getD_some, mbind_eq]
  obtain ⟨s1, h1, c1⟩ := popC h c ha
  generalize F_Fr_pop cs M a = w1 at h1 c1 ⊢
  have o := (h.fr ha).ok
  have F1 := h1.fr ha
  by_cases d : cQ w1.2 a 4 = none
  · simp only [if_pos d]
    obtain ⟨h2, c2⟩ := putNC h1 c1 (ci := 8) (k := 4) (x := 2) h1.lay.ma_0.1 (by decide) (by decide) (by decide)
    have o2 := h2.lay.ma_0.1
    split
    · obtain ⟨h3, c3⟩ := putNC h2 c2 (ci := 8) (k := 5) (x := 0) o2 (by decide) (by decide) (by decide)
      exact ⟨⟨⟨a, rfl, o⟩, s1, ⟨a, rfl, F1.ok⟩, h1.lay.ma_0.1, o2, o2, trivial⟩, h3, c3⟩
    · obtain ⟨h3, c3⟩ := putNC h2 c2 (ci := 8) (k := 5) (x := w1.1) o2 (by decide) (by decide) (by decide)
      exact ⟨⟨⟨a, rfl, o⟩, s1, ⟨a, rfl, F1.ok⟩, h1.lay.ma_0.1, o2, o2, trivial⟩, h3, c3⟩
  · simp only [if_neg d]
    obtain ⟨f, hf⟩ := Option.ne_none_iff_exists'.mp d
    have hF := F1.be f hf
    rw [hf]
    simp only [Option.getD_some]
    obtain ⟨s2, h2, c2⟩ := pushC h1 c1 hF w1.1
    generalize F_Fr_push cs w1.2 f w1.1 = w2 at h2 c2 ⊢
    obtain ⟨h3, c3⟩ := putQC h2 c2 (ci := 8) (k := 10) (r := some f) h2.lay.ma_0.1 (Or.inr ⟨by simp [si_1, si_2, sl_1, sl_2, sl_3, ai_1, ai_2, ai_3, ai_4, al_1, al_2, al_3, al_4], fun z hz => by cases hz; exact hF⟩)
    generalize cP 8 w2 A.ma 10 (va_rf (some f)) = w3 at h3 c3 ⊢
    obtain ⟨h4, c4⟩ := putNC h3 c3 (ci := 8) (k := 8) (x := cI w3 A.ma 8 - 1) h3.lay.ma_0.1 (by decide) (by decide) (by decide)
    generalize cP 8 w3 A.ma 8 (.int (cI w3 A.ma 8 - 1)) = w4 at h4 c4 ⊢
    rw [h4.lay.ma_1.2]
    simp only [Option.getD_some]
    obtain ⟨s5, h5, c5⟩ := backC h4 c4 ha
    exact ⟨⟨⟨a, rfl, o⟩, s1, ⟨a, rfl, F1.ok⟩, ⟨f, rfl, (h1.fr hF).ok⟩, s2, h2.lay.ma_0.1, h3.lay.ma_0.1, h3.lay.ma_0.1, h4.lay.ma_0.1, ⟨_, rfl, h4.lay.st_0.1⟩, s5, trivial⟩, h5, c5⟩
theorem ma_endBody (h : (HS cs lim dE A r1 r2 NF g4 k4) Fs Ts M) (c : (MC A NF b st sf) M) (ha : Fs a) : S_Ma_endBody cs lim M A.ma (some a) ∧ (HS cs lim dE A r1 r2 NF g4 k4) Fs Ts (F_Ma_endBody cs M A.ma (some a)) ∧ (MC A NF b st sf) (F_Ma_endBody cs M A.ma (some a)) := by
  unfold S_Ma_endBody F_Ma_endBody
  simp only [Option.getD_some, mbind_eq]
  have F0 := h.fr ha
  by_cases d : cQ M a 3 = none
  · simp only [if_pos d]
    exact ⟨⟨⟨a, rfl, F0.ok⟩, trivial⟩, h, c⟩
  · simp only [if_neg d]
    obtain ⟨t, ht⟩ := Option.ne_none_iff_exists'.mp d
    have hT := F0.ha t ht
    rw [ht]
    simp only [Option.getD_some]
    obtain ⟨s1, h1, c1⟩ := popC h c ha
    generalize F_Fr_pop cs M a = w1 at h1 c1 ⊢
    rw [h1.lay.ma_0.2]
    simp only [Option.getD_some]
    generalize F_Co_field cs w1.2 A.co (cI w1.2 t 1) 2 = v2
    obtain ⟨s2, h2, c2⟩ := openC h1 c1 ha (r := some t) (fun z hz => by cases hz; exact hT) v2
    generalize F_Fr_open cs w1.2 a (some t) v2 = w2 at h2 c2 ⊢
    rw [h2.lay.ma_0.2]
    simp only [Option.getD_some]
    generalize F_Co_field cs w2 A.co (cI w2 t 1) 3 = v3
    obtain ⟨s3, h3, c3⟩ := giveC h2 c2 ha v3 w1.1
    exact ⟨⟨⟨a, rfl, F0.ok⟩, ⟨a, rfl, F0.ok⟩, s1, h1.lay.ma_0.1, ⟨t, rfl, (h1.th hT).ok⟩, ⟨_, rfl, h1.lay.co_0.1⟩, co_field h1 _ _, ⟨a, rfl, (h1.fr ha).ok⟩, s2, h2.lay.ma_0.1, ⟨t, rfl, (h2.th hT).ok⟩, ⟨_, rfl, h2.lay.co_0.1⟩, co_field h2 _ _, ⟨a, rfl, (h2.fr ha).ok⟩, s3, trivial⟩, h3, c3⟩
end
end
section
/-! pure rows, the class: the machine's larger steps -/
/-- the machine stands well -/
def MX (cs : Nat → ClassId) (lim dE : Nat × Nat) (A : Ad) (r1 r2 NF : Nat) (g4 : Nat → Int32) (k4 : Nat) (b : Int) (M : gMem) : Prop := ∃ Fs Ts, HS cs lim dE A r1 r2 NF g4 k4 Fs Ts M ∧ MC A NF b 0 0 M
section
variable {cs : Nat → ClassId} {lim dE : Nat × Nat} {A : Ad} {Fs Ts : Nat → Prop} {r1 r2 NF : Nat} {g4 : Nat → Int32} {k4 : Nat} {M M' : gMem} {a t n fu : Nat} {b st sf : Int}
theorem ma_close (h : (HS cs lim dE A r1 r2 NF g4 k4) Fs Ts M) (c : MC A NF b 0 0 M) (ha : Fs a) (x : Int32) : S_Ma_close cs lim dE M A.ma (some a) x ∧ (MX cs lim dE A r1 r2 NF g4 k4 b) (F_Ma_close cs dE M A.ma (some a) x) := by
  unfold S_Ma_close F_Ma_close
  simp only [Option.getD_some, mbind_eq]
  have o8 := h.lay.ma_0.1
  obtain ⟨s1, h1, c1, q1⟩ := ma_isFull h c 1 (by decide)
  generalize F_Ma_isFull cs M A.ma 1 = w1 at h1 c1 q1 ⊢
  by_cases d : w1.1 = 0
  rotate_left
  · simp only [if_neg d]
    exact ⟨⟨o8, s1, trivial⟩, Fs, Ts, h1, c1⟩
  simp only [if_pos d]
  have o1 := h1.lay.ma_0.1
  obtain ⟨h2, c2⟩ := ma_count h1 c1 (x := 1) (by decide) (q1 d)
  generalize cP 8 w1.2 A.ma 7 (.int (cI w1.2 A.ma 7 + 1)) = w2 at h2 c2 ⊢
  rw [h2.lay.ma_1.2]
  simp only [Option.getD_some]
  obtain ⟨s3, Ts', i3, h3, c3⟩ := ma_thing h2 c2 (by decide)
  generalize F_St_takeThing cs dE w2 A.st = w3 at h3 c3 ⊢
  rw [h3.lay.ma_1.2]
  simp only [Option.getD_some]
  obtain ⟨s4, r4⟩ := st_thingAt h3 w3.1
  have c3' : MC A NF b 0 0 w3.2 := c3.less (by decide) (by decide)
  rcases r4 with r4 | ⟨t, r4, hT⟩
  · rw [r4]
    simp only [if_true]
    exact ⟨⟨o8, s1, o1, o1, h2.lay.ma_0.1, ⟨_, rfl, h2.lay.st_0.1⟩, s3, h3.lay.ma_0.1, ⟨_, rfl, h3.lay.st_0.1⟩, s4, trivial⟩, Fs, Ts', h3, c3'⟩
  · rw [r4]
    have hne : ¬ (some t : Option Nat) = none := by simp [si_1, si_2, sl_1, sl_2, sl_3, ai_1, ai_2, ai_3, ai_4, al_1, al_2, al_3, al_4]
    simp only [if_neg hne, Option.getD_some]
    obtain ⟨s5, h5, c5⟩ := makeC h3 c3' hT x
    generalize F_Th_make cs w3.2 t x = w5 at h5 c5 ⊢
    obtain ⟨s6, h6, c6⟩ := keepC h5 c5 ha hT
    generalize F_Fr_keepNames cs w5 a (some t) = w6 at h6 c6 ⊢
    rw [h6.lay.ma_0.2]
    simp only [Option.getD_some]
    generalize F_Co_field cs w6 A.co x 2 = v6
    obtain ⟨s7, h7, c7⟩ := tgiveC h6 c6 hT v6 w3.1
    generalize F_Th_give cs w6 t v6 w3.1 = w7 at h7 c7 ⊢
    obtain ⟨s8, h8, c8⟩ := pushC h7 c7 ha w3.1
    generalize F_Fr_push cs w7 a w3.1 = w8 at h8 c8 ⊢
    rw [h8.lay.ma_0.2]
    simp only [Option.getD_some]
    generalize F_Co_field cs w8 A.co x 3 = v8
    obtain ⟨h9, c9⟩ := putNC h8 c8 (ci := 10) (k := 2) (x := v8) (h8.fr ha).ok (by decide) (by decide) (by decide)
    exact ⟨⟨o8, s1, o1, o1, h2.lay.ma_0.1, ⟨_, rfl, h2.lay.st_0.1⟩, s3, h3.lay.ma_0.1, ⟨_, rfl, h3.lay.st_0.1⟩, s4, ⟨t, rfl, (h3.th hT).ok⟩, s5, ⟨a, rfl, (h5.fr ha).ok⟩, s6, h6.lay.ma_0.1, ⟨_, rfl, h6.lay.co_0.1⟩, co_field h6 _ _, ⟨t, rfl, (h6.th hT).ok⟩, s7, ⟨a, rfl, (h7.fr ha).ok⟩, s8, h8.lay.ma_0.1, ⟨_, rfl, h8.lay.co_0.1⟩, co_field h8 _ _, ⟨a, rfl, (h8.fr ha).ok⟩, trivial⟩, Fs, Ts', h9, c9⟩
theorem ma_install (h : (HS cs lim dE A r1 r2 NF g4 k4) Fs Ts M) (c : MC A NF b 0 0 M) (ha : Fs a) (x : Int32) : S_Ma_install cs lim dE M A.ma (some a) x ∧ (MX cs lim dE A r1 r2 NF g4 k4 b) (F_Ma_install cs dE M A.ma (some a) x) := by
  unfold S_Ma_install F_Ma_install
  simp only [Option.getD_some, mbind_eq]
  have o8 := h.lay.ma_0.1
  obtain ⟨s1, h1, c1, q1⟩ := ma_isFull h c 1 (by decide)
  generalize F_Ma_isFull cs M A.ma 1 = w1 at h1 c1 q1 ⊢
  by_cases d : w1.1 = 0
  rotate_left
  · simp only [if_neg d]
    exact ⟨⟨o8, s1, trivial⟩, Fs, Ts, h1, c1⟩
  simp only [if_pos d]
  have o1 := h1.lay.ma_0.1
  have sd := ma_isDeep h1 c1 1
  have q2 : (cI (F_Ma_isDeep cs w1.2 A.ma 1).2 A.ma 7).toInt + 1 ≤ 1000 := by
    rw [(x_Ma_isDeep cs lim w1.2 A.ma 1 h1.lay.mok sd.1).xcI o1 (by decide)]
    exact q1 d
  obtain ⟨s2, h2, c2⟩ := sd
  generalize F_Ma_isDeep cs w1.2 A.ma 1 = w2 at h2 c2 q2 ⊢
  by_cases d2 : w2.1 = 0
  rotate_left
  · simp only [if_neg d2]
    exact ⟨⟨o8, s1, o1, s2, trivial⟩, Fs, Ts, h2, c2⟩
  simp only [if_pos d2]
  have o2 := h2.lay.ma_0.1
  obtain ⟨h3, c3⟩ := ma_count h2 c2 (x := 1) (by decide) q2
  generalize cP 8 w2.2 A.ma 7 (.int (cI w2.2 A.ma 7 + 1)) = w3 at h3 c3 ⊢
  rw [h3.lay.ma_1.2]
  simp only [Option.getD_some]
  obtain ⟨s4, Ts', i4, h4, c4⟩ := ma_thing h3 c3 (by decide)
  generalize F_St_takeThing cs dE w3 A.st = w4 at h4 c4 ⊢
  obtain ⟨s5, r5⟩ := st_thingAt h4 w4.1
  have o3 := h3.lay.ma_0.1
  have b4 : cOq 9 w4.2 (some A.st) := ⟨_, rfl, h4.lay.st_0.1⟩
  rcases r5 with r5 | ⟨t, r5, hT⟩
  · rw [r5]
    simp only [if_true]
    exact ⟨⟨o8, s1, o1, s2, o2, o2, o3, o3, ⟨_, rfl, h3.lay.st_0.1⟩, s4, b4, s5, trivial⟩, Fs, Ts', h4, c4.less (by decide) (by decide)⟩
  · rw [r5]
    have hne : ¬ (some t : Option Nat) = none := by simp [si_1, si_2, sl_1, sl_2, sl_3, ai_1, ai_2, ai_3, ai_4, al_1, al_2, al_3, al_4]
    simp only [if_neg hne, Option.getD_some]
    obtain ⟨s6, h6, c6⟩ := makeC h4 c4 hT x
    generalize F_Th_make cs w4.2 t x = w6 at h6 c6 ⊢
    obtain ⟨s7, h7, c7⟩ := keepC h6 c6 ha hT
    generalize F_Fr_keepNames cs w6 a (some t) = w7 at h7 c7 ⊢
    rw [h7.lay.ma_0.2]
    simp only [Option.getD_some]
    have f7 := co_field h7 x 1
    generalize F_Co_field cs w7 A.co x 1 = v7
    obtain ⟨h8, c8⟩ := putNC h7 c7 (ci := 10) (k := 2) (x := v7) (h7.fr ha).ok (by decide) (by decide) (by decide)
    generalize cP 10 w7 a 2 (.int v7) = w8 at h8 c8 ⊢
    rw [h8.lay.ma_0.2]
    simp only [Option.getD_some]
    have f8 := co_field h8 x 4
    generalize F_Co_field cs w8 A.co x 4 = v8
    obtain ⟨s9, Fs', i9, h9, c9, f, t9, hf9⟩ := ma_enter h8 c8 (by decide) (bl := some a) (hm := some t) (fun z hz => by cases hz; exact ha) (fun z hz => by cases hz; exact hT) (x + 1 + v8)
    generalize F_Ma_enter cs dE w8 A.ma (some a) (some t) (x + 1 + v8) = w9 at h9 c9 t9 ⊢
    rw [t9]
    simp only [Option.getD_some]
    obtain ⟨h10, c10⟩ := putQC h9 c9 (ci := 10) (k := 3) (r := some t) (h9.fr hf9).ok (Or.inl ⟨rfl, rfl, fun z hz => by cases hz; exact hT⟩)
    exact ⟨⟨o8, s1, o1, s2, o2, o2, o3, o3, ⟨_, rfl, h3.lay.st_0.1⟩, s4, b4, s5, ⟨t, rfl, (h4.th hT).ok⟩, s6, ⟨a, rfl, (h6.fr ha).ok⟩, s7, h7.lay.ma_0.1, ⟨_, rfl, h7.lay.co_0.1⟩, f7, ⟨a, rfl, (h7.fr ha).ok⟩, h8.lay.ma_0.1, ⟨_, rfl, h8.lay.co_0.1⟩, f8, h8.lay.ma_0.1, s9, h9.lay.ma_0.1, ⟨f, rfl, (h9.fr hf9).ok⟩, trivial⟩, Fs', Ts', h10, c10.less (by decide) (by decide)⟩
theorem ma_resume (h : (HS cs lim dE A r1 r2 NF g4 k4) Fs Ts M) (c : MC A NF b 0 0 M) (ha : Fs a) (ht : Ts t) (x : Int32) : S_Ma_resume cs lim M A.ma (some a) (some t) x ∧ (MX cs lim dE A r1 r2 NF g4 k4 b) (F_Ma_resume cs M A.ma (some a) (some t) x) := by
  unfold S_Ma_resume F_Ma_resume
  simp only [Option.getD_some, mbind_eq]
  have o8 := h.lay.ma_0.1
  have T0 := h.th ht
  by_cases d : cI M t 3 = 0
  rotate_left
  · simp only [if_neg d]
    obtain ⟨h1, c1⟩ := putNC h c (ci := 8) (k := 4) (x := 3) o8 (by decide) (by decide) (by decide)
    exact ⟨⟨⟨t, rfl, T0.ok⟩, o8, trivial⟩, Fs, Ts, h1, c1⟩
  simp only [if_pos d]
  obtain ⟨s1, h1, c1⟩ := ma_isDeep h c (cI M t 6)
  generalize F_Ma_isDeep cs M A.ma (cI M t 6) = w1 at h1 c1 ⊢
  by_cases d1 : w1.1 = 0
  rotate_left
  · simp only [if_neg d1]
    exact ⟨⟨⟨t, rfl, T0.ok⟩, ⟨t, rfl, T0.ok⟩, o8, s1, trivial⟩, Fs, Ts, h1, c1⟩
  simp only [if_pos d1]
  have T1 := h1.th ht
  have o1 := h1.lay.ma_0.1
  by_cases d2 : cQ w1.2 t 5 = none
  · simp only [if_pos d2]
    exact ⟨⟨⟨t, rfl, T0.ok⟩, ⟨t, rfl, T0.ok⟩, o8, s1, ⟨t, rfl, T1.ok⟩, trivial⟩, Fs, Ts, h1, c1⟩
  simp only [if_neg d2]
  by_cases d3 : cQ w1.2 t 4 = none
  · simp only [if_pos d3]
    exact ⟨⟨⟨t, rfl, T0.ok⟩, ⟨t, rfl, T0.ok⟩, o8, s1, ⟨t, rfl, T1.ok⟩, ⟨t, rfl, T1.ok⟩, trivial⟩, Fs, Ts, h1, c1⟩
  simp only [if_neg d3]
  obtain ⟨lo, hlo⟩ := Option.ne_none_iff_exists'.mp d2
  obtain ⟨up, hup⟩ := Option.ne_none_iff_exists'.mp d3
  have Flo := T1.lo lo hlo
  have Fup := T1.up up hup
  obtain ⟨h2, c2⟩ := putNC h1 c1 (ci := 11) (k := 3) (x := 1) T1.ok (by decide) (by decide) (by decide)
  have g5 : cQ (cP 11 w1.2 t 3 (.int 1)) t 5 = some lo := by rw [cQ_put_ne (Or.inr (by decide))]; exact hlo
  have g4' : cQ (cP 11 w1.2 t 3 (.int 1)) t 4 = some up := by rw [cQ_put_ne (Or.inr (by decide))]; exact hup
  generalize cP 11 w1.2 t 3 (.int 1) = w2 at h2 c2 g5 g4' ⊢
  have o2 := h2.lay.ma_0.1
  have T2 := h2.th ht
  obtain ⟨h3, c3⟩ := putNC h2 c2 (ci := 8) (k := 8) (x := cI w2 A.ma 8 + cI w2 t 6) o2 (by decide) (by decide) (by decide)
  have x3 : Ext [(8, 8)] [] false w2 (cP 8 w2 A.ma 8 (.int (cI w2 A.ma 8 + cI w2 t 6))) := (Ext.rf h2.lay.mok).putI 8 o2 (by decide) (by decide)
  have k5 : cQ (cP 8 w2 A.ma 8 (.int (cI w2 A.ma 8 + cI w2 t 6))) t 5 = some lo := by rw [x3.xcQ T2.ok (by decide)]; exact g5
  have k4' : cQ (cP 8 w2 A.ma 8 (.int (cI w2 A.ma 8 + cI w2 t 6))) t 4 = some up := by rw [x3.xcQ T2.ok (by decide)]; exact g4'
  generalize cP 8 w2 A.ma 8 (.int (cI w2 A.ma 8 + cI w2 t 6)) = w3 at h3 c3 k5 k4' ⊢
  rw [k5]
  simp only [Option.getD_some]
  obtain ⟨h4, c4⟩ := putQC h3 c3 (ci := 10) (k := 4) (r := some a) (h3.fr Flo).ok (Or.inr ⟨by simp [si_1, si_2, sl_1, sl_2, sl_3, ai_1, ai_2, ai_3, ai_4, al_1, al_2, al_3, al_4], fun z hz => by cases hz; exact ha⟩)
  have T3 := h3.th ht
  have x4 : Ext [(10, 4)] [] false w3 (cP 10 w3 lo 4 (va_rf (some a))) := (Ext.rf h3.lay.mok).putQ 4 (h3.fr Flo).ok (by decide) (by decide) (by decide)
  have m4 : cQ (cP 10 w3 lo 4 (va_rf (some a))) t 4 = some up := by rw [x4.xcQ T3.ok (by decide)]; exact k4'
  generalize cP 10 w3 lo 4 (va_rf (some a)) = w4 at h4 c4 m4 ⊢
  rw [m4]
  have o4 := h4.lay.ma_0.1
  obtain ⟨h5, c5⟩ := putQC h4 c4 (ci := 8) (k := 10) (r := some up) o4 (Or.inr ⟨by simp [si_1, si_2, sl_1, sl_2, sl_3, ai_1, ai_2, ai_3, ai_4, al_1, al_2, al_3, al_4], fun z hz => by cases hz; exact Fup⟩)
  have t5 : cQ (cP 8 w4 A.ma 10 (va_rf (some up))) A.ma 10 = some up := cQ_put o4 (by decide)
  generalize cP 8 w4 A.ma 10 (va_rf (some up)) = w5 at h5 c5 t5 ⊢
  rw [t5]
  simp only [Option.getD_some]
  obtain ⟨s6, h6, c6⟩ := pushC h5 c5 Fup x
  exact ⟨⟨⟨t, rfl, T0.ok⟩, ⟨t, rfl, T0.ok⟩, o8, s1, ⟨t, rfl, T1.ok⟩, ⟨t, rfl, T1.ok⟩, ⟨t, rfl, T1.ok⟩, o2, ⟨t, rfl, T2.ok⟩, o2, ⟨t, rfl, T3.ok⟩, ⟨lo, rfl, (h3.fr Flo).ok⟩, ⟨t, rfl, (h4.th ht).ok⟩, o4, h5.lay.ma_0.1, ⟨up, rfl, (h5.fr Fup).ok⟩, s6, trivial⟩, Fs, Ts, h6, c6⟩
theorem ma_apply (h : (HS cs lim dE A r1 r2 NF g4 k4) Fs Ts M) (c : MC A NF b 0 0 M) (ha : Fs a) (x : Int32) : S_Ma_apply cs lim dE M A.ma (some a) x ∧ (MX cs lim dE A r1 r2 NF g4 k4 b) (F_Ma_apply cs dE M A.ma (some a) x) := by
  unfold S_Ma_apply F_Ma_apply
  simp only [Option.getD_some, mbind_eq]
  have o8 := h.lay.ma_0.1
  obtain ⟨s1, h1, c1, q1⟩ := ma_takesFuel h c ha x
  generalize F_Ma_takesFuel cs M A.ma (some a) x = w1 at h1 c1 q1 ⊢
  by_cases d : w1.1 = 0
  · simp only [if_pos d]
    exact ⟨⟨o8, s1, trivial⟩, Fs, Ts, h1, c1⟩
  simp only [if_neg d]
  replace c1 := q1 d
  obtain ⟨s2, h2, c2⟩ := popC h1 c1 ha
  generalize F_Fr_pop cs w1.2 a = w2 at h2 c2 ⊢
  rw [h2.lay.ma_1.2]
  simp only [Option.getD_some]
  obtain ⟨s3, h3, c3⟩ := popC h2 c2 ha
  generalize F_Fr_pop cs w2.2 a = w3 at h3 c3 ⊢
  obtain ⟨s4, r4⟩ := st_thingAt h3 w3.1
  have p1 : cOq 10 w1.2 (some a) := ⟨a, rfl, (h1.fr ha).ok⟩
  have p2 : cOq 10 w2.2 (some a) := ⟨a, rfl, (h2.fr ha).ok⟩
  have p3 : cOq 9 w3.2 (some A.st) := ⟨_, rfl, h3.lay.st_0.1⟩
  rcases r4 with r4 | ⟨t, r4, hT⟩
  · rw [r4]
    simp only [if_true]
    exact ⟨⟨o8, s1, p1, s2, h2.lay.ma_0.1, p2, s3, p3, s4, trivial⟩, Fs, Ts, h3, c3.less (by decide) (by decide)⟩
  rw [r4]
  have hne : ¬ (some t : Option Nat) = none := by simp [si_1, si_2, sl_1, sl_2, sl_3, ai_1, ai_2, ai_3, ai_4, al_1, al_2, al_3, al_4]
  simp only [if_neg hne, Option.getD_some]
  have p4 : cOq 11 w3.2 (some t) := ⟨t, rfl, (h3.th hT).ok⟩
  by_cases d2 : cI w3.2 t 2 = 0
  · simp only [if_pos d2]
    obtain ⟨s5, h5, c5⟩ := ma_isDeep h3 c3 1
    generalize F_Ma_isDeep cs w3.2 A.ma 1 = w5 at h5 c5 ⊢
    by_cases d3 : w5.1 = 0
    · simp only [if_pos d3]
      obtain ⟨s6, Fs', i6, h6, c6, f, t6, hf6⟩ := ma_enter h5 c5 (by decide) (bl := some a) (hm := some t) (fun z hz => by cases hz; exact ha) (fun z hz => by cases hz; exact hT) (cI w5.2 t 1 + 1)
      generalize F_Ma_enter cs dE w5.2 A.ma (some a) (some t) (cI w5.2 t 1 + 1) = w6 at h6 c6 t6 ⊢
      rw [h6.lay.ma_0.2, t6]
      simp only [Option.getD_some]
      have f6 := co_field h6 (cI w6 t 1) 1
      generalize F_Co_field cs w6 A.co (cI w6 t 1) 1 = v6
      obtain ⟨s7, h7, c7⟩ := giveC h6 c6 hf6 v6 w2.1
      exact ⟨⟨o8, s1, p1, s2, h2.lay.ma_0.1, p2, s3, p3, s4, p4, h3.lay.ma_0.1, s5, ⟨t, rfl, (h5.th hT).ok⟩, h5.lay.ma_0.1, s6, h6.lay.ma_0.1, h6.lay.ma_0.1, ⟨t, rfl, (h6.th hT).ok⟩, ⟨_, rfl, h6.lay.co_0.1⟩, f6, ⟨f, rfl, (h6.fr hf6).ok⟩, s7, trivial⟩, Fs', Ts, h7, c7.less (by decide) (by decide)⟩
    · simp only [if_neg d3]
      exact ⟨⟨o8, s1, p1, s2, h2.lay.ma_0.1, p2, s3, p3, s4, p4, h3.lay.ma_0.1, s5, trivial⟩, Fs, Ts, h5, c5.less (by decide) (by decide)⟩
  · simp only [if_neg d2]
    obtain ⟨s5, r5⟩ := ma_resume h3 (c3.less (by decide) (by decide)) ha hT w2.1
    exact ⟨⟨o8, s1, p1, s2, h2.lay.ma_0.1, p2, s3, p3, s4, p4, h3.lay.ma_0.1, s5, trivial⟩, r5⟩
end
end
section
/-! pure rows, the class: an effect is performed -/
section
variable {cs : Nat → ClassId} {lim dE : Nat × Nat} {A : Ad} {Fs Ts : Nat → Prop} {r1 r2 NF : Nat} {g4 : Nat → Int32} {k4 : Nat} {M M' : gMem} {a t n fu : Nat} {b st sf : Int}
theorem ma_holdFrames (h : (HS cs lim dE A r1 r2 NF g4 k4) Fs Ts M) (c : MC A NF b 0 sf M) (ha : Fs a) {x : Int32} (hx : 1 ≤ x.toInt ∧ x.toInt ≤ 402) (hle : (cI M A.ma 7).toInt + (1 + x).toInt ≤ 1000) :
    S_Ma_holdFrames cs lim dE M A.ma (some a) x ∧ ∃ Ts', (∀ z, Ts z → Ts' z) ∧ (HS cs lim dE A r1 r2 NF g4 k4) Fs Ts' (F_Ma_holdFrames cs dE M A.ma (some a) x).2 ∧ MC A NF b 0 (sf + 1) (F_Ma_holdFrames cs dE M A.ma (some a) x).2 := by
  have ex : (1 + x).toInt = 1 + x.toInt := by ((try (simp only [vp_in, Int32.toNatClampNeg, Int32.lt_iff_toInt_lt, Int32.le_iff_toInt_le, ← Int32.toInt_inj, Int32.toInt_add, Int32.toInt_sub, Int32.toInt_mul, Int32.reduceToInt, i32_neg1, Nat.reducePow, Int.reducePow, ne_eq, ge_iff_le, gt_iff_lt] at *)) <;> (first | omega | ((simp (disch := omega) only [bm32] at *) <;> omega)))
  unfold S_Ma_holdFrames F_Ma_holdFrames
  simp only [Option.getD_some, mbind_eq]
  have o8 := h.lay.ma_0.1
  obtain ⟨h1, c1⟩ := ma_count h c (x := 1 + x) (by omega) hle
  generalize cP 8 M A.ma 7 (.int (cI M A.ma 7 + (1 + x))) = w1 at h1 c1 ⊢
  have o1 := h1.lay.ma_0.1
  obtain ⟨h2, c2⟩ := putNC h1 c1 (ci := 8) (k := 8) (x := cI w1 A.ma 8 - x) o1 (by decide) (by decide) (by decide)
  generalize cP 8 w1 A.ma 8 (.int (cI w1 A.ma 8 - x)) = w2 at h2 c2 ⊢
  have o2 := h2.lay.ma_0.1
  rw [h2.lay.ma_1.2]
  simp only [Option.getD_some]
  obtain ⟨s3, Ts', i3, h3, c3⟩ := ma_thing h2 c2 (by omega)
  generalize F_St_takeThing cs dE w2 A.st = w3 at h3 c3 ⊢
  rw [h3.lay.ma_1.2]
  simp only [Option.getD_some]
  obtain ⟨s4, r4⟩ := st_thingAt h3 w3.1
  have c3' : MC A NF b 0 (sf + 1) w3.2 := c3.less (by omega) (by omega)
  have o3 := h3.lay.ma_0.1
  have t3 := h3.top
  rcases r4 with r4 | ⟨t, r4, hT⟩
  · rw [r4]
    simp only [if_true]
    obtain ⟨h5, c5⟩ := putQC h3 c3' (ci := 10) (k := 4) (r := none) (h3.fr ha).ok (Or.inr ⟨by simp [si_1, si_2, sl_1, sl_2, sl_3, ai_1, ai_2, ai_3, ai_4, al_1, al_2, al_3, al_4], fun z hz => by cases hz⟩)
    exact ⟨⟨o8, o8, o1, o1, o2, ⟨_, rfl, h2.lay.st_0.1⟩, s3, o3, ⟨_, rfl, h3.lay.st_0.1⟩, s4, ⟨a, rfl, (h3.fr ha).ok⟩, trivial⟩, Ts', i3, h5, c5⟩
  · rw [r4]
    have hne : ¬ (some t : Option Nat) = none := by simp [si_1, si_2, sl_1, sl_2, sl_3, ai_1, ai_2, ai_3, ai_4, al_1, al_2, al_3, al_4]
    simp only [if_neg hne, Option.getD_some]
    obtain ⟨s5, h5, c5⟩ := holdC h3 c3' hT (u := cQ w3.2 A.ma 10) (l := some a) t3 (fun z hz => by cases hz; exact ha) x
    generalize F_Th_hold cs w3.2 t (cQ w3.2 A.ma 10) (some a) x = w5 at h5 c5 ⊢
    obtain ⟨h6, c6⟩ := putQC h5 c5 (ci := 10) (k := 4) (r := none) (h5.fr ha).ok (Or.inr ⟨by simp [si_1, si_2, sl_1, sl_2, sl_3, ai_1, ai_2, ai_3, ai_4, al_1, al_2, al_3, al_4], fun z hz => by cases hz⟩)
    exact ⟨⟨o8, o8, o1, o1, o2, ⟨_, rfl, h2.lay.st_0.1⟩, s3, o3, ⟨_, rfl, h3.lay.st_0.1⟩, s4, o3, ⟨t, rfl, (h3.th hT).ok⟩, s5, ⟨a, rfl, (h5.fr ha).ok⟩, trivial⟩, Ts', i3, h6, c6⟩
/-- a clause takes the handler's place -/
theorem ma_tail (h : (HS cs lim dE A r1 r2 NF g4 k4) Fs Ts M) (c : MC A NF b 0 1 M) (ha : Fs a) {x4 x6 x7 : Int32} (hx : 1 ≤ x7.toInt ∧ x7.toInt ≤ 402) :
    ((cOk 8 M A.ma) ∧ ((S_Ma_isFull cs lim M A.ma (1 + x7)) ∧ (mbind (F_Ma_isFull cs M A.ma (1 + x7)) (fun w5 => if w5.1 = 0 then ((cOq 10 w5.2 (some a)) ∧ ((cOk 8 w5.2 A.ma) ∧ ((S_Ma_holdFrames cs lim dE w5.2 A.ma (some a) x7) ∧ (mbind (F_Ma_holdFrames cs dE w5.2 A.ma (some a) x7) (fun w10 => (cOq 10 w10.2 (some a)) ∧ ((cOk 8 w10.2 A.ma) ∧ ((cOq 7 w10.2 (cQ w10.2 A.ma 0)) ∧ ((S_Co_field cs lim w10.2 ((cQ w10.2 A.ma 0).getD 0) x6 2) ∧ (mbind (F_Co_field cs w10.2 ((cQ w10.2 A.ma 0).getD 0) x6 2) (fun w15 => (cOk 8 w10.2 A.ma) ∧ ((S_Ma_enter cs lim dE w10.2 A.ma (cQ w5.2 ((some a).getD 0) 4) (cQ w10.2 ((some a).getD 0) 3) w15) ∧ (mbind (F_Ma_enter cs dE w10.2 A.ma (cQ w5.2 ((some a).getD 0) 4) (cQ w10.2 ((some a).getD 0) 3) w15) (fun w18 => (cOk 8 w18 A.ma) ∧ ((cOk 8 w18 A.ma) ∧ ((cOq 7 w18 (cQ w18 A.ma 0)) ∧ ((S_Co_field cs lim w18 ((cQ w18 A.ma 0).getD 0) x6 3) ∧ (mbind (F_Co_field cs w18 ((cQ w18 A.ma 0).getD 0) x6 3) (fun w23 => (cOq 10 w18 (cQ w18 A.ma 10)) ∧ ((S_Fr_give cs lim w18 ((cQ w18 A.ma 10).getD 0) w23 x4) ∧ (mbind (F_Fr_give cs w18 ((cQ w18 A.ma 10).getD 0) w23 x4) (fun w26 => (cOk 8 w26 A.ma) ∧ ((cOk 8 w26 A.ma) ∧ ((cOq 7 w26 (cQ w26 A.ma 0)) ∧ ((S_Co_field cs lim w26 ((cQ w26 A.ma 0).getD 0) x6 4) ∧ (mbind (F_Co_field cs w26 ((cQ w26 A.ma 0).getD 0) x6 4) (fun w31 => (cOq 10 w26 (cQ w26 A.ma 10)) ∧ ((S_Fr_give cs lim w26 ((cQ w26 A.ma 10).getD 0) w31 w10.1) ∧ (mbind (F_Fr_give cs w26 ((cQ w26 A.ma 10).getD 0) w31 w10.1) (fun w34 => True))))))))))))))))))))))))))))) else (True))))) ∧
    (MX cs lim dE A r1 r2 NF g4 k4 b) (mbind (F_Ma_isFull cs M A.ma (1 + x7)) (fun w5 => if w5.1 = 0 then (mbind (F_Ma_holdFrames cs dE w5.2 A.ma (some a) x7) (fun w10 => mbind (F_Co_field cs w10.2 ((cQ w10.2 A.ma 0).getD 0) x6 2) (fun w15 => mbind (F_Ma_enter cs dE w10.2 A.ma (cQ w5.2 ((some a).getD 0) 4) (cQ w10.2 ((some a).getD 0) 3) w15) (fun w18 => mbind (F_Co_field cs w18 ((cQ w18 A.ma 0).getD 0) x6 3) (fun w23 => mbind (F_Fr_give cs w18 ((cQ w18 A.ma 10).getD 0) w23 x4) (fun w26 => mbind (F_Co_field cs w26 ((cQ w26 A.ma 0).getD 0) x6 4) (fun w31 => mbind (F_Fr_give cs w26 ((cQ w26 A.ma 10).getD 0) w31 w10.1) (fun w34 => w34)))))))) else (w5.2))) := by
  have ex : (1 + x7).toInt = 1 + x7.toInt := by ((try (simp only [vp_in, Int32.toNatClampNeg, Int32.lt_iff_toInt_lt, Int32.le_iff_toInt_le, ← Int32.toInt_inj, Int32.toInt_add, Int32.toInt_sub, Int32.toInt_mul, Int32.reduceToInt, i32_neg1, Nat.reducePow, Int.reducePow, ne_eq, ge_iff_le, gt_iff_lt] at *)) <;> (first | omega | ((simp (disch := omega) only [bm32] at *) <;> omega)))
  simp only [Option.getD_some, mbind_eq]
  have o8 := h.lay.ma_0.1
  obtain ⟨s1, h1, c1, q1⟩ := ma_isFull h c (1 + x7) (by omega)
  generalize F_Ma_isFull cs M A.ma (1 + x7) = w1 at h1 c1 q1 ⊢
  by_cases d : w1.1 = 0
  rotate_left
  · simp only [if_neg d]
    exact ⟨⟨o8, s1, trivial⟩, Fs, Ts, h1, c1.less (by decide) (by decide)⟩
  simp only [if_pos d]
  have o1 := h1.lay.ma_0.1
  have b1 := (h1.fr ha).be
  obtain ⟨s2, Ts', i2, h2, c2⟩ := ma_holdFrames h1 c1 ha hx (q1 d)
  generalize F_Ma_holdFrames cs dE w1.2 A.ma (some a) x7 = w2 at h2 c2 ⊢
  rw [h2.lay.ma_0.2]
  simp only [Option.getD_some]
  have o2 := h2.lay.ma_0.1
  have f2 := co_field h2 x6 2
  generalize F_Co_field cs w2.2 A.co x6 2 = v2
  obtain ⟨s3, Fs', i3, h3, c3, f, t3, hf3⟩ := ma_enter h2 c2 (by decide) (bl := cQ w1.2 a 4) (hm := cQ w2.2 a 3) b1 (h2.fr ha).ha v2
  generalize F_Ma_enter cs dE w2.2 A.ma (cQ w1.2 a 4) (cQ w2.2 a 3) v2 = w3 at h3 c3 t3 ⊢
  rw [h3.lay.ma_0.2, t3]
  simp only [Option.getD_some]
  have o3 := h3.lay.ma_0.1
  have f3 := co_field h3 x6 3
  generalize F_Co_field cs w3 A.co x6 3 = v3
  obtain ⟨s4, h4, c4⟩ := giveC h3 c3 hf3 v3 x4
  have x4' := x_Fr_give cs lim w3 f v3 x4 h3.lay.mok s4
  have t4 : cQ (F_Fr_give cs w3 f v3 x4) A.ma 10 = some f := by rw [x4'.xcQ o3 (by decide)]; exact t3
  generalize F_Fr_give cs w3 f v3 x4 = w4 at h4 c4 t4 ⊢
  rw [h4.lay.ma_0.2, t4]
  simp only [Option.getD_some]
  have o4 := h4.lay.ma_0.1
  have f4 := co_field h4 x6 4
  generalize F_Co_field cs w4 A.co x6 4 = v4
  obtain ⟨s5, h5, c5⟩ := giveC h4 c4 hf3 v4 w2.1
  exact ⟨⟨o8, s1, ⟨a, rfl, (h1.fr ha).ok⟩, o1, s2, ⟨a, rfl, (h2.fr ha).ok⟩, o2, ⟨_, rfl, h2.lay.co_0.1⟩, f2, o2, s3, o3, o3, ⟨_, rfl, h3.lay.co_0.1⟩, f3, ⟨f, rfl, (h3.fr hf3).ok⟩, s4, o4, o4, ⟨_, rfl, h4.lay.co_0.1⟩, f4, ⟨f, rfl, (h4.fr hf3).ok⟩, s5, trivial⟩, Fs', Ts', h5, c5.less (by decide) (by decide)⟩
theorem ma_raise37 (h : (HS cs lim dE A r1 r2 NF g4 k4) Fs Ts M) (c : MC A NF b 0 1 M) {x1 : Option Nat} {x2 x3 x4 : Int32} : ∀ (d a : Nat) (x6 x7 : Int32) (n : Nat), 402 - x7.toInt.toNat = d → 1 ≤ x7.toInt → x7.toInt ≤ 401 → Fs a → d + 20 < n →
    S_Ma_raise_37 cs lim dE n M A.ma x1 x2 x3 x4 (some a) x6 x7 ∧ (MX cs lim dE A r1 r2 NF g4 k4 b) (F_Ma_raise_37 cs dE n M A.ma x1 x2 x3 x4 (some a) x6 x7) := by
  have o8 := h.lay.ma_0.1
  have none_ : ((cOk 8 M A.ma) ∧ ((cOk 8 (cP 8 M A.ma 9 (.int x3)) A.ma) ∧ (True))) ∧ (MX cs lim dE A r1 r2 NF g4 k4 b) (cP 8 (cP 8 M A.ma 9 (.int x3)) A.ma 4 (.int 4)) := by
    obtain ⟨h1, c1⟩ := putNC h c (ci := 8) (k := 9) (x := x3) o8 (by decide) (by decide) (by decide)
    obtain ⟨h2, c2⟩ := putNC h1 c1 (ci := 8) (k := 4) (x := 4) h1.lay.ma_0.1 (by decide) (by decide) (by decide)
    exact ⟨⟨o8, h1.lay.ma_0.1, trivial⟩, Fs, Ts, h2, c2.less (by decide) (by decide)⟩
  intro d
  induction d with
  | zero =>
    intro a x6 x7 n hd h1 h2 ha hn
    omega
  | succ d ih =>
    intro a x6 x7 n hd h1 h2 ha hn
    obtain ⟨n, rfl⟩ : ∃ z, n = z + 1 := ⟨n - 1, by omega⟩
    have pa : cOq 10 M (some a) := ⟨a, rfl, (h.fr ha).ok⟩
    by_cases d6 : x6 = -1
    · simp only [S_Ma_raise_37, F_Ma_raise_37, if_pos d6, Option.getD_some]
      by_cases db : cQ M a 4 = none
      · simp only [if_pos db]
        exact ⟨⟨pa, none_.1⟩, none_.2⟩
      · simp only [if_neg db]
        by_cases d4 : 400 < x7
        · simp only [if_pos d4]
          exact ⟨⟨pa, none_.1⟩, none_.2⟩
        · simp only [if_neg d4]
          obtain ⟨f, hf⟩ := Option.ne_none_iff_exists'.mp db
          have Ff := (h.fr ha).be f hf
          simp only [hf, Option.getD_some, h.lay.ma_0.2, mbind_eq]
          have s1 := co_caseOf (n := n) h (r := cQ M f 3) (h.fr Ff).ha (by omega) x3
          generalize F_Co_caseOf cs n M A.co (cQ M f 3) x3 = w1
          have e7 : (x7 + 1).toInt = x7.toInt + 1 := by ((try (simp only [vp_in, Int32.toNatClampNeg, Int32.lt_iff_toInt_lt, Int32.le_iff_toInt_le, ← Int32.toInt_inj, Int32.toInt_add, Int32.toInt_sub, Int32.toInt_mul, Int32.reduceToInt, i32_neg1, Nat.reducePow, Int.reducePow, ne_eq, ge_iff_le, gt_iff_lt] at *)) <;> (first | omega | ((simp (disch := omega) only [bm32] at *) <;> omega)))
          have l7 : x7.toInt ≤ 400 := by ((try (simp only [vp_in, Int32.toNatClampNeg, Int32.lt_iff_toInt_lt, Int32.le_iff_toInt_le, ← Int32.toInt_inj, Int32.toInt_add, Int32.toInt_sub, Int32.toInt_mul, Int32.reduceToInt, i32_neg1, Nat.reducePow, Int.reducePow, ne_eq, ge_iff_le, gt_iff_lt] at *)) <;> (first | omega | ((simp (disch := omega) only [bm32] at *) <;> omega)))
          obtain ⟨s2, r2⟩ := ih f w1 (x7 + 1) n (by omega) (by omega) (by omega) Ff (by omega)
          exact ⟨⟨pa, pa, o8, ⟨f, rfl, (h.fr Ff).ok⟩, ⟨_, rfl, h.lay.co_0.1⟩, s1, s2⟩, r2⟩
    · simp only [S_Ma_raise_37, F_Ma_raise_37, if_neg d6]
      exact ma_tail h c ha ⟨h1, by omega⟩
theorem ma_raise (h : (HS cs lim dE A r1 r2 NF g4 k4) Fs Ts M) (c : MC A NF b 0 0 M) (ha : Fs a) (hn : 500 ≤ n) (x y : Int32) : S_Ma_raise cs lim dE n M A.ma (some a) x y ∧ (MX cs lim dE A r1 r2 NF g4 k4 b) (F_Ma_raise cs dE n M A.ma (some a) x y) := by
  unfold S_Ma_raise F_Ma_raise
  simp only [Option.getD_some, mbind_eq]
  have o8 := h.lay.ma_0.1
  obtain ⟨s1, h1, c1, q1⟩ := ma_takesFuel h c ha x
  generalize F_Ma_takesFuel cs M A.ma (some a) x = w1 at h1 c1 q1 ⊢
  by_cases d : w1.1 = 0
  · simp only [if_pos d]
    exact ⟨⟨o8, s1, trivial⟩, Fs, Ts, h1, c1⟩
  simp only [if_neg d]
  have c1' : MC A NF b 0 1 w1.2 := (q1 d).less (by decide) (by decide)
  obtain ⟨s2, h2, c2⟩ := popC h1 c1' ha
  generalize F_Fr_pop cs w1.2 a = w2 at h2 c2 ⊢
  rw [h2.lay.ma_0.2]
  simp only [Option.getD_some]
  have s3 := co_caseOf (n := n) h2 (r := cQ w2.2 a 3) (h2.fr ha).ha (by omega) y
  generalize F_Co_caseOf cs n w2.2 A.co (cQ w2.2 a 3) y = w3
  obtain ⟨s4, r4⟩ := ma_raise37 h2 c2 (x1 := some a) (x2 := x) (x3 := y) (x4 := w2.1) 401 a w3 1 n (by decide) (by decide) (by decide) ha (by omega)
  exact ⟨⟨o8, s1, ⟨a, rfl, (h1.fr ha).ok⟩, s2, h2.lay.ma_0.1, ⟨a, rfl, (h2.fr ha).ok⟩, ⟨_, rfl, h2.lay.co_0.1⟩, s3, s4⟩, r4⟩
end
end
section
/-! pure rows, the class: the machine works -/
theorem and7 {p1 p2 p3 p4 p5 p6 p7 S Q : Prop} (h1 : p1) (h2 : p2) (h3 : p3) (h4 : p4) (h5 : p5) (h6 : p6) (h7 : p7) (k : S ∧ Q) : (p1 ∧ p2 ∧ p3 ∧ p4 ∧ p5 ∧ p6 ∧ p7 ∧ S) ∧ Q := ⟨⟨h1, h2, h3, h4, h5, h6, h7, k.1⟩, k.2⟩
theorem and1 {p S Q : Prop} (h : p) (k : S ∧ Q) : (p ∧ S) ∧ Q := ⟨⟨h, k.1⟩, k.2⟩
theorem mb2 {α : Type} {w : α} {Sf : α → Prop} {Ff : α → gMem} {Q : gMem → Prop} (k : Sf w ∧ Q (Ff w)) : mbind w Sf ∧ Q (mbind w Ff) := k
theorem and3 {p1 p2 S Q : Prop} (h1 : p1) (h2 : p2) (k : S ∧ Q) : (p1 ∧ p2 ∧ S) ∧ Q := ⟨⟨h1, h2, k.1⟩, k.2⟩
theorem if2 {c : Prop} [Decidable c] {S1 S2 : Prop} {F1 F2 : gMem} {Q : gMem → Prop} (h1 : c → S1 ∧ Q F1) (h2 : ¬ c → S2 ∧ Q F2) : (if c then S1 else S2) ∧ Q (if c then F1 else F2) := by
  by_cases h : c
  · rw [if_pos h, if_pos h]; exact h1 h
  · rw [if_neg h, if_neg h]; exact h2 h
section
variable {cs : Nat → ClassId} {lim dE : Nat × Nat} {A : Ad} {Fs Ts : Nat → Prop} {r1 r2 NF : Nat} {g4 : Nat → Int32} {k4 : Nat} {M M' : gMem} {a t n fu : Nat} {b st sf : Int}
theorem ma_work (h : (HS cs lim dE A r1 r2 NF g4 k4) Fs Ts M) (c : MC A NF b 0 0 M) (ha : Fs a) (hn : 500 ≤ n) (x : Int32) : S_Ma_work cs lim dE n M A.ma (some a) x ∧ (MX cs lim dE A r1 r2 NF g4 k4 b) (F_Ma_work cs dE n M A.ma (some a) x) := by
  have o8 := h.lay.ma_0.1
  have q0 := h.lay.ma_0.2
  have f0 : S_Co_field cs lim M ((cQ M A.ma 0).getD 0) x 1 := by rw [q0]; exact co_field h x 1
  obtain ⟨h1, c1⟩ := putNC h c (ci := 10) (k := 2) (x := x + 1) (h.fr ha).ok (by decide) (by decide) (by decide)
  replace h1 : (HS cs lim dE A r1 r2 NF g4 k4) Fs Ts (cP 10 M ((some a).getD 0) 2 (.int (x + 1))) := h1
  replace c1 : MC A NF b 0 0 (cP 10 M ((some a).getD 0) 2 (.int (x + 1))) := c1
  unfold S_Ma_work F_Ma_work
  generalize cP 10 M ((some a).getD 0) 2 (.int (x + 1)) = M1 at h1 c1 ⊢
  have o1 := h1.lay.ma_0.1
  have q1 := h1.lay.ma_0.2
  have f1 : S_Co_operation cs lim M1 ((cQ M1 A.ma 0).getD 0) x := by rw [q1]; exact co_operation h1 x
  have pa : cOq 10 M1 (some a) := ⟨a, rfl, (h1.fr ha).ok⟩
  refine and1 o8 (and1 ⟨_, q0, h.lay.co_0.1⟩ (and1 f0 (mb2 (Q := (MX cs lim dE A r1 r2 NF g4 k4 b)) (and1 ⟨a, rfl, (h.fr ha).ok⟩ (and1 o1 (and1 ⟨_, q1, h1.lay.co_0.1⟩ (and1 f1 (mb2 (Q := (MX cs lim dE A r1 r2 NF g4 k4 b)) ?_))))))))
  generalize F_Co_field cs M ((cQ M A.ma 0).getD 0) x 1 = v
  generalize F_Co_operation cs M1 ((cQ M1 A.ma 0).getD 0) x = w
  refine if2 (Q := (MX cs lim dE A r1 r2 NF g4 k4 b)) (fun _ => ?_) (fun _ => ?_)
  · obtain ⟨s, h2, c2⟩ := pushC h1 c1 ha v
    exact and1 pa (and1 s (mb2 (Q := (MX cs lim dE A r1 r2 NF g4 k4 b)) ⟨trivial, Fs, Ts, h2, c2⟩))
  refine if2 (Q := (MX cs lim dE A r1 r2 NF g4 k4 b)) (fun _ => ?_) (fun _ => ?_)
  · have s0 := fr_valueOf h1 ha v
    obtain ⟨s, h2, c2⟩ := pushC h1 c1 ha (F_Fr_valueOf cs M1 a v)
    exact and1 pa (and1 s0 (mb2 (Q := (MX cs lim dE A r1 r2 NF g4 k4 b)) (and1 pa (and1 s (mb2 (Q := (MX cs lim dE A r1 r2 NF g4 k4 b)) ⟨trivial, Fs, Ts, h2, c2⟩)))))
  refine if2 (Q := (MX cs lim dE A r1 r2 NF g4 k4 b)) (fun _ => ?_) (fun _ => ?_)
  · obtain ⟨s, h2, c2⟩ := ma_bind h1 c1 ha v
    exact and1 o1 (and1 s (mb2 (Q := (MX cs lim dE A r1 r2 NF g4 k4 b)) ⟨trivial, Fs, Ts, h2, c2⟩))
  refine if2 (Q := (MX cs lim dE A r1 r2 NF g4 k4 b)) (fun _ => ?_) (fun _ => ?_)
  · obtain ⟨s, h2, c2⟩ := ma_unbind h1 c1 ha v
    exact and1 o1 (and1 s (mb2 (Q := (MX cs lim dE A r1 r2 NF g4 k4 b)) ⟨trivial, Fs, Ts, h2, c2⟩))
  refine if2 (Q := (MX cs lim dE A r1 r2 NF g4 k4 b)) (fun _ => ?_) (fun _ => ?_)
  · obtain ⟨h2, c2⟩ := putNC h1 c1 (ci := 10) (k := 2) (x := v) (h1.fr ha).ok (by decide) (by decide) (by decide)
    exact and1 pa ⟨trivial, Fs, Ts, h2, c2⟩
  refine if2 (Q := (MX cs lim dE A r1 r2 NF g4 k4 b)) (fun _ => ?_) (fun _ => ?_)
  · obtain ⟨s, h2, c2⟩ := popC h1 c1 ha
    refine and1 pa (and1 s (mb2 (Q := (MX cs lim dE A r1 r2 NF g4 k4 b)) (if2 (Q := (MX cs lim dE A r1 r2 NF g4 k4 b)) (fun _ => ?_) (fun _ => ?_))))
    · obtain ⟨h3, c3⟩ := putNC h2 c2 (ci := 10) (k := 2) (x := v) (h2.fr ha).ok (by decide) (by decide) (by decide)
      exact and1 ⟨a, rfl, (h2.fr ha).ok⟩ ⟨trivial, Fs, Ts, h3, c3⟩
    · obtain ⟨h3, c3⟩ := putNC h2 c2 (ci := 10) (k := 2) (x := x + 1) (h2.fr ha).ok (by decide) (by decide) (by decide)
      exact and1 ⟨a, rfl, (h2.fr ha).ok⟩ ⟨trivial, Fs, Ts, h3, c3⟩
  refine if2 (Q := (MX cs lim dE A r1 r2 NF g4 k4 b)) (fun _ => ?_) (fun _ => ?_)
  · obtain ⟨s, h2, c2⟩ := ma_combine h1 c1 ha v
    exact and1 o1 (and1 s (mb2 (Q := (MX cs lim dE A r1 r2 NF g4 k4 b)) ⟨trivial, Fs, Ts, h2, c2⟩))
  refine if2 (Q := (MX cs lim dE A r1 r2 NF g4 k4 b)) (fun _ => ?_) (fun _ => ?_)
  · obtain ⟨s, r⟩ := ma_close h1 c1 ha x
    exact and1 o1 (and1 s (mb2 (Q := (MX cs lim dE A r1 r2 NF g4 k4 b)) ⟨trivial, r⟩))
  refine if2 (Q := (MX cs lim dE A r1 r2 NF g4 k4 b)) (fun _ => ?_) (fun _ => ?_)
  · obtain ⟨s, r⟩ := ma_install h1 c1 ha x
    exact and1 o1 (and1 s (mb2 (Q := (MX cs lim dE A r1 r2 NF g4 k4 b)) ⟨trivial, r⟩))
  refine if2 (Q := (MX cs lim dE A r1 r2 NF g4 k4 b)) (fun _ => ?_) (fun _ => ?_)
  · obtain ⟨s, h2, c2⟩ := ma_end h1 c1 ha
    exact and1 o1 (and1 s (mb2 (Q := (MX cs lim dE A r1 r2 NF g4 k4 b)) ⟨trivial, Fs, Ts, h2, c2⟩))
  refine if2 (Q := (MX cs lim dE A r1 r2 NF g4 k4 b)) (fun _ => ?_) (fun _ => ?_)
  · obtain ⟨s, h2, c2⟩ := ma_endBody h1 c1 ha
    exact and1 o1 (and1 s (mb2 (Q := (MX cs lim dE A r1 r2 NF g4 k4 b)) ⟨trivial, Fs, Ts, h2, c2⟩))
  refine if2 (Q := (MX cs lim dE A r1 r2 NF g4 k4 b)) (fun _ => ?_) (fun _ => ?_)
  · obtain ⟨s, r⟩ := ma_apply h1 c1 ha x
    exact and1 o1 (and1 s (mb2 (Q := (MX cs lim dE A r1 r2 NF g4 k4 b)) ⟨trivial, r⟩))
  refine if2 (Q := (MX cs lim dE A r1 r2 NF g4 k4 b)) (fun _ => ?_) (fun _ => ?_)
  · obtain ⟨s, r⟩ := ma_raise h1 c1 ha hn x v
    exact and1 o1 (and1 s (mb2 (Q := (MX cs lim dE A r1 r2 NF g4 k4 b)) ⟨trivial, r⟩))
  obtain ⟨s, h2, c2⟩ := ma_end h1 c1 ha
  exact and1 o1 (and1 s (mb2 (Q := (MX cs lim dE A r1 r2 NF g4 k4 b)) ⟨trivial, Fs, Ts, h2, c2⟩))
theorem ma_goOn17 {x1 : Int32} : ∀ (d : Nat) (x2 : Int32) (n : Nat) (M : gMem), 4000001 - x2.toInt.toNat = d → 0 ≤ x2.toInt → x2.toInt ≤ 4000000 → d + 600 < n → (MX cs lim dE A r1 r2 NF g4 k4 b) M →
    S_Ma_goOnFor_17 cs lim dE n M A.ma x1 x2 ∧ (MX cs lim dE A r1 r2 NF g4 k4 b) (F_Ma_goOnFor_17 cs dE n M A.ma x1 x2).2 := by
  intro d
  induction d with
  | zero =>
    intro x2 n M hd h0 h1 hn hm
    omega
  | succ d ih =>
    intro x2 n M hd h0 h1 hn hm
    obtain ⟨n, rfl⟩ : ∃ z, n = z + 1 := ⟨n - 1, by omega⟩
    obtain ⟨Fs, Ts, h, c⟩ := hm
    have o8 := h.lay.ma_0.1
    simp only [S_Ma_goOnFor_17, F_Ma_goOnFor_17]
    by_cases d1 : 4000000 ≤ x2
    · simp only [if_pos d1]
      exact ⟨⟨o8, trivial⟩, Fs, Ts, h, c⟩
    simp only [if_neg d1]
    by_cases d2 : cI M A.ma 4 = 1
    rotate_left
    · simp only [if_neg d2]
      exact ⟨⟨o8, o8, trivial⟩, Fs, Ts, h, c⟩
    simp only [if_pos d2]
    by_cases d3 : cI M A.ma 13 = 0
    rotate_left
    · simp only [if_neg d3]
      exact ⟨⟨o8, o8, o8, trivial⟩, Fs, Ts, h, c⟩
    simp only [if_pos d3]
    by_cases d4 : cQ M A.ma 10 = none
    · simp only [if_pos d4]
      exact ⟨⟨o8, o8, o8, o8, trivial⟩, Fs, Ts, h, c⟩
    simp only [if_neg d4]
    obtain ⟨f, hf⟩ := Option.ne_none_iff_exists'.mp d4
    have Ff := h.top f hf
    simp only [hf, Option.getD_some, mbind_eq]
    have l2 : x2.toInt < 4000000 := by ((try (simp only [vp_in, Int32.toNatClampNeg, Int32.lt_iff_toInt_lt, Int32.le_iff_toInt_le, ← Int32.toInt_inj, Int32.toInt_add, Int32.toInt_sub, Int32.toInt_mul, Int32.reduceToInt, i32_neg1, Nat.reducePow, Int.reducePow, ne_eq, ge_iff_le, gt_iff_lt] at *)) <;> (first | omega | ((simp (disch := omega) only [bm32] at *) <;> omega)))
    have e2 : (x2 + 1).toInt = x2.toInt + 1 := by ((try (simp only [vp_in, Int32.toNatClampNeg, Int32.lt_iff_toInt_lt, Int32.le_iff_toInt_le, ← Int32.toInt_inj, Int32.toInt_add, Int32.toInt_sub, Int32.toInt_mul, Int32.reduceToInt, i32_neg1, Nat.reducePow, Int.reducePow, ne_eq, ge_iff_le, gt_iff_lt] at *)) <;> (first | omega | ((simp (disch := omega) only [bm32] at *) <;> omega)))
    obtain ⟨s1, m1⟩ := ma_work h c Ff (n := n) (by omega) (cI M f 2)
    obtain ⟨s2, m2⟩ := ih (x2 + 1) n _ (by omega) (by omega) (by omega) (by omega) m1
    exact ⟨⟨o8, o8, o8, o8, o8, ⟨f, rfl, (h.fr Ff).ok⟩, o8, s1, s2⟩, m2⟩
end
end
