-- pure rows: HK
section
/-! pure rows, the class: a step of the machine, told of what the frame holds -/
theorem mbI {α : Type} (x : α) : mbind x (fun w => w) = x := rfl
theorem mb1 {α β : Type} (x : α) (f : α → β) : mbind x f = f x := rfl
/-- the frame a holds s, is H high, and stands at row r -/
def FSt (w : Vw) (a : Nat) (s : Nat → Int32) (H r : Nat) : Prop := (∀ j, w.1 a j = s j) ∧ w.2.1 a 1 = nI H ∧ w.2.1 a 2 = nI r
/-- nothing else has changed -/
def Oth1 (w w' : Vw) (a : Nat) : Prop := (∀ c j, c ≠ a → w'.1 c j = w.1 c j) ∧ (∀ c k, ¬ (c = a ∧ (k = 1 ∨ k = 2)) → w'.2.1 c k = w.2.1 c k) ∧ (∀ c k, w'.2.2 c k = w.2.2 c k)
theorem Oth1.rfl' {w : Vw} {a : Nat} : Oth1 w w a := ⟨fun _ _ _ => rfl, fun _ _ _ => rfl, fun _ _ => rfl⟩
theorem Oth1.trans {w w1 w2 : Vw} {a : Nat} (h : Oth1 w w1 a) (g : Oth1 w1 w2 a) : Oth1 w w2 a := ⟨fun c j hc => (g.1 c j hc).trans (h.1 c j hc), fun c k hk => (g.2.1 c k hk).trans (h.2.1 c k hk), fun c k => (g.2.2 c k).trans (h.2.2 c k)⟩
theorem upd_s {f : Nat → Int32} {k : Nat} {x : Int32} : upd f k x k = x := by unfold upd; exact if_pos rfl
theorem upd_n {f : Nat → Int32} {k j : Nat} {x : Int32} (h : j ≠ k) : upd f k x j = f j := by unfold upd; exact if_neg h
/-- the step's second half -/
def WKd (cs : Nat → ClassId) (dE : Nat × Nat) (n : Nat) (M1 : gMem) (a0 : Nat) (x1 : Option Nat) (x2 v o : Int32) : gMem := if o = 1 then (mbind (F_Fr_push cs M1 (x1.getD 0) v) (fun w13 => w13)) else (if o = 2 then (mbind (F_Fr_valueOf cs M1 (x1.getD 0) v) (fun w17 => mbind (F_Fr_push cs M1 (x1.getD 0) w17) (fun w20 => w20))) else (if o = 3 then (mbind (F_Ma_bind cs M1 a0 x1 v) (fun w24 => w24)) else (if o = 4 then (mbind (F_Ma_unbind cs M1 a0 x1 v) (fun w28 => w28)) else (if o = 5 then (cP 10 M1 (x1.getD 0) 2 (.int v)) else (if o = 6 then (mbind (F_Fr_pop cs M1 (x1.getD 0) ) (fun w34 => if w34.1 = 0 then (cP 10 w34.2 (x1.getD 0) 2 (.int v)) else (cP 10 w34.2 (x1.getD 0) 2 (.int (x2 + 1))))) else (if o = 7 then (mbind (F_Ma_combine cs M1 a0 x1 v) (fun v1 => v1)) else (if o = 8 then (mbind (F_Ma_close cs dE M1 a0 x1 x2) (fun v5 => v5)) else (if o = 9 then (mbind (F_Ma_install cs dE M1 a0 x1 x2) (fun v9 => v9)) else (if o = 10 then (mbind (F_Ma_end cs M1 a0 x1) (fun w53 => w53)) else (if o = 11 then (mbind (F_Ma_endBody cs M1 a0 x1) (fun w57 => w57)) else (if o = 12 then (mbind (F_Ma_apply cs dE M1 a0 x1 x2) (fun w61 => w61)) else (if o = 13 then (mbind (F_Ma_raise cs dE n M1 a0 x1 x2 v) (fun w65 => w65)) else (mbind (F_Ma_end cs M1 a0 x1) (fun w68 => w68))))))))))))))
theorem work_eq (cs : Nat → ClassId) (dE : Nat × Nat) (n : Nat) (M : gMem) (a0 : Nat) (x1 : Option Nat) (x2 : Int32) : F_Ma_work cs dE n M a0 x1 x2 = mbind (F_Co_field cs M ((cQ M a0 0).getD 0) x2 1) (fun w4 => mbind (F_Co_operation cs (cP 10 M (x1.getD 0) 2 (.int (x2 + 1))) ((cQ (cP 10 M (x1.getD 0) 2 (.int (x2 + 1))) a0 0).getD 0) x2) (fun w9 => WKd cs dE n (cP 10 M (x1.getD 0) 2 (.int (x2 + 1))) a0 x1 x2 w4 w9)) := rfl
/-- the frame is set behind its row -/
def nxR (M : gMem) (a r : Nat) : gMem := cP 10 M a 2 (.int (nI r + 1))
section
variable {cs : Nat → ClassId} {lim dE : Nat × Nat} {A : Ad} {r1 r2 NF : Nat} {g4 : Nat → Int32} {k4 : Nat} {fa ta : Nat → Nat} {nf nt : Nat} {M M' : gMem} {w w' : Vw} {a b c t n ci k H K u v r r' : Nat} {s : Nat → Int32} {x y : Int32}
theorem VS.fRow (h : (VS cs lim dE A r1 r2 NF g4 k4) fa ta nf nt M w) (ha : FsO fa nf a) (f : FSt w a s H r) (hx : x = nI r') : ∃ w', (VS cs lim dE A r1 r2 NF g4 k4) fa ta nf nt (cP 10 M a 2 (.int x)) w' ∧ FSt w' a s H r' ∧ Oth1 w w' a := by
  subst hx
  refine ⟨_, h.putN (ci := 10) (k := 2) (x := nI r') (h.oF ha) (by decide) (by decide) (by decide) (by decide), ⟨f.1, ?_, ?_⟩, fun _ _ _ => rfl, fun c k hk => ?_, fun _ _ => rfl⟩
  · rw [vpi_i, if_neg (by omega)]; exact f.2.1
  · rw [vpi_i, if_pos ⟨rfl, rfl⟩]
  · rw [vpi_i, if_neg (fun z => hk ⟨z.1, Or.inr z.2⟩)]
theorem VS.fPush (h : (VS cs lim dE A r1 r2 NF g4 k4) fa ta nf nt M w) (ha : FsO fa nf a) (f : FSt w a s H r) (h10 : 10 ≤ H) (h50 : H < 50) (v : Int32) : ∃ w', (VS cs lim dE A r1 r2 NF g4 k4) fa ta nf nt (F_Fr_push cs M a v) w' ∧ FSt w' a (upd s H v) (H + 1) r ∧ Oth1 w w' a := by
  refine ⟨_, h.push ha f.2.1 h10 h50 v, ⟨fun j => ?_, ?_, ?_⟩, fun c j hc => ?_, fun c k hk => ?_, fun _ _ => rfl⟩
  · rw [vpi_s, vps_s]
    by_cases q : j = H
    · rw [if_pos ⟨rfl, q⟩, q, upd_s]
    · rw [if_neg (fun z => q z.2), upd_n q]; exact f.1 j
  · rw [vpi_i, if_pos ⟨rfl, rfl⟩]
  · rw [vpi_i, if_neg (by omega), vps_i]; exact f.2.2
  · rw [vpi_s, vps_s, if_neg (fun z => hc z.1)]
  · rw [vpi_i, if_neg (fun z => hk ⟨z.1, Or.inl z.2⟩), vps_i]
theorem VS.fPop (h : (VS cs lim dE A r1 r2 NF g4 k4) fa ta nf nt M w) (ha : FsO fa nf a) (f : FSt w a s (H + 1) r) (h10 : 10 ≤ H) (h50 : H < 50) : (F_Fr_pop cs M a).1 = s H ∧ ∃ w', (VS cs lim dE A r1 r2 NF g4 k4) fa ta nf nt (F_Fr_pop cs M a).2 w' ∧ FSt w' a s H r ∧ Oth1 w w' a := by
  obtain ⟨e, g⟩ := h.pop ha f.2.1 h10 h50
  refine ⟨e.trans (f.1 H), _, g, ⟨f.1, ?_, ?_⟩, fun _ _ _ => rfl, fun c k hk => ?_, fun _ _ => rfl⟩
  · rw [vpi_i, if_pos ⟨rfl, rfl⟩]
  · rw [vpi_i, if_neg (by omega)]; exact f.2.2
  · rw [vpi_i, if_neg (fun z => hk ⟨z.1, Or.inl z.2⟩)]
theorem VS.fGive (h : (VS cs lim dE A r1 r2 NF g4 k4) fa ta nf nt M w) (ha : FsO fa nf a) (f : FSt w a s H r) (hx : x = nI K) (hK : K < 10) (v : Int32) : ∃ w', (VS cs lim dE A r1 r2 NF g4 k4) fa ta nf nt (F_Fr_give cs M a x v) w' ∧ FSt w' a (upd s K v) H r ∧ Oth1 w w' a := by
  refine ⟨_, h.give ha hx hK, ⟨fun j => ?_, f.2.1, f.2.2⟩, fun c j hc => ?_, fun _ _ _ => rfl, fun _ _ => rfl⟩
  · rw [vps_s]
    by_cases q : j = K
    · rw [if_pos ⟨rfl, q⟩, q, upd_s]
    · rw [if_neg (fun z => q z.2), upd_n q]; exact f.1 j
  · rw [vps_s, if_neg (fun z => hc z.1)]
theorem VS.fVal (h : (VS cs lim dE A r1 r2 NF g4 k4) fa ta nf nt M w) (ha : FsO fa nf a) (f : FSt w a s H r) (hx : x = nI K) (hK : K < 10) : F_Fr_valueOf cs M a x = s K := (h.value ha hx hK).trans (f.1 K)
theorem VS.fBind (h : (VS cs lim dE A r1 r2 NF g4 k4) fa ta nf nt M w) (ha : FsO fa nf a) (f : FSt w a s (H + 1) r) (h10 : 10 ≤ H) (h50 : H < 50) (hx : x = nI K) (hK : K < 10) : ∃ w', (VS cs lim dE A r1 r2 NF g4 k4) fa ta nf nt (F_Ma_bind cs M A.ma (some a) x) w' ∧ FSt w' a (upd (upd s H (s K)) K (s H)) (H + 1) r ∧ Oth1 w w' a := by
  unfold F_Ma_bind
  simp only [Option.getD_some, mbind_eq]
  obtain ⟨e1, w1, g1, f1, o1⟩ := h.fPop ha f h10 h50
  rw [e1, g1.fVal ha f1 hx hK]
  obtain ⟨w2, g2, f2, o2⟩ := g1.fPush ha f1 h10 h50 (s K)
  obtain ⟨w3, g3, f3, o3⟩ := g2.fGive ha f2 hx hK (s H)
  exact ⟨w3, g3, f3, (o1.trans o2).trans o3⟩
theorem VS.fUnbind (h : (VS cs lim dE A r1 r2 NF g4 k4) fa ta nf nt M w) (ha : FsO fa nf a) (f : FSt w a s (H + 2) r) (h10 : 10 ≤ H) (h50 : H + 1 < 50) (hx : x = nI K) (hK : K < 10) : ∃ w', (VS cs lim dE A r1 r2 NF g4 k4) fa ta nf nt (F_Ma_unbind cs M A.ma (some a) x) w' ∧ FSt w' a (upd (upd s K (s H)) H (s (H + 1))) (H + 1) r ∧ Oth1 w w' a := by
  unfold F_Ma_unbind
  simp only [Option.getD_some, mbind_eq]
  obtain ⟨e1, w1, g1, f1, o1⟩ := h.fPop ha f (by omega) h50
  obtain ⟨e2, w2, g2, f2, o2⟩ := g1.fPop ha f1 h10 (by omega)
  rw [e1, e2]
  obtain ⟨w3, g3, f3, o3⟩ := g2.fGive ha f2 hx hK (s H)
  obtain ⟨w4, g4, f4, o4⟩ := g3.fPush ha f3 h10 (by omega) (s (H + 1))
  exact ⟨w4, g4, f4, ((o1.trans o2).trans o3).trans o4⟩
/-- what two gives -/
def two32 (z l r : Int32) : Int32 := if z = 0 then l + r else if z = 1 then l - r else if z = 2 then l * r else if z = 3 then (if r ≤ l then 0 else 1) else (if l = r then 1 else 0)
theorem VS.fCombine (h : (VS cs lim dE A r1 r2 NF g4 k4) fa ta nf nt M w) (ha : FsO fa nf a) (f : FSt w a s (H + 2) r) (h10 : 10 ≤ H) (h50 : H + 1 < 50) : ∃ w', (VS cs lim dE A r1 r2 NF g4 k4) fa ta nf nt (F_Ma_combine cs M A.ma (some a) x) w' ∧ FSt w' a (upd s H (two32 x (s H) (s (H + 1)))) (H + 1) r ∧ Oth1 w w' a := by
  unfold F_Ma_combine
  simp only [Option.getD_some, mbind_eq]
  obtain ⟨e1, w1, g1, f1, o1⟩ := h.fPop ha f (by omega) h50
  obtain ⟨e2, w2, g2, f2, o2⟩ := g1.fPop ha f1 h10 (by omega)
  rw [e1, e2]
  have fin : ∀ v, ∃ w', (VS cs lim dE A r1 r2 NF g4 k4) fa ta nf nt (F_Fr_push cs (F_Fr_pop cs (F_Fr_pop cs M a).2 a).2 a v) w' ∧ FSt w' a (upd s H v) (H + 1) r ∧ Oth1 w w' a := fun v => by
    obtain ⟨w4, g4, f4, o4⟩ := g2.fPush ha f2 h10 (by omega) v
    exact ⟨w4, g4, f4, (o1.trans o2).trans o4⟩
  unfold two32
  by_cases c0 : x = 0
  · simp only [if_pos c0]; exact fin _
  simp only [if_neg c0]
  by_cases c1 : x = 1
  · simp only [if_pos c1]; exact fin _
  simp only [if_neg c1]
  by_cases c2 : x = 2
  · simp only [if_pos c2]; exact fin _
  simp only [if_neg c2]
  by_cases c3 : x = 3
  · simp only [if_pos c3]
    by_cases d : s (H + 1) ≤ s H
    · simp only [if_pos d]; exact fin _
    · simp only [if_neg d]; exact fin _
  simp only [if_neg c3]
  by_cases d : s H = s (H + 1)
  · simp only [if_pos d]; exact fin _
  · simp only [if_neg d]; exact fin _
/-- the step's first half: the row is read, and the frame set behind it -/
theorem VS.work (h : (VS cs lim dE A r1 r2 NF g4 k4) fa ta nf nt M w) (ha : FsO fa nf a) (f : FSt w a s H r) (hr : r ≤ 2000) {o : Int32} (ho : g4 (r * 5) = o) : ∃ w1, (VS cs lim dE A r1 r2 NF g4 k4) fa ta nf nt (nxR M a r) w1 ∧ FSt w1 a s H (r + 1) ∧ Oth1 w w1 a ∧ ∀ n : Nat,
    (o = 1 → F_Ma_work cs dE n M A.ma (some a) (nI r) = F_Fr_push cs (nxR M a r) a (cFd g4 r 1)) ∧
    (o = 2 → F_Ma_work cs dE n M A.ma (some a) (nI r) = F_Fr_push cs (nxR M a r) a (F_Fr_valueOf cs (nxR M a r) a (cFd g4 r 1))) ∧
    (o = 3 → F_Ma_work cs dE n M A.ma (some a) (nI r) = F_Ma_bind cs (nxR M a r) A.ma (some a) (cFd g4 r 1)) ∧
    (o = 4 → F_Ma_work cs dE n M A.ma (some a) (nI r) = F_Ma_unbind cs (nxR M a r) A.ma (some a) (cFd g4 r 1)) ∧
    (o = 5 → F_Ma_work cs dE n M A.ma (some a) (nI r) = cP 10 (nxR M a r) a 2 (.int (cFd g4 r 1))) ∧
    (o = 6 → F_Ma_work cs dE n M A.ma (some a) (nI r) = if (F_Fr_pop cs (nxR M a r) a).1 = 0 then cP 10 (F_Fr_pop cs (nxR M a r) a).2 a 2 (.int (cFd g4 r 1)) else cP 10 (F_Fr_pop cs (nxR M a r) a).2 a 2 (.int (nI r + 1))) ∧
    (o = 7 → F_Ma_work cs dE n M A.ma (some a) (nI r) = F_Ma_combine cs (nxR M a r) A.ma (some a) (cFd g4 r 1)) ∧
    (o = 8 → F_Ma_work cs dE n M A.ma (some a) (nI r) = F_Ma_close cs dE (nxR M a r) A.ma (some a) (nI r)) ∧
    (o = 9 → F_Ma_work cs dE n M A.ma (some a) (nI r) = F_Ma_install cs dE (nxR M a r) A.ma (some a) (nI r)) ∧
    (o = 11 → F_Ma_work cs dE n M A.ma (some a) (nI r) = F_Ma_endBody cs (nxR M a r) A.ma (some a)) ∧
    (o = 12 → F_Ma_work cs dE n M A.ma (some a) (nI r) = F_Ma_apply cs dE (nxR M a r) A.ma (some a) (nI r)) ∧
    (o = 13 → F_Ma_work cs dE n M A.ma (some a) (nI r) = F_Ma_raise cs dE n (nxR M a r) A.ma (some a) (nI r) (cFd g4 r 1)) ∧
    (o = 0 → F_Ma_work cs dE n M A.ma (some a) (nI r) = F_Ma_end cs (nxR M a r) A.ma (some a)) := by
  obtain ⟨w1, h1, f1, o1⟩ := h.fRow (x := nI r + 1) ha f (nI_succ r).symm
  have e1 : F_Co_field cs M ((cQ M A.ma 0).getD 0) (nI r) 1 = cFd g4 r 1 := by
    rw [h.lay.ma_0.2]
    exact h.fld hr (by decide) rfl
  have e2 : F_Co_operation cs (cP 10 M a 2 (.int (nI r + 1))) ((cQ (cP 10 M a 2 (.int (nI r + 1))) A.ma 0).getD 0) (nI r) = o := by
    rw [h1.lay.ma_0.2]
    exact (h1.opr hr).trans ho
  have key : ∀ n : Nat, F_Ma_work cs dE n M A.ma (some a) (nI r) = WKd cs dE n (cP 10 M a 2 (.int (nI r + 1))) A.ma (some a) (nI r) (cFd g4 r 1) o := by
    intro n
    rw [work_eq]
    simp only [Option.getD_some]
    rw [mb1, mb1, e1, e2]
  refine ⟨w1, h1, f1, o1, fun n => ?_⟩
  rw [key n]
  show _ ∧ _
  unfold nxR
  generalize cP 10 M a 2 (.int (nI r + 1)) = M1
  refine ⟨?_, ?_, ?_, ?_, ?_, ?_, ?_, ?_, ?_, ?_, ?_, ?_, ?_⟩
  · intro q; subst q; unfold WKd; simp only [Option.getD_some]; rw [if_pos trivial, mbI]
  · intro q; subst q; unfold WKd; simp only [Option.getD_some]; rw [if_neg (by decide), if_pos trivial, mb1, mbI]
  · intro q; subst q; unfold WKd; simp only [Option.getD_some]; rw [if_neg (by decide), if_neg (by decide), if_pos trivial, mbI]
  · intro q; subst q; unfold WKd; simp only [Option.getD_some]; rw [if_neg (by decide), if_neg (by decide), if_neg (by decide), if_pos trivial, mbI]
  · intro q; subst q; unfold WKd; simp only [Option.getD_some]; rw [if_neg (by decide), if_neg (by decide), if_neg (by decide), if_neg (by decide), if_pos trivial]
  · intro q; subst q; unfold WKd; simp only [Option.getD_some]; rw [if_neg (by decide), if_neg (by decide), if_neg (by decide), if_neg (by decide), if_neg (by decide), if_pos trivial, mb1]
  · intro q; subst q; unfold WKd; simp only [Option.getD_some]; rw [if_neg (by decide), if_neg (by decide), if_neg (by decide), if_neg (by decide), if_neg (by decide), if_neg (by decide), if_pos trivial, mbI]
  · intro q; subst q; unfold WKd; simp only [Option.getD_some]; rw [if_neg (by decide), if_neg (by decide), if_neg (by decide), if_neg (by decide), if_neg (by decide), if_neg (by decide), if_neg (by decide), if_pos trivial, mbI]
  · intro q; subst q; unfold WKd; simp only [Option.getD_some]; rw [if_neg (by decide), if_neg (by decide), if_neg (by decide), if_neg (by decide), if_neg (by decide), if_neg (by decide), if_neg (by decide), if_neg (by decide), if_pos trivial, mbI]
  · intro q; subst q; unfold WKd; simp only [Option.getD_some]; rw [if_neg (by decide), if_neg (by decide), if_neg (by decide), if_neg (by decide), if_neg (by decide), if_neg (by decide), if_neg (by decide), if_neg (by decide), if_neg (by decide), if_neg (by decide), if_pos trivial, mbI]
  · intro q; subst q; unfold WKd; simp only [Option.getD_some]; rw [if_neg (by decide), if_neg (by decide), if_neg (by decide), if_neg (by decide), if_neg (by decide), if_neg (by decide), if_neg (by decide), if_neg (by decide), if_neg (by decide), if_neg (by decide), if_neg (by decide), if_pos trivial, mbI]
  · intro q; subst q; unfold WKd; simp only [Option.getD_some]; rw [if_neg (by decide), if_neg (by decide), if_neg (by decide), if_neg (by decide), if_neg (by decide), if_neg (by decide), if_neg (by decide), if_neg (by decide), if_neg (by decide), if_neg (by decide), if_neg (by decide), if_neg (by decide), if_pos trivial, mbI]
  · intro q; subst q; unfold WKd; simp only [Option.getD_some]; rw [if_neg (by decide), if_neg (by decide), if_neg (by decide), if_neg (by decide), if_neg (by decide), if_neg (by decide), if_neg (by decide), if_neg (by decide), if_neg (by decide), if_neg (by decide), if_neg (by decide), if_neg (by decide), if_neg (by decide), mbI]
end
end
