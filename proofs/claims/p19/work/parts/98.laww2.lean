/-! the law: its loop (by program) -/
theorem lw_and31 (x : Int32) : ∃ n : Nat, n < 32 ∧ (x &&& 31).toInt = (n : Int) := by
  have e : (x &&& 31).toBitVec = x.toBitVec &&& 31#32 := rfl
  have h : (x &&& 31).toBitVec.toNat < 32 := by
    rw [e, BitVec.toNat_and]
    exact Nat.lt_of_le_of_lt Nat.and_le_right (by decide)
  refine ⟨(x &&& 31).toBitVec.toNat, h, ?_⟩
  exact BitVec.toInt_eq_toNat_of_lt (by omega)
section LW3
variable {p : Program} {l : Launch} {e : Env} {s : State} {m : MethodId} {below : List Frame} {meth : Method} {c : Code} {D : va_G} {cs : Nat → ClassId} {dE : Nat × Nat} {b L mo o q : Nat} {xs : Nat → Int32} {ad : Nat → Nat} {σ : mSt} {M : gMem}
theorem lw_out (X : LCtx p l s m c D cs dE b L xs) (hr : meth.sig.returnType = ret) (hlocks : meth.locks = false) (i : Int32) (hle : cLe (lwL s.heap.size) (lwM0 s.heap.size) M) : LW p l e s m below meth c D b 990 (lvI b s.heap.size mo o i) M := by
  obtain ⟨C, hE, hX, hbl, hL, hf⟩ := X
  obtain ⟨l1, l2, l3, l4⟩ := hle
  have k1 : M.2.1 - (lwM0 s.heap.size).2.1 ≤ 601024 := by
    have h1 : M.2.1 ≤ s.heap.size + 601024 := l2
    show M.2.1 - s.heap.size ≤ 601024
    omega
  have k2 : M.2.2 - (lwM0 s.heap.size).2.2 ≤ 7293034 := l4
  refine g_iconst (v := 1) C d_law_990 (by decide) ?_
  intro H locs ls hR hS hl
  exact va_forget hS.2.2 (W.widen k1 k2 (lw_ret C.1 C.2.1 hr hlocks d_law_991))
theorem lw_head (X : LCtx p l s m c D cs dE b L xs) (hr : meth.sig.returnType = ret) (hlocks : meth.locks = false) (hq : q ≤ 512) (hle : cLe (lwL s.heap.size) (lwM0 s.heap.size) M) (k : 6 * (512 - q) + 6 ≤ L → LW p l e s m below meth c D b 33 (lvI b s.heap.size mo o (nI (6 * (512 - q)))) M) : LW p l e s m below meth c D b 23 (lvI b s.heap.size mo o (nI (6 * (512 - q)))) M := by
  have X0 := X
  obtain ⟨C, hE, hX, hbl, hL, hf⟩ := X
  have hbA : ¬ gA s.heap.size b := Nat.not_le.mpr hbl
  obtain ⟨N, hN⟩ : ∃ N, N = 6 * (512 - q) := ⟨_, rfl⟩
  rw [← hN] at k ⊢
  refine g_iload C d_law_23 rfl ?_
  refine g_aload_n C d_law_25 rfl ?_
  refine g_slen C hX hbl hbA d_law_26 ?_
  refine g_bipush (v := 6) C d_law_27 (by decide) ?_
  refine g_isub C d_law_29 ?_
  refine g_icmp_gt C 990 d_law_30 (by decide) (fun _ => lw_out X0 hr hlocks _ hle) (fun h => k ?_)
  have e1 : (nI N).toInt = N := nI_t (by omega)
  have e0 : (Int32.ofNat L).toInt = L := nI_t (n := L) (by omega)
  have e6 : (6 : Int32).toInt = 6 := rfl
  have e2 : (Int32.ofNat L - 6).toInt = (L : Int) - 6 := by
    rw [Int32.toInt_sub, e0, e6]
    exact Int.bmod_eq_of_le (by omega) (by omega)
  rw [Int32.lt_iff_toInt_lt, e1, e2] at h
  omega
theorem lw_step (X : LCtx p l s m c D cs dE b L xs) (hq : q + 1 ≤ 512) (hi : 6 * (512 - (q + 1)) + 6 ≤ L) (hI : LInv cs dE s.heap.size mo o ad (q + 1) σ M) (go : LGo p l e s m below meth c D cs dE b mo o ad q) : LW p l e s m below meth c D b 33 (lvI b s.heap.size mo o (nI (6 * (512 - (q + 1))))) M := by
  have X0 := X
  obtain ⟨C, hE, hX, hbl, hL, hf⟩ := X
  have hbA : ¬ gA s.heap.size b := Nat.not_le.mpr hbl
  refine g_aload_n C d_law_33 rfl ?_
  refine g_iload C d_law_34 rfl ?_
  refine g_sld C hX hbl hbA (lw_in0 (by omega) hL) d_law_36 ?_
  refine g_bipush (v := 31) C d_law_37 (by decide) ?_
  refine g_iand C d_law_39 ?_
  obtain ⟨v, hv, e⟩ := lw_and31 (xs (nI (6 * (512 - (q + 1)))).toNatClampNeg)
  match v, hv, e with
  | 0, _, e => exact g_tableIn C 136 d_law_40 (by rw [e]; decide) (by rw [e]; decide) (off := 96) (by rw [e]; rfl) (by decide) (lc_clear (n := 20) (n2 := 9) (Nat.le_refl _) (Nat.le_refl _) X0 hq hi hI go)
  | 1, _, e => exact g_tableIn C 147 d_law_40 (by rw [e]; decide) (by rw [e]; decide) (off := 107) (by rw [e]; rfl) (by decide) (lc_function (n := 1500) (Nat.le_refl _) X0 hq hi hI go)
  | 2, _, e => exact g_tableIn C 199 d_law_40 (by rw [e]; decide) (by rw [e]; decide) (off := 159) (by rw [e]; rfl) (by decide) (lc_effect X0 hq hi hI go)
  | 3, _, e => exact g_tableIn C 248 d_law_40 (by rw [e]; decide) (by rw [e]; decide) (off := 208) (by rw [e]; rfl) (by decide) (lc_atom X0 hq hi hI go)
  | 4, _, e => exact g_tableIn C 288 d_law_40 (by rw [e]; decide) (by rw [e]; decide) (off := 248) (by rw [e]; rfl) (by decide) (lc_let X0 hq hi hI go)
  | 5, _, e => exact g_tableIn C 340 d_law_40 (by rw [e]; decide) (by rw [e]; decide) (off := 300) (by rw [e]; rfl) (by decide) (lc_rec X0 hq hi hI go)
  | 6, _, e => exact g_tableIn C 416 d_law_40 (by rw [e]; decide) (by rw [e]; decide) (off := 376) (by rw [e]; rfl) (by decide) (lc_choice X0 hq hi hI go)
  | 7, _, e => exact g_tableIn C 468 d_law_40 (by rw [e]; decide) (by rw [e]; decide) (off := 428) (by rw [e]; rfl) (by decide) (lc_fn X0 hq hi hI go)
  | 8, _, e => exact g_tableIn C 520 d_law_40 (by rw [e]; decide) (by rw [e]; decide) (off := 480) (by rw [e]; rfl) (by decide) (lc_clause X0 hq hi hI go)
  | 9, _, e => exact g_tableIn C 584 d_law_40 (by rw [e]; decide) (by rw [e]; decide) (off := 544) (by rw [e]; rfl) (by decide) (lc_handle X0 hq hi hI go)
  | 10, _, e => exact g_tableIn C 648 d_law_40 (by rw [e]; decide) (by rw [e]; decide) (off := 608) (by rw [e]; rfl) (by decide) (lc_two X0 hq hi hI go)
  | 11, _, e => exact g_tableIn C 700 d_law_40 (by rw [e]; decide) (by rw [e]; decide) (off := 660) (by rw [e]; rfl) (by decide) (lc_call X0 hq hi hI go)
  | 12, _, e => exact g_tableIn C 740 d_law_40 (by rw [e]; decide) (by rw [e]; decide) (off := 700) (by rw [e]; rfl) (by decide) (lc_perform X0 hq hi hI go)
  | 13, _, e => exact g_tableIn C 780 d_law_40 (by rw [e]; decide) (by rw [e]; decide) (off := 740) (by rw [e]; rfl) (by decide) (lc_check (n := 700) (n2 := 3000) (Nat.le_refl _) (Nat.le_refl _) X0 hq hi hI go)
  | 14, _, e => exact g_tableIn C 808 d_law_40 (by rw [e]; decide) (by rw [e]; decide) (off := 768) (by rw [e]; rfl) (by decide) (lc_fault X0 hq hi hI go)
  | 15, _, e => exact g_tableIn C 833 d_law_40 (by rw [e]; decide) (by rw [e]; decide) (off := 793) (by rw [e]; rfl) (by decide) (lc_type X0 hq hi hI go)
  | 16, _, e => exact g_tableIn C 870 d_law_40 (by rw [e]; decide) (by rw [e]; decide) (off := 830) (by rw [e]; rfl) (by decide) (lc_fits X0 hq hi hI go)
  | 17, _, e => exact g_tableIn C 907 d_law_40 (by rw [e]; decide) (by rw [e]; decide) (off := 867) (by rw [e]; rfl) (by decide) (lc_start X0 hq hi hI go)
  | 18, _, e => exact g_tableIn C 931 d_law_40 (by rw [e]; decide) (by rw [e]; decide) (off := 891) (by rw [e]; rfl) (by decide) (lc_run (n := 4100000) (n2 := 11000000000) (Nat.le_refl _) (Nat.le_refl _) X0 hq hi hI go)
  | 19, _, e => exact g_tableIn C 959 d_law_40 (by rw [e]; decide) (by rw [e]; decide) (off := 919) (by rw [e]; rfl) (by decide) (lc_state X0 hq hi hI go)
  | k + 20, _, e =>
    obtain ⟨J, hrep, ⟨f, ho⟩, hle⟩ := hI
    exact g_tableOut C 984 d_law_40 (Or.inr (by rw [e]; omega)) (by decide) (lc_end X0 hq J.less hrep ho hle go)
theorem lw_loop (X : LCtx p l s m c D cs dE b L xs) (hr : meth.sig.returnType = ret) (hlocks : meth.locks = false) : ∀ q, q ≤ 512 → LGo p l e s m below meth c D cs dE b mo o ad q := by
  intro q
  induction q with
  | zero =>
    intro hq σ M hI
    refine lw_head X hr hlocks hq hI.2.2.2 (fun h => ?_)
    have := X.2.2.2.2.1
    omega
  | succ q ih =>
    intro hq σ M hI
    exact lw_head X hr hlocks hq hI.2.2.2 (fun h => lw_step X hq h hI (ih (by omega)))
end LW3
