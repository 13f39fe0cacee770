-- pure rows: CD CE CF CG
section
/-! pure rows, the class: how its objects lie -/
abbrev Ad : Type := (Nat) × (Nat) × (Nat) × (Nat) × (Nat) × (Nat) × (Nat) × (Nat) × (Nat) × (Nat) × (Nat) × (Nat) × (Nat) × (Nat) × (Nat) × (Nat) × (Nat) × (Nat) × (Nat) × (Nat) × (Nat)
abbrev Ad.x (self : Ad) : Nat := self.1
abbrev Ad.ty (self : Ad) : Nat := self.2.1
abbrev Ad.c0 (self : Ad) : Nat := self.2.2.1
abbrev Ad.c1 (self : Ad) : Nat := self.2.2.2.1
abbrev Ad.c2 (self : Ad) : Nat := self.2.2.2.2.1
abbrev Ad.c3 (self : Ad) : Nat := self.2.2.2.2.2.1
abbrev Ad.ns (self : Ad) : Nat := self.2.2.2.2.2.2.1
abbrev Ad.nn (self : Ad) : Nat := self.2.2.2.2.2.2.2.1
abbrev Ad.cl (self : Ad) : Nat := self.2.2.2.2.2.2.2.2.1
abbrev Ad.bk (self : Ad) : Nat := self.2.2.2.2.2.2.2.2.2.1
abbrev Ad.bc (self : Ad) : Nat := self.2.2.2.2.2.2.2.2.2.2.1
abbrev Ad.gv (self : Ad) : Nat := self.2.2.2.2.2.2.2.2.2.2.2.1
abbrev Ad.rs (self : Ad) : Nat := self.2.2.2.2.2.2.2.2.2.2.2.2.1
abbrev Ad.ck (self : Ad) : Nat := self.2.2.2.2.2.2.2.2.2.2.2.2.2.1
abbrev Ad.sc (self : Ad) : Nat := self.2.2.2.2.2.2.2.2.2.2.2.2.2.2.1
abbrev Ad.co (self : Ad) : Nat := self.2.2.2.2.2.2.2.2.2.2.2.2.2.2.2.1
abbrev Ad.c4 (self : Ad) : Nat := self.2.2.2.2.2.2.2.2.2.2.2.2.2.2.2.2.1
abbrev Ad.ma (self : Ad) : Nat := self.2.2.2.2.2.2.2.2.2.2.2.2.2.2.2.2.2.1
abbrev Ad.st (self : Ad) : Nat := self.2.2.2.2.2.2.2.2.2.2.2.2.2.2.2.2.2.2.1
abbrev Ad.fl (self : Ad) : Nat := self.2.2.2.2.2.2.2.2.2.2.2.2.2.2.2.2.2.2.2.1
abbrev Ad.tl (self : Ad) : Nat := self.2.2.2.2.2.2.2.2.2.2.2.2.2.2.2.2.2.2.2.2
theorem Ad.x_mk (y_0 : Nat) (y_1 : Nat) (y_2 : Nat) (y_3 : Nat) (y_4 : Nat) (y_5 : Nat) (y_6 : Nat) (y_7 : Nat) (y_8 : Nat) (y_9 : Nat) (y_10 : Nat) (y_11 : Nat) (y_12 : Nat) (y_13 : Nat) (y_14 : Nat) (y_15 : Nat) (y_16 : Nat) (y_17 : Nat) (y_18 : Nat) (y_19 : Nat) (y_20 : Nat) : Ad.x (y_0, y_1, y_2, y_3, y_4, y_5, y_6, y_7, y_8, y_9, y_10, y_11, y_12, y_13, y_14, y_15, y_16, y_17, y_18, y_19, y_20) = y_0 := rfl
theorem Ad.ty_mk (y_0 : Nat) (y_1 : Nat) (y_2 : Nat) (y_3 : Nat) (y_4 : Nat) (y_5 : Nat) (y_6 : Nat) (y_7 : Nat) (y_8 : Nat) (y_9 : Nat) (y_10 : Nat) (y_11 : Nat) (y_12 : Nat) (y_13 : Nat) (y_14 : Nat) (y_15 : Nat) (y_16 : Nat) (y_17 : Nat) (y_18 : Nat) (y_19 : Nat) (y_20 : Nat) : Ad.ty (y_0, y_1, y_2, y_3, y_4, y_5, y_6, y_7, y_8, y_9, y_10, y_11, y_12, y_13, y_14, y_15, y_16, y_17, y_18, y_19, y_20) = y_1 := rfl
theorem Ad.c0_mk (y_0 : Nat) (y_1 : Nat) (y_2 : Nat) (y_3 : Nat) (y_4 : Nat) (y_5 : Nat) (y_6 : Nat) (y_7 : Nat) (y_8 : Nat) (y_9 : Nat) (y_10 : Nat) (y_11 : Nat) (y_12 : Nat) (y_13 : Nat) (y_14 : Nat) (y_15 : Nat) (y_16 : Nat) (y_17 : Nat) (y_18 : Nat) (y_19 : Nat) (y_20 : Nat) : Ad.c0 (y_0, y_1, y_2, y_3, y_4, y_5, y_6, y_7, y_8, y_9, y_10, y_11, y_12, y_13, y_14, y_15, y_16, y_17, y_18, y_19, y_20) = y_2 := rfl
theorem Ad.c1_mk (y_0 : Nat) (y_1 : Nat) (y_2 : Nat) (y_3 : Nat) (y_4 : Nat) (y_5 : Nat) (y_6 : Nat) (y_7 : Nat) (y_8 : Nat) (y_9 : Nat) (y_10 : Nat) (y_11 : Nat) (y_12 : Nat) (y_13 : Nat) (y_14 : Nat) (y_15 : Nat) (y_16 : Nat) (y_17 : Nat) (y_18 : Nat) (y_19 : Nat) (y_20 : Nat) : Ad.c1 (y_0, y_1, y_2, y_3, y_4, y_5, y_6, y_7, y_8, y_9, y_10, y_11, y_12, y_13, y_14, y_15, y_16, y_17, y_18, y_19, y_20) = y_3 := rfl
theorem Ad.c2_mk (y_0 : Nat) (y_1 : Nat) (y_2 : Nat) (y_3 : Nat) (y_4 : Nat) (y_5 : Nat) (y_6 : Nat) (y_7 : Nat) (y_8 : Nat) (y_9 : Nat) (y_10 : Nat) (y_11 : Nat) (y_12 : Nat) (y_13 : Nat) (y_14 : Nat) (y_15 : Nat) (y_16 : Nat) (y_17 : Nat) (y_18 : Nat) (y_19 : Nat) (y_20 : Nat) : Ad.c2 (y_0, y_1, y_2, y_3, y_4, y_5, y_6, y_7, y_8, y_9, y_10, y_11, y_12, y_13, y_14, y_15, y_16, y_17, y_18, y_19, y_20) = y_4 := rfl
theorem Ad.c3_mk (y_0 : Nat) (y_1 : Nat) (y_2 : Nat) (y_3 : Nat) (y_4 : Nat) (y_5 : Nat) (y_6 : Nat) (y_7 : Nat) (y_8 : Nat) (y_9 : Nat) (y_10 : Nat) (y_11 : Nat) (y_12 : Nat) (y_13 : Nat) (y_14 : Nat) (y_15 : Nat) (y_16 : Nat) (y_17 : Nat) (y_18 : Nat) (y_19 : Nat) (y_20 : Nat) : Ad.c3 (y_0, y_1, y_2, y_3, y_4, y_5, y_6, y_7, y_8, y_9, y_10, y_11, y_12, y_13, y_14, y_15, y_16, y_17, y_18, y_19, y_20) = y_5 := rfl
theorem Ad.ns_mk (y_0 : Nat) (y_1 : Nat) (y_2 : Nat) (y_3 : Nat) (y_4 : Nat) (y_5 : Nat) (y_6 : Nat) (y_7 : Nat) (y_8 : Nat) (y_9 : Nat) (y_10 : Nat) (y_11 : Nat) (y_12 : Nat) (y_13 : Nat) (y_14 : Nat) (y_15 : Nat) (y_16 : Nat) (y_17 : Nat) (y_18 : Nat) (y_19 : Nat) (y_20 : Nat) : Ad.ns (y_0, y_1, y_2, y_3, y_4, y_5, y_6, y_7, y_8, y_9, y_10, y_11, y_12, y_13, y_14, y_15, y_16, y_17, y_18, y_19, y_20) = y_6 := rfl
theorem Ad.nn_mk (y_0 : Nat) (y_1 : Nat) (y_2 : Nat) (y_3 : Nat) (y_4 : Nat) (y_5 : Nat) (y_6 : Nat) (y_7 : Nat) (y_8 : Nat) (y_9 : Nat) (y_10 : Nat) (y_11 : Nat) (y_12 : Nat) (y_13 : Nat) (y_14 : Nat) (y_15 : Nat) (y_16 : Nat) (y_17 : Nat) (y_18 : Nat) (y_19 : Nat) (y_20 : Nat) : Ad.nn (y_0, y_1, y_2, y_3, y_4, y_5, y_6, y_7, y_8, y_9, y_10, y_11, y_12, y_13, y_14, y_15, y_16, y_17, y_18, y_19, y_20) = y_7 := rfl
theorem Ad.cl_mk (y_0 : Nat) (y_1 : Nat) (y_2 : Nat) (y_3 : Nat) (y_4 : Nat) (y_5 : Nat) (y_6 : Nat) (y_7 : Nat) (y_8 : Nat) (y_9 : Nat) (y_10 : Nat) (y_11 : Nat) (y_12 : Nat) (y_13 : Nat) (y_14 : Nat) (y_15 : Nat) (y_16 : Nat) (y_17 : Nat) (y_18 : Nat) (y_19 : Nat) (y_20 : Nat) : Ad.cl (y_0, y_1, y_2, y_3, y_4, y_5, y_6, y_7, y_8, y_9, y_10, y_11, y_12, y_13, y_14, y_15, y_16, y_17, y_18, y_19, y_20) = y_8 := rfl
theorem Ad.bk_mk (y_0 : Nat) (y_1 : Nat) (y_2 : Nat) (y_3 : Nat) (y_4 : Nat) (y_5 : Nat) (y_6 : Nat) (y_7 : Nat) (y_8 : Nat) (y_9 : Nat) (y_10 : Nat) (y_11 : Nat) (y_12 : Nat) (y_13 : Nat) (y_14 : Nat) (y_15 : Nat) (y_16 : Nat) (y_17 : Nat) (y_18 : Nat) (y_19 : Nat) (y_20 : Nat) : Ad.bk (y_0, y_1, y_2, y_3, y_4, y_5, y_6, y_7, y_8, y_9, y_10, y_11, y_12, y_13, y_14, y_15, y_16, y_17, y_18, y_19, y_20) = y_9 := rfl
theorem Ad.bc_mk (y_0 : Nat) (y_1 : Nat) (y_2 : Nat) (y_3 : Nat) (y_4 : Nat) (y_5 : Nat) (y_6 : Nat) (y_7 : Nat) (y_8 : Nat) (y_9 : Nat) (y_10 : Nat) (y_11 : Nat) (y_12 : Nat) (y_13 : Nat) (y_14 : Nat) (y_15 : Nat) (y_16 : Nat) (y_17 : Nat) (y_18 : Nat) (y_19 : Nat) (y_20 : Nat) : Ad.bc (y_0, y_1, y_2, y_3, y_4, y_5, y_6, y_7, y_8, y_9, y_10, y_11, y_12, y_13, y_14, y_15, y_16, y_17, y_18, y_19, y_20) = y_10 := rfl
theorem Ad.gv_mk (y_0 : Nat) (y_1 : Nat) (y_2 : Nat) (y_3 : Nat) (y_4 : Nat) (y_5 : Nat) (y_6 : Nat) (y_7 : Nat) (y_8 : Nat) (y_9 : Nat) (y_10 : Nat) (y_11 : Nat) (y_12 : Nat) (y_13 : Nat) (y_14 : Nat) (y_15 : Nat) (y_16 : Nat) (y_17 : Nat) (y_18 : Nat) (y_19 : Nat) (y_20 : Nat) : Ad.gv (y_0, y_1, y_2, y_3, y_4, y_5, y_6, y_7, y_8, y_9, y_10, y_11, y_12, y_13, y_14, y_15, y_16, y_17, y_18, y_19, y_20) = y_11 := rfl
theorem Ad.rs_mk (y_0 : Nat) (y_1 : Nat) (y_2 : Nat) (y_3 : Nat) (y_4 : Nat) (y_5 : Nat) (y_6 : Nat) (y_7 : Nat) (y_8 : Nat) (y_9 : Nat) (y_10 : Nat) (y_11 : Nat) (y_12 : Nat) (y_13 : Nat) (y_14 : Nat) (y_15 : Nat) (y_16 : Nat) (y_17 : Nat) (y_18 : Nat) (y_19 : Nat) (y_20 : Nat) : Ad.rs (y_0, y_1, y_2, y_3, y_4, y_5, y_6, y_7, y_8, y_9, y_10, y_11, y_12, y_13, y_14, y_15, y_16, y_17, y_18, y_19, y_20) = y_12 := rfl
theorem Ad.ck_mk (y_0 : Nat) (y_1 : Nat) (y_2 : Nat) (y_3 : Nat) (y_4 : Nat) (y_5 : Nat) (y_6 : Nat) (y_7 : Nat) (y_8 : Nat) (y_9 : Nat) (y_10 : Nat) (y_11 : Nat) (y_12 : Nat) (y_13 : Nat) (y_14 : Nat) (y_15 : Nat) (y_16 : Nat) (y_17 : Nat) (y_18 : Nat) (y_19 : Nat) (y_20 : Nat) : Ad.ck (y_0, y_1, y_2, y_3, y_4, y_5, y_6, y_7, y_8, y_9, y_10, y_11, y_12, y_13, y_14, y_15, y_16, y_17, y_18, y_19, y_20) = y_13 := rfl
theorem Ad.sc_mk (y_0 : Nat) (y_1 : Nat) (y_2 : Nat) (y_3 : Nat) (y_4 : Nat) (y_5 : Nat) (y_6 : Nat) (y_7 : Nat) (y_8 : Nat) (y_9 : Nat) (y_10 : Nat) (y_11 : Nat) (y_12 : Nat) (y_13 : Nat) (y_14 : Nat) (y_15 : Nat) (y_16 : Nat) (y_17 : Nat) (y_18 : Nat) (y_19 : Nat) (y_20 : Nat) : Ad.sc (y_0, y_1, y_2, y_3, y_4, y_5, y_6, y_7, y_8, y_9, y_10, y_11, y_12, y_13, y_14, y_15, y_16, y_17, y_18, y_19, y_20) = y_14 := rfl
theorem Ad.co_mk (y_0 : Nat) (y_1 : Nat) (y_2 : Nat) (y_3 : Nat) (y_4 : Nat) (y_5 : Nat) (y_6 : Nat) (y_7 : Nat) (y_8 : Nat) (y_9 : Nat) (y_10 : Nat) (y_11 : Nat) (y_12 : Nat) (y_13 : Nat) (y_14 : Nat) (y_15 : Nat) (y_16 : Nat) (y_17 : Nat) (y_18 : Nat) (y_19 : Nat) (y_20 : Nat) : Ad.co (y_0, y_1, y_2, y_3, y_4, y_5, y_6, y_7, y_8, y_9, y_10, y_11, y_12, y_13, y_14, y_15, y_16, y_17, y_18, y_19, y_20) = y_15 := rfl
theorem Ad.c4_mk (y_0 : Nat) (y_1 : Nat) (y_2 : Nat) (y_3 : Nat) (y_4 : Nat) (y_5 : Nat) (y_6 : Nat) (y_7 : Nat) (y_8 : Nat) (y_9 : Nat) (y_10 : Nat) (y_11 : Nat) (y_12 : Nat) (y_13 : Nat) (y_14 : Nat) (y_15 : Nat) (y_16 : Nat) (y_17 : Nat) (y_18 : Nat) (y_19 : Nat) (y_20 : Nat) : Ad.c4 (y_0, y_1, y_2, y_3, y_4, y_5, y_6, y_7, y_8, y_9, y_10, y_11, y_12, y_13, y_14, y_15, y_16, y_17, y_18, y_19, y_20) = y_16 := rfl
theorem Ad.ma_mk (y_0 : Nat) (y_1 : Nat) (y_2 : Nat) (y_3 : Nat) (y_4 : Nat) (y_5 : Nat) (y_6 : Nat) (y_7 : Nat) (y_8 : Nat) (y_9 : Nat) (y_10 : Nat) (y_11 : Nat) (y_12 : Nat) (y_13 : Nat) (y_14 : Nat) (y_15 : Nat) (y_16 : Nat) (y_17 : Nat) (y_18 : Nat) (y_19 : Nat) (y_20 : Nat) : Ad.ma (y_0, y_1, y_2, y_3, y_4, y_5, y_6, y_7, y_8, y_9, y_10, y_11, y_12, y_13, y_14, y_15, y_16, y_17, y_18, y_19, y_20) = y_17 := rfl
theorem Ad.st_mk (y_0 : Nat) (y_1 : Nat) (y_2 : Nat) (y_3 : Nat) (y_4 : Nat) (y_5 : Nat) (y_6 : Nat) (y_7 : Nat) (y_8 : Nat) (y_9 : Nat) (y_10 : Nat) (y_11 : Nat) (y_12 : Nat) (y_13 : Nat) (y_14 : Nat) (y_15 : Nat) (y_16 : Nat) (y_17 : Nat) (y_18 : Nat) (y_19 : Nat) (y_20 : Nat) : Ad.st (y_0, y_1, y_2, y_3, y_4, y_5, y_6, y_7, y_8, y_9, y_10, y_11, y_12, y_13, y_14, y_15, y_16, y_17, y_18, y_19, y_20) = y_18 := rfl
theorem Ad.fl_mk (y_0 : Nat) (y_1 : Nat) (y_2 : Nat) (y_3 : Nat) (y_4 : Nat) (y_5 : Nat) (y_6 : Nat) (y_7 : Nat) (y_8 : Nat) (y_9 : Nat) (y_10 : Nat) (y_11 : Nat) (y_12 : Nat) (y_13 : Nat) (y_14 : Nat) (y_15 : Nat) (y_16 : Nat) (y_17 : Nat) (y_18 : Nat) (y_19 : Nat) (y_20 : Nat) : Ad.fl (y_0, y_1, y_2, y_3, y_4, y_5, y_6, y_7, y_8, y_9, y_10, y_11, y_12, y_13, y_14, y_15, y_16, y_17, y_18, y_19, y_20) = y_19 := rfl
theorem Ad.tl_mk (y_0 : Nat) (y_1 : Nat) (y_2 : Nat) (y_3 : Nat) (y_4 : Nat) (y_5 : Nat) (y_6 : Nat) (y_7 : Nat) (y_8 : Nat) (y_9 : Nat) (y_10 : Nat) (y_11 : Nat) (y_12 : Nat) (y_13 : Nat) (y_14 : Nat) (y_15 : Nat) (y_16 : Nat) (y_17 : Nat) (y_18 : Nat) (y_19 : Nat) (y_20 : Nat) : Ad.tl (y_0, y_1, y_2, y_3, y_4, y_5, y_6, y_7, y_8, y_9, y_10, y_11, y_12, y_13, y_14, y_15, y_16, y_17, y_18, y_19, y_20) = y_20 := rfl
/-- class, address, field, what it holds -/
def REFS (A : Ad) : List (Nat × Nat × Nat × Nat) := [(0, A.x, 0, A.ty), (0, A.x, 1, A.ns), (0, A.x, 2, A.gv), (0, A.x, 3, A.rs), (0, A.x, 4, A.ck), (0, A.x, 5, A.co), (0, A.x, 6, A.ma),
  (1, A.ty, 0, A.c0), (1, A.ty, 1, A.c1), (1, A.ty, 2, A.c2), (1, A.ty, 3, A.c3), (3, A.ns, 0, A.nn), (3, A.ns, 1, A.cl), (3, A.ns, 2, A.bk), (3, A.ns, 3, A.bc),
  (6, A.ck, 0, A.ns), (6, A.ck, 1, A.ty), (6, A.ck, 2, A.gv), (6, A.ck, 3, A.rs), (6, A.ck, 4, A.sc), (7, A.co, 0, A.ns), (7, A.co, 1, A.c4), (8, A.ma, 0, A.co), (8, A.ma, 1, A.st), (9, A.st, 0, A.fl), (9, A.st, 1, A.tl)]
def FIN : List (Nat × Nat) := [(0, 0), (0, 1), (0, 2), (0, 3), (0, 4), (0, 5), (0, 6), (1, 0), (1, 1), (1, 2), (1, 3), (3, 0), (3, 1), (3, 2), (3, 3), (6, 0), (6, 1), (6, 2), (6, 3), (6, 4), (7, 0), (7, 1), (8, 0), (8, 1), (9, 0), (9, 1), (10, 0), (11, 0)]
def OBJS (A : Ad) : List (Nat × Nat) := [(2, A.c0), (2, A.c1), (2, A.c2), (2, A.c3), (2, A.c4), (4, A.bk), (5, A.bc), (13, A.fl), (13, A.tl)]
def ARRI (A : Ad) : List (Nat × Nat) := [(A.gv, 8), (A.rs, 8), (A.sc, 10)]
def ARRQ (A : Ad) : List (Nat × Nat × Nat) := [(3, A.nn, 200), (4, A.cl, 40)]
/-- only fields of L name b -/
def Only (L : List (Nat × Nat)) (M : gMem) (b : Nat) : Prop := ∀ a ci k, (ci, k) ∈ OWN → cOk ci M a → cQ M a k = some b → (ci, k) ∈ L
def ONLY (A : Ad) : List (List (Nat × Nat) × Nat) := [([(0, 2), (6, 2)], A.gv), ([(0, 3), (6, 3)], A.rs), ([(6, 4)], A.sc), ([(3, 0)], A.nn), ([(3, 1)], A.cl)]
def Lay (cs : Nat → ClassId) (A : Ad) (M : gMem) : Prop := (MOk M) ∧ (∀ q ∈ REFS A, cOk q.1 M q.2.1 ∧ cQ M q.2.1 q.2.2.1 = some q.2.2.2) ∧ (∀ q ∈ OBJS A, cOk q.1 M q.2) ∧ (∀ q ∈ ARRI A, aIk (cs 0) M q.1 ∧ aL M q.1 = q.2) ∧ (∀ q ∈ ARRQ A, aQk (cs q.1) M q.2.1 ∧ aL M q.2.1 = q.2.2) ∧ (∀ q ∈ ONLY A, Only q.1 M q.2) ∧ (∀ a b ci k, (ci, k) ∈ OWN → cOk ci M a → cQ M a k = some b → b < M.2.1) ∧ ([A.c0, A.c1, A.c2, A.c3, A.c4].Nodup ∧ A.fl ≠ A.tl)
theorem Lay.mok {cs : Nat → ClassId} {A : Ad} {M : gMem} (self : Lay cs A M) : MOk M := self.1
theorem Lay.refs {cs : Nat → ClassId} {A : Ad} {M : gMem} (self : Lay cs A M) : ∀ q ∈ REFS A, cOk q.1 M q.2.1 ∧ cQ M q.2.1 q.2.2.1 = some q.2.2.2 := self.2.1
theorem Lay.objs {cs : Nat → ClassId} {A : Ad} {M : gMem} (self : Lay cs A M) : ∀ q ∈ OBJS A, cOk q.1 M q.2 := self.2.2.1
theorem Lay.ari {cs : Nat → ClassId} {A : Ad} {M : gMem} (self : Lay cs A M) : ∀ q ∈ ARRI A, aIk (cs 0) M q.1 ∧ aL M q.1 = q.2 := self.2.2.2.1
theorem Lay.arq {cs : Nat → ClassId} {A : Ad} {M : gMem} (self : Lay cs A M) : ∀ q ∈ ARRQ A, aQk (cs q.1) M q.2.1 ∧ aL M q.2.1 = q.2.2 := self.2.2.2.2.1
theorem Lay.only {cs : Nat → ClassId} {A : Ad} {M : gMem} (self : Lay cs A M) : ∀ q ∈ ONLY A, Only q.1 M q.2 := self.2.2.2.2.2.1
theorem Lay.bnd {cs : Nat → ClassId} {A : Ad} {M : gMem} (self : Lay cs A M) : ∀ a b ci k, (ci, k) ∈ OWN → cOk ci M a → cQ M a k = some b → b < M.2.1 := self.2.2.2.2.2.2.1
theorem Lay.dif {cs : Nat → ClassId} {A : Ad} {M : gMem} (self : Lay cs A M) : [A.c0, A.c1, A.c2, A.c3, A.c4].Nodup ∧ A.fl ≠ A.tl := self.2.2.2.2.2.2.2
theorem refs_fin (A : Ad) : ∀ q ∈ REFS A, (q.1, q.2.2.1) ∈ FIN := by
  intro q hq
  simp only [REFS, List.mem_cons, List.not_mem_nil, or_false] at hq
  rcases hq with h | h | h | h | h | h | h | h | h | h | h | h | h | h | h | h | h | h | h | h | h | h | h | h | h | h <;> (rw [h]; dsimp only; decide)
theorem only_lt {cs : Nat → ClassId} {A : Ad} {M : gMem} (h : Lay cs A M) : ∀ q ∈ ONLY A, q.2 < M.2.1 := by
  intro q hq
  simp only [ONLY, List.mem_cons, List.not_mem_nil, or_false] at hq
  rcases hq with r | r | r | r | r
  · rw [r]; exact h.mok.lt (h.ari (A.gv, 8) (by simp [ARRI])).1.eq
  · rw [r]; exact h.mok.lt (h.ari (A.rs, 8) (by simp [ARRI])).1.eq
  · rw [r]; exact h.mok.lt (h.ari (A.sc, 10) (by simp [ARRI])).1.eq
  · rw [r]; exact h.mok.lt (h.arq (3, A.nn, 200) (by simp [ARRQ])).1.eq
  · rw [r]; exact h.mok.lt (h.arq (4, A.cl, 40) (by simp [ARRQ])).1.eq
theorem Lay.ext {cs : Nat → ClassId} {A : Ad} {W V : List (Nat × Nat)} {al : Bool} {M M' : gMem} (h : Lay cs A M) (e : Ext W V al M M') (hW : W.all (fun w => !FIN.contains w) = true) : Lay cs A M' := by
  have hW' : ∀ w, w ∈ FIN → w ∉ W := fun w hw hw' => by
    have := List.all_eq_true.mp hW w hw'
    simp only [Bool.not_eq_true', List.contains_eq_mem, decide_eq_false_iff_not] at this
    exact this hw
  refine ⟨e.ok, fun q hq => ?_, fun q hq => e.xcOk (h.objs q hq), fun q hq => ?_, fun q hq => ?_, fun q hq => ?_, fun a b ci k hk ha hb => ?_, h.dif⟩
  · obtain ⟨h1, h2⟩ := h.refs q hq
    exact ⟨e.xcOk h1, (e.xcQ h1 (hW' _ (refs_fin A q hq))).trans h2⟩
  · obtain ⟨h1, h2⟩ := h.ari q hq
    exact ⟨(e.aI h1).1, (e.aI h1).2.trans h2⟩
  · obtain ⟨h1, h2⟩ := h.arq q hq
    exact ⟨(e.aR h1).1, (e.aR h1).2.trans h2⟩
  · intro a ci k hk ha hb
    obtain ⟨z1, z2⟩ := e.own a q.2 ci k hk ha hb (only_lt h q hq)
    exact h.only q hq a ci k hk z1 z2
  · rcases e.bnd a b ci k hk ha hb with g | ⟨g1, g2⟩
    · exact g
    · exact Nat.lt_of_lt_of_le (h.bnd a b ci k hk g1 g2) e.sz.1
theorem Only.notV {L V : List (Nat × Nat)} {M : gMem} {b : Nat} (h : Only L M b) (hV : L.all (fun w => !V.contains w) = true) : NotV V M b := fun a ci k hv hk ha hb => by
  have := List.all_eq_true.mp hV _ (h a ci k hk ha hb)
  simp only [Bool.not_eq_true', List.contains_eq_mem, decide_eq_false_iff_not] at this
  exact this hv
/-- one object alone has this array -/
def Sole (M : gMem) (ci k a b : Nat) : Prop := ∀ a' ci' k', (ci', k') ∈ OWN → cOk ci' M a' → cQ M a' k' = some b → ci' = ci ∧ k' = k ∧ a' = a
theorem Sole.ext {W V : List (Nat × Nat)} {al : Bool} {M M' : gMem} {ci k a b : Nat} (h : Sole M ci k a b) (e : Ext W V al M M') (hb : b < M.2.1) : Sole M' ci k a b := fun a' ci' k' hk ha hq => by
  obtain ⟨z1, z2⟩ := e.own a' b ci' k' hk ha hq hb
  exact h a' ci' k' hk z1 z2
theorem Sole.notV {M : gMem} {V : List (Nat × Nat)} {ci k a b : Nat} (h : Sole M ci k a b) (hV : V.contains (ci, k) = false) : NotV V M b := fun a' ci' k' hv hk ha hb => by
  obtain ⟨rfl, rfl, rfl⟩ := h a' ci' k' hk ha hb
  simp only [List.contains_eq_mem, decide_eq_false_iff_not] at hV
  exact hV hv
/-! the places by name -/
section
variable {cs : Nat → ClassId} {A : Ad} {M : gMem}
theorem Lay.x_ty (h : Lay cs A M) : cOk 0 M A.x ∧ cQ M A.x 0 = some A.ty := h.refs (0, A.x, 0, A.ty) (by simp [REFS])
theorem Lay.x_ns (h : Lay cs A M) : cOk 0 M A.x ∧ cQ M A.x 1 = some A.ns := h.refs (0, A.x, 1, A.ns) (by simp [REFS])
theorem Lay.x_gv (h : Lay cs A M) : cOk 0 M A.x ∧ cQ M A.x 2 = some A.gv := h.refs (0, A.x, 2, A.gv) (by simp [REFS])
theorem Lay.x_rs (h : Lay cs A M) : cOk 0 M A.x ∧ cQ M A.x 3 = some A.rs := h.refs (0, A.x, 3, A.rs) (by simp [REFS])
theorem Lay.x_ck (h : Lay cs A M) : cOk 0 M A.x ∧ cQ M A.x 4 = some A.ck := h.refs (0, A.x, 4, A.ck) (by simp [REFS])
theorem Lay.x_co (h : Lay cs A M) : cOk 0 M A.x ∧ cQ M A.x 5 = some A.co := h.refs (0, A.x, 5, A.co) (by simp [REFS])
theorem Lay.x_ma (h : Lay cs A M) : cOk 0 M A.x ∧ cQ M A.x 6 = some A.ma := h.refs (0, A.x, 6, A.ma) (by simp [REFS])
theorem Lay.ty_0 (h : Lay cs A M) : cOk 1 M A.ty ∧ cQ M A.ty 0 = some A.c0 := h.refs (1, A.ty, 0, A.c0) (by simp [REFS])
theorem Lay.ty_1 (h : Lay cs A M) : cOk 1 M A.ty ∧ cQ M A.ty 1 = some A.c1 := h.refs (1, A.ty, 1, A.c1) (by simp [REFS])
theorem Lay.ty_2 (h : Lay cs A M) : cOk 1 M A.ty ∧ cQ M A.ty 2 = some A.c2 := h.refs (1, A.ty, 2, A.c2) (by simp [REFS])
theorem Lay.ty_3 (h : Lay cs A M) : cOk 1 M A.ty ∧ cQ M A.ty 3 = some A.c3 := h.refs (1, A.ty, 3, A.c3) (by simp [REFS])
theorem Lay.ns_0 (h : Lay cs A M) : cOk 3 M A.ns ∧ cQ M A.ns 0 = some A.nn := h.refs (3, A.ns, 0, A.nn) (by simp [REFS])
theorem Lay.ns_1 (h : Lay cs A M) : cOk 3 M A.ns ∧ cQ M A.ns 1 = some A.cl := h.refs (3, A.ns, 1, A.cl) (by simp [REFS])
theorem Lay.ns_2 (h : Lay cs A M) : cOk 3 M A.ns ∧ cQ M A.ns 2 = some A.bk := h.refs (3, A.ns, 2, A.bk) (by simp [REFS])
theorem Lay.ns_3 (h : Lay cs A M) : cOk 3 M A.ns ∧ cQ M A.ns 3 = some A.bc := h.refs (3, A.ns, 3, A.bc) (by simp [REFS])
theorem Lay.ck_0 (h : Lay cs A M) : cOk 6 M A.ck ∧ cQ M A.ck 0 = some A.ns := h.refs (6, A.ck, 0, A.ns) (by simp [REFS])
theorem Lay.ck_1 (h : Lay cs A M) : cOk 6 M A.ck ∧ cQ M A.ck 1 = some A.ty := h.refs (6, A.ck, 1, A.ty) (by simp [REFS])
theorem Lay.ck_2 (h : Lay cs A M) : cOk 6 M A.ck ∧ cQ M A.ck 2 = some A.gv := h.refs (6, A.ck, 2, A.gv) (by simp [REFS])
theorem Lay.ck_3 (h : Lay cs A M) : cOk 6 M A.ck ∧ cQ M A.ck 3 = some A.rs := h.refs (6, A.ck, 3, A.rs) (by simp [REFS])
theorem Lay.ck_4 (h : Lay cs A M) : cOk 6 M A.ck ∧ cQ M A.ck 4 = some A.sc := h.refs (6, A.ck, 4, A.sc) (by simp [REFS])
theorem Lay.co_0 (h : Lay cs A M) : cOk 7 M A.co ∧ cQ M A.co 0 = some A.ns := h.refs (7, A.co, 0, A.ns) (by simp [REFS])
theorem Lay.co_1 (h : Lay cs A M) : cOk 7 M A.co ∧ cQ M A.co 1 = some A.c4 := h.refs (7, A.co, 1, A.c4) (by simp [REFS])
theorem Lay.ma_0 (h : Lay cs A M) : cOk 8 M A.ma ∧ cQ M A.ma 0 = some A.co := h.refs (8, A.ma, 0, A.co) (by simp [REFS])
theorem Lay.ma_1 (h : Lay cs A M) : cOk 8 M A.ma ∧ cQ M A.ma 1 = some A.st := h.refs (8, A.ma, 1, A.st) (by simp [REFS])
theorem Lay.st_0 (h : Lay cs A M) : cOk 9 M A.st ∧ cQ M A.st 0 = some A.fl := h.refs (9, A.st, 0, A.fl) (by simp [REFS])
theorem Lay.st_1 (h : Lay cs A M) : cOk 9 M A.st ∧ cQ M A.st 1 = some A.tl := h.refs (9, A.st, 1, A.tl) (by simp [REFS])
theorem Lay.bk (h : Lay cs A M) : cOk 4 M A.bk := h.objs (4, A.bk) (by simp [OBJS])
theorem Lay.bc (h : Lay cs A M) : cOk 5 M A.bc := h.objs (5, A.bc) (by simp [OBJS])
theorem Lay.fl (h : Lay cs A M) : cOk 13 M A.fl := h.objs (13, A.fl) (by simp [OBJS])
theorem Lay.tl (h : Lay cs A M) : cOk 13 M A.tl := h.objs (13, A.tl) (by simp [OBJS])
theorem Lay.gv (h : Lay cs A M) : aIk (cs 0) M A.gv ∧ aL M A.gv = 8 := h.ari (A.gv, 8) (by simp [ARRI])
theorem Lay.rs (h : Lay cs A M) : aIk (cs 0) M A.rs ∧ aL M A.rs = 8 := h.ari (A.rs, 8) (by simp [ARRI])
theorem Lay.sc (h : Lay cs A M) : aIk (cs 0) M A.sc ∧ aL M A.sc = 10 := h.ari (A.sc, 10) (by simp [ARRI])
theorem Lay.nn (h : Lay cs A M) : aQk (cs 3) M A.nn ∧ aL M A.nn = 200 := h.arq (3, A.nn, 200) (by simp [ARRQ])
theorem Lay.cl (h : Lay cs A M) : aQk (cs 4) M A.cl ∧ aL M A.cl = 40 := h.arq (4, A.cl, 40) (by simp [ARRQ])
theorem Lay.gvo (h : Lay cs A M) : Only [(0, 2), (6, 2)] M A.gv := h.only ([(0, 2), (6, 2)], A.gv) (by simp [ONLY])
theorem Lay.rso (h : Lay cs A M) : Only [(0, 3), (6, 3)] M A.rs := h.only ([(0, 3), (6, 3)], A.rs) (by simp [ONLY])
theorem Lay.sco (h : Lay cs A M) : Only [(6, 4)] M A.sc := h.only ([(6, 4)], A.sc) (by simp [ONLY])
theorem Lay.nno (h : Lay cs A M) : Only [(3, 0)] M A.nn := h.only ([(3, 0)], A.nn) (by simp [ONLY])
theorem Lay.clo (h : Lay cs A M) : Only [(3, 1)] M A.cl := h.only ([(3, 1)], A.cl) (by simp [ONLY])
end
end
section
/-! pure rows, the class: rows of ints that grow -/
theorem nI_toI {n : Nat} (h : n < 2147483648) : (nI n).toInt = n := by
  unfold nI
  rw [Int32.toInt_ofNat_of_lt (by simpa using h)]
theorem cQ_cong {M M' : gMem} {a k : Nat} (h : M'.1 a = M.1 a) : cQ M' a k = cQ M a k := by unfold cQ cO; rw [h]
theorem cI_cong {M M' : gMem} {a k : Nat} (h : M'.1 a = M.1 a) : cI M' a k = cI M a k := by unfold cI cO; rw [h]
theorem cOk_cong {M M' : gMem} {a ci : Nat} (h : M'.1 a = M.1 a) : cOk ci M' a ↔ cOk ci M a := by unfold cOk; rw [h]
theorem aIk_cong {M M' : gMem} {a : Nat} {cA : ClassId} (h : M'.1 a = M.1 a) : aIk cA M' a ↔ aIk cA M a := by unfold aIk; rw [h]
theorem aL_cong {M M' : gMem} {a : Nat} (h : M'.1 a = M.1 a) : aL M' a = aL M a := by unfold aL; rw [h]
theorem aF_cong {M M' : gMem} {a : Nat} (h : M'.1 a = M.1 a) : aF M' a = aF M a := by unfold aF; rw [h]
theorem aQ_cong {M M' : gMem} {a : Nat} (h : M'.1 a = M.1 a) : aQ M' a = aQ M a := by unfold aQ; rw [h]
theorem cOk.uniq {ci cj : Nat} {M : gMem} {a : Nat} (h : cOk ci M a) (h' : cOk cj M a) : ci = cj := by
  obtain ⟨f, e, -⟩ := h
  obtain ⟨g, e', -⟩ := h'
  rw [e] at e'
  cases e'
  rfl
theorem cOk.notI {ci : Nat} {M : gMem} {a : Nat} {cA : ClassId} (h : cOk ci M a) : ¬ aIk cA M a := fun h' => by
  obtain ⟨f, e, -⟩ := h
  obtain ⟨n, g, e'⟩ := h'
  rw [e] at e'
  cases e'
theorem cOk.notQ {ci : Nat} {M : gMem} {a : Nat} {cA : ClassId} (h : cOk ci M a) : ¬ aQk cA M a := fun h' => by
  obtain ⟨f, e, -⟩ := h
  obtain ⟨n, g, e'⟩ := h'
  rw [e] at e'
  cases e'
/-- reading what was put -/
theorem cQ_put {ci : Nat} {M : gMem} {a k : Nat} {r : Option Nat} (ho : cOk ci M a) (hk : k < (ckd ci).length) : cQ (cP ci M a k (va_rf r)) a k = r := by
  obtain ⟨fs, e1, e2⟩ := ho
  unfold cQ cP
  rw [cO_gup, cO_of e1, List.getElem?_set_self (by rw [e2.1]; exact hk)]
  cases r <;> rfl
theorem cI_put {ci : Nat} {M : gMem} {a k : Nat} {x : Int32} (ho : cOk ci M a) (hk : k < (ckd ci).length) : cI (cP ci M a k (.int x)) a k = x := by
  obtain ⟨fs, e1, e2⟩ := ho
  unfold cI cP
  rw [cO_gup, cO_of e1, List.getElem?_set_self (by rw [e2.1]; exact hk)]
  rfl
theorem cI_put_ne {ci : Nat} {M : gMem} {a k b j : Nat} {v : Value} (h : b ≠ a ∨ j ≠ k) : cI (cP ci M a k v) b j = cI M b j := by
  unfold cP
  by_cases hb : b = a
  · subst hb
    unfold cI
    rw [cO_gup, List.getElem?_set_ne (fun q => by subst q; rcases h with h | h <;> exact h rfl)]
  · exact cI_ne hb
theorem cQ_put_ne {ci : Nat} {M : gMem} {a k b j : Nat} {v : Value} (h : b ≠ a ∨ j ≠ k) : cQ (cP ci M a k v) b j = cQ M b j := by
  unfold cP
  by_cases hb : b = a
  · subst hb
    unfold cQ
    rw [cO_gup, List.getElem?_set_ne (fun q => by subst q; rcases h with h | h <;> exact h rfl)]
  · exact cQ_ne hb
def OwnB (M : gMem) : Prop := ∀ a b ci k, (ci, k) ∈ OWN → cOk ci M a → cQ M a k = some b → b < M.2.1
def CeIs (cs : Nat → ClassId) (M : gMem) (c : Nat) (g : Nat → Int32) (cap : Nat) : Prop := (cOk 2 M c) ∧ (∃ b, cQ M c 0 = some b ∧ aIk (cs 0) M b ∧ aL M b = cap ∧ Sole M 2 0 c b ∧ b < M.2.1 ∧ ∀ i, i < cap → aF M b i = g i) ∧ (∀ i, cap ≤ i → g i = 0) ∧ (16 ≤ cap) ∧ (cap ≤ 131072)
theorem CeIs.ok {cs : Nat → ClassId} {M : gMem} {c : Nat} {g : Nat → Int32} {cap : Nat} (self : CeIs cs M c g cap) : cOk 2 M c := self.1
theorem CeIs.ref {cs : Nat → ClassId} {M : gMem} {c : Nat} {g : Nat → Int32} {cap : Nat} (self : CeIs cs M c g cap) : ∃ b, cQ M c 0 = some b ∧ aIk (cs 0) M b ∧ aL M b = cap ∧ Sole M 2 0 c b ∧ b < M.2.1 ∧ ∀ i, i < cap → aF M b i = g i := self.2.1
theorem CeIs.zero {cs : Nat → ClassId} {M : gMem} {c : Nat} {g : Nat → Int32} {cap : Nat} (self : CeIs cs M c g cap) : ∀ i, cap ≤ i → g i = 0 := self.2.2.1
theorem CeIs.lo {cs : Nat → ClassId} {M : gMem} {c : Nat} {g : Nat → Int32} {cap : Nat} (self : CeIs cs M c g cap) : 16 ≤ cap := self.2.2.2.1
theorem CeIs.hi {cs : Nat → ClassId} {M : gMem} {c : Nat} {g : Nat → Int32} {cap : Nat} (self : CeIs cs M c g cap) : cap ≤ 131072 := self.2.2.2.2
theorem ce_at {cs : Nat → ClassId} {lim : Nat × Nat} {M : gMem} {c : Nat} {g : Nat → Int32} {cap : Nat} (h : CeIs cs M c g cap) (x : Int32) : S_Ce_at cs lim M c x ∧ F_Ce_at cs M c x = if x.toInt < 0 then 0 else g x.toInt.toNat := by
  obtain ⟨b, h1, h2, h3, h4, h5, h6⟩ := h.ref
  have h8 := h.hi
  unfold S_Ce_at F_Ce_at
  by_cases hx : x < 0
  · have hx' : x.toInt < 0 := by ((try (simp only [vp_in, Int32.toNatClampNeg, Int32.lt_iff_toInt_lt, Int32.le_iff_toInt_le, ← Int32.toInt_inj, Int32.toInt_add, Int32.toInt_sub, Int32.toInt_mul, Int32.reduceToInt, i32_neg1, Nat.reducePow, Int.reducePow, ne_eq, ge_iff_le, gt_iff_lt] at *)) <;> (first | omega | ((simp (disch := omega) only [bm32] at *) <;> omega)))
    simp only [if_pos hx, if_pos hx']
    exact ⟨trivial, trivial⟩
  · have hx' : ¬ x.toInt < 0 := by ((try (simp only [vp_in, Int32.toNatClampNeg, Int32.lt_iff_toInt_lt, Int32.le_iff_toInt_le, ← Int32.toInt_inj, Int32.toInt_add, Int32.toInt_sub, Int32.toInt_mul, Int32.reduceToInt, i32_neg1, Nat.reducePow, Int.reducePow, ne_eq, ge_iff_le, gt_iff_lt] at *)) <;> (first | omega | ((simp (disch := omega) only [bm32] at *) <;> omega)))
    simp only [if_neg hx, if_neg hx', h1, Option.getD_some, h3]
    have hn : (nI cap).toInt = cap := nI_toI (by omega)
    by_cases hc : nI cap ≤ x
    · simp only [if_pos hc]
      refine ⟨⟨h.ok, ⟨trivial, ⟨_, h2.eq⟩⟩, trivial⟩, ?_⟩
      rw [h.zero]
      ((try (simp only [vp_in, Int32.toNatClampNeg, Int32.lt_iff_toInt_lt, Int32.le_iff_toInt_le, ← Int32.toInt_inj, Int32.toInt_add, Int32.toInt_sub, Int32.toInt_mul, Int32.reduceToInt, i32_neg1, Nat.reducePow, Int.reducePow, ne_eq, ge_iff_le, gt_iff_lt] at *)) <;> (first | omega | ((simp (disch := omega) only [bm32] at *) <;> omega)))
    · simp only [if_neg hc]
      refine ⟨⟨h.ok, ⟨trivial, ⟨_, h2.eq⟩⟩, h.ok, ⟨trivial, h2⟩, by ((try (simp only [vp_in, Int32.toNatClampNeg, Int32.lt_iff_toInt_lt, Int32.le_iff_toInt_le, ← Int32.toInt_inj, Int32.toInt_add, Int32.toInt_sub, Int32.toInt_mul, Int32.reduceToInt, i32_neg1, Nat.reducePow, Int.reducePow, ne_eq, ge_iff_le, gt_iff_lt] at *)) <;> (first | omega | ((simp (disch := omega) only [bm32] at *) <;> omega))), trivial⟩, ?_⟩
      rw [h6 _ (by ((try (simp only [vp_in, Int32.toNatClampNeg, Int32.lt_iff_toInt_lt, Int32.le_iff_toInt_le, ← Int32.toInt_inj, Int32.toInt_add, Int32.toInt_sub, Int32.toInt_mul, Int32.reduceToInt, i32_neg1, Nat.reducePow, Int.reducePow, ne_eq, ge_iff_le, gt_iff_lt] at *)) <;> (first | omega | ((simp (disch := omega) only [bm32] at *) <;> omega))))]
      rfl
theorem CeIs.ext {cs : Nat → ClassId} {W V : List (Nat × Nat)} {al : Bool} {M M' : gMem} {c : Nat} {g : Nat → Int32} {cap : Nat} (h : CeIs cs M c g cap) (e : Ext W V al M M') (hW : W.contains (2, 0) = false) (hV : V.contains (2, 0) = false) : CeIs cs M' c g cap := by
  obtain ⟨b, h1, h2, h3, h4, h5, h6⟩ := h.ref
  refine ⟨e.xcOk h.ok, ⟨b, ?_, (e.aI h2).1, (e.aI h2).2.trans h3, h4.ext e h5, Nat.lt_of_lt_of_le h5 e.sz.1, fun i hi => ?_⟩, h.zero, h.lo, h.hi⟩
  · rw [e.xcQ h.ok (by simpa using hW)]; exact h1
  · rw [e.xaF h2 (h4.notV hV)]; exact h6 i hi
/-- one row of ints is written: the others stay -/
theorem CeIs.other {cs : Nat → ClassId} {M M' : gMem} {c c' : Nat} {g : Nat → Int32} {cap : Nat} (h : CeIs cs M c g cap) (hne : c ≠ c') (e : Ext [(2, 0)] [(2, 0)] true M M') (hq : cQ M' c 0 = cQ M c 0) (hf : ∀ b, cQ M c 0 = some b → aF M' b = aF M b) : CeIs cs M' c g cap := by
  obtain ⟨b, h1, h2, h3, h4, h5, h6⟩ := h.ref
  refine ⟨e.xcOk h.ok, ⟨b, hq.trans h1, (e.aI h2).1, (e.aI h2).2.trans h3, h4.ext e h5, Nat.lt_of_lt_of_le h5 e.sz.1, fun i hi => ?_⟩, h.zero, h.lo, h.hi⟩
  rw [hf b h1]
  exact h6 i hi
end
section
/-! pure rows, the class: a row of ints is written -/
theorem OwnB.ext {W V : List (Nat × Nat)} {al : Bool} {M M' : gMem} (h : OwnB M) (e : Ext W V al M M') : OwnB M' := fun a b ci k hk ha hb => by
  rcases e.bnd a b ci k hk ha hb with g | ⟨g1, g2⟩
  · exact g
  · exact Nat.lt_of_lt_of_le (h a b ci k hk g1 g2) e.sz.1
def PutE (cs : Nat → ClassId) (M M' : gMem) (c i : Nat) (v : Int32) (g : Nat → Int32) (cap cap' : Nat) : Prop := (CeIs cs M' c (upd g i v) cap') ∧ (Ext [(2, 0)] [(2, 0)] true M M') ∧ (∀ c' g' k', c' ≠ c → CeIs cs M c' g' k' → CeIs cs M' c' g' k') ∧ ((cap' = cap ∧ M'.2 = M.2) ∨ (2 * cap ≤ cap' ∧ cap' ≤ 2 * (i + 1) ∧ cap ≤ i ∧ M'.2.1 = M.2.1 + 1 ∧ M'.2.2 = M.2.2 + cap'))
theorem PutE.is {cs : Nat → ClassId} {M M' : gMem} {c i : Nat} {v : Int32} {g : Nat → Int32} {cap cap' : Nat} (self : PutE cs M M' c i v g cap cap') : CeIs cs M' c (upd g i v) cap' := self.1
theorem PutE.ext {cs : Nat → ClassId} {M M' : gMem} {c i : Nat} {v : Int32} {g : Nat → Int32} {cap cap' : Nat} (self : PutE cs M M' c i v g cap cap') : Ext [(2, 0)] [(2, 0)] true M M' := self.2.1
theorem PutE.oth {cs : Nat → ClassId} {M M' : gMem} {c i : Nat} {v : Int32} {g : Nat → Int32} {cap cap' : Nat} (self : PutE cs M M' c i v g cap cap') : ∀ c' g' k', c' ≠ c → CeIs cs M c' g' k' → CeIs cs M' c' g' k' := self.2.2.1
theorem PutE.sz {cs : Nat → ClassId} {M M' : gMem} {c i : Nat} {v : Int32} {g : Nat → Int32} {cap cap' : Nat} (self : PutE cs M M' c i v g cap cap') : (cap' = cap ∧ M'.2 = M.2) ∨ (2 * cap ≤ cap' ∧ cap' ≤ 2 * (i + 1) ∧ cap ≤ i ∧ M'.2.1 = M.2.1 + 1 ∧ M'.2.2 = M.2.2 + cap') := self.2.2.2
theorem upd_at {f : Nat → Int32} {k j : Nat} {x : Int32} : upd f k x j = if j = k then x else f j := rfl
theorem ce_put {cs : Nat → ClassId} {lim : Nat × Nat} {M : gMem} {c : Nat} {g : Nat → Int32} {cap : Nat} (hM : MOk M) (hB : OwnB M) (h : CeIs cs M c g cap) (x v : Int32) {i : Nat} (hx : x.toInt = i) (hi : i < 65536) (hl1 : M.2.1 + 1 ≤ lim.1) (hl2 : M.2.2 + 2 * (i + 1) ≤ lim.2) :
    S_Ce_put cs lim M c x v ∧ ∃ cap', PutE cs M (F_Ce_put cs M c x v) c i v g cap cap' := by
  obtain ⟨b, h1, h2, h3, h4, h5, h6⟩ := h.ref
  have h8 := h.hi
  have h9 := h.lo
  have hS : S_Ce_put cs lim M c x v := by
    unfold S_Ce_put
    rw [if_neg (by ((try (simp only [vp_in, Int32.toNatClampNeg, Int32.lt_iff_toInt_lt, Int32.le_iff_toInt_le, ← Int32.toInt_inj, Int32.toInt_add, Int32.toInt_sub, Int32.toInt_mul, Int32.reduceToInt, i32_neg1, Nat.reducePow, Int.reducePow, ne_eq, ge_iff_le, gt_iff_lt] at *)) <;> (first | omega | ((simp (disch := omega) only [bm32] at *) <;> omega)))), if_pos (by ((try (simp only [vp_in, Int32.toNatClampNeg, Int32.lt_iff_toInt_lt, Int32.le_iff_toInt_le, ← Int32.toInt_inj, Int32.toInt_add, Int32.toInt_sub, Int32.toInt_mul, Int32.reduceToInt, i32_neg1, Nat.reducePow, Int.reducePow, ne_eq, ge_iff_le, gt_iff_lt] at *)) <;> (first | omega | ((simp (disch := omega) only [bm32] at *) <;> omega))))]
    simp only [h1, Option.getD_some, h3]
    have hn : (nI cap).toInt = cap := nI_toI (by omega)
    refine ⟨h.ok, ⟨trivial, ⟨_, h2.eq⟩⟩, ?_⟩
    by_cases hc : x < nI cap
    · rw [if_pos hc]
      exact ⟨h.ok, ⟨trivial, h2⟩, by ((try (simp only [vp_in, Int32.toNatClampNeg, Int32.lt_iff_toInt_lt, Int32.le_iff_toInt_le, ← Int32.toInt_inj, Int32.toInt_add, Int32.toInt_sub, Int32.toInt_mul, Int32.reduceToInt, i32_neg1, Nat.reducePow, Int.reducePow, ne_eq, ge_iff_le, gt_iff_lt] at *)) <;> (first | omega | ((simp (disch := omega) only [bm32] at *) <;> omega))), trivial⟩
    · rw [if_neg hc]
      refine ⟨h.ok, h.ok, ⟨trivial, ⟨_, h2.eq⟩⟩, ?_⟩
      have hic : cap ≤ i := by ((try (simp only [vp_in, Int32.toNatClampNeg, Int32.lt_iff_toInt_lt, Int32.le_iff_toInt_le, ← Int32.toInt_inj, Int32.toInt_add, Int32.toInt_sub, Int32.toInt_mul, Int32.reduceToInt, i32_neg1, Nat.reducePow, Int.reducePow, ne_eq, ge_iff_le, gt_iff_lt] at *)) <;> (first | omega | ((simp (disch := omega) only [bm32] at *) <;> omega)))
      rw [mbind_eq]
      have hw : ∃ (w : Int32) (n : Nat), (if (x + 1) < (2 * (nI cap)) then 2 * (nI cap) else x + 1 : Int32) = w ∧ w.toInt = n ∧ n ≤ 2 * (i + 1) ∧ 2 * cap ≤ n ∧ i < n ∧ n ≤ 131072 := by
        by_cases hd : (x + 1) < (2 * (nI cap))
        · exact ⟨_, 2 * cap, if_pos hd, by ((try (simp only [vp_in, Int32.toNatClampNeg, Int32.lt_iff_toInt_lt, Int32.le_iff_toInt_le, ← Int32.toInt_inj, Int32.toInt_add, Int32.toInt_sub, Int32.toInt_mul, Int32.reduceToInt, i32_neg1, Nat.reducePow, Int.reducePow, ne_eq, ge_iff_le, gt_iff_lt] at *)) <;> (first | omega | ((simp (disch := omega) only [bm32] at *) <;> omega))), by omega, by omega, by ((try (simp only [vp_in, Int32.toNatClampNeg, Int32.lt_iff_toInt_lt, Int32.le_iff_toInt_le, ← Int32.toInt_inj, Int32.toInt_add, Int32.toInt_sub, Int32.toInt_mul, Int32.reduceToInt, i32_neg1, Nat.reducePow, Int.reducePow, ne_eq, ge_iff_le, gt_iff_lt] at *)) <;> (first | omega | ((simp (disch := omega) only [bm32] at *) <;> omega))), by omega⟩
        · exact ⟨_, i + 1, if_neg hd, by ((try (simp only [vp_in, Int32.toNatClampNeg, Int32.lt_iff_toInt_lt, Int32.le_iff_toInt_le, ← Int32.toInt_inj, Int32.toInt_add, Int32.toInt_sub, Int32.toInt_mul, Int32.reduceToInt, i32_neg1, Nat.reducePow, Int.reducePow, ne_eq, ge_iff_le, gt_iff_lt] at *)) <;> (first | omega | ((simp (disch := omega) only [bm32] at *) <;> omega))), by omega, by ((try (simp only [vp_in, Int32.toNatClampNeg, Int32.lt_iff_toInt_lt, Int32.le_iff_toInt_le, ← Int32.toInt_inj, Int32.toInt_add, Int32.toInt_sub, Int32.toInt_mul, Int32.reduceToInt, i32_neg1, Nat.reducePow, Int.reducePow, ne_eq, ge_iff_le, gt_iff_lt] at *)) <;> (first | omega | ((simp (disch := omega) only [bm32] at *) <;> omega))), by omega, by omega⟩
      obtain ⟨w, n, e, hwn, a1, a2, a3, a4⟩ := hw
      rw [e]
      have hne : ¬ w = nI (aL M b) := by rw [h3]; ((try (simp only [vp_in, Int32.toNatClampNeg, Int32.lt_iff_toInt_lt, Int32.le_iff_toInt_le, ← Int32.toInt_inj, Int32.toInt_add, Int32.toInt_sub, Int32.toInt_mul, Int32.reduceToInt, i32_neg1, Nat.reducePow, Int.reducePow, ne_eq, ge_iff_le, gt_iff_lt] at *)) <;> (first | omega | ((simp (disch := omega) only [bm32] at *) <;> omega)))
      have hbne : b ≠ M.2.1 := by omega
      have hwc : w.toNatClampNeg = n := by ((try (simp only [vp_in, Int32.toNatClampNeg, Int32.lt_iff_toInt_lt, Int32.le_iff_toInt_le, ← Int32.toInt_inj, Int32.toInt_add, Int32.toInt_sub, Int32.toInt_mul, Int32.reduceToInt, i32_neg1, Nat.reducePow, Int.reducePow, ne_eq, ge_iff_le, gt_iff_lt] at *)) <;> (first | omega | ((simp (disch := omega) only [bm32] at *) <;> omega)))
      have hcp : S_Ar_copyOf cs lim M (some b) w := by
        unfold S_Ar_copyOf
        simp only [Option.getD_some, if_neg hne, hwc]
        refine ⟨⟨trivial, ⟨_, h2.eq⟩⟩, ⟨⟨by ((try (simp only [vp_in, Int32.toNatClampNeg, Int32.lt_iff_toInt_lt, Int32.le_iff_toInt_le, ← Int32.toInt_inj, Int32.toInt_add, Int32.toInt_sub, Int32.toInt_mul, Int32.reduceToInt, i32_neg1, Nat.reducePow, Int.reducePow, ne_eq, ge_iff_le, gt_iff_lt] at *)) <;> (first | omega | ((simp (disch := omega) only [bm32] at *) <;> omega))), by omega⟩, hl1, by omega⟩, ⟨trivial, ⟨_, by rw [gnw_n hbne]; exact h2.eq⟩⟩, ?_⟩
        rw [mbind_eq]
        have eL : aL (gnw M (1, .inl (cs 0, n, .inl (fun _ => 0))) n) b = cap := by rw [aL_cong (gnw_n hbne)]; exact h3
        rw [eL, if_neg (by ((try (simp only [vp_in, Int32.toNatClampNeg, Int32.lt_iff_toInt_lt, Int32.le_iff_toInt_le, ← Int32.toInt_inj, Int32.toInt_add, Int32.toInt_sub, Int32.toInt_mul, Int32.reduceToInt, i32_neg1, Nat.reducePow, Int.reducePow, ne_eq, ge_iff_le, gt_iff_lt] at *)) <;> (first | omega | ((simp (disch := omega) only [bm32] at *) <;> omega))))]
        have hcc : (nI cap).toNatClampNeg = cap := by ((try (simp only [vp_in, Int32.toNatClampNeg, Int32.lt_iff_toInt_lt, Int32.le_iff_toInt_le, ← Int32.toInt_inj, Int32.toInt_add, Int32.toInt_sub, Int32.toInt_mul, Int32.reduceToInt, i32_neg1, Nat.reducePow, Int.reducePow, ne_eq, ge_iff_le, gt_iff_lt] at *)) <;> (first | omega | ((simp (disch := omega) only [bm32] at *) <;> omega)))
        have eL2 : aL (gnw M (1, .inl (cs 0, n, .inl (fun _ => 0))) n) M.2.1 = n := (aI_of gnw_s).1
        refine ⟨⟨trivial, (aIk_cong (gnw_n hbne)).mpr h2⟩, ⟨_, _, gnw_s⟩, ⟨⟨by decide, by decide, by ((try (simp only [vp_in, Int32.toNatClampNeg, Int32.lt_iff_toInt_lt, Int32.le_iff_toInt_le, ← Int32.toInt_inj, Int32.toInt_add, Int32.toInt_sub, Int32.toInt_mul, Int32.reduceToInt, i32_neg1, Nat.reducePow, Int.reducePow, ne_eq, ge_iff_le, gt_iff_lt] at *)) <;> (first | omega | ((simp (disch := omega) only [bm32] at *) <;> omega)))⟩, ?_, ?_⟩, trivial⟩
        · rw [hcc]; simp
        · rw [hcc, eL2]; simp; omega
      refine ⟨hcp, ?_⟩
      rw [mbind_eq]
      have hx2 := x_Ar_copyOf cs lim M (some b) w hM hcp
      have hfr := copyOf_fresh hcp
      have hF : (F_Ar_copyOf cs M (some b) w).2.1 M.2.1 = some (1, .inl (cs 0, n, .inl (va_cpy (aF M b) (fun _ => 0) 0 0 cap))) := by
        unfold F_Ar_copyOf
        rw [if_neg (by simpa using hne)]
        simp only [mbind_eq, Option.getD_some, hwc]
        have eL : aL (gnw M (1, .inl (cs 0, n, .inl (fun _ => 0))) n) b = cap := by rw [aL_cong (gnw_n hbne)]; exact h3
        rw [eL, if_neg (by ((try (simp only [vp_in, Int32.toNatClampNeg, Int32.lt_iff_toInt_lt, Int32.le_iff_toInt_le, ← Int32.toInt_inj, Int32.toInt_add, Int32.toInt_sub, Int32.toInt_mul, Int32.reduceToInt, i32_neg1, Nat.reducePow, Int.reducePow, ne_eq, ge_iff_le, gt_iff_lt] at *)) <;> (first | omega | ((simp (disch := omega) only [bm32] at *) <;> omega))))]
        unfold aCp
        rw [gup_s, (aI_of gnw_s).1, (aI_of gnw_s).2, aF_cong (gnw_n hbne)]
        have hcc : (nI cap).toNatClampNeg = cap := by ((try (simp only [vp_in, Int32.toNatClampNeg, Int32.lt_iff_toInt_lt, Int32.le_iff_toInt_le, ← Int32.toInt_inj, Int32.toInt_add, Int32.toInt_sub, Int32.toInt_mul, Int32.reduceToInt, i32_neg1, Nat.reducePow, Int.reducePow, ne_eq, ge_iff_le, gt_iff_lt] at *)) <;> (first | omega | ((simp (disch := omega) only [bm32] at *) <;> omega)))
        rw [hcc]
        rfl
      generalize F_Ar_copyOf cs M (some b) w = q at hx2 hfr hF ⊢
      obtain ⟨r, M1⟩ := q
      dsimp only at hx2 hfr hF ⊢
      subst hfr
      have hc1 := hx2.xcOk h.ok
      have hcne : M.2.1 ≠ c := fun q => by rw [q] at hF; exact hc1.notI ⟨_, _, hF⟩
      have hp : cOk 2 (cP 2 M1 c 0 (va_rf (some M.2.1))) c := (Ext.putA (W := [(2, 0)]) (V := []) (al := true) (M0 := M) (hx2.mono (by decide) (by decide) (by decide)) 0 hc1 (by decide) (by decide) (Nat.le_refl _) (hx2.ok.lt hF)).xcOk h.ok
      rw [cQ_put hc1 (by decide)]
      have e3 : (cP 2 M1 c 0 (va_rf (some M.2.1))).1 M.2.1 = some (1, .inl (cs 0, n, .inl (va_cpy (aF M b) (fun _ => 0) 0 0 cap))) := by
        unfold cP
        rw [gup_n hcne]
        exact hF
      refine ⟨hc1, hp, ⟨rfl, ⟨_, _, e3⟩⟩, ?_, trivial⟩
      show vp_in x (aL _ M.2.1)
      rw [(aI_of e3).1]
      ((try (simp only [vp_in, Int32.toNatClampNeg, Int32.lt_iff_toInt_lt, Int32.le_iff_toInt_le, ← Int32.toInt_inj, Int32.toInt_add, Int32.toInt_sub, Int32.toInt_mul, Int32.reduceToInt, i32_neg1, Nat.reducePow, Int.reducePow, ne_eq, ge_iff_le, gt_iff_lt] at *)) <;> (first | omega | ((simp (disch := omega) only [bm32] at *) <;> omega)))
  refine ⟨hS, ?_⟩
  have hE := x_Ce_put cs lim M c x v hM hS
  have hn : (nI cap).toInt = cap := nI_toI (by omega)
  by_cases hc : x < nI cap
  · have hF : F_Ce_put cs M c x v = gup M b (1, .inl (cs 0, cap, .inl (upd (aF M b) i v))) := by
      unfold F_Ce_put
      rw [if_neg (by ((try (simp only [vp_in, Int32.toNatClampNeg, Int32.lt_iff_toInt_lt, Int32.le_iff_toInt_le, ← Int32.toInt_inj, Int32.toInt_add, Int32.toInt_sub, Int32.toInt_mul, Int32.reduceToInt, i32_neg1, Nat.reducePow, Int.reducePow, ne_eq, ge_iff_le, gt_iff_lt] at *)) <;> (first | omega | ((simp (disch := omega) only [bm32] at *) <;> omega)))), if_pos (by ((try (simp only [vp_in, Int32.toNatClampNeg, Int32.lt_iff_toInt_lt, Int32.le_iff_toInt_le, ← Int32.toInt_inj, Int32.toInt_add, Int32.toInt_sub, Int32.toInt_mul, Int32.reduceToInt, i32_neg1, Nat.reducePow, Int.reducePow, ne_eq, ge_iff_le, gt_iff_lt] at *)) <;> (first | omega | ((simp (disch := omega) only [bm32] at *) <;> omega))))]
      simp only [h1, Option.getD_some, h3]
      rw [if_pos hc]
      unfold aPi
      rw [h3, show x.toNatClampNeg = i by ((try (simp only [vp_in, Int32.toNatClampNeg, Int32.lt_iff_toInt_lt, Int32.le_iff_toInt_le, ← Int32.toInt_inj, Int32.toInt_add, Int32.toInt_sub, Int32.toInt_mul, Int32.reduceToInt, i32_neg1, Nat.reducePow, Int.reducePow, ne_eq, ge_iff_le, gt_iff_lt] at *)) <;> (first | omega | ((simp (disch := omega) only [bm32] at *) <;> omega)))]
    rw [hF] at hE ⊢
    have hbc : c ≠ b := fun q => h.ok.notI (by rw [q]; exact h2)
    refine ⟨cap, ⟨hE.xcOk h.ok, ⟨b, ?_, (hE.aI h2).1, (hE.aI h2).2.trans h3, h4.ext hE h5, h5, fun j hj => ?_⟩, fun j hj => ?_, h9, h8⟩, hE, ?_, Or.inl ⟨rfl, rfl⟩⟩
    · rw [cQ_ne hbc]; exact h1
    · rw [(aI_of gup_s).2, upd_at, upd_at, h6 j hj]
    · rw [upd_at, if_neg (by ((try (simp only [vp_in, Int32.toNatClampNeg, Int32.lt_iff_toInt_lt, Int32.le_iff_toInt_le, ← Int32.toInt_inj, Int32.toInt_add, Int32.toInt_sub, Int32.toInt_mul, Int32.reduceToInt, i32_neg1, Nat.reducePow, Int.reducePow, ne_eq, ge_iff_le, gt_iff_lt] at *)) <;> (first | omega | ((simp (disch := omega) only [bm32] at *) <;> omega))))]; exact h.zero j hj
    · intro c' g' k' hne h'
      obtain ⟨b', z1, z2, -, z4, -, -⟩ := h'.ref
      have hbb : b' ≠ b := fun q => by
        subst q
        exact hne (h4 c' 2 0 (by decide) h'.ok z1).2.2
      have hcb : c' ≠ b := fun q => h'.ok.notI (by rw [q]; exact h2)
      exact h'.other hne hE (cQ_ne hcb) (fun d hd => by rw [z1] at hd; cases hd; exact aF_cong (gup_n hbb))
  · have hic : cap ≤ i := by ((try (simp only [vp_in, Int32.toNatClampNeg, Int32.lt_iff_toInt_lt, Int32.le_iff_toInt_le, ← Int32.toInt_inj, Int32.toInt_add, Int32.toInt_sub, Int32.toInt_mul, Int32.reduceToInt, i32_neg1, Nat.reducePow, Int.reducePow, ne_eq, ge_iff_le, gt_iff_lt] at *)) <;> (first | omega | ((simp (disch := omega) only [bm32] at *) <;> omega)))
    have hw : ∃ (w : Int32) (n : Nat), (if (x + 1) < (2 * (nI cap)) then 2 * (nI cap) else x + 1 : Int32) = w ∧ w.toInt = n ∧ n ≤ 2 * (i + 1) ∧ 2 * cap ≤ n ∧ i < n ∧ n ≤ 131072 := by
      by_cases hd : (x + 1) < (2 * (nI cap))
      · exact ⟨_, 2 * cap, if_pos hd, by ((try (simp only [vp_in, Int32.toNatClampNeg, Int32.lt_iff_toInt_lt, Int32.le_iff_toInt_le, ← Int32.toInt_inj, Int32.toInt_add, Int32.toInt_sub, Int32.toInt_mul, Int32.reduceToInt, i32_neg1, Nat.reducePow, Int.reducePow, ne_eq, ge_iff_le, gt_iff_lt] at *)) <;> (first | omega | ((simp (disch := omega) only [bm32] at *) <;> omega))), by omega, by omega, by ((try (simp only [vp_in, Int32.toNatClampNeg, Int32.lt_iff_toInt_lt, Int32.le_iff_toInt_le, ← Int32.toInt_inj, Int32.toInt_add, Int32.toInt_sub, Int32.toInt_mul, Int32.reduceToInt, i32_neg1, Nat.reducePow, Int.reducePow, ne_eq, ge_iff_le, gt_iff_lt] at *)) <;> (first | omega | ((simp (disch := omega) only [bm32] at *) <;> omega))), by omega⟩
      · exact ⟨_, i + 1, if_neg hd, by ((try (simp only [vp_in, Int32.toNatClampNeg, Int32.lt_iff_toInt_lt, Int32.le_iff_toInt_le, ← Int32.toInt_inj, Int32.toInt_add, Int32.toInt_sub, Int32.toInt_mul, Int32.reduceToInt, i32_neg1, Nat.reducePow, Int.reducePow, ne_eq, ge_iff_le, gt_iff_lt] at *)) <;> (first | omega | ((simp (disch := omega) only [bm32] at *) <;> omega))), by omega, by ((try (simp only [vp_in, Int32.toNatClampNeg, Int32.lt_iff_toInt_lt, Int32.le_iff_toInt_le, ← Int32.toInt_inj, Int32.toInt_add, Int32.toInt_sub, Int32.toInt_mul, Int32.reduceToInt, i32_neg1, Nat.reducePow, Int.reducePow, ne_eq, ge_iff_le, gt_iff_lt] at *)) <;> (first | omega | ((simp (disch := omega) only [bm32] at *) <;> omega))), by omega, by omega⟩
    obtain ⟨w, n, e, hwn, a1, a2, a3, a4⟩ := hw
    have hbne : b ≠ M.2.1 := by omega
    have hwc : w.toNatClampNeg = n := by ((try (simp only [vp_in, Int32.toNatClampNeg, Int32.lt_iff_toInt_lt, Int32.le_iff_toInt_le, ← Int32.toInt_inj, Int32.toInt_add, Int32.toInt_sub, Int32.toInt_mul, Int32.reduceToInt, i32_neg1, Nat.reducePow, Int.reducePow, ne_eq, ge_iff_le, gt_iff_lt] at *)) <;> (first | omega | ((simp (disch := omega) only [bm32] at *) <;> omega)))
    have hcc : (nI cap).toNatClampNeg = cap := by ((try (simp only [vp_in, Int32.toNatClampNeg, Int32.lt_iff_toInt_lt, Int32.le_iff_toInt_le, ← Int32.toInt_inj, Int32.toInt_add, Int32.toInt_sub, Int32.toInt_mul, Int32.reduceToInt, i32_neg1, Nat.reducePow, Int.reducePow, ne_eq, ge_iff_le, gt_iff_lt] at *)) <;> (first | omega | ((simp (disch := omega) only [bm32] at *) <;> omega)))
    have hne : ¬ w = nI (aL M b) := by rw [h3]; ((try (simp only [vp_in, Int32.toNatClampNeg, Int32.lt_iff_toInt_lt, Int32.le_iff_toInt_le, ← Int32.toInt_inj, Int32.toInt_add, Int32.toInt_sub, Int32.toInt_mul, Int32.reduceToInt, i32_neg1, Nat.reducePow, Int.reducePow, ne_eq, ge_iff_le, gt_iff_lt] at *)) <;> (first | omega | ((simp (disch := omega) only [bm32] at *) <;> omega)))
    have hcne : c ≠ M.2.1 := fun q => Nat.lt_irrefl _ (by have := h.ok.lt hM; rw [q] at this; exact this)
    have eL : aL (gnw M (1, .inl (cs 0, n, .inl (fun _ => 0))) n) b = cap := by rw [aL_cong (gnw_n hbne)]; exact h3
    have hCp : F_Ar_copyOf cs M (some b) w = (some M.2.1, gup (gnw M (1, .inl (cs 0, n, .inl (fun _ => 0))) n) M.2.1 (1, .inl (cs 0, n, .inl (va_cpy (aF M b) (fun _ => 0) 0 0 cap)))) := by
      unfold F_Ar_copyOf
      rw [if_neg (by simpa using hne)]
      simp only [mbind_eq, Option.getD_some, hwc]
      rw [eL, if_neg (by ((try (simp only [vp_in, Int32.toNatClampNeg, Int32.lt_iff_toInt_lt, Int32.le_iff_toInt_le, ← Int32.toInt_inj, Int32.toInt_add, Int32.toInt_sub, Int32.toInt_mul, Int32.reduceToInt, i32_neg1, Nat.reducePow, Int.reducePow, ne_eq, ge_iff_le, gt_iff_lt] at *)) <;> (first | omega | ((simp (disch := omega) only [bm32] at *) <;> omega))))]
      unfold aCp
      rw [(aI_of gnw_s).1, (aI_of gnw_s).2, aF_cong (gnw_n hbne), hcc]
      rfl
    generalize hM1 : gup (gnw M (1, .inl (cs 0, n, .inl (fun _ => 0))) n) M.2.1 (1, .inl (cs 0, n, .inl (va_cpy (aF M b) (fun _ => 0) 0 0 cap))) = M1 at hCp
    have m1a : ∀ a, a ≠ M.2.1 → M1.1 a = M.1 a := fun a ha => by rw [← hM1, gup_n ha, gnw_n ha]
    have m1n : M1.1 M.2.1 = some (1, .inl (cs 0, n, .inl (va_cpy (aF M b) (fun _ => 0) 0 0 cap))) := by rw [← hM1, gup_s]
    have m1s : M1.2 = (M.2.1 + 1, M.2.2 + n) := by rw [← hM1]; rfl
    have hc1 : cOk 2 M1 c := (cOk_cong (m1a c hcne)).mpr h.ok
    generalize hM2 : cP 2 M1 c 0 (va_rf (some M.2.1)) = M2
    have m2a : ∀ a, a ≠ c → M2.1 a = M1.1 a := fun a ha => by rw [← hM2]; unfold cP; rw [gup_n ha]
    have m2q : cQ M2 c 0 = some M.2.1 := by rw [← hM2]; exact cQ_put hc1 (by decide)
    have m2n : M2.1 M.2.1 = some (1, .inl (cs 0, n, .inl (va_cpy (aF M b) (fun _ => 0) 0 0 cap))) := by rw [m2a _ (Ne.symm hcne)]; exact m1n
    have hF : F_Ce_put cs M c x v = gup M2 M.2.1 (1, .inl (cs 0, n, .inl (upd (va_cpy (aF M b) (fun _ => 0) 0 0 cap) i v))) := by
      unfold F_Ce_put
      rw [if_neg (by ((try (simp only [vp_in, Int32.toNatClampNeg, Int32.lt_iff_toInt_lt, Int32.le_iff_toInt_le, ← Int32.toInt_inj, Int32.toInt_add, Int32.toInt_sub, Int32.toInt_mul, Int32.reduceToInt, i32_neg1, Nat.reducePow, Int.reducePow, ne_eq, ge_iff_le, gt_iff_lt] at *)) <;> (first | omega | ((simp (disch := omega) only [bm32] at *) <;> omega)))), if_pos (by ((try (simp only [vp_in, Int32.toNatClampNeg, Int32.lt_iff_toInt_lt, Int32.le_iff_toInt_le, ← Int32.toInt_inj, Int32.toInt_add, Int32.toInt_sub, Int32.toInt_mul, Int32.reduceToInt, i32_neg1, Nat.reducePow, Int.reducePow, ne_eq, ge_iff_le, gt_iff_lt] at *)) <;> (first | omega | ((simp (disch := omega) only [bm32] at *) <;> omega))))]
      simp only [h1, Option.getD_some, h3]
      rw [if_neg hc, mbind_eq, e, mbind_eq, hCp]
      dsimp only
      rw [hM2, m2q]
      unfold aPi
      rw [show x.toNatClampNeg = i by ((try (simp only [vp_in, Int32.toNatClampNeg, Int32.lt_iff_toInt_lt, Int32.le_iff_toInt_le, ← Int32.toInt_inj, Int32.toInt_add, Int32.toInt_sub, Int32.toInt_mul, Int32.reduceToInt, i32_neg1, Nat.reducePow, Int.reducePow, ne_eq, ge_iff_le, gt_iff_lt] at *)) <;> (first | omega | ((simp (disch := omega) only [bm32] at *) <;> omega)))]
      show gup M2 M.2.1 (1, Sum.inl (cs 0, aL M2 M.2.1, Sum.inl (upd (aF M2 M.2.1) i v))) = _
      rw [(aI_of m2n).1, (aI_of m2n).2]
    generalize hM3 : gup M2 M.2.1 (1, .inl (cs 0, n, .inl (upd (va_cpy (aF M b) (fun _ => 0) 0 0 cap) i v))) = M3 at hF
    have m3a : ∀ a, a ≠ M.2.1 → a ≠ c → M3.1 a = M.1 a := fun a ha hc => by rw [← hM3, gup_n ha, m2a a hc, m1a a ha]
    have m3c : cQ M3 c 0 = some M.2.1 := by rw [← hM3, cQ_ne hcne]; exact m2q
    have m3n : M3.1 M.2.1 = some (1, .inl (cs 0, n, .inl (upd (va_cpy (aF M b) (fun _ => 0) 0 0 cap) i v))) := by rw [← hM3, gup_s]
    have m3s : M3.2 = (M.2.1 + 1, M.2.2 + n) := by
      rw [← hM3, ← hM2]
      exact m1s
    rw [hF] at hE ⊢
    refine ⟨n, ⟨hE.xcOk h.ok, ⟨M.2.1, m3c, ⟨_, _, m3n⟩, (aI_of m3n).1, ?_, by rw [m3s]; exact Nat.lt_succ_self _, fun j hj => ?_⟩, fun j hj => ?_, by omega, a4⟩, hE, ?_, Or.inr ⟨a2, a1, hic, by rw [m3s], by rw [m3s]⟩⟩
    · intro a' ci' k' hk ha hq
      by_cases q1 : a' = c
      · subst q1
        have : ci' = 2 := ha.uniq (hE.xcOk h.ok)
        subst this
        refine ⟨rfl, ?_, rfl⟩
        simp [OWN] at hk
        exact hk
      · by_cases q2 : a' = M.2.1
        · subst q2
          exact absurd ⟨_, _, m3n⟩ ha.notI
        · have e1 := m3a a' q2 q1
          have := hB a' _ ci' k' hk ((cOk_cong e1).mp ha) (by rw [← cQ_cong e1]; exact hq)
          exact absurd this (Nat.lt_irrefl _)
    · rw [(aI_of m3n).2, upd_at, upd_at]
      by_cases hj2 : j = i
      · rw [if_pos hj2, if_pos hj2]
      · rw [if_neg hj2, if_neg hj2]
        unfold va_cpy
        by_cases hj3 : j < cap
        · rw [if_pos ⟨Nat.zero_le _, by omega⟩, show 0 + (j - 0) = j by omega]; exact h6 j hj3
        · rw [if_neg (by omega), h.zero j (by omega)]
    · rw [upd_at, if_neg (by omega)]; exact h.zero j (by omega)
    · intro c' g' k' hne h'
      obtain ⟨b', z1, z2, -, z4, z5, -⟩ := h'.ref
      have hb1 : b' ≠ M.2.1 := by omega
      have hb2 : b' ≠ c := fun q => h.ok.notI (by rw [← q]; exact z2)
      have hc' : c' ≠ M.2.1 := fun q => Nat.lt_irrefl _ (by have := h'.ok.lt hM; rw [q] at this; exact this)
      exact h'.other hne hE (cQ_cong (m3a c' hc' hne)) (fun d hd => by rw [z1] at hd; cases hd; exact aF_cong (m3a _ hb1 hb2))
end
section
/-! pure rows, the class: single bits -/
def Bit (w : Int32) (j : Nat) : Prop := w.toBitVec.getLsbD j = true
theorem tbv {x : Int32} {j : Nat} (h : x.toInt = j) (hj : j < 32) : x.toBitVec = BitVec.ofNat 32 j := by
  apply BitVec.eq_of_toInt_eq
  have : x.toBitVec.toInt = j := h
  rw [this]
  clear this h
  revert hj; revert j; decide
theorem and31 {j : Nat} (hj : j < 32) : (BitVec.ofNat 32 j &&& 31#32) = BitVec.ofNat 32 j := by
  revert hj; revert j; decide
theorem bit_read (w x : Int32) {j : Nat} (h : x.toInt = j) (hj : j < 32) : (((w.toUInt32 >>> (x.toUInt32 &&& Int32.toUInt32 31)).toInt32) &&& 1) = 1 ↔ Bit w j := by
  unfold Bit
  rw [← Int32.toBitVec_inj]
  have e : ((((w.toUInt32 >>> (x.toUInt32 &&& Int32.toUInt32 31)).toInt32) &&& 1) : Int32).toBitVec = (w.toBitVec >>> j) &&& 1#32 := by
    simp only [Int32.toBitVec_and]
    have : (w.toUInt32 >>> (x.toUInt32 &&& Int32.toUInt32 31)).toInt32.toBitVec = w.toBitVec >>> j := by
      show (w.toUInt32 >>> (x.toUInt32 &&& Int32.toUInt32 31)).toBitVec = _
      rw [UInt32.toBitVec_shiftRight, UInt32.toBitVec_and]
      show w.toBitVec >>> ((x.toBitVec &&& 31#32) % 32) = _
      rw [tbv h hj, and31 hj]
      have : (BitVec.ofNat 32 j % 32) = BitVec.ofNat 32 j := by
        apply BitVec.eq_of_toNat_eq
        simp
        omega
      rw [this]
      rw [BitVec.ushiftRight_eq', BitVec.toNat_ofNat, Nat.mod_eq_of_lt (by omega)]
    rw [this]
    rfl
  rw [e]
  constructor
  · intro z
    have := congrArg (fun b => b.getLsbD 0) z
    simpa using this
  · intro z
    ext i hi
    by_cases h0 : i = 0
    · subst h0; simp [z]
    · have : (1#32).getLsbD i = false := by simp [BitVec.getLsbD_one, h0]
      simp [h0]
theorem shl_bv (x : Int32) {j : Nat} (h : x.toInt = j) (hj : j < 32) : ((1 : Int32) <<< (x &&& 31)).toBitVec = 1#32 <<< j := by
  rw [Int32.toBitVec_shiftLeft, Int32.toBitVec_and]
  show (1#32) <<< ((x.toBitVec &&& 31#32).smod 32) = _
  rw [tbv h hj, and31 hj]
  have : (BitVec.ofNat 32 j).smod 32 = BitVec.ofNat 32 j := by
    revert hj; clear h; revert j; decide
  rw [this, BitVec.shiftLeft_eq', BitVec.toNat_ofNat, Nat.mod_eq_of_lt (by omega)]
theorem bit_or (w x : Int32) {j i : Nat} (h : x.toInt = j) (hj : j < 32) (hi : i < 32) : Bit (w ||| ((1 : Int32) <<< (x &&& 31))) i ↔ i = j ∨ Bit w i := by
  unfold Bit
  rw [Int32.toBitVec_or, shl_bv x h hj, BitVec.getLsbD_or, BitVec.getLsbD_shiftLeft, BitVec.getLsbD_one]
  simp only [Bool.or_eq_true, Bool.and_eq_true, decide_eq_true_eq, Bool.not_eq_true', decide_eq_false_iff_not]
  constructor
  · rintro (z | z)
    · exact Or.inr z
    · exact Or.inl (by omega)
  · rintro (z | z)
    · exact Or.inr ⟨⟨hi, by omega⟩, by decide, by omega⟩
    · exact Or.inl z
theorem bit_not (w x : Int32) {j i : Nat} (h : x.toInt = j) (hj : j < 32) (hi : i < 32) : Bit (w &&& (((1 : Int32) <<< (x &&& 31)) ^^^ (-1))) i ↔ i ≠ j ∧ Bit w i := by
  unfold Bit
  rw [Int32.toBitVec_and, Int32.toBitVec_xor, shl_bv x h hj, BitVec.getLsbD_and, BitVec.getLsbD_xor, BitVec.getLsbD_shiftLeft, BitVec.getLsbD_one]
  have : (-1 : Int32).toBitVec.getLsbD i = true := by revert hi; revert i; decide
  rw [this]
  simp only [Bool.and_eq_true, Bool.xor_true, Bool.not_eq_true', Bool.and_eq_false_iff, decide_eq_false_iff_not, Bool.not_eq_false', decide_eq_true_eq]
  constructor
  · rintro ⟨z1, z2⟩
    refine ⟨fun q => ?_, z1⟩
    subst q
    rcases z2 with (z | z) | z | z <;> omega
  · rintro ⟨z1, z2⟩
    refine ⟨z2, ?_⟩
    by_cases q : i < j
    · exact Or.inl (Or.inr q)
    · exact Or.inr (Or.inr (by omega))
end
