abbrev vwCl : List vw_C := [(RX0, TX0, 13), (RX1, TX1, 11), (RX2, TX2, 10), (RX3, TX3, 5), (RX4, TX4, 15), (RX5, TX5, 11), (RX6, TX6, 3), (RX7, TX7, 7), (RX8, TX8, 10), (RX9, TX9, 2), (RX10, TX10, 9)]
def nestM : List (String × Nat × MethodName × String) := [("QueryHarbor", 9, ⟨"QueryHarbor$Time", "<init>", "()V"⟩, "QueryHarbor"), ("QueryHarbor$Cache", 28, ⟨"QueryHarbor$Entry", "<init>", "()V"⟩, "QueryHarbor"), ("QueryHarbor$Entry", 11, ⟨"QueryHarbor$Rows", "<init>", "()V"⟩, "QueryHarbor"), ("QueryHarbor$Sources", 35, ⟨"QueryHarbor$Rows", "<init>", "()V"⟩, "QueryHarbor"), ("QueryHarbor", 43, ⟨"QueryHarbor$Draft", "<init>", "()V"⟩, "QueryHarbor"), ("QueryHarbor$Answer", 34, ⟨"QueryHarbor$Rows", "<init>", "()V"⟩, "QueryHarbor"), ("QueryHarbor$Bundle", 45, ⟨"QueryHarbor$Rows", "<init>", "()V"⟩, "QueryHarbor"), ("QueryHarbor$Sources", 40, ⟨"QueryHarbor", "storeOf", "(I)I"⟩, "QueryHarbor"), ("QueryHarbor$Sources", 89, ⟨"QueryHarbor", "isNumber", "(I)Z"⟩, "QueryHarbor"), ("QueryHarbor$Draft", 46, ⟨"QueryHarbor", "storeOf", "(I)I"⟩, "QueryHarbor"), ("QueryHarbor$Draft", 50, ⟨"QueryHarbor", "columnsIn", "(I)I"⟩, "QueryHarbor"), ("QueryHarbor$Draft", 66, ⟨"QueryHarbor", "canDo", "(III)Z"⟩, "QueryHarbor"), ("QueryHarbor$Entry", 52, ⟨"QueryHarbor", "follows", "(IIII)Z"⟩, "QueryHarbor"), ("QueryHarbor$Draft", 80, ⟨"QueryHarbor", "holdsFor", "(III)Z"⟩, "QueryHarbor"), ("QueryHarbor$Asker", 128, ⟨"QueryHarbor", "storeOf", "(I)I"⟩, "QueryHarbor"), ("QueryHarbor$Asker", 181, ⟨"QueryHarbor", "canDo", "(III)Z"⟩, "QueryHarbor"), ("QueryHarbor$Asker", 206, ⟨"QueryHarbor", "isNumber", "(I)Z"⟩, "QueryHarbor"), ("QueryHarbor$Cache", 75, ⟨"QueryHarbor", "storeOf", "(I)I"⟩, "QueryHarbor"), ("QueryHarbor$Answer", 110, ⟨"QueryHarbor", "isNumber", "(I)Z"⟩, "QueryHarbor"), ("QueryHarbor$Bundle", 58, ⟨"QueryHarbor", "storeOf", "(I)I"⟩, "QueryHarbor"), ("QueryHarbor$Bundle", 79, ⟨"QueryHarbor", "rowFits", "(IIIII)Z"⟩, "QueryHarbor"), ("QueryHarbor$Bundle", 95, ⟨"QueryHarbor", "columnsIn", "(I)I"⟩, "QueryHarbor"), ("QueryHarbor$Bundle", 98, ⟨"QueryHarbor", "isIn", "(III)Z"⟩, "QueryHarbor"), ("QueryHarbor$Bundle", 102, ⟨"QueryHarbor", "mayChangeTo", "(III)Z"⟩, "QueryHarbor")]
def nestF : List (String × Nat × String × String × String × String) := [("QueryHarbor$Asker", 194, "QueryHarbor", "FEES", "[I", "QueryHarbor"), ("QueryHarbor$Asker", 197, "QueryHarbor", "FREIGHTS", "[I", "QueryHarbor")]
/-! ===== the words, the good ones; the world: memories by the number of a cell ===== -/
def BIG : List Cond := lw_tbl.filter goodWord
theorem big_at (i : Nat) {w : Cond} (h : tables_1[i]? = some w) (hg : goodWord w = true) : w ∈ BIG := List.mem_filter.mpr ⟨List.mem_append_right _ (List.mem_of_getElem? h), hg⟩
theorem big_sel (i : Nat) {w : Cond} (h : (k2_sels lw_privs)[i]? = some w) (hg : goodWord w = true) : w ∈ BIG := List.mem_filter.mpr ⟨List.mem_append_left _ (List.mem_of_getElem? h), hg⟩
theorem big_good : GoodIn BIG BIG := fun _ hw => ⟨hw, good_of_word (List.mem_filter.mp hw).2⟩
theorem big_sub {ws : List Cond} (h : ∀ w ∈ ws, w ∈ BIG) : GoodIn BIG ws := fun w hw => big_good w (h w hw)
def wbig (y : MethodName) (cc : ByteArray) (n : Nat) (ret : Option FieldType) : List Cond := Cond.code y cc n ret :: BIG
theorem wbig_sub {y : MethodName} {cc : ByteArray} {n : Nat} {ret : Option FieldType} (h : Cond.code y cc n ret ∈ BIG) : ∀ w ∈ wbig y cc n ret, w ∈ BIG := fun w hw => (List.mem_cons.mp hw).elim (fun e => e ▸ h) id
abbrev XT : Type := va_G × (Nat → ClassId) × (Nat → Nat)
abbrev LT : Type := Nat × (XT → Nat → (Nat → Int32) → va_E)
def wl (L : LT) (X : XT) (M : Mem) : va_W := (List.range L.1).map (fun i => (X.2.2 i, L.2 X i (M i)))
theorem wl_at {L : LT} {X : XT} {M : Mem} {i : Nat} (h : i < L.1) : (wl L X M)[i]? = some (X.2.2 i, L.2 X i (M i)) := by simp [wl, h]
theorem wl_no {L : LT} {X : XT} {M : Mem} {i : Nat} {q : Nat × va_E} (h : (wl L X M)[i]? = some q) : i < L.1 ∧ q = (X.2.2 i, L.2 X i (M i)) := by
  by_cases hi : i < L.1
  · rw [wl_at hi] at h; exact ⟨hi, (Option.some.inj h).symm⟩
  · simp [wl, hi] at h
theorem wl_row {L : LT} {X : XT} {M : Mem} {i : Nat} {f : Nat → Int32} (h : i < L.1) : (wl L X M).set i (X.2.2 i, L.2 X i f) = wl L X (row M i f) := by
  apply List.ext_getElem?
  intro k
  by_cases hk : k < L.1
  · rw [wl_at hk, List.getElem?_set]
    by_cases e : i = k
    · subst e
      have hl : i < (wl L X M).length := by simp [wl, h]
      simp [hl, row_s]
    · simp only [e, if_false]
      rw [wl_at hk, row_n (fun z => e z.symm)]
  · have h1 : (wl L X (row M i f))[k]? = none := by simp [wl, hk]
    rw [h1]
    simp [wl, hk]
def AX (L : LT) (X : XT) (sz : Nat) : Nat → Prop := fun q => (∃ i, i < L.1 ∧ q = X.2.2 i) ∨ sz ≤ q
def inj (L : LT) (X : XT) : Prop := ∀ i j, i < L.1 → j < L.1 → X.2.2 i = X.2.2 j → i = j
theorem wl_D {L : LT} {X : XT} {M : Mem} {sz : Nat} (h : inj L X) : va_D (AX L X sz) (wl L X M) := by
  refine ⟨fun i j p q hp hq e => ?_, fun k q hq => ?_⟩
  · obtain ⟨hi, rfl⟩ := wl_no hp
    obtain ⟨hj, rfl⟩ := wl_no hq
    exact h i j hi hj e
  · obtain ⟨hi, rfl⟩ := wl_no hq
    exact Or.inl ⟨k, hi, rfl⟩
theorem AX_le {L : LT} {X : XT} {a b : Nat} (h : a ≤ b) : ∀ q, AX L X b q → AX L X a q := fun _ hq => hq.imp id (fun z => Nat.le_trans h z)
/-! what stays: nest words, and the two static tables -/
def PN (A : Nat → Prop) (U : State) : Prop := (∀ q ∈ nestM, va_Nw (.methodLinkNest q.1 q.2.1 q.2.2.1 q.2.2.2) U) ∧ (∀ q ∈ nestF, va_Nw (.fieldLinkNest q.1 q.2.1 q.2.2.1 q.2.2.2.1 q.2.2.2.2.1 q.2.2.2.2.2) U) ∧ ∃ zf zg : Nat, va_Z "QueryHarbor" "FEES" "[I" (.ref zf) A U U.heap ∧ va_T .int zf 3 (fun j => .int (fee j)) A U U.heap ∧ va_Z "QueryHarbor" "FREIGHTS" "[I" (.ref zg) A U U.heap ∧ va_T .int zg 3 (fun j => .int (freight j)) A U U.heap
theorem PN.to {A A' : Nat → Prop} {s U : State} {H : Heap} (h : PN A s) (hU : U.heap = H) (hW : s.WarmedH U.vm) (hk : ∀ q : Nat, q < s.heap.size → ¬ A q → H[q]? = s.heap[q]?) (hA : ∀ q, A' q → A q) : PN A' U := by
  obtain ⟨h1, h2, zf, zg, a1, a2, a3, a4⟩ := h
  subst hU
  exact ⟨fun q hq => (h1 q hq).warmM hW, fun q hq => (h2 q hq).warmF hW, zf, zg, ((a1.moved hW.alike).kept hk).narrow hA, ((a2.moved hW.alike).kept hk).narrow hA, ((a3.moved hW.alike).kept hk).narrow hA, ((a4.moved hW.alike).kept hk).narrow hA⟩
def tysX (X : XT) : List (ClassId × FieldType) := [(X.2.1 0, .int), (X.2.1 1, .boolean), (X.2.1 2, .object RX6), (X.2.1 3, .object RX5), (X.2.1 4, .long)]
def HW (L : LT) (X : XT) (M : Mem) (s : State) (H : Heap) (locs : List Loc) : Prop := va_P X.1 vwCl (wl L X M) H ∧ va_S (AX L X s.heap.size) s.heap H locs
def Cx (L : LT) (X : XT) (p : Program) (s : State) (m : MethodId) (args : Array Value) (c : Code) (cc : ByteArray) (own : String) (nl : Nat) : Prop :=
  p.tables.exec = Jvm.exec ∧ c.code = cc ∧ c.maxLocals = nl ∧ s.vm.findClass own = some m.cls ∧ (∀ w ∈ BIG, w.before args s = true) ∧ va_K X.1 vwCl (tysX X) s ∧ inj L X ∧ PN (AX L X s.heap.size) s
def PW (L : LT) (X : XT) (M : Mem) (sz : Nat) (U : State) : Prop := U.heap.size = sz ∧ va_P X.1 vwCl (wl L X M) U.heap ∧ va_K X.1 vwCl (tysX X) U ∧ inj L X ∧ PN (AX L X sz) U
abbrev QI (L : LT) (X : XT) (M : Mem) (v : Int32) (sz : Nat) : Array Value → State → Outcome → State → Prop := va_Qi (fun (r : Int32) (_ : Unit) => r = v) (fun _ t => va_P X.1 vwCl (wl L X M) t.heap) (AX L X sz)
abbrev QV (L : LT) (X : XT) (M : Mem) (sz : Nat) : Array Value → State → Outcome → State → Prop := va_Qv (fun (_ : Unit) => True) (fun _ t => va_P X.1 vwCl (wl L X M) t.heap) (AX L X sz)
abbrev QQ (L : LT) (X : XT) (M : Mem) (v : Option Nat) (sz : Nat) : Array Value → State → Outcome → State → Prop := va_Qq (fun (r : Option Nat) (_ : Unit) => r = v.map X.2.2) (fun _ t => va_P X.1 vwCl (wl L X M) t.heap) (AX L X sz)
section Wrows
variable {p : Program} {l : Launch} {e : Env} {R : Room} {s : State} {m : MethodId} {args : Array Value} {below : List Frame} {meth : Method} {c : Code} {H : Heap} {locs : List Loc} {cells slots : Nat} {Q : State → Prop}
variable {cc : ByteArray} {own : String} {nl : Nat} {L : LT} {X : XT} {M : Mem} {pc : Nat} {ls : Array Slot} {rest : List Value}
theorem Cx.hx (B : Cx L X p s m args c cc own nl) : p.tables.exec = Jvm.exec := B.1
theorem Cx.hb (B : Cx L X p s m args c cc own nl) : c.code = cc := B.2.1
theorem Cx.hml (B : Cx L X p s m args c cc own nl) : c.maxLocals = nl := B.2.2.1
theorem Cx.hown (B : Cx L X p s m args c cc own nl) : s.vm.findClass own = some m.cls := B.2.2.2.1
theorem Cx.hts (B : Cx L X p s m args c cc own nl) : ∀ w ∈ BIG, w.before args s = true := B.2.2.2.2.1
theorem Cx.hK (B : Cx L X p s m args c cc own nl) : va_K X.1 vwCl (tysX X) s := B.2.2.2.2.2.1
theorem Cx.hI (B : Cx L X p s m args c cc own nl) : inj L X := B.2.2.2.2.2.2.1
theorem Cx.hN (B : Cx L X p s m args c cc own nl) : PN (AX L X s.heap.size) s := B.2.2.2.2.2.2.2
/-- a method's walk gives its contract -/
theorem met_go {y : MethodName} {rm : Room} {sz : Nat} {As : List Value} {ret : Option FieldType} {Qc : Array Value → State → Outcome → State → Prop} {mc ms : Nat} (hy : plainName y.cls = true) (hl : (lg_sl As).length ≤ nl)
    (body : ∀ p e s m args below meth c, s.heap.size = sz → Cx L X p s m args c cc y.cls nl → meth.sig.returnType = ret → meth.locks = false → HW L X M s s.heap [] → ∀ ls : Array Slot, lv_has ls nl (lv_args 0 As) → W p l e rm s m args below meth c s.heap [] 0 0 (MQ below Qc args s mc ms (AX L X s.heap.size)) (F0 m 0 ls [])) : Met l y (wbig y cc nl ret) rm (va_Pc As (PW L X M sz)) Qc mc ms (AX L X sz) := by
  refine Met.ofW (cc := cc) (maxL := nl) (ret := ret) hy rfl ?_
  intro p e s m args below meth c s₁ B hml hv
  obtain ⟨rfl, hsz, hP, hK, hI, hN⟩ := hv
  have hts := atoms_spec (ws := wbig y cc nl ret) B.pre
  have hl := lv_entry As (n := nl) hl
  rw [lg_entry_eq]
  generalize (lg_sl As ++ List.replicate (nl - (lg_sl As).length) Slot.unset).toArray = ls at hl ⊢
  subst hsz
  exact body p e s m _ below meth c rfl ⟨B.exec, B.bytes, hml, findClass_of_methodNamed B.named, fun w hw => hts w (List.mem_cons_of_mem _ hw), hK, hI, hN⟩ B.returns B.notSynchronized ⟨hP, va_S.rf⟩ ls hl
theorem q_get (B : Cx L X p s m args c cc own nl) (hw : HW L X M s H locs) {i k ci N index : Nat} {C : String} {T : u_T} {fs : List Value} {v : Value} (hi : i < L.1) (he : L.2 X i (M i) = .inr (ci, fs)) (hc : vwCl[ci]? = some (C, T, N)) (hin : ∀ w ∈ u_ws C T N, w ∈ BIG) (hk : k < N) (hlink : Cond.fieldLink own index (T k).1 (T k).2.1 (T k).2.2.1 ∈ BIG) (hv : fs[k]? = some v) (hdg : decode cc pc = .ok (.getfield index, 3))
    (kk : W p l e R s m args below meth c H locs cells slots Q (F0 m (pc + 3) ls (v :: rest))) : W p l e R s m args below meth c H locs cells slots Q (F0 m pc ls (.ref (X.2.2 i) :: rest)) :=
  va_get B.hx B.hb B.hts hin B.hown B.hK hw.1 i (by rw [wl_at hi, he]) hc k hk (B.hts _ hlink) (fun _ h9 => h9) hv hdg kk
theorem q_put (B : Cx L X p s m args c cc own nl) (hw : HW L X M s H locs) {i k ci N index : Nat} {C : String} {T : u_T} {fs : List Value} {x : Int32} (f' : Nat → Int32) (hi : i < L.1) (he : L.2 X i (M i) = .inr (ci, fs)) (hs : L.2 X i f' = .inr (ci, fs.set k (.int x))) (hc : vwCl[ci]? = some (C, T, N)) (hin : ∀ w ∈ u_ws C T N, w ∈ BIG) (ty0 : Nat → FieldType) (hty : ∀ k, k < N → parseFieldDescriptor (T k).2.2.1 = some (ty0 k)) (hnm : ∀ a, a < N → ∀ b, b < N → a ≠ b → (T a).2.1 ≠ (T b).2.1) (hk : k < N) (hlink : Cond.fieldLink own index (T k).1 (T k).2.1 (T k).2.2.1 ∈ BIG) (hfin : (T k).2.2.2 = false) {ty : FieldType} (hd : parseFieldDescriptor (T k).2.2.1 = some ty) (hn : narrow ty (.int x) = .int x) (hfit : fits ty (.int x) = true) (hl : k < fs.length) (hdg : decode cc pc = .ok (.putfield index, 3))
    (kk : ∀ H locs, HW L X (row M i f') s H locs → W p l e R s m args below meth c H locs cells slots Q (F0 m (pc + 3) ls rest)) : W p l e R s m args below meth c H locs cells slots Q (F0 m pc ls (.int x :: .ref (X.2.2 i) :: rest)) :=
  va_put B.hx B.hb B.hts hin ty0 hty hnm B.hown B.hK hw.1 (wl_D B.hI) hw.2 i (by rw [wl_at hi, he]) hc k hk (B.hts _ hlink) (fun _ h9 => h9) hfin hd hn hfit hl hdg (fun H1 locs1 hP _ hS => kk H1 locs1 ⟨by rw [← hs, wl_row hi] at hP; exact hP, hS⟩)
theorem inb_in {x : Int32} {n : Nat} (h : inb x n = true) : vp_in x n := by
  simp only [inb, Bool.and_eq_true, decide_eq_true_eq] at h
  exact fun q => q.elim (fun z => absurd h.1 (Int32.not_le.mpr z)) (fun z => by omega)
theorem q_iald (B : Cx L X p s m args c cc own nl) (hw : HW L X M s H locs) {i n : Nat} {x : Int32} (hi : i < L.1) (he : L.2 X i (M i) = .inl (X.2.1 0, n, .inl (M i))) (hin : inb x n = true) (hdg : decode cc pc = .ok (.iaload, 1))
    (kk : W p l e R s m args below meth c H locs cells slots Q (F0 m (pc + 1) ls (.int (M i x.toNatClampNeg) :: rest))) : W p l e R s m args below meth c H locs cells slots Q (F0 m pc ls (.int x :: .ref (X.2.2 i) :: rest)) :=
  va_iald B.hx B.hb B.hK hw.1 i 0 (by rw [wl_at hi, he]) rfl (inb_in hin) hdg kk
theorem q_zald (B : Cx L X p s m args c cc own nl) (hw : HW L X M s H locs) {i n : Nat} {x : Int32} (hi : i < L.1) (he : L.2 X i (M i) = .inl (X.2.1 1, n, .inl (M i))) (hin : inb x n = true) (hdg : decode cc pc = .ok (.baload, 1))
    (kk : W p l e R s m args below meth c H locs cells slots Q (F0 m (pc + 1) ls (.int (M i x.toNatClampNeg) :: rest))) : W p l e R s m args below meth c H locs cells slots Q (F0 m pc ls (.int x :: .ref (X.2.2 i) :: rest)) :=
  va_zald B.hx B.hb B.hK hw.1 i 1 (by rw [wl_at hi, he]) rfl (inb_in hin) hdg kk
theorem q_iast (B : Cx L X p s m args c cc own nl) (hw : HW L X M s H locs) {i n : Nat} {x v : Int32} (hi : i < L.1) (he : ∀ f, L.2 X i f = .inl (X.2.1 0, n, .inl f)) (hin : inb x n = true) (hdg : decode cc pc = .ok (.iastore, 1)) {α : Type} {k : Mem → Option α} {rs : α} (hf : nm (up M i x.toNatClampNeg v) k = some rs)
    (kk : ∀ M' H locs, HW L X M' s H locs → k M' = some rs → W p l e R s m args below meth c H locs cells slots Q (F0 m (pc + 1) ls rest)) : W p l e R s m args below meth c H locs cells slots Q (F0 m pc ls (.int v :: .int x :: .ref (X.2.2 i) :: rest)) :=
  va_iast B.hx B.hb B.hK hw.1 (wl_D B.hI) hw.2 i 0 (f := M i) (by rw [wl_at hi, he]) rfl (inb_in hin) hdg (fun H1 locs1 hP _ hS => kk _ H1 locs1 ⟨by rw [← he, wl_row hi] at hP; exact hP, hS⟩ hf)
theorem vn_z {x : Int32} (h : isb x = true) : vp_nar .boolean x = x := by
  simp only [isb, Bool.or_eq_true, decide_eq_true_eq] at h
  rcases h with rfl | rfl <;> rfl
theorem q_zast (B : Cx L X p s m args c cc own nl) (hw : HW L X M s H locs) {i n : Nat} {x v : Int32} (hi : i < L.1) (he : ∀ f, L.2 X i f = .inl (X.2.1 1, n, .inl f)) (hin : inb x n = true) (hz : isb v = true) (hdg : decode cc pc = .ok (.bastore, 1)) {α : Type} {k : Mem → Option α} {rs : α} (hf : nm (up M i x.toNatClampNeg v) k = some rs)
    (kk : ∀ M' H locs, HW L X M' s H locs → k M' = some rs → W p l e R s m args below meth c H locs cells slots Q (F0 m (pc + 1) ls rest)) : W p l e R s m args below meth c H locs cells slots Q (F0 m pc ls (.int v :: .int x :: .ref (X.2.2 i) :: rest)) :=
  va_zast B.hx B.hb B.hK hw.1 (wl_D B.hI) hw.2 i 1 (f := M i) (by rw [wl_at hi, he]) rfl (inb_in hin) hdg (fun H1 locs1 hP _ hS => kk _ H1 locs1 ⟨by rw [vn_z hz, ← he, wl_row hi] at hP; exact hP, hS⟩ hf)
theorem q_aldq (B : Cx L X p s m args c cc own nl) (hw : HW L X M s H locs) {i n t : Nat} {C : String} {x : Int32} {f : Nat → Option Nat} {cA : ClassId} (hi : i < L.1) (he : L.2 X i (M i) = .inl (cA, n, .inr (.inr (.inr (.inr f))))) (ht : (tysX X)[t]? = some (cA, .object C)) (hin : inb x n = true) {v : Value} (hv : va_rf (f x.toNatClampNeg) = v) (hdg : decode cc pc = .ok (.aaload, 1))
    (kk : W p l e R s m args below meth c H locs cells slots Q (F0 m (pc + 1) ls (v :: rest))) : W p l e R s m args below meth c H locs cells slots Q (F0 m pc ls (.int x :: .ref (X.2.2 i) :: rest)) := by
  subst hv
  exact va_aldq B.hx B.hb B.hK hw.1 i t (by rw [wl_at hi, he]) ht (inb_in hin) hdg kk
/-- the world for a callee -/
theorem PW_of (B : Cx L X p s m args c cc own nl) (hw : HW L X M s H locs) {U : State} (hU : U.heap = H) (hW : s.WarmedH U.vm) : PW L X M H.size U := by
  have h1 := hw.2
  exact ⟨by rw [hU], by rw [hU]; exact hw.1, va_K.moved hW.alike B.hK, B.hI, B.hN.to hU hW h1.2.1 (AX_le h1.1)⟩
theorem PW_blind {sz : Nat} {As : List Value} : FrameBlind (va_Pc As (PW L X M sz)) := fun a U g mk q => by
  obtain ⟨q0, q1, qP, qK, qI, q2, q3, zf, zg, a1, a2, a3, a4⟩ := q
  have hv : U.vm.Alike (U.calling g mk a).vm := Vm.Alike.refl U.vm
  exact ⟨q0, q1, qP, va_K.moved hv qK, qI, fun q hq => va_Nw.same rfl rfl (q2 q hq), fun q hq => va_Nw.same rfl rfl (q3 q hq), zf, zg, a1.moved hv, a2.moved hv, a3.moved hv, a4.moved hv⟩
theorem AX_fr (hw : HW L X M s H locs) : ∀ q, AX L X H.size q → AX L X s.heap.size q := AX_le hw.2.1
/-- calls of methods that neither make cells nor throw: the words -/
def CVm (R : Room) (own : String) (index : Nat) (y : MethodName) (bytes : ByteArray) (maxL : Nat) (ret : Option FieldType) (rm : Room) (n : Nat) : Prop :=
  Cond.methodLink own index y ∈ BIG ∧ Cond.instanceMethod y ∈ BIG ∧ Cond.selects y.cls y y ∈ BIG ∧ Cond.initialized y.cls ∈ BIG ∧ Cond.code y bytes maxL ret ∈ BIG ∧ (y.cls ≠ "java/lang/invoke/MethodHandle" ∧ y.cls ≠ "java/lang/invoke/VarHandle" ∧ (parseMethodDescriptor y.desc).map (fun d => d.parameters.length) = some n)
theorem cv_w {R : Room} {index maxL n : Nat} {y : MethodName} {bytes : ByteArray} {ret : Option FieldType} {rm : Room} (B : Cx L X p s m args c cc own nl) (h : CVm R own index y bytes maxL ret rm n) (hc : rm.cells = 0) (hs : rm.slots = 0) (hR : rm.frames + 1 ≤ R.frames ∧ 8 + (maxL + 11) + rm.locals ≤ R.locals) : CallW R s args own y.cls index y bytes maxL ret (wbig y bytes maxL ret) rm 0 0 n := by
  obtain ⟨h1, h2, h3, h4, h5, h6⟩ := h
  refine cwV n B.hts (big_sub ?_) rfl hc hs ⟨rfl, h6⟩ hR
  intro w hw
  simp only [wsV, wbig, List.cons_append, List.nil_append, List.mem_cons] at hw
  rcases hw with rfl | rfl | rfl | rfl | rfl | hw
  · exact h1
  · exact h2
  · exact h3
  · exact h4
  · exact h5
  · exact hw
def CS (R : Room) (own : String) (index : Nat) (y : MethodName) (bytes : ByteArray) (maxL : Nat) (ret : Option FieldType) (rm : Room) (n : Nat) : Prop :=
  Cond.methodLink own index y ∈ BIG ∧ Cond.static y ∈ BIG ∧ Cond.initialized y.cls ∈ BIG ∧ Cond.code y bytes maxL ret ∈ BIG ∧ (y.cls ≠ "java/lang/invoke/MethodHandle" ∧ y.cls ≠ "java/lang/invoke/VarHandle" ∧ (parseMethodDescriptor y.desc).map (fun d => d.parameters.length) = some n)
theorem cs_w {R : Room} {index maxL n : Nat} {y : MethodName} {bytes : ByteArray} {ret : Option FieldType} {rm : Room} (B : Cx L X p s m args c cc own nl) (h : CS R own index y bytes maxL ret rm n) (hc : rm.cells = 0) (hs : rm.slots = 0) (hR : rm.frames + 1 ≤ R.frames ∧ 8 + (maxL + 11) + rm.locals ≤ R.locals) : CallB R s args own index y bytes maxL ret (wbig y bytes maxL ret) rm 0 0 n ∧ (Cond.static y).before args s = true := by
  obtain ⟨h1, h2, h4, h5, h6⟩ := h
  refine va_cwS n B.hts (big_sub ?_) rfl hc hs h6 hR
  intro w hw
  simp only [va_wsS, wbig, List.cons_append, List.nil_append, List.mem_cons] at hw
  rcases hw with rfl | rfl | rfl | rfl | hw
  · exact h1
  · exact h2
  · exact h4
  · exact h5
  · exact hw
def CN (R : Room) (own : String) (index : Nat) (y : MethodName) (host : String) (bytes : ByteArray) (maxL : Nat) (ret : Option FieldType) (rm : Room) (n : Nat) : Prop :=
  (own, index, y, host) ∈ nestM ∧ Cond.static y ∈ BIG ∧ Cond.initialized y.cls ∈ BIG ∧ Cond.code y bytes maxL ret ∈ BIG ∧ (y.cls ≠ "java/lang/invoke/MethodHandle" ∧ y.cls ≠ "java/lang/invoke/VarHandle" ∧ (parseMethodDescriptor y.desc).map (fun d => d.parameters.length) = some n)
theorem cn_w {R : Room} {index maxL n : Nat} {y : MethodName} {host : String} {bytes : ByteArray} {ret : Option FieldType} {rm : Room} (B : Cx L X p s m args c cc own nl) (h : CN R own index y host bytes maxL ret rm n) (hc : rm.cells = 0) (hs : rm.slots = 0) (hR : rm.frames + 1 ≤ R.frames ∧ 8 + (maxL + 11) + rm.locals ≤ R.locals) : va_CN R s args own index y host bytes maxL ret (wbig y bytes maxL ret) rm 0 0 n ∧ (Cond.static y).before args s = true ∧ True := by
  obtain ⟨h1, h2, h4, h5, h6⟩ := h
  exact ⟨va_cnB n B.hts (big_sub (wbig_sub h5)) rfl hc hs (B.hN.1 _ h1) (B.hts _ h4) h6 hR, B.hts _ h2, trivial⟩
section Calls
variable {y : MethodName} {bytes : ByteArray} {maxL n index : Nat} {ret : Option FieldType} {rm : Room} {i : Nat} {As : List Value} {M' : Mem} {host : String}
theorem q_recv (B : Cx L X p s m args c cc own nl) (hw : HW L X M s H locs) {ci N : Nat} {C : String} {T : u_T} {fs : List Value} (hi : i < L.1) (he : L.2 X i (M i) = .inr (ci, fs)) (hc : vwCl[ci]? = some (C, T, N)) : ∃ cell : Cell, H[X.2.2 i]? = some cell ∧ cell.vm.isStatics = false ∧ s.vm.findClass C = some cell.cls := va_recv B.hK hw.1 hc (q0 := i) (by rw [wl_at hi, he])
variable (B : Cx L X p s m args c cc own nl) (hw : HW L X M s H locs)
theorem q_callVi {v : Int32} (B : Cx L X p s m args c cc own nl) (hw : HW L X M s H locs) (hM : Met l y (wbig y bytes maxL ret) rm (va_Pc (.ref (X.2.2 i) :: As) (PW L X M H.size)) (QI L X M' v H.size) 0 0 (AX L X H.size)) (hcv : CVm R own index y bytes maxL ret rm n) (hrv : ∃ cell : Cell, H[X.2.2 i]? = some cell ∧ cell.vm.isStatics = false ∧ s.vm.findClass y.cls = some cell.cls) (hn : As.length = n) (hls : ls.size = nl) (hc : rm.cells = 0) (hs : rm.slots = 0) (hR : rm.frames + 1 ≤ R.frames ∧ 8 + (maxL + 11) + rm.locals ≤ R.locals) (hW : (rest.map fun v => v.category).sum ≤ 8) (hf : cells ≤ R.cells ∧ slots ≤ R.slots) (hdg : decode cc pc = .ok (.invokevirtual index, 3)) {st : List Value} (hst : st = As.reverse ++ .ref (X.2.2 i) :: rest)
    (kk : ∀ H locs, HW L X M' s H locs → W p l e R s m args below meth c H locs cells slots Q (F0 m (pc + 3) ls (.int v :: rest))) : W p l e R s m args below meth c H locs cells slots Q (F0 m pc ls st) := by
  subst hst
  refine va_calli (va_runV (As := As) (rest := rest) ⟨B.hx, B.hb, B.hml, B.hown, B.hts⟩ hM (cv_w B hcv hc hs hR) ⟨PW_blind, hrv, fun U hU hW => ⟨rfl, PW_of B hw hU hW⟩⟩ rfl hn hls rfl (lv_room hW) hdg ⟨hf.1, hf.2⟩) hw.2 (fun q _ h => AX_fr hw q h) (AX_fr hw) (fun r u t H1 locs1 ht hvm hwv hB hz1 hk1 hS => ?_)
  subst hwv
  rw [ht] at hB
  exact kk H1 locs1 ⟨hB, hS⟩
theorem q_callVv (B : Cx L X p s m args c cc own nl) (hw : HW L X M s H locs) (hM : Met l y (wbig y bytes maxL ret) rm (va_Pc (.ref (X.2.2 i) :: As) (PW L X M H.size)) (QV L X M' H.size) 0 0 (AX L X H.size)) (hcv : CVm R own index y bytes maxL ret rm n) (hrv : ∃ cell : Cell, H[X.2.2 i]? = some cell ∧ cell.vm.isStatics = false ∧ s.vm.findClass y.cls = some cell.cls) (hn : As.length = n) (hls : ls.size = nl) (hc : rm.cells = 0) (hs : rm.slots = 0) (hR : rm.frames + 1 ≤ R.frames ∧ 8 + (maxL + 11) + rm.locals ≤ R.locals) (hW : (rest.map fun v => v.category).sum ≤ 8) (hf : cells ≤ R.cells ∧ slots ≤ R.slots) (hdg : decode cc pc = .ok (.invokevirtual index, 3)) {st : List Value} (hst : st = As.reverse ++ .ref (X.2.2 i) :: rest)
    (kk : ∀ H locs, HW L X M' s H locs → W p l e R s m args below meth c H locs cells slots Q (F0 m (pc + 3) ls rest)) : W p l e R s m args below meth c H locs cells slots Q (F0 m pc ls st) := by
  subst hst
  refine va_callv (va_runV (As := As) (rest := rest) ⟨B.hx, B.hb, B.hml, B.hown, B.hts⟩ hM (cv_w B hcv hc hs hR) ⟨PW_blind, hrv, fun U hU hW => ⟨rfl, PW_of B hw hU hW⟩⟩ rfl hn hls rfl (lv_room hW) hdg ⟨hf.1, hf.2⟩) hw.2 (fun q _ h => AX_fr hw q h) (AX_fr hw) (fun u t H1 locs1 ht hvm hwv hB hz1 hk1 hS => ?_)
  rw [ht] at hB
  exact kk H1 locs1 ⟨hB, hS⟩
theorem q_callSi {v : Int32} (B : Cx L X p s m args c cc own nl) (hw : HW L X M s H locs) (hM : Met l y (wbig y bytes maxL ret) rm (va_Pc As (PW L X M H.size)) (QI L X M' v H.size) 0 0 (AX L X H.size)) (hcv : CS R own index y bytes maxL ret rm n) (hn : As.length = n) (hls : ls.size = nl) (hc : rm.cells = 0) (hs : rm.slots = 0) (hR : rm.frames + 1 ≤ R.frames ∧ 8 + (maxL + 11) + rm.locals ≤ R.locals) (hW : (rest.map fun v => v.category).sum ≤ 8) (hf : cells ≤ R.cells ∧ slots ≤ R.slots) (hdg : decode cc pc = .ok (.invokestatic index, 3)) {st : List Value} (hst : st = As.reverse ++ rest)
    (kk : ∀ H locs, HW L X M' s H locs → W p l e R s m args below meth c H locs cells slots Q (F0 m (pc + 3) ls (.int v :: rest))) : W p l e R s m args below meth c H locs cells slots Q (F0 m pc ls st) := by
  subst hst
  refine va_calli (va_runS (As := As) (rest := rest) ⟨B.hx, B.hb, B.hml, B.hown, B.hts⟩ hM (cs_w B hcv hc hs hR) ⟨PW_blind, fun U hU hW => ⟨rfl, PW_of B hw hU hW⟩⟩ rfl hn hls rfl (lv_room hW) hdg ⟨hf.1, hf.2⟩) hw.2 (fun q _ h => AX_fr hw q h) (AX_fr hw) (fun r u t H1 locs1 ht hvm hwv hB hz1 hk1 hS => ?_)
  subst hwv
  rw [ht] at hB
  exact kk H1 locs1 ⟨hB, hS⟩
theorem q_callNi {v : Int32} (B : Cx L X p s m args c cc own nl) (hw : HW L X M s H locs) (hM : Met l y (wbig y bytes maxL ret) rm (va_Pc As (PW L X M H.size)) (QI L X M' v H.size) 0 0 (AX L X H.size)) (hcv : CN R own index y host bytes maxL ret rm n) (hn : As.length = n) (hls : ls.size = nl) (hc : rm.cells = 0) (hs : rm.slots = 0) (hR : rm.frames + 1 ≤ R.frames ∧ 8 + (maxL + 11) + rm.locals ≤ R.locals) (hW : (rest.map fun v => v.category).sum ≤ 8) (hf : cells ≤ R.cells ∧ slots ≤ R.slots) (hdg : decode cc pc = .ok (.invokestatic index, 3)) {st : List Value} (hst : st = As.reverse ++ rest)
    (kk : ∀ H locs, HW L X M' s H locs → W p l e R s m args below meth c H locs cells slots Q (F0 m (pc + 3) ls (.int v :: rest))) : W p l e R s m args below meth c H locs cells slots Q (F0 m pc ls st) := by
  subst hst
  refine va_calli (va_runSN (As := As) (rest := rest) ⟨B.hx, B.hb, B.hml, B.hown, B.hts⟩ hM (cn_w B hcv hc hs hR) ⟨PW_blind, fun U hU hW => ⟨rfl, PW_of B hw hU hW⟩⟩ rfl hn hls rfl (lv_room hW) hdg ⟨hf.1, hf.2⟩) hw.2 (fun q _ h => AX_fr hw q h) (AX_fr hw) (fun r u t H1 locs1 ht hvm hwv hB hz1 hk1 hS => ?_)
  subst hwv
  rw [ht] at hB
  exact kk H1 locs1 ⟨hB, hS⟩
end Calls
theorem HW.F (hw : HW L X M s H locs) {t : State} (ht : t.heap = H) : va_F (AX L X s.heap.size) s t := hw.2.F ht
theorem q_iret {v v' : Int32} {M' : Mem} (B : Cx L X p s m args c cc own nl) (hr : meth.sig.returnType = some .int) (hlk : meth.locks = false) (hw : HW L X M s H locs) (hv : v' = v) (hM : M' = M) (hdg : decode cc pc = .ok (.ireturn, 1)) : W p l e R s m args below meth c H locs cells slots (MQ below (QI L X M' v' s.heap.size) args s cells slots (AX L X s.heap.size)) (F0 m pc ls [.int v]) := by
  subst hv; subst hM
  exact W.iret B.hx B.hb hr (fun t ht hW => ⟨⟨v', (), rfl, rfl, by dsimp only; rw [ht]; exact hw.1⟩, hw.F ht⟩) hw.2.2.2 hdg hlk
theorem q_zret {v v' : Int32} {M' : Mem} (B : Cx L X p s m args c cc own nl) (hr : meth.sig.returnType = some .boolean) (hlk : meth.locks = false) (hz : isb v = true) (hw : HW L X M s H locs) (hv : v' = v) (hM : M' = M) (hdg : decode cc pc = .ok (.ireturn, 1)) : W p l e R s m args below meth c H locs cells slots (MQ below (QI L X M' v' s.heap.size) args s cells slots (AX L X s.heap.size)) (F0 m pc ls [.int v]) := by
  subst hv; subst hM
  have hz' : v' = 0 ∨ v' = 1 := by simpa [isb] using hz
  exact W.zret B.hx B.hb hr (by rcases hz' with rfl | rfl <;> rfl) (fun t ht hW => ⟨⟨v', (), rfl, rfl, by dsimp only; rw [ht]; exact hw.1⟩, hw.F ht⟩) hw.2.2.2 hdg hlk
theorem q_vret {M' : Mem} (B : Cx L X p s m args c cc own nl) (hr : meth.sig.returnType = none) (hlk : meth.locks = false) (hw : HW L X M s H locs) (hM : M' = M) (hdg : decode cc pc = .ok (.return_, 1)) : W p l e R s m args below meth c H locs cells slots (MQ below (QV L X M' s.heap.size) args s cells slots (AX L X s.heap.size)) (F0 m pc ls []) := by
  subst hM
  exact W.vret B.hx B.hb hr (fun t ht hW => ⟨⟨(), rfl, trivial, by dsimp only; rw [ht]; exact hw.1⟩, hw.F ht⟩) hw.2.2.2 hdg hlk
theorem r_topi {x : Int32} {α : Type} {k : Int32 → Option α} {rs : α} (hf : nm x k = some rs) (kk : ∀ y, k y = some rs → W p l e R s m args below meth c H locs cells slots Q (F0 m pc ls (.int y :: rest))) : W p l e R s m args below meth c H locs cells slots Q (F0 m pc ls (.int x :: rest)) := kk x hf
end Wrows
/-! ===== the layouts: which cell has which number ===== -/
def cC (X : XT) (i : Nat) (f : Nat → Int32) : va_E :=
  if (kC i).1 = 0 then .inr (0, [.ref (X.2.2 (i + 5)), .ref (X.2.2 (i + 1)), .ref (X.2.2 (i + 2)), .ref (X.2.2 (i + 3)), .ref (X.2.2 (i + 4)), .int (f 5), .int (f 6), .int (f 7), .int (f 8), .int (f 9), .int (f 10), .int (f 11), .int (f 12)]) else
  if (kC i).1 = 1 then .inr (1, [.ref (X.2.2 48), .ref (X.2.2 57), .ref (X.2.2 2), .ref (X.2.2 80), .ref (X.2.2 90), .ref (X.2.2 121), .int (f 6), .int (f 7), .int (f 8), .int (f 9), .int (f 10)]) else
  if (kC i).1 = 2 then .inr (2, [.ref (X.2.2 48), .ref (X.2.2 57), .ref (X.2.2 123), .ref (X.2.2 124), .ref (X.2.2 125), .ref (X.2.2 126), .ref (X.2.2 127), .ref (X.2.2 128), .ref (X.2.2 129), .int (f 9)]) else
  if (kC i).1 = 3 then .inr (3, [.ref (X.2.2 1), .ref (X.2.2 3), .ref (X.2.2 4), .ref (X.2.2 5), .int (f 4)]) else
  if (kC i).1 = 4 then .inr (4, [.ref (X.2.2 81), .ref (X.2.2 82), .ref (X.2.2 83), .ref (X.2.2 84), .ref (X.2.2 85), .ref (X.2.2 86), .ref (X.2.2 87), .ref (X.2.2 88), .ref (X.2.2 89), .int (f 9), .int (f 10), .int (f 11), .int (f 12), .int (f 13), .int (f 14)]) else
  if (kC i).1 = 5 then .inr (5, [.ref (X.2.2 (i + 1)), .ref (X.2.2 (i + 4)), .ref (X.2.2 (i + 5)), .ref (X.2.2 (i + 6)), .int (f 4), .int (f 5), .int (f 6), .int (f 7), .int (f 8), .int (f 9), .int (f 10)]) else
  if (kC i).1 = 6 then .inr (6, [.ref (X.2.2 (i + 1)), .ref (X.2.2 (i + 2)), .int (f 2)]) else
  if (kC i).1 = 7 then .inr (7, [.ref (X.2.2 1), .ref (X.2.2 2), .ref (X.2.2 61), .ref (X.2.2 58), .ref (X.2.2 59), .ref (X.2.2 60), .int (f 6)]) else
  if (kC i).1 = 8 then .inr (8, [.ref (X.2.2 1), .ref (X.2.2 2), .ref (X.2.2 49), .ref (X.2.2 50), .ref (X.2.2 51), .ref (X.2.2 52), .ref (X.2.2 53), .ref (X.2.2 54), .ref (X.2.2 55), .ref (X.2.2 56)]) else
  if (kC i).1 = 9 then .inr (9, [.int (f 0), .int (f 1)]) else
  if (kC i).1 = 10 then .inr (10, [.ref (X.2.2 1), .ref (X.2.2 2), .ref (X.2.2 48), .ref (X.2.2 57), .ref (X.2.2 80), .ref (X.2.2 90), .ref (X.2.2 105), .ref (X.2.2 120), .ref (X.2.2 122)]) else
  if (kC i).1 = 20 then .inl (X.2.1 0, (kC i).2, .inl f) else
  if (kC i).1 = 21 then .inl (X.2.1 1, (kC i).2, .inl f) else
  if (kC i).1 = 22 then .inl (X.2.1 2, (kC i).2, .inr (.inr (.inr (.inr (fun j => some (X.2.2 (i + 1 + 3 * j))))))) else
  if (kC i).1 = 23 then .inl (X.2.1 3, (kC i).2, .inr (.inr (.inr (.inr (fun j => some (X.2.2 (f j).toNatClampNeg)))))) else .inr (99, [])
abbrev LC : LT := (142, cC)
theorem kC_lt {i a b : Nat} (h : kC i = (a, b)) (ha : a ≠ 99) : i < 142 := by
  by_cases hi : i < 142
  · exact hi
  · have : kC i = (99, 0) := by unfold kC; rw [List.getD_eq_getElem?_getD, List.getElem?_eq_none (by have : kcl.length = 142 := rfl; omega)]; rfl
    rw [this] at h; cases h; exact absurd rfl ha
theorem cC_0 {X : XT} {i : Nat} (h : kC i = (0, 0)) (f : Nat → Int32) : cC X i f = .inr (0, [.ref (X.2.2 (i + 5)), .ref (X.2.2 (i + 1)), .ref (X.2.2 (i + 2)), .ref (X.2.2 (i + 3)), .ref (X.2.2 (i + 4)), .int (f 5), .int (f 6), .int (f 7), .int (f 8), .int (f 9), .int (f 10), .int (f 11), .int (f 12)]) := by unfold cC; rw [h]; rfl
theorem cC_1 {X : XT} {i : Nat} (h : kC i = (1, 0)) (f : Nat → Int32) : cC X i f = .inr (1, [.ref (X.2.2 48), .ref (X.2.2 57), .ref (X.2.2 2), .ref (X.2.2 80), .ref (X.2.2 90), .ref (X.2.2 121), .int (f 6), .int (f 7), .int (f 8), .int (f 9), .int (f 10)]) := by unfold cC; rw [h]; rfl
theorem cC_2 {X : XT} {i : Nat} (h : kC i = (2, 0)) (f : Nat → Int32) : cC X i f = .inr (2, [.ref (X.2.2 48), .ref (X.2.2 57), .ref (X.2.2 123), .ref (X.2.2 124), .ref (X.2.2 125), .ref (X.2.2 126), .ref (X.2.2 127), .ref (X.2.2 128), .ref (X.2.2 129), .int (f 9)]) := by unfold cC; rw [h]; rfl
theorem cC_3 {X : XT} {i : Nat} (h : kC i = (3, 0)) (f : Nat → Int32) : cC X i f = .inr (3, [.ref (X.2.2 1), .ref (X.2.2 3), .ref (X.2.2 4), .ref (X.2.2 5), .int (f 4)]) := by unfold cC; rw [h]; rfl
theorem cC_4 {X : XT} {i : Nat} (h : kC i = (4, 0)) (f : Nat → Int32) : cC X i f = .inr (4, [.ref (X.2.2 81), .ref (X.2.2 82), .ref (X.2.2 83), .ref (X.2.2 84), .ref (X.2.2 85), .ref (X.2.2 86), .ref (X.2.2 87), .ref (X.2.2 88), .ref (X.2.2 89), .int (f 9), .int (f 10), .int (f 11), .int (f 12), .int (f 13), .int (f 14)]) := by unfold cC; rw [h]; rfl
theorem cC_5 {X : XT} {i : Nat} (h : kC i = (5, 0)) (f : Nat → Int32) : cC X i f = .inr (5, [.ref (X.2.2 (i + 1)), .ref (X.2.2 (i + 4)), .ref (X.2.2 (i + 5)), .ref (X.2.2 (i + 6)), .int (f 4), .int (f 5), .int (f 6), .int (f 7), .int (f 8), .int (f 9), .int (f 10)]) := by unfold cC; rw [h]; rfl
theorem cC_6 {X : XT} {i : Nat} (h : kC i = (6, 0)) (f : Nat → Int32) : cC X i f = .inr (6, [.ref (X.2.2 (i + 1)), .ref (X.2.2 (i + 2)), .int (f 2)]) := by unfold cC; rw [h]; rfl
theorem cC_7 {X : XT} {i : Nat} (h : kC i = (7, 0)) (f : Nat → Int32) : cC X i f = .inr (7, [.ref (X.2.2 1), .ref (X.2.2 2), .ref (X.2.2 61), .ref (X.2.2 58), .ref (X.2.2 59), .ref (X.2.2 60), .int (f 6)]) := by unfold cC; rw [h]; rfl
theorem cC_8 {X : XT} {i : Nat} (h : kC i = (8, 0)) (f : Nat → Int32) : cC X i f = .inr (8, [.ref (X.2.2 1), .ref (X.2.2 2), .ref (X.2.2 49), .ref (X.2.2 50), .ref (X.2.2 51), .ref (X.2.2 52), .ref (X.2.2 53), .ref (X.2.2 54), .ref (X.2.2 55), .ref (X.2.2 56)]) := by unfold cC; rw [h]; rfl
theorem cC_9 {X : XT} {i : Nat} (h : kC i = (9, 0)) (f : Nat → Int32) : cC X i f = .inr (9, [.int (f 0), .int (f 1)]) := by unfold cC; rw [h]; rfl
theorem cC_10 {X : XT} {i : Nat} (h : kC i = (10, 0)) (f : Nat → Int32) : cC X i f = .inr (10, [.ref (X.2.2 1), .ref (X.2.2 2), .ref (X.2.2 48), .ref (X.2.2 57), .ref (X.2.2 80), .ref (X.2.2 90), .ref (X.2.2 105), .ref (X.2.2 120), .ref (X.2.2 122)]) := by unfold cC; rw [h]; rfl
theorem cC_20 {X : XT} {i n : Nat} (h : kC i = (20, n)) (f : Nat → Int32) : cC X i f = .inl (X.2.1 0, n, .inl f) := by unfold cC; rw [h]; rfl
theorem cC_21 {X : XT} {i n : Nat} (h : kC i = (21, n)) (f : Nat → Int32) : cC X i f = .inl (X.2.1 1, n, .inl f) := by unfold cC; rw [h]; rfl
theorem cC_22 {X : XT} {i n : Nat} (h : kC i = (22, n)) (f : Nat → Int32) : cC X i f = .inl (X.2.1 2, n, .inr (.inr (.inr (.inr (fun j => some (X.2.2 (i + 1 + 3 * j))))))) := by unfold cC; rw [h]; rfl
theorem cC_23 {X : XT} {i n : Nat} (h : kC i = (23, n)) (f : Nat → Int32) : cC X i f = .inl (X.2.1 3, n, .inr (.inr (.inr (.inr (fun j => some (X.2.2 (f j).toNatClampNeg)))))) := by unfold cC; rw [h]; rfl
theorem kR1 {i : Nat} (h : kC i = (6, 0)) : kC (i + 1) = (20, 12) := (by decide +kernel : ∀ i, i < 142 → kC i = (6, 0) → kC (i + 1) = (20, 12)) i (kC_lt h (by decide)) h
theorem kR2 {i : Nat} (h : kC i = (6, 0)) : kC (i + 2) = (20, 48) := (by decide +kernel : ∀ i, i < 142 → kC i = (6, 0) → kC (i + 2) = (20, 48)) i (kC_lt h (by decide)) h
theorem kE1 {i : Nat} (h : kC i = (5, 0)) : kC (i + 1) = (6, 0) := (by decide +kernel : ∀ i, i < 142 → kC i = (5, 0) → kC (i + 1) = (6, 0)) i (kC_lt h (by decide)) h
theorem kE4 {i : Nat} (h : kC i = (5, 0)) : kC (i + 4) = (20, 4) := (by decide +kernel : ∀ i, i < 142 → kC i = (5, 0) → kC (i + 4) = (20, 4)) i (kC_lt h (by decide)) h
theorem kE5 {i : Nat} (h : kC i = (5, 0)) : kC (i + 5) = (20, 4) := (by decide +kernel : ∀ i, i < 142 → kC i = (5, 0) → kC (i + 5) = (20, 4)) i (kC_lt h (by decide)) h
theorem kE6 {i : Nat} (h : kC i = (5, 0)) : kC (i + 6) = (20, 4) := (by decide +kernel : ∀ i, i < 142 → kC i = (5, 0) → kC (i + 6) = (20, 4)) i (kC_lt h (by decide)) h
theorem kA1 {i : Nat} (h : kC i = (0, 0)) : kC (i + 1) = (20, 120) := (by decide +kernel : ∀ i, i < 142 → kC i = (0, 0) → kC (i + 1) = (20, 120)) i (kC_lt h (by decide)) h
theorem kA2 {i : Nat} (h : kC i = (0, 0)) : kC (i + 2) = (20, 3) := (by decide +kernel : ∀ i, i < 142 → kC i = (0, 0) → kC (i + 2) = (20, 3)) i (kC_lt h (by decide)) h
theorem kA3 {i : Nat} (h : kC i = (0, 0)) : kC (i + 3) = (20, 3) := (by decide +kernel : ∀ i, i < 142 → kC i = (0, 0) → kC (i + 3) = (20, 3)) i (kC_lt h (by decide)) h
theorem kA4 {i : Nat} (h : kC i = (0, 0)) : kC (i + 4) = (20, 3) := (by decide +kernel : ∀ i, i < 142 → kC i = (0, 0) → kC (i + 4) = (20, 3)) i (kC_lt h (by decide)) h
theorem kA5 {i : Nat} (h : kC i = (0, 0)) : kC (i + 5) = (22, 3) := (by decide +kernel : ∀ i, i < 142 → kC i = (0, 0) → kC (i + 5) = (22, 3)) i (kC_lt h (by decide)) h
theorem kV {i n : Nat} (h : kC i = (22, n)) {x : Int32} (hx : inb x n = true) : kC (i + 1 + 3 * x.toNatClampNeg) = (6, 0) := by
  have hx2 : x.toNatClampNeg < n := by simp only [inb, Bool.and_eq_true, decide_eq_true_eq] at hx; exact hx.2
  exact (by decide +kernel : ∀ i, i < 142 → (kC i).1 = 22 → ∀ j, j < (kC i).2 → kC (i + 1 + 3 * j) = (6, 0)) i (kC_lt h (by decide)) (by rw [h]) x.toNatClampNeg (by rw [h]; exact hx2)
theorem kb_e {k i : Nat} (h : kb k i = true) : kC i = (k, 0) := by simpa [kb] using h
section LRows
variable {p : Program} {l : Launch} {e : Env} {R : Room} {s : State} {m : MethodId} {args : Array Value} {below : List Frame} {meth : Method} {c : Code} {H : Heap} {locs : List Loc} {cells slots : Nat} {Q : State → Prop}
variable {cc : ByteArray} {own : String} {nl : Nat} {X : XT} {M : Mem} {pc : Nat} {ls : Array Slot} {rest : List Value}

theorem c_iald (B : Cx LC X p s m args c cc own nl) (hw : HW LC X M s H locs) {i n : Nat} {x : Int32} (hi : kC i = (20, n)) (hin : inb x n = true) (hdg : decode cc pc = .ok (.iaload, 1)) (kk : W p l e R s m args below meth c H locs cells slots Q (F0 m (pc + 1) ls (.int (M i x.toNatClampNeg) :: rest))) : W p l e R s m args below meth c H locs cells slots Q (F0 m pc ls (.int x :: .ref (X.2.2 i) :: rest)) := q_iald B hw (kC_lt hi (by decide)) (cC_20 hi _) hin hdg kk
theorem c_zald (B : Cx LC X p s m args c cc own nl) (hw : HW LC X M s H locs) {i n : Nat} {x : Int32} (hi : kC i = (21, n)) (hin : inb x n = true) (hdg : decode cc pc = .ok (.baload, 1)) (kk : W p l e R s m args below meth c H locs cells slots Q (F0 m (pc + 1) ls (.int (M i x.toNatClampNeg) :: rest))) : W p l e R s m args below meth c H locs cells slots Q (F0 m pc ls (.int x :: .ref (X.2.2 i) :: rest)) := q_zald B hw (kC_lt hi (by decide)) (cC_21 hi _) hin hdg kk
theorem c_iast (B : Cx LC X p s m args c cc own nl) (hw : HW LC X M s H locs) {i n : Nat} {x v : Int32} (hi : kC i = (20, n)) (hin : inb x n = true) (hdg : decode cc pc = .ok (.iastore, 1)) {α : Type} {k : Mem → Option α} {rs : α} (hf : nm (up M i x.toNatClampNeg v) k = some rs) (kk : ∀ M' H locs, HW LC X M' s H locs → k M' = some rs → W p l e R s m args below meth c H locs cells slots Q (F0 m (pc + 1) ls (rest))) : W p l e R s m args below meth c H locs cells slots Q (F0 m pc ls (.int v :: .int x :: .ref (X.2.2 i) :: rest)) := q_iast B hw (kC_lt hi (by decide)) (cC_20 hi) hin hdg hf kk
theorem c_zast (B : Cx LC X p s m args c cc own nl) (hw : HW LC X M s H locs) {i n : Nat} {x v : Int32} (hi : kC i = (21, n)) (hin : inb x n = true) (hz : isb v = true) (hdg : decode cc pc = .ok (.bastore, 1)) {α : Type} {k : Mem → Option α} {rs : α} (hf : nm (up M i x.toNatClampNeg v) k = some rs) (kk : ∀ M' H locs, HW LC X M' s H locs → k M' = some rs → W p l e R s m args below meth c H locs cells slots Q (F0 m (pc + 1) ls (rest))) : W p l e R s m args below meth c H locs cells slots Q (F0 m pc ls (.int v :: .int x :: .ref (X.2.2 i) :: rest)) := q_zast B hw (kC_lt hi (by decide)) (cC_21 hi) hin hz hdg hf kk
theorem c_aldR (B : Cx LC X p s m args c cc own nl) (hw : HW LC X M s H locs) {i n : Nat} {x : Int32} (hi : kC i = (22, n)) (hin : inb x n = true) (hdg : decode cc pc = .ok (.aaload, 1)) (kk : W p l e R s m args below meth c H locs cells slots Q (F0 m (pc + 1) ls (.ref (X.2.2 (i + 1 + 3 * x.toNatClampNeg)) :: rest))) : W p l e R s m args below meth c H locs cells slots Q (F0 m pc ls (.int x :: .ref (X.2.2 i) :: rest)) := q_aldq B hw (t := 2) (kC_lt hi (by decide)) (cC_22 hi _) rfl hin rfl hdg kk
theorem c_aldE (B : Cx LC X p s m args c cc own nl) (hw : HW LC X M s H locs) {i n : Nat} {x : Int32} (hi : kC i = (23, n)) (hin : inb x n = true) (hdg : decode cc pc = .ok (.aaload, 1)) (kk : W p l e R s m args below meth c H locs cells slots Q (F0 m (pc + 1) ls (.ref (X.2.2 (M i x.toNatClampNeg).toNatClampNeg) :: rest))) : W p l e R s m args below meth c H locs cells slots Q (F0 m pc ls (.int x :: .ref (X.2.2 i) :: rest)) := q_aldq B hw (t := 3) (kC_lt hi (by decide)) (cC_23 hi _) rfl hin rfl hdg kk
theorem c_astE (B : Cx LC X p s m args c cc own nl) (hw : HW LC X M s H locs) {i n v : Nat} {x : Int32} (hi : kC i = (23, n)) (hv : kC v = (5, 0)) (hin : inb x n = true) (hdg : decode cc pc = .ok (.aastore, 1)) {α : Type} {k : Mem → Option α} {rs : α} (hf : nm (up M i x.toNatClampNeg (nI v)) k = some rs) (kk : ∀ M' H locs, HW LC X M' s H locs → k M' = some rs → W p l e R s m args below meth c H locs cells slots Q (F0 m (pc + 1) ls (rest))) : W p l e R s m args below meth c H locs cells slots Q (F0 m pc ls (.ref (X.2.2 v) :: .int x :: .ref (X.2.2 i) :: rest)) := by
  have hv' : v < 142 := kC_lt hv (by decide)
  have hi' : i < LC.1 := kC_lt hi (by decide)
  refine va_astq B.hx B.hb B.hK hw.1 (wl_D B.hI) hw.2 i 3 v 5 (r := (RX5, TX5, 11)) (cA := X.2.1 3) (n := n) (f := fun j => some (X.2.2 (M i j).toNatClampNeg)) (vs := _) (by rw [wl_at hi']; exact congrArg (fun z => some (X.2.2 i, z)) (cC_23 hi _)) rfl (by rw [wl_at (show v < LC.1 from hv')]; exact congrArg (fun z => some (X.2.2 v, z)) (cC_5 hv _)) rfl (inb_in hin) hdg (fun H1 locs1 hP _ hS => kk _ H1 locs1 ⟨?_, hS⟩ hf)
  have e1 : (Sum.inl (X.2.1 3, n, .inr (.inr (.inr (.inr (va_up (fun j => some (X.2.2 (M i j).toNatClampNeg)) x.toNatClampNeg (some (X.2.2 v))))))) : va_E) = cC X i (upd (M i) x.toNatClampNeg (nI v)) := by
    rw [cC_23 hi]
    congr 7
    funext j
    by_cases hj : j = x.toNatClampNeg
    · subst hj; simp [va_up, upd, nI_clamp (show v < 2 ^ 31 by omega)]
    · simp [va_up, upd, hj]
  rw [e1] at hP
  have h2 := hP
  rw [show (wl LC X M).set i (X.2.2 i, cC X i (upd (M i) x.toNatClampNeg (nI v))) = wl LC X (up M i x.toNatClampNeg (nI v)) from wl_row (L := LC) hi'] at h2
  exact h2
end LRows
