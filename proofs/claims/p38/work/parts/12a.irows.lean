/-! ===== the constructors: rows ===== -/
theorem bo_obj : Cond.instanceMethod objectInit ∈ BIG := big_at 26 (by decide +kernel) (by decide +kernel)
theorem bo_code : Cond.code objectInit ⟨#[0xb1]⟩ 1 none ∈ BIG := big_at 27 (by decide +kernel) (by decide +kernel)
theorem bo_int : Cond.arrayClass .int ∈ BIG := big_at 80 (by decide +kernel) (by decide +kernel)
theorem bo_bool : Cond.arrayClass .boolean ∈ BIG := big_at 185 (by decide +kernel) (by decide +kernel)
theorem bo_long : Cond.arrayClass .long ∈ BIG := big_at 1235 (by decide +kernel) (by decide +kernel)
def NMo (U : State) : Prop := (∀ q ∈ nestM, va_Nw (.methodLinkNest q.1 q.2.1 q.2.2.1 q.2.2.2) U) ∧ va_AO RX5 U ∧ va_AO RX6 U
/-- how a constructor starts: its cells, the classes, the nest's words -/
def IP (X : XT) (ws : va_W) (sz : Nat) (U : State) : Prop := U.heap.size = sz ∧ va_P X.1 vwCl ws U.heap ∧ va_K X.1 vwCl (tysX X) U ∧ va_D (fun _ => True) ws ∧ NMo U
theorem IP_blind {X : XT} {ws : va_W} {sz : Nat} {As : List Value} : FrameBlind (va_Pc As (IP X ws sz)) := fun a U g mk q => by
  obtain ⟨q0, q1, q2, q3, q4, q5, q6, q7⟩ := q
  have hv : U.vm.Alike (U.calling g mk a).vm := Vm.Alike.refl U.vm
  exact ⟨q0, q1, q2, va_K.moved hv q3, q4, fun q hq => va_Nw.same rfl rfl (q5 q hq), va_AO.moved hv q6, va_AO.moved hv q7⟩
def CI (X : XT) (p : Program) (s : State) (m : MethodId) (args : Array Value) (c : Code) (cc : ByteArray) (own : String) (nl : Nat) : Prop :=
  p.tables.exec = Jvm.exec ∧ c.code = cc ∧ c.maxLocals = nl ∧ s.vm.findClass own = some m.cls ∧ (∀ w ∈ BIG, w.before args s = true) ∧ va_K X.1 vwCl (tysX X) s ∧ NMo s
def HI (X : XT) (A : Nat → Prop) (s : State) (ws : va_W) (H : Heap) (locs : List Loc) : Prop := va_P X.1 vwCl ws H ∧ va_D A ws ∧ va_S A s.heap H locs
abbrev QN (X : XT) (w0 : va_W) (sz : Nat) (Bp : (Nat → Nat) → va_W) : Array Value → State → Outcome → State → Prop := va_Qv (fun _ : Nat → Nat => True) (fun u t => va_P X.1 vwCl (Bp u) t.heap ∧ va_D (va_A w0 sz) (Bp u)) (va_A w0 sz)
abbrev ZQ (X : XT) (below : List Frame) (A : Nat → Prop) (Bp : (Nat → Nat) → va_W) (args : Array Value) (s : State) (mc ms : Nat) : State → Prop := MQ below (va_Qv (fun _ : Nat → Nat => True) (fun u t => va_P X.1 vwCl (Bp u) t.heap ∧ va_D A (Bp u)) A) args s mc ms A
section IParts
variable {D : va_G} {cl : List vw_C} {a b ws w1 : va_W} {H H1 : Heap} {A : Nat → Prop}
theorem vP_l (h : va_P D cl (a ++ b) H) : va_P D cl a H := fun k q hk => h k q (by rw [List.getElem?_append_left (List.getElem?_eq_some_iff.mp hk).1]; exact hk)
theorem vP_r (h : va_P D cl (a ++ b) H) : va_P D cl b H := fun k q hk => h (a.length + k) q (by rw [List.getElem?_append_right (Nat.le_add_right _ _), Nat.add_sub_cancel_left]; exact hk)
theorem vD_l (h : va_D A (a ++ b)) : va_D A a := ⟨fun i j p q hi hj e => h.1 i j p q (by rw [List.getElem?_append_left (List.getElem?_eq_some_iff.mp hi).1]; exact hi) (by rw [List.getElem?_append_left (List.getElem?_eq_some_iff.mp hj).1]; exact hj) e, fun k q hk => h.2 k q (by rw [List.getElem?_append_left (List.getElem?_eq_some_iff.mp hk).1]; exact hk)⟩
theorem vD_r (h : va_D A (a ++ b)) : va_D A b := ⟨fun i j p q hi hj e => by
  have := h.1 (a.length + i) (a.length + j) p q (by rw [List.getElem?_append_right (Nat.le_add_right _ _), Nat.add_sub_cancel_left]; exact hi) (by rw [List.getElem?_append_right (Nat.le_add_right _ _), Nat.add_sub_cancel_left]; exact hj) e
  omega, fun k q hk => h.2 (a.length + k) q (by rw [List.getElem?_append_right (Nat.le_add_right _ _), Nat.add_sub_cancel_left]; exact hk)⟩
theorem vD_x (h : va_D A (a ++ b)) {i j : Nat} {p q : Nat × va_E} (hi : a[i]? = some p) (hj : b[j]? = some q) : p.1 ≠ q.1 := fun e => by
  have hl := (List.getElem?_eq_some_iff.mp hi).1
  have := h.1 i (a.length + j) p q (by rw [List.getElem?_append_left hl]; exact hi) (by rw [List.getElem?_append_right (Nat.le_add_right _ _), Nat.add_sub_cancel_left]; exact hj) e
  omega
theorem hi_join {c : Nat × va_E} (hP : va_P D cl (ws ++ [c]) H) (hD : va_D A (ws ++ [c])) (hk : ∀ q : Nat, q < H.size → ¬ va_A [c] H.size q → H1[q]? = H[q]?) (hF : ∀ q, va_A [c] H.size q → A q) (hP1 : va_P D cl w1 H1) (hD1 : va_D (va_A [c] H.size) w1) : va_P D cl (ws ++ w1) H1 ∧ va_D A (ws ++ w1) := by
  have key : ∀ (k : Nat) (q : Nat × va_E), ws[k]? = some q → q.1 < H.size ∧ ¬ va_A [c] H.size q.1 := by
    intro k q hq
    have hl := ((vP_l hP) k q hq).lt
    refine ⟨hl, fun h => ?_⟩
    rcases h with ⟨j, e, h⟩ | h
    · have hj : j < 1 := (List.getElem?_eq_some_iff.mp h).1
      exact vD_x hD hq h rfl
    · omega
  refine ⟨((vP_l hP).kept (fun k q hq => hk q.1 (key k q hq).1 (key k q hq).2)).app hP1, (vD_l hD).app (hD1.weaken (fun _ _ _ h => hF _ h)) (fun i j p q hp hq e => ?_)⟩
  exact (key i p hp).2 (by rw [e]; exact hD1.2 j q hq)
theorem gl_last (ws : va_W) (c : Nat × va_E) : (ws ++ [c])[ws.length]? = some c := by simp
theorem vp_cg {c : ClassId} {n : Nat} {f g : Nat → Int32} (h : ∀ j, j < n → f j = g j) : vp_cell c (n, .inl f) = vp_cell c (n, .inl g) := by
  rw [vp_cell_i, vp_cell_i]
  unfold arrV
  congr 1
  apply Array.ext
  · simp
  · intro i h1 h2
    simp only [Array.getElem_ofFn]
    rw [h i (by simpa using h1)]
theorem vp_cgq {c : ClassId} {n : Nat} {f g : Nat → Option Nat} (h : ∀ j, j < n → f j = g j) : vp_cell c (n, .inr (.inr (.inr (.inr f)))) = vp_cell c (n, .inr (.inr (.inr (.inr g)))) := by
  rw [vp_cell_q, vp_cell_q]
  unfold arrV
  congr 1
  apply Array.ext
  · simp
  · intro i h1 h2
    simp only [Array.getElem_ofFn]
    rw [h i (by simpa using h1)]
end IParts
section IRows
variable {p : Program} {l : Launch} {e : Env} {R : Room} {s : State} {m : MethodId} {args : Array Value} {below : List Frame} {meth : Method} {c : Code} {H : Heap} {locs : List Loc} {cells slots : Nat} {Q : State → Prop}
variable {cc : ByteArray} {own : String} {nl : Nat} {X : XT} {pc : Nat} {ls : Array Slot} {rest : List Value} {ws : va_W} {A : Nat → Prop} {a : Nat}
theorem CI.hx (B : CI X p s m args c cc own nl) : p.tables.exec = Jvm.exec := B.1
theorem CI.hb (B : CI X p s m args c cc own nl) : c.code = cc := B.2.1
theorem CI.hml (B : CI X p s m args c cc own nl) : c.maxLocals = nl := B.2.2.1
theorem CI.hown (B : CI X p s m args c cc own nl) : s.vm.findClass own = some m.cls := B.2.2.2.1
theorem CI.hts (B : CI X p s m args c cc own nl) : ∀ w ∈ BIG, w.before args s = true := B.2.2.2.2.1
theorem CI.hK (B : CI X p s m args c cc own nl) : va_K X.1 vwCl (tysX X) s := B.2.2.2.2.2.1
theorem CI.hN (B : CI X p s m args c cc own nl) : NMo s := B.2.2.2.2.2.2
theorem IP_of (B : CI X p s m args c cc own nl) {U : State} (hP : va_P X.1 vwCl ws H) (hD : va_D A ws) (hU : U.heap = H) (hW : s.WarmedH U.vm) : IP X ws H.size U :=
  ⟨by rw [hU], by rw [hU]; exact hP, va_K.moved hW.alike B.hK, ⟨hD.1, fun _ _ _ => trivial⟩, fun q hq => (B.hN.1 q hq).warmM hW, va_AO.moved hW.alike B.hN.2.1, va_AO.moved hW.alike B.hN.2.2⟩
/-- a constructor's walk gives its contract -/
theorem init_go {y : MethodName} {rm : Room} {sz h0 : Nat} {e0 : va_E} {As : List Value} {Bp : (Nat → Nat) → va_W} {mc ms : Nat} (hy : plainName y.cls = true) (hl : (lg_sl As).length ≤ nl)
    (body : ∀ p e s m args below meth c A, (∀ q, s.heap.size ≤ q → A q) → CI X p s m args c cc y.cls nl → meth.sig.returnType = none → meth.locks = false → meth.name = y.name → HI X A s [(h0, e0)] s.heap [] → ∀ ls : Array Slot, lv_has ls nl (lv_args 0 As) → W p l e rm s m args below meth c s.heap [] 0 0 (ZQ X below A Bp args s mc ms) (F0 m 0 ls [])) :
    Met l y (wbig y cc nl none) rm (va_Pc As (IP X [(h0, e0)] sz)) (QN X [(h0, e0)] sz Bp) mc ms (va_A [(h0, e0)] sz) := by
  refine Met.ofW (cc := cc) (maxL := nl) (ret := none) hy rfl ?_
  intro p e s m args below meth c s₁ B hml hv
  obtain ⟨rfl, hsz, hP, hK, hD0, hN⟩ := hv
  have hts := atoms_spec (ws := wbig y cc nl none) B.pre
  have hl := lv_entry As (n := nl) hl
  rw [lg_entry_eq]
  generalize (lg_sl As ++ List.replicate (nl - (lg_sl As).length) Slot.unset).toArray = ls at hl ⊢
  subst hsz
  exact body p e s m _ below meth c (va_A [(h0, e0)] s.heap.size) (fun q h => Or.inr h) ⟨B.exec, B.bytes, hml, findClass_of_methodNamed B.named, fun w hw => hts w (List.mem_cons_of_mem _ hw), hK, hN⟩ B.returns B.notSynchronized (name_of_methodNamed B.named B.method).1 ⟨hP, hD0.self, va_S.rf⟩ ls hl
theorem i_obj (B : CI X p s m args c cc own nl) (hls : ls.size = nl) {index : Nat} (h1 : Cond.methodLink own index objectInit ∈ BIG) (hR : 1 ≤ R.frames) (hL : (rest.map fun v => v.category).sum + 12 ≤ R.locals) (hdg : decode cc pc = .ok (.invokespecial index, 3)) (kk : W p l e R s m args below meth c H locs cells slots Q (F0 m (pc + 3) ls rest)) : W p l e R s m args below meth c H locs cells slots Q (F0 m pc ls (.ref a :: rest)) :=
  W.objInit B.hx B.hb B.hown (B.hts _ h1) (B.hts _ bo_obj) (B.hts _ bo_code) rfl (by rw [B.hml]; exact hls) rfl hdg hR (by show 2 * 0 + _ + 12 ≤ _; omega) kk
theorem i_getf (B : CI X p s m args c cc own nl) (h : HI X A s ws H locs) (q0 : Nat) {ci N index k : Nat} {C : String} {T : u_T} {fs : List Value} {v : Value} (he : ws[q0]? = some (a, .inr (ci, fs))) (hc : vwCl[ci]? = some (C, T, N)) (hin : ∀ w ∈ u_ws C T N, w ∈ BIG) (hk : k < N) (hlink : Cond.fieldLink own index (T k).1 (T k).2.1 (T k).2.2.1 ∈ BIG) (hv : fs[k]? = some v) (hdg : decode cc pc = .ok (.getfield index, 3))
    (kk : W p l e R s m args below meth c H locs cells slots Q (F0 m (pc + 3) ls (v :: rest))) : W p l e R s m args below meth c H locs cells slots Q (F0 m pc ls (.ref a :: rest)) :=
  va_get B.hx B.hb B.hts hin B.hown B.hK h.1 q0 he hc k hk (B.hts _ hlink) (fun _ h9 => h9) hv hdg kk
theorem i_putF (B : CI X p s m args c cc own nl) (hini : meth.name = "<init>") {ci N index k : Nat} {C : String} {T : u_T} {fs : List Value} {v : Value} (h : HI X A s ((a, .inr (ci, fs)) :: ws) H locs) (hc : vwCl[ci]? = some (C, T, N)) (hin : ∀ w ∈ u_ws C T N, w ∈ BIG) (ty0 : Nat → FieldType) (hty : ∀ k, k < N → parseFieldDescriptor (T k).2.2.1 = some (ty0 k)) (hnm : ∀ a, a < N → ∀ b, b < N → a ≠ b → (T a).2.1 ≠ (T b).2.1) (hk : k < N) (hlink : Cond.fieldLink own index (T k).1 (T k).2.1 (T k).2.2.1 ∈ BIG) (hfin : (T k).2.2.2 = true) (hdecl : (T k).1 = own) {ty : FieldType} (hd : parseFieldDescriptor (T k).2.2.1 = some ty) (hn : narrow ty v = v) (hfit : fits ty v = true) (hl : k < fs.length) (hdg : decode cc pc = .ok (.putfield index, 3))
    (kk : ∀ H locs, HI X A s ((a, .inr (ci, fs.set k v)) :: ws) H locs → W p l e R s m args below meth c H locs cells slots Q (F0 m (pc + 3) ls rest)) : W p l e R s m args below meth c H locs cells slots Q (F0 m pc ls (v :: .ref a :: rest)) :=
  va_putF B.hx B.hb B.hts hin ty0 hty hnm B.hown B.hK h.1 h.2.1 h.2.2 0 rfl hc k hk (B.hts _ hlink) (fun _ h9 => h9) hfin hini hdecl hd hn hfit hl hdg (fun H1 l1 hP hD hS => kk H1 l1 ⟨hP, hD, hS⟩)
theorem i_put (B : CI X p s m args c cc own nl) {ci N index k : Nat} {C : String} {T : u_T} {fs : List Value} {v : Value} (h : HI X A s ((a, .inr (ci, fs)) :: ws) H locs) (hc : vwCl[ci]? = some (C, T, N)) (hin : ∀ w ∈ u_ws C T N, w ∈ BIG) (ty0 : Nat → FieldType) (hty : ∀ k, k < N → parseFieldDescriptor (T k).2.2.1 = some (ty0 k)) (hnm : ∀ a, a < N → ∀ b, b < N → a ≠ b → (T a).2.1 ≠ (T b).2.1) (hk : k < N) (hlink : Cond.fieldLink own index (T k).1 (T k).2.1 (T k).2.2.1 ∈ BIG) (hfin : (T k).2.2.2 = false) {ty : FieldType} (hd : parseFieldDescriptor (T k).2.2.1 = some ty) (hn : narrow ty v = v) (hfit : fits ty v = true) (hl : k < fs.length) (hdg : decode cc pc = .ok (.putfield index, 3))
    (kk : ∀ H locs, HI X A s ((a, .inr (ci, fs.set k v)) :: ws) H locs → W p l e R s m args below meth c H locs cells slots Q (F0 m (pc + 3) ls rest)) : W p l e R s m args below meth c H locs cells slots Q (F0 m pc ls (v :: .ref a :: rest)) :=
  va_put B.hx B.hb B.hts hin ty0 hty hnm B.hown B.hK h.1 h.2.1 h.2.2 0 rfl hc k hk (B.hts _ hlink) (fun _ h9 => h9) hfin hd hn hfit hl hdg (fun H1 l1 hP hD hS => kk H1 l1 ⟨hP, hD, hS⟩)
theorem i_new (B : CI X p s m args c cc own nl) (h : HI X A s ws H locs) (hA : ∀ q, s.heap.size ≤ q → A q) {ci N index : Nat} {C : String} {T : u_T} {fs : List Value} (hc : vwCl[ci]? = some (C, T, N)) (hin : ∀ w ∈ u_ws C T N, w ∈ BIG) (ty : Nat → FieldType) (hty : ∀ k, k < N → parseFieldDescriptor (T k).2.2.1 = some (ty k)) (h1 : Cond.classLink own index C ∈ BIG) (h2 : Cond.instantiable C N ∈ BIG) (h3 : Cond.initialized C ∈ BIG) (hfs : ∀ j, j < N → defaultValue (ty j) = vp_V fs j) (hcells : cells + 1 ≤ R.cells) (hslots : slots + N ≤ R.slots) (hdg : decode cc pc = .ok (.new index, 3))
    (kk : ∀ q H, HI X A s (ws ++ [(q, .inr (ci, fs))]) H locs → W p l e R s m args below meth c H locs (cells + 1) (slots + N) Q (F0 m (pc + 3) ls (.ref q :: rest))) : W p l e R s m args below meth c H locs cells slots Q (F0 m pc ls rest) :=
  va_new B.hx B.hb B.hts hin ty hty B.hown (B.hts _ h1) (B.hts _ h2) (B.hts _ h3) B.hK h.1 h.2.1 h.2.2 hA hc hfs hcells hslots hdg (fun q H1 hP hD hS => kk q H1 ⟨hP, hD, hS⟩)
theorem i_newi (B : CI X p s m args c cc own nl) (h : HI X A s ws H locs) (hA : ∀ q, s.heap.size ≤ q → A q) {n : Int32} (N : Nat) (hn : ¬ n < 0) (hN : n.toNatClampNeg = N) (hbytes : N * 4 ≤ 536870912) (hcells : cells + 1 ≤ R.cells) (hslots : slots + N ≤ R.slots) (hdg : decode cc pc = .ok (.newarray .int, 2))
    (kk : ∀ q H, HI X A s (ws ++ [(q, .inl (X.2.1 0, N, .inl (fun _ => 0)))]) H locs → W p l e R s m args below meth c H locs (cells + 1) (slots + N) Q (F0 m (pc + 2) ls (.ref q :: rest))) : W p l e R s m args below meth c H locs cells slots Q (F0 m pc ls (.int n :: rest)) := by
  refine va_newa (atype := .int) (ty := .int) (N' := N) (a0 := (N, .inl (fun _ => 0))) B.hx B.hb (B.hts _ bo_int) rfl B.hK h.1 h.2.1 h.2.2 hA (fun _ => rfl) hn hN hbytes hcells hslots hdg (fun q cA H1 hK1 hP1 hD1 hS1 => ?_)
  have e1 : s.vm.findClass "[I" = some (X.2.1 0) := (hK1.2 0 (X.2.1 0, .int) rfl).2
  have e2 : s.vm.findClass "[I" = some cA := (hK1.2 5 (cA, .int) rfl).2
  rw [e1] at e2
  cases e2
  exact kk q H1 ⟨hP1, hD1, hS1⟩
theorem i_newz (B : CI X p s m args c cc own nl) (h : HI X A s ws H locs) (hA : ∀ q, s.heap.size ≤ q → A q) {n : Int32} (N : Nat) (hn : ¬ n < 0) (hN : n.toNatClampNeg = N) (hbytes : N * 1 ≤ 536870912) (hcells : cells + 1 ≤ R.cells) (hslots : slots + N ≤ R.slots) (hdg : decode cc pc = .ok (.newarray .boolean, 2))
    (kk : ∀ q H, HI X A s (ws ++ [(q, .inl (X.2.1 1, N, .inl (fun _ => 0)))]) H locs → W p l e R s m args below meth c H locs (cells + 1) (slots + N) Q (F0 m (pc + 2) ls (.ref q :: rest))) : W p l e R s m args below meth c H locs cells slots Q (F0 m pc ls (.int n :: rest)) := by
  refine va_newa (atype := .boolean) (ty := .boolean) (N' := N) (a0 := (N, .inl (fun _ => 0))) B.hx B.hb (B.hts _ bo_bool) rfl B.hK h.1 h.2.1 h.2.2 hA (fun _ => rfl) hn hN hbytes hcells hslots hdg (fun q cA H1 hK1 hP1 hD1 hS1 => ?_)
  have e1 : s.vm.findClass "[Z" = some (X.2.1 1) := (hK1.2 1 (X.2.1 1, .boolean) rfl).2
  have e2 : s.vm.findClass "[Z" = some cA := (hK1.2 5 (cA, .boolean) rfl).2
  rw [e1] at e2
  cases e2
  exact kk q H1 ⟨hP1, hD1, hS1⟩
theorem i_newl (B : CI X p s m args c cc own nl) (h : HI X A s ws H locs) (hA : ∀ q, s.heap.size ≤ q → A q) {n : Int32} (N : Nat) (hn : ¬ n < 0) (hN : n.toNatClampNeg = N) (hbytes : N * 8 ≤ 536870912) (hcells : cells + 1 ≤ R.cells) (hslots : slots + N ≤ R.slots) (hdg : decode cc pc = .ok (.newarray .long, 2))
    (kk : ∀ q H, HI X A s (ws ++ [(q, .inl (X.2.1 4, N, .inr (.inl (fun _ => 0))))]) H locs → W p l e R s m args below meth c H locs (cells + 1) (slots + N) Q (F0 m (pc + 2) ls (.ref q :: rest))) : W p l e R s m args below meth c H locs cells slots Q (F0 m pc ls (.int n :: rest)) := by
  refine va_newa (atype := .long) (ty := .long) (N' := N) (a0 := (N, .inr (.inl (fun _ => 0)))) B.hx B.hb (B.hts _ bo_long) rfl B.hK h.1 h.2.1 h.2.2 hA (fun _ => rfl) hn hN hbytes hcells hslots hdg (fun q cA H1 hK1 hP1 hD1 hS1 => ?_)
  have e1 : s.vm.findClass "[J" = some (X.2.1 4) := (hK1.2 4 (X.2.1 4, .long) rfl).2
  have e2 : s.vm.findClass "[J" = some cA := (hK1.2 5 (cA, .long) rfl).2
  rw [e1] at e2
  cases e2
  exact kk q H1 ⟨hP1, hD1, hS1⟩
theorem i_newq (B : CI X p s m args c cc own nl) (h : HI X A s ws H locs) (hA : ∀ q, s.heap.size ≤ q → A q) {C : String} (t : Nat) {index : Nat} (ht : (tysX X)[t]? = some (X.2.1 t, .object C)) (hlink : Cond.classLink own index C ∈ BIG) (hO : va_AO C s) {n : Int32} (N : Nat) (hn : ¬ n < 0) (hN : n.toNatClampNeg = N) (hbytes : N * 4 ≤ 536870912) (hcells : cells + 1 ≤ R.cells) (hslots : slots + N ≤ R.slots) (hdg : decode cc pc = .ok (.anewarray index, 3))
    (kk : ∀ q H, HI X A s (ws ++ [(q, .inl (X.2.1 t, N, .inr (.inr (.inr (.inr (fun _ => none))))))]) H locs → W p l e R s m args below meth c H locs (cells + 1) (slots + N) Q (F0 m (pc + 3) ls (.ref q :: rest))) : W p l e R s m args below meth c H locs cells slots Q (F0 m pc ls (.int n :: rest)) := by
  refine va_newq (N' := N) B.hx B.hb B.hown (B.hts _ hlink) hO B.hK h.1 h.2.1 h.2.2 hA hn hN hbytes hcells hslots hdg (fun q cA H1 hK1 hP1 hD1 hS1 => ?_)
  obtain ⟨_, _, _, _, _, e1⟩ := (B.hK.2 t _ ht).2
  obtain ⟨_, _, _, _, _, e2⟩ := (hK1.2 5 (cA, .object C) rfl).2
  have e3 : some (X.2.1 t) = some cA := e1.symm.trans e2
  cases e3
  exact kk q H1 ⟨hP1, hD1, hS1⟩
theorem i_fill (B : CI X p s m args c cc own nl) {n : Nat} {f : Nat → Int32} (q0 : Nat) (h : HI X A s ws H locs) (ha : ws[q0]? = some (a, .inl (X.2.1 0, n, .inl f))) {x v : Int32} (hin : inb x n = true) (hdg : decode cc pc = .ok (.iastore, 1))
    (kk : ∀ H locs, HI X A s (ws.set q0 (a, .inl (X.2.1 0, n, .inl (upd f x.toNatClampNeg v)))) H locs → W p l e R s m args below meth c H locs cells slots Q (F0 m (pc + 1) ls rest)) : W p l e R s m args below meth c H locs cells slots Q (F0 m pc ls (.int v :: .int x :: .ref a :: rest)) :=
  va_iast B.hx B.hb B.hK h.1 h.2.1 h.2.2 q0 0 ha rfl (inb_in hin) hdg (fun H1 l1 hP hD hS => kk H1 l1 ⟨hP, hD, hS⟩)
theorem i_fillL (B : CI X p s m args c cc own nl) {n : Nat} {f : Nat → Int32} (h : HI X A s (ws ++ [(a, .inl (X.2.1 0, n, .inl f))]) H locs) {x v : Int32} (hin : inb x n = true) (hdg : decode cc pc = .ok (.iastore, 1))
    (kk : ∀ H locs, HI X A s (ws ++ [(a, .inl (X.2.1 0, n, .inl (upd f x.toNatClampNeg v)))]) H locs → W p l e R s m args below meth c H locs cells slots Q (F0 m (pc + 1) ls rest)) : W p l e R s m args below meth c H locs cells slots Q (F0 m pc ls (.int v :: .int x :: .ref a :: rest)) := by
  refine i_fill B ws.length h (gl_last _ _) hin hdg (fun H locs h => kk H locs ?_)
  rw [List.set_append_right _ _ (Nat.le_refl _), Nat.sub_self] at h
  exact h
theorem i_fillR (B : CI X p s m args c cc own nl) {n ci v : Nat} {f : Nat → Option Nat} {r : vw_C} {vs : List Value} (t q0 qk : Nat) (h : HI X A s ws H locs) (ht : (tysX X)[t]? = some (X.2.1 t, .object r.1)) (ha : ws[q0]? = some (a, .inl (X.2.1 t, n, .inr (.inr (.inr (.inr f)))))) (hv : ws[qk]? = some (v, .inr (ci, vs))) (hc : vwCl[ci]? = some r) {x : Int32} (hin : inb x n = true) (hdg : decode cc pc = .ok (.aastore, 1))
    (kk : ∀ H locs, HI X A s (ws.set q0 (a, .inl (X.2.1 t, n, .inr (.inr (.inr (.inr (va_up f x.toNatClampNeg (some v)))))))) H locs → W p l e R s m args below meth c H locs cells slots Q (F0 m (pc + 1) ls rest)) : W p l e R s m args below meth c H locs cells slots Q (F0 m pc ls (.ref v :: .int x :: .ref a :: rest)) :=
  va_astq B.hx B.hb B.hK h.1 h.2.1 h.2.2 q0 t qk ci ha ht hv hc (inb_in hin) hdg (fun H1 l1 hP hD hS => kk H1 l1 ⟨hP, hD, hS⟩)
theorem HI.eqc {cA : ClassId} {a0 a1 : vp_A} (q0 : Nat) (h : HI X A s ws H locs) (ha : ws[q0]? = some (a, .inl (cA, a0))) (e : vp_cell cA a0 = vp_cell cA a1) : HI X A s (ws.set q0 (a, .inl (cA, a1))) H locs := by
  refine ⟨h.1.set h.2.1 ha ?_ (fun _ _ => rfl), h.2.1.set ha, h.2.2⟩
  have h1 := h.1 q0 _ ha
  show H[a]? = some (vp_cell cA a1)
  rw [← e]
  exact h1
theorem HI.nrm {cA : ClassId} {n : Nat} {f : Nat → Int32} (q0 : Nat) (g : Nat → Int32) (h : HI X A s ws H locs) (ha : ws[q0]? = some (a, .inl (cA, n, .inl f))) (e : ∀ j, j < n → f j = g j) : HI X A s (ws.set q0 (a, .inl (cA, n, .inl g))) H locs := h.eqc q0 ha (vp_cg e)
theorem HI.nrmq {cA : ClassId} {n : Nat} {f : Nat → Option Nat} (q0 : Nat) (g : Nat → Option Nat) (h : HI X A s ws H locs) (ha : ws[q0]? = some (a, .inl (cA, n, .inr (.inr (.inr (.inr f)))))) (e : ∀ j, j < n → f j = g j) : HI X A s (ws.set q0 (a, .inl (cA, n, .inr (.inr (.inr (.inr g)))))) H locs := h.eqc q0 ha (vp_cgq e)
theorem HI.nrmL {cA : ClassId} {n : Nat} {f : Nat → Int32} (g : Nat → Int32) (h : HI X A s (ws ++ [(a, .inl (cA, n, .inl f))]) H locs) (e : ∀ j, j < n → f j = g j) : HI X A s (ws ++ [(a, .inl (cA, n, .inl g))]) H locs := by
  have h1 := h.nrm (a := a) ws.length g (gl_last _ _) e
  rw [List.set_append_right _ _ (Nat.le_refl _), Nat.sub_self] at h1
  exact h1
section ICalls
variable {y : MethodName} {bytes : ByteArray} {maxL n index mc ms b : Nat} {rm : Room} {As st : List Value} {e0 : va_E} {Bp : (Nat → Nat) → va_W} {host : String}
theorem i_fr (h : HI X A s (ws ++ [(b, e0)]) H locs) (hA : ∀ q, s.heap.size ≤ q → A q) : ∀ q, va_A [(b, e0)] H.size q → A q := by
  intro q hq
  rcases hq with ⟨k, e, hk⟩ | hq
  · exact (vD_r h.2.1).2 k _ hk
  · exact hA q (Nat.le_trans h.2.2.1 hq)
theorem i_callN (B : CI X p s m args c cc own nl) (h : HI X A s (ws ++ [(b, e0)]) H locs) (hA : ∀ q, s.heap.size ≤ q → A q) (hM : Met l y (wbig y bytes maxL none) rm (va_Pc (.ref b :: As) (IP X [(b, e0)] H.size)) (QN X [(b, e0)] H.size Bp) mc ms (va_A [(b, e0)] H.size)) (hls : ls.size = nl) (hc : Cond.code y bytes maxL none ∈ BIG) (hnest : (own, index, y, host) ∈ nestM) (hini : Cond.initialized y.cls ∈ BIG) (hin : Cond.instanceMethod y ∈ BIG) (hyn : y.name = "<init>") (hd : y.cls ≠ "java/lang/invoke/MethodHandle" ∧ y.cls ≠ "java/lang/invoke/VarHandle" ∧ (parseMethodDescriptor y.desc).map (fun d => d.parameters.length) = some n) (hn : As.length = n) (hrc : rm.cells = mc) (hrs : rm.slots = ms) (hR : rm.frames + 1 ≤ R.frames ∧ 8 + (maxL + 11) + rm.locals ≤ R.locals) (hW : (rest.map fun v => v.category).sum ≤ 8) (hf : cells + mc ≤ R.cells ∧ slots + ms ≤ R.slots) (hdg : decode cc pc = .ok (.invokespecial index, 3)) (hst : st = As.reverse ++ .ref b :: rest)
    (kk : ∀ u H locs, HI X A s (ws ++ Bp u) H locs → W p l e R s m args below meth c H locs (cells + mc) (slots + ms) Q (F0 m (pc + 3) ls rest)) : W p l e R s m args below meth c H locs cells slots Q (F0 m pc ls st) := by
  subst hst
  refine va_callv (va_runIN (As := As) (rest := rest) ⟨B.hx, B.hb, B.hml, B.hown, B.hts⟩ hM ⟨va_cnB n B.hts (big_sub (wbig_sub hc)) rfl hrc hrs (B.hN.1 _ hnest) (B.hts _ hini) hd hR, hyn, B.hts _ hin⟩ ⟨IP_blind, fun U hU hW => ⟨rfl, IP_of B (vP_r h.1) (vD_r h.2.1) hU hW⟩⟩ rfl hn hls rfl (lv_room hW) hdg hf) h.2.2 (fun q _ hq => i_fr h hA q hq) (i_fr h hA) (fun u t H1 locs1 ht hvm _ hB hz1 hk1 hS => ?_)
  obtain ⟨hP1, hD1⟩ := hB
  rw [ht] at hP1
  obtain ⟨hP, hD⟩ := hi_join h.1 h.2.1 hk1 (i_fr h hA) hP1 hD1
  exact kk u H1 locs1 ⟨hP, hD, hS⟩
theorem i_callI (B : CI X p s m args c cc own nl) (h : HI X A s (ws ++ [(b, e0)]) H locs) (hA : ∀ q, s.heap.size ≤ q → A q) (hM : Met l y (wbig y bytes maxL none) rm (va_Pc (.ref b :: As) (IP X [(b, e0)] H.size)) (QN X [(b, e0)] H.size Bp) mc ms (va_A [(b, e0)] H.size)) (hls : ls.size = nl) (hc : Cond.code y bytes maxL none ∈ BIG) (hlink : Cond.methodLink own index y ∈ BIG) (hini : Cond.initialized y.cls ∈ BIG) (hin : Cond.instanceMethod y ∈ BIG) (hyn : y.name = "<init>") (hd : y.cls ≠ "java/lang/invoke/MethodHandle" ∧ y.cls ≠ "java/lang/invoke/VarHandle" ∧ (parseMethodDescriptor y.desc).map (fun d => d.parameters.length) = some n) (hn : As.length = n) (hrc : rm.cells = mc) (hrs : rm.slots = ms) (hR : rm.frames + 1 ≤ R.frames ∧ 8 + (maxL + 11) + rm.locals ≤ R.locals) (hW : (rest.map fun v => v.category).sum ≤ 8) (hf : cells + mc ≤ R.cells ∧ slots + ms ≤ R.slots) (hdg : decode cc pc = .ok (.invokespecial index, 3)) (hst : st = As.reverse ++ .ref b :: rest)
    (kk : ∀ u H locs, HI X A s (ws ++ Bp u) H locs → W p l e R s m args below meth c H locs (cells + mc) (slots + ms) Q (F0 m (pc + 3) ls rest)) : W p l e R s m args below meth c H locs cells slots Q (F0 m pc ls st) := by
  subst hst
  refine va_callv (va_runI (As := As) (rest := rest) ⟨B.hx, B.hb, B.hml, B.hown, B.hts⟩ hM (cwI n B.hts (big_sub (wbig_sub hc)) rfl hrc hrs (B.hts _ hini) (B.hts _ hlink) (B.hts _ hin) hyn hd hR) ⟨IP_blind, fun U hU hW => ⟨rfl, IP_of B (vP_r h.1) (vD_r h.2.1) hU hW⟩⟩ rfl hn hls rfl (lv_room hW) hdg hf) h.2.2 (fun q _ hq => i_fr h hA q hq) (i_fr h hA) (fun u t H1 locs1 ht hvm _ hB hz1 hk1 hS => ?_)
  obtain ⟨hP1, hD1⟩ := hB
  rw [ht] at hP1
  obtain ⟨hP, hD⟩ := hi_join h.1 h.2.1 hk1 (i_fr h hA) hP1 hD1
  exact kk u H1 locs1 ⟨hP, hD, hS⟩
end ICalls
theorem i_pc {pc' c' s' : Nat} {st : List Value} (e1 : pc = pc') (e2 : cells = c') (e3 : slots = s') (kk : W p l e R s m args below meth c H locs c' s' Q (F0 m pc' ls st)) : W p l e R s m args below meth c H locs cells slots Q (F0 m pc ls st) := by
  subst e1; subst e2; subst e3
  exact kk
theorem i_vret {Bp : (Nat → Nat) → va_W} (B : CI X p s m args c cc own nl) (hr : meth.sig.returnType = none) (hlk : meth.locks = false) (h : HI X A s ws H locs) (u : Nat → Nat) (hu : Bp u = ws) (hdg : decode cc pc = .ok (.return_, 1)) : W p l e R s m args below meth c H locs cells slots (ZQ X below A Bp args s cells slots) (F0 m pc ls []) := by
  subst hu
  exact W.vret B.hx B.hb hr (fun t ht hW => ⟨⟨u, rfl, trivial, by rw [ht]; exact h.1, h.2.1⟩, h.2.2.F ht⟩) h.2.2.2.2 hdg hlk
end IRows
theorem HI.sub {X : XT} {A : Nat → Prop} {s : State} {ws ws' : va_W} {H : Heap} {locs : List Loc} (h : HI X A s ws H locs) (is : List Nat) (hn : va_nd is = true) (h1 : is.filterMap (fun i => ws[i]?) = ws') (h2 : is.map (fun i => ws[i]?) = ws'.map some) : HI X A s ws' H locs := ⟨h.1.sub is h1, h.2.1.sub is hn h2, h.2.2⟩
def wX9 (X : XT) (h0 : Nat) (u : Nat → Nat) : va_W := (h0, .inr (9, [.int 0, .int 0])) :: ([])
theorem wX9_cg (X : XT) (h0 : Nat) {u v : Nat → Nat} (h : ∀ i, 1 ≤ i → i < 1 → u i = v i) : wX9 X h0 u = wX9 X h0 v := by
  unfold wX9
  rfl
def wX6 (X : XT) (h0 : Nat) (u : Nat → Nat) : va_W := (h0, .inr (6, [.ref (u 1), .ref (u 2), .int 0])) :: (u 1, .inl (X.2.1 0, 12, .inl (fun _ => 0))) :: (u 2, .inl (X.2.1 0, 48, .inl (fun _ => 0))) :: ([])
theorem wX6_cg (X : XT) (h0 : Nat) {u v : Nat → Nat} (h : ∀ i, 1 ≤ i → i < 3 → u i = v i) : wX6 X h0 u = wX6 X h0 v := by
  unfold wX6
  simp only [h 1 (by omega) (by omega), h 2 (by omega) (by omega)]
def wX5 (X : XT) (h0 : Nat) (u : Nat → Nat) : va_W := (h0, .inr (5, [.ref (u 1), .ref (u 4), .ref (u 5), .ref (u 6), .int 0, .int 0, .int 0, .int 0, .int 0, .int 0, .int 0])) :: ((wX6 X (u 1) (fun i => u (1 + i))) ++ [(u 4, .inl (X.2.1 0, 4, .inl (fun _ => 0)))] ++ [(u 5, .inl (X.2.1 0, 4, .inl (fun _ => 0)))] ++ [(u 6, .inl (X.2.1 0, 4, .inl (fun _ => 0)))])
theorem wX5_cg (X : XT) (h0 : Nat) {u v : Nat → Nat} (h : ∀ i, 1 ≤ i → i < 7 → u i = v i) : wX5 X h0 u = wX5 X h0 v := by
  unfold wX5
  rw [show wX6 X (u 1) (fun i => u (1 + i)) = wX6 X (u 1) (fun i => v (1 + i)) from wX6_cg _ _ (fun i h1 h2 => h (1 + i) (by omega) (by omega))]
  simp only [h 1 (by omega) (by omega), h 4 (by omega) (by omega), h 5 (by omega) (by omega), h 6 (by omega) (by omega)]
def wX3 (X : XT) (t : Nat) (h0 : Nat) (u : Nat → Nat) : va_W := (h0, .inr (3, [.ref t, .ref (u 1), .ref (u 2), .ref (u 3), .int 0])) :: (u 1, .inl (X.2.1 3, 6, .inr (.inr (.inr (.inr (fun j => some (if j = 0 then u 4 else if j = 1 then u 11 else if j = 2 then u 18 else if j = 3 then u 25 else if j = 4 then u 32 else u 39))))))) :: (u 2, .inl (X.2.1 0, 3, .inl (fun _ => 0))) :: (u 3, .inl (X.2.1 0, 3, .inl (fun _ => 60))) :: ((wX5 X (u 4) (fun i => u (4 + i))) ++ (wX5 X (u 11) (fun i => u (11 + i))) ++ (wX5 X (u 18) (fun i => u (18 + i))) ++ (wX5 X (u 25) (fun i => u (25 + i))) ++ (wX5 X (u 32) (fun i => u (32 + i))) ++ (wX5 X (u 39) (fun i => u (39 + i))))
theorem wX3_cg (X : XT) (t : Nat) (h0 : Nat) {u v : Nat → Nat} (h : ∀ i, 1 ≤ i → i < 46 → u i = v i) : wX3 X t h0 u = wX3 X t h0 v := by
  unfold wX3
  rw [show wX5 X (u 4) (fun i => u (4 + i)) = wX5 X (u 4) (fun i => v (4 + i)) from wX5_cg _ _ (fun i h1 h2 => h (4 + i) (by omega) (by omega)), show wX5 X (u 11) (fun i => u (11 + i)) = wX5 X (u 11) (fun i => v (11 + i)) from wX5_cg _ _ (fun i h1 h2 => h (11 + i) (by omega) (by omega)), show wX5 X (u 18) (fun i => u (18 + i)) = wX5 X (u 18) (fun i => v (18 + i)) from wX5_cg _ _ (fun i h1 h2 => h (18 + i) (by omega) (by omega)), show wX5 X (u 25) (fun i => u (25 + i)) = wX5 X (u 25) (fun i => v (25 + i)) from wX5_cg _ _ (fun i h1 h2 => h (25 + i) (by omega) (by omega)), show wX5 X (u 32) (fun i => u (32 + i)) = wX5 X (u 32) (fun i => v (32 + i)) from wX5_cg _ _ (fun i h1 h2 => h (32 + i) (by omega) (by omega)), show wX5 X (u 39) (fun i => u (39 + i)) = wX5 X (u 39) (fun i => v (39 + i)) from wX5_cg _ _ (fun i h1 h2 => h (39 + i) (by omega) (by omega))]
  simp only [h 1 (by omega) (by omega), h 2 (by omega) (by omega), h 3 (by omega) (by omega), h 4 (by omega) (by omega), h 11 (by omega) (by omega), h 18 (by omega) (by omega), h 25 (by omega) (by omega), h 32 (by omega) (by omega), h 39 (by omega) (by omega)]
def wX8 (X : XT) (t : Nat) (ca : Nat) (h0 : Nat) (u : Nat → Nat) : va_W := (h0, .inr (8, [.ref t, .ref ca, .ref (u 1), .ref (u 2), .ref (u 3), .ref (u 4), .ref (u 5), .ref (u 6), .ref (u 7), .ref (u 8)])) :: (u 1, .inl (X.2.1 0, 3, .inl (fun _ => 1))) :: (u 2, .inl (X.2.1 0, 3, .inl (fun _ => 20))) :: (u 3, .inl (X.2.1 0, 3, .inl (fun _ => 12))) :: (u 4, .inl (X.2.1 0, 3, .inl (fun _ => 0))) :: (u 5, .inl (X.2.1 1, 3, .inl (fun _ => 0))) :: (u 6, .inl (X.2.1 1, 18, .inl (fun _ => 0))) :: (u 7, .inl (X.2.1 0, 3, .inl (fun _ => 0))) :: (u 8, .inl (X.2.1 0, 3, .inl (fun _ => 0))) :: ([])
theorem wX8_cg (X : XT) (t : Nat) (ca : Nat) (h0 : Nat) {u v : Nat → Nat} (h : ∀ i, 1 ≤ i → i < 9 → u i = v i) : wX8 X t ca h0 u = wX8 X t ca h0 v := by
  unfold wX8
  simp only [h 1 (by omega) (by omega), h 2 (by omega) (by omega), h 3 (by omega) (by omega), h 4 (by omega) (by omega), h 5 (by omega) (by omega), h 6 (by omega) (by omega), h 7 (by omega) (by omega), h 8 (by omega) (by omega)]
def wX7 (X : XT) (t : Nat) (ca : Nat) (h0 : Nat) (u : Nat → Nat) : va_W := (h0, .inr (7, [.ref t, .ref ca, .ref (u 4), .ref (u 1), .ref (u 2), .ref (u 3), .int 0])) :: (u 1, .inl (X.2.1 0, 6, .inl (fun _ => 0))) :: (u 2, .inl (X.2.1 0, 6, .inl (fun _ => 10))) :: (u 3, .inl (X.2.1 0, 6, .inl (fun _ => 0))) :: (u 4, .inl (X.2.1 2, 6, .inr (.inr (.inr (.inr (fun j => some (if j = 0 then u 5 else if j = 1 then u 8 else if j = 2 then u 11 else if j = 3 then u 14 else if j = 4 then u 17 else u 20))))))) :: ((wX6 X (u 5) (fun i => u (5 + i))) ++ (wX6 X (u 8) (fun i => u (8 + i))) ++ (wX6 X (u 11) (fun i => u (11 + i))) ++ (wX6 X (u 14) (fun i => u (14 + i))) ++ (wX6 X (u 17) (fun i => u (17 + i))) ++ (wX6 X (u 20) (fun i => u (20 + i))))
theorem wX7_cg (X : XT) (t : Nat) (ca : Nat) (h0 : Nat) {u v : Nat → Nat} (h : ∀ i, 1 ≤ i → i < 23 → u i = v i) : wX7 X t ca h0 u = wX7 X t ca h0 v := by
  unfold wX7
  rw [show wX6 X (u 5) (fun i => u (5 + i)) = wX6 X (u 5) (fun i => v (5 + i)) from wX6_cg _ _ (fun i h1 h2 => h (5 + i) (by omega) (by omega)), show wX6 X (u 8) (fun i => u (8 + i)) = wX6 X (u 8) (fun i => v (8 + i)) from wX6_cg _ _ (fun i h1 h2 => h (8 + i) (by omega) (by omega)), show wX6 X (u 11) (fun i => u (11 + i)) = wX6 X (u 11) (fun i => v (11 + i)) from wX6_cg _ _ (fun i h1 h2 => h (11 + i) (by omega) (by omega)), show wX6 X (u 14) (fun i => u (14 + i)) = wX6 X (u 14) (fun i => v (14 + i)) from wX6_cg _ _ (fun i h1 h2 => h (14 + i) (by omega) (by omega)), show wX6 X (u 17) (fun i => u (17 + i)) = wX6 X (u 17) (fun i => v (17 + i)) from wX6_cg _ _ (fun i h1 h2 => h (17 + i) (by omega) (by omega)), show wX6 X (u 20) (fun i => u (20 + i)) = wX6 X (u 20) (fun i => v (20 + i)) from wX6_cg _ _ (fun i h1 h2 => h (20 + i) (by omega) (by omega))]
  simp only [h 1 (by omega) (by omega), h 2 (by omega) (by omega), h 3 (by omega) (by omega), h 4 (by omega) (by omega), h 5 (by omega) (by omega), h 8 (by omega) (by omega), h 11 (by omega) (by omega), h 14 (by omega) (by omega), h 17 (by omega) (by omega), h 20 (by omega) (by omega)]
def wX4 (X : XT) (h0 : Nat) (u : Nat → Nat) : va_W := (h0, .inr (4, [.ref (u 1), .ref (u 2), .ref (u 3), .ref (u 4), .ref (u 5), .ref (u 6), .ref (u 7), .ref (u 8), .ref (u 9), .int 0, .int 0, .int 0, .int 0, .int 40, .int 0])) :: (u 1, .inl (X.2.1 0, 3, .inl (fun _ => 0))) :: (u 2, .inl (X.2.1 0, 6, .inl (fun _ => 0))) :: (u 3, .inl (X.2.1 0, 6, .inl (fun _ => 0))) :: (u 4, .inl (X.2.1 0, 4, .inl (fun _ => 0))) :: (u 5, .inl (X.2.1 0, 4, .inl (fun _ => 0))) :: (u 6, .inl (X.2.1 0, 4, .inl (fun _ => 0))) :: (u 7, .inl (X.2.1 0, 4, .inl (fun _ => 0))) :: (u 8, .inl (X.2.1 0, 3, .inl (fun _ => 0))) :: (u 9, .inl (X.2.1 0, 3, .inl (fun _ => 0))) :: ([])
theorem wX4_cg (X : XT) (h0 : Nat) {u v : Nat → Nat} (h : ∀ i, 1 ≤ i → i < 10 → u i = v i) : wX4 X h0 u = wX4 X h0 v := by
  unfold wX4
  simp only [h 1 (by omega) (by omega), h 2 (by omega) (by omega), h 3 (by omega) (by omega), h 4 (by omega) (by omega), h 5 (by omega) (by omega), h 6 (by omega) (by omega), h 7 (by omega) (by omega), h 8 (by omega) (by omega), h 9 (by omega) (by omega)]
def wX0 (X : XT) (h0 : Nat) (u : Nat → Nat) : va_W := (h0, .inr (0, [.ref (u 5), .ref (u 1), .ref (u 2), .ref (u 3), .ref (u 4), .int 0, .int 0, .int 0, .int (-1), .int 0, .int 0, .int 0, .int 0])) :: (u 1, .inl (X.2.1 0, 120, .inl (fun _ => 0))) :: (u 2, .inl (X.2.1 0, 3, .inl (fun _ => 0))) :: (u 3, .inl (X.2.1 0, 3, .inl (fun _ => 0))) :: (u 4, .inl (X.2.1 0, 3, .inl (fun _ => 0))) :: (u 5, .inl (X.2.1 2, 3, .inr (.inr (.inr (.inr (fun j => some (if j = 0 then u 6 else if j = 1 then u 9 else u 12))))))) :: ((wX6 X (u 6) (fun i => u (6 + i))) ++ (wX6 X (u 9) (fun i => u (9 + i))) ++ (wX6 X (u 12) (fun i => u (12 + i))))
theorem wX0_cg (X : XT) (h0 : Nat) {u v : Nat → Nat} (h : ∀ i, 1 ≤ i → i < 15 → u i = v i) : wX0 X h0 u = wX0 X h0 v := by
  unfold wX0
  rw [show wX6 X (u 6) (fun i => u (6 + i)) = wX6 X (u 6) (fun i => v (6 + i)) from wX6_cg _ _ (fun i h1 h2 => h (6 + i) (by omega) (by omega)), show wX6 X (u 9) (fun i => u (9 + i)) = wX6 X (u 9) (fun i => v (9 + i)) from wX6_cg _ _ (fun i h1 h2 => h (9 + i) (by omega) (by omega)), show wX6 X (u 12) (fun i => u (12 + i)) = wX6 X (u 12) (fun i => v (12 + i)) from wX6_cg _ _ (fun i h1 h2 => h (12 + i) (by omega) (by omega))]
  simp only [h 1 (by omega) (by omega), h 2 (by omega) (by omega), h 3 (by omega) (by omega), h 4 (by omega) (by omega), h 5 (by omega) (by omega), h 6 (by omega) (by omega), h 9 (by omega) (by omega), h 12 (by omega) (by omega)]
def wX1 (X : XT) (st : Nat) (so : Nat) (ca : Nat) (dr : Nat) (an : Nat) (h0 : Nat) (u : Nat → Nat) : va_W := (h0, .inr (1, [.ref st, .ref so, .ref ca, .ref dr, .ref an, .ref (u 1), .int 0, .int 0, .int 0, .int 0, .int 0])) :: (u 1, .inl (X.2.1 0, 12, .inl (fun _ => 0))) :: ([])
theorem wX1_cg (X : XT) (st : Nat) (so : Nat) (ca : Nat) (dr : Nat) (an : Nat) (h0 : Nat) {u v : Nat → Nat} (h : ∀ i, 1 ≤ i → i < 2 → u i = v i) : wX1 X st so ca dr an h0 u = wX1 X st so ca dr an h0 v := by
  unfold wX1
  simp only [h 1 (by omega) (by omega)]
def wX2 (X : XT) (st : Nat) (so : Nat) (h0 : Nat) (u : Nat → Nat) : va_W := (h0, .inr (2, [.ref st, .ref so, .ref (u 1), .ref (u 2), .ref (u 3), .ref (u 4), .ref (u 5), .ref (u 6), .ref (u 7), .int 0])) :: (u 1, .inl (X.2.1 0, 4, .inl (fun _ => 0))) :: (u 2, .inl (X.2.1 0, 4, .inl (fun _ => 0))) :: (u 3, .inl (X.2.1 0, 16, .inl (fun _ => 0))) :: (u 4, .inl (X.2.1 1, 4, .inl (fun _ => 0))) :: (u 5, .inl (X.2.1 0, 4, .inl (fun _ => 0))) :: (u 6, .inl (X.2.1 0, 4, .inl (fun _ => 0))) :: (u 7, .inl (X.2.1 2, 4, .inr (.inr (.inr (.inr (fun j => some (if j = 0 then u 8 else if j = 1 then u 11 else if j = 2 then u 14 else u 17))))))) :: ((wX6 X (u 8) (fun i => u (8 + i))) ++ (wX6 X (u 11) (fun i => u (11 + i))) ++ (wX6 X (u 14) (fun i => u (14 + i))) ++ (wX6 X (u 17) (fun i => u (17 + i))))
theorem wX2_cg (X : XT) (st : Nat) (so : Nat) (h0 : Nat) {u v : Nat → Nat} (h : ∀ i, 1 ≤ i → i < 20 → u i = v i) : wX2 X st so h0 u = wX2 X st so h0 v := by
  unfold wX2
  rw [show wX6 X (u 8) (fun i => u (8 + i)) = wX6 X (u 8) (fun i => v (8 + i)) from wX6_cg _ _ (fun i h1 h2 => h (8 + i) (by omega) (by omega)), show wX6 X (u 11) (fun i => u (11 + i)) = wX6 X (u 11) (fun i => v (11 + i)) from wX6_cg _ _ (fun i h1 h2 => h (11 + i) (by omega) (by omega)), show wX6 X (u 14) (fun i => u (14 + i)) = wX6 X (u 14) (fun i => v (14 + i)) from wX6_cg _ _ (fun i h1 h2 => h (14 + i) (by omega) (by omega)), show wX6 X (u 17) (fun i => u (17 + i)) = wX6 X (u 17) (fun i => v (17 + i)) from wX6_cg _ _ (fun i h1 h2 => h (17 + i) (by omega) (by omega))]
  simp only [h 1 (by omega) (by omega), h 2 (by omega) (by omega), h 3 (by omega) (by omega), h 4 (by omega) (by omega), h 5 (by omega) (by omega), h 6 (by omega) (by omega), h 7 (by omega) (by omega), h 8 (by omega) (by omega), h 11 (by omega) (by omega), h 14 (by omega) (by omega), h 17 (by omega) (by omega)]
def wX10 (X : XT) (h0 : Nat) (u : Nat → Nat) : va_W := (h0, .inr (10, [.ref (u 1), .ref (u 2), .ref (u 48), .ref (u 57), .ref (u 80), .ref (u 90), .ref (u 105), .ref (u 120), .ref (u 122)])) :: ((wX9 X (u 1) (fun i => u (1 + i))) ++ (wX3 X (u 1) (u 2) (fun i => u (2 + i))) ++ (wX8 X (u 1) (u 2) (u 48) (fun i => u (48 + i))) ++ (wX7 X (u 1) (u 2) (u 57) (fun i => u (57 + i))) ++ (wX4 X (u 80) (fun i => u (80 + i))) ++ (wX0 X (u 90) (fun i => u (90 + i))) ++ (wX0 X (u 105) (fun i => u (105 + i))) ++ (wX1 X (u 48) (u 57) (u 2) (u 80) (u 90) (u 120) (fun i => u (120 + i))) ++ (wX2 X (u 48) (u 57) (u 122) (fun i => u (122 + i))))
theorem wX10_cg (X : XT) (h0 : Nat) {u v : Nat → Nat} (h : ∀ i, 1 ≤ i → i < 142 → u i = v i) : wX10 X h0 u = wX10 X h0 v := by
  unfold wX10
  rw [show wX9 X (u 1) (fun i => u (1 + i)) = wX9 X (u 1) (fun i => v (1 + i)) from wX9_cg _ _ (fun i h1 h2 => h (1 + i) (by omega) (by omega)), show wX3 X (u 1) (u 2) (fun i => u (2 + i)) = wX3 X (u 1) (u 2) (fun i => v (2 + i)) from wX3_cg _ _ _ (fun i h1 h2 => h (2 + i) (by omega) (by omega)), show wX8 X (u 1) (u 2) (u 48) (fun i => u (48 + i)) = wX8 X (u 1) (u 2) (u 48) (fun i => v (48 + i)) from wX8_cg _ _ _ _ (fun i h1 h2 => h (48 + i) (by omega) (by omega)), show wX7 X (u 1) (u 2) (u 57) (fun i => u (57 + i)) = wX7 X (u 1) (u 2) (u 57) (fun i => v (57 + i)) from wX7_cg _ _ _ _ (fun i h1 h2 => h (57 + i) (by omega) (by omega)), show wX4 X (u 80) (fun i => u (80 + i)) = wX4 X (u 80) (fun i => v (80 + i)) from wX4_cg _ _ (fun i h1 h2 => h (80 + i) (by omega) (by omega)), show wX0 X (u 90) (fun i => u (90 + i)) = wX0 X (u 90) (fun i => v (90 + i)) from wX0_cg _ _ (fun i h1 h2 => h (90 + i) (by omega) (by omega)), show wX0 X (u 105) (fun i => u (105 + i)) = wX0 X (u 105) (fun i => v (105 + i)) from wX0_cg _ _ (fun i h1 h2 => h (105 + i) (by omega) (by omega)), show wX1 X (u 48) (u 57) (u 2) (u 80) (u 90) (u 120) (fun i => u (120 + i)) = wX1 X (u 48) (u 57) (u 2) (u 80) (u 90) (u 120) (fun i => v (120 + i)) from wX1_cg _ _ _ _ _ _ _ (fun i h1 h2 => h (120 + i) (by omega) (by omega)), show wX2 X (u 48) (u 57) (u 122) (fun i => u (122 + i)) = wX2 X (u 48) (u 57) (u 122) (fun i => v (122 + i)) from wX2_cg _ _ _ _ (fun i h1 h2 => h (122 + i) (by omega) (by omega))]
  simp only [h 1 (by omega) (by omega), h 2 (by omega) (by omega), h 48 (by omega) (by omega), h 57 (by omega) (by omega), h 80 (by omega) (by omega), h 90 (by omega) (by omega), h 105 (by omega) (by omega), h 120 (by omega) (by omega), h 122 (by omega) (by omega)]
