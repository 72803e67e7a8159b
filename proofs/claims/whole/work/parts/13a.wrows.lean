/-! ===== the law's wrappers: rows ===== -/
theorem bl_1 : Cond.classLink RL 13 (exn 1) ∈ BIG := big_at 529 (by decide +kernel) (by decide +kernel)
theorem bl_2 : Cond.classLink RL 15 (exn 2) ∈ BIG := big_at 530 (by decide +kernel) (by decide +kernel)
theorem bl_3 : Cond.classLink RL 17 (exn 3) ∈ BIG := big_at 531 (by decide +kernel) (by decide +kernel)
def oC (X : XT) (o : Nat) (f : Nat → Int64) : Nat × va_E := (o, .inl (X.2.1 4, 1, .inr (.inl f)))
def AO (X : XT) (o sz : Nat) : Nat → Prop := fun q => AX LC X sz q ∨ q = o
def NC (U : State) : Prop := ∀ a b : Nat, 1 ≤ a → a ≤ 3 → 1 ≤ b → b ≤ 3 → a ≠ b → va_Nc (exn a) (exn b) U
def PO (X : XT) (o : Nat) (M : Mem) (f : Nat → Int64) (sz : Nat) (U : State) : Prop := U.heap.size = sz ∧ va_P X.1 vwCl (wl LC X M) U.heap ∧ va_P X.1 vwCl [oC X o f] U.heap ∧ va_K X.1 vwCl (tysX X) U ∧ inj LC X ∧ (∀ i, i < LC.1 → X.2.2 i ≠ o) ∧ PN (AO X o sz) U ∧ TX (AO X o sz) U ∧ NC U
def HO (X : XT) (o : Nat) (M : Mem) (f : Nat → Int64) (s : State) (H : Heap) (locs : List Loc) : Prop := va_P X.1 vwCl (wl LC X M) H ∧ va_P X.1 vwCl [oC X o f] H ∧ va_S (AO X o s.heap.size) s.heap H locs
def Co (X : XT) (o : Nat) (p : Program) (s : State) (m : MethodId) (args : Array Value) (c : Code) (cc : ByteArray) (own : String) (nl : Nat) : Prop :=
  p.tables.exec = Jvm.exec ∧ c.code = cc ∧ c.maxLocals = nl ∧ s.vm.findClass own = some m.cls ∧ (∀ w ∈ BIG, w.before args s = true) ∧ va_K X.1 vwCl (tysX X) s ∧ inj LC X ∧ (∀ i, i < LC.1 → X.2.2 i ≠ o) ∧ PN (AO X o s.heap.size) s ∧ TX (AO X o s.heap.size) s ∧ NC s
theorem PO_blind {X : XT} {o : Nat} {M : Mem} {f : Nat → Int64} {sz : Nat} {As : List Value} : FrameBlind (va_Pc As (PO X o M f sz)) := fun a U g mk q => by
  obtain ⟨q0, q1, qP, qO, qK, qI, qx, ⟨q2, q3, zf, zg, a1, a2, a3, a4⟩, ⟨t1, t2, t3, t4⟩, qn⟩ := q
  have hv : U.vm.Alike (U.calling g mk a).vm := Vm.Alike.refl U.vm
  exact ⟨q0, q1, qP, qO, va_K.moved hv qK, qI, qx, ⟨fun q hq => va_Nw.same rfl rfl (q2 q hq), fun q hq => va_Nw.same rfl rfl (q3 q hq), zf, zg, a1.moved hv, a2.moved hv, a3.moved hv, a4.moved hv⟩, ⟨t1.moved hv, t2.moved hv, fun C hC => va_Nw.same rfl rfl (t3 C hC), fun C hC => va_Nw.same rfl rfl (t4 C hC)⟩, fun a b h1 h2 h3 h4 h5 => va_Nc.moved hv (qn a b h1 h2 h3 h4 h5)⟩
abbrev WQ (X : XT) (o : Nat) (km : Nat → Nat) (PV : Int32 → Int64 → Prop) (rs : XR) (sz : Nat) : Array Value → State → Outcome → State → Prop := va_Qi (fun (r : Int32) (g : Nat → Int64) => r = nI (km rs.1) ∧ (rs.1 = 0 → PV rs.2.1 (g 0))) (fun g t => va_P X.1 vwCl (wl LC X rs.2.2) t.heap ∧ va_P X.1 vwCl [oC X o g] t.heap) (AO X o sz)
abbrev WX (X : XT) (o sz : Nat) : String → State → State → Prop := vx_X (fun _ : Unit => False) (fun _ _ _ => True) (AO X o sz)
def pvI (v : Int32) (x : Int64) : Prop := x = v.toInt64
def pvZ (v : Int32) (x : Int64) : Prop := x = if v = 0 then 0 else 1
def pvN (_ : Int32) (_ : Int64) : Prop := True
section WRows
variable {p : Program} {l : Launch} {e : Env} {R : Room} {s : State} {m : MethodId} {args : Array Value} {below : List Frame} {meth : Method} {c : Code} {H : Heap} {locs : List Loc} {cells slots : Nat} {Q : State → Prop}
variable {cc : ByteArray} {own : String} {nl : Nat} {X : XT} {o : Nat} {M : Mem} {f : Nat → Int64} {pc : Nat} {ls : Array Slot} {rest : List Value}
theorem Co.hx (B : Co X o p s m args c cc own nl) : p.tables.exec = Jvm.exec := B.1
theorem Co.hb (B : Co X o p s m args c cc own nl) : c.code = cc := B.2.1
theorem Co.hml (B : Co X o p s m args c cc own nl) : c.maxLocals = nl := B.2.2.1
theorem Co.hown (B : Co X o p s m args c cc own nl) : s.vm.findClass own = some m.cls := B.2.2.2.1
theorem Co.hts (B : Co X o p s m args c cc own nl) : ∀ w ∈ BIG, w.before args s = true := B.2.2.2.2.1
theorem Co.hK (B : Co X o p s m args c cc own nl) : va_K X.1 vwCl (tysX X) s := B.2.2.2.2.2.1
theorem Co.hI (B : Co X o p s m args c cc own nl) : inj LC X := B.2.2.2.2.2.2.1
theorem Co.ho (B : Co X o p s m args c cc own nl) : ∀ i, i < LC.1 → X.2.2 i ≠ o := B.2.2.2.2.2.2.2.1
theorem Co.hN (B : Co X o p s m args c cc own nl) : PN (AO X o s.heap.size) s := B.2.2.2.2.2.2.2.2.1
theorem Co.hT (B : Co X o p s m args c cc own nl) : TX (AO X o s.heap.size) s := B.2.2.2.2.2.2.2.2.2.1
theorem Co.hC (B : Co X o p s m args c cc own nl) : NC s := B.2.2.2.2.2.2.2.2.2.2
theorem wx_go {y : MethodName} {rm : Room} {sz : Nat} {As : List Value} {ret : Option FieldType} {hh : List (Nat × Nat × Nat × Nat)} {Qc : Array Value → State → Outcome → State → Prop} {XC : String → State → State → Prop} {mc ms : Nat} (hy : plainName y.cls = true) (hl : (lg_sl As).length ≤ nl)
    (body : ∀ p e s m args below meth c, s.heap.size = sz → Co X o p s m args c cc y.cls nl → meth.sig.returnType = ret → meth.locks = false → c.exceptionTable.toList = tableOf hh → HO X o M f s s.heap [] → ∀ ls : Array Slot, lv_has ls nl (lv_args 0 As) → W p l e rm s m args below meth c s.heap [] 0 0 (vx_MQ below Qc XC args s mc ms (AO X o s.heap.size)) (F0 m 0 ls [])) : vx_Met l y (Cond.codeWith y cc nl ret hh :: BIG) rm (va_Pc As (PO X o M f sz)) Qc XC mc ms (AO X o sz) := by
  refine vx_ofWH (cc := cc) (maxL := nl) (ret := ret) (hh := hh) hy rfl ?_
  intro p e s m args below meth c s₁ B hml hv
  obtain ⟨rfl, hsz, hP, hO, hK, hI, hx, hN, hT, hC⟩ := hv
  have hts := atoms_spec (ws := Cond.codeWith y cc nl ret hh :: BIG) B.pre
  have hl := lv_entry As (n := nl) hl
  rw [lg_entry_eq]
  generalize (lg_sl As ++ List.replicate (nl - (lg_sl As).length) Slot.unset).toArray = ls at hl ⊢
  subst hsz
  exact body p e s m _ below meth c rfl ⟨B.exec, B.bytes, hml, findClass_of_methodNamed B.named, fun w hw => hts w (List.mem_cons_of_mem _ hw), hK, hI, hx, hN, hT, hC⟩ B.returns B.notSynchronized (vx_table (x := y) B (hts _ List.mem_cons_self)) ⟨hP, hO, va_S.rf⟩ ls hl
theorem wo_fr (hw : HO X o M f s H locs) : ∀ q, AX LC X H.size q → AO X o s.heap.size q := fun q h => Or.inl (AX_le hw.2.2.1 q h)
theorem PXW_o (B : Co X o p s m args c cc own nl) (hw : HO X o M f s H locs) {U : State} (hU : U.heap = H) (hW : s.WarmedH U.vm) : PXW LC X M H.size U :=
  ⟨⟨by rw [hU], by rw [hU]; exact hw.1, va_K.moved hW.alike B.hK, B.hI, B.hN.to hU hW hw.2.2.2.1 (wo_fr hw)⟩, B.hT.to hU hW hw.2.2.2.1 (wo_fr hw)⟩
theorem wo_keep (B : Co X o p s m args c cc own nl) (hw : HO X o M f s H locs) {H1 : Heap} (hk : ∀ q : Nat, q < H.size → ¬ AX LC X H.size q → H1[q]? = H[q]?) : va_P X.1 vwCl [oC X o f] H1 := by
  refine hw.2.1.kept (fun k q hq => ?_)
  have hl := (hw.2.1 k q hq).lt
  have hk0 : k = 0 := by have := (List.getElem?_eq_some_iff.mp hq).1; simp at this; exact this
  subst hk0
  cases hq
  refine hk o hl (fun h => ?_)
  rcases h with ⟨i, hi, h⟩ | h
  · exact B.ho i hi h.symm
  · exact Nat.not_le.mpr hl h
theorem cv_wh {R : Room} {index maxL n mc ms : Nat} {y : MethodName} {bytes : ByteArray} {ret : Option FieldType} {rm : Room} (hts : ∀ w ∈ BIG, w.before args s = true) (h : CVm R own index y bytes maxL ret rm n) (hc : rm.cells = mc) (hs : rm.slots = ms) (hR : rm.frames + 1 ≤ R.frames ∧ 8 + (maxL + 11) + rm.locals ≤ R.locals) : CallW R s args own y.cls index y bytes maxL ret (wbig y bytes maxL ret) rm mc ms n := by
  obtain ⟨h1, h2, h3, h4, h5, h6⟩ := h
  refine cwV n hts (big_sub ?_) rfl hc hs ⟨rfl, h6⟩ hR
  intro w hw
  simp only [wsV, wbig, List.cons_append, List.nil_append, List.mem_cons] at hw
  rcases hw with rfl | rfl | rfl | rfl | rfl | hw
  · exact h1
  · exact h2
  · exact h3
  · exact h4
  · exact h5
  · exact hw
section WCalls
variable {y : MethodName} {bytes : ByteArray} {maxL n index mc ms : Nat} {ret : Option FieldType} {rm : Room} {As : List Value} {rs : XR}
theorem wo_recv (B : Co X o p s m args c cc own nl) (hw : HO X o M f s H locs) : ∃ cell : Cell, H[X.2.2 0]? = some cell ∧ cell.vm.isStatics = false ∧ s.vm.findClass RX10 = some cell.cls := va_recv B.hK hw.1 (ci := 10) (q0 := 0) rfl (by rw [wl_at (L := LC) (i := 0) (by decide)]; exact congrArg (fun z => some (X.2.2 0, z)) (cC_10 (X := X) (i := 0) rfl (M 0)))
theorem w_calli (B : Co X o p s m args c cc own nl) (hw : HO X o M f s H locs) (hM : vx_Met l y (wbig y bytes maxL ret) rm (va_Pc (.ref (X.2.2 0) :: As) (PXW LC X M H.size)) (XQi LC X rs H.size) (XXC LC X rs H.size) mc ms (AX LC X H.size)) (hcv : CVm R own index y bytes maxL ret rm n) (hy : y.cls = RX10) (hn : As.length = n) (hls : ls.size = nl) (hc : rm.cells = mc) (hs : rm.slots = ms) (hR : rm.frames + 1 ≤ R.frames ∧ 8 + (maxL + 11) + rm.locals ≤ R.locals) (hW : (rest.map fun v => v.category).sum ≤ 8) (hf : cells + mc ≤ R.cells ∧ slots + ms ≤ R.slots) (hdg : decode cc pc = .ok (.invokevirtual index, 3)) {st : List Value} (hst : st = As.reverse ++ .ref (X.2.2 0) :: rest)
    (kx : ∀ (E : String) (ce : Cell) (q9 : Addr) (H1 : Heap) (locs1 : List Loc), rs.1 ≠ 0 → E = exn rs.1 → HO X o rs.2.2 f s H1 locs1 → H1[q9]? = some ce → ce.vm = .none → s.vm.findClass E = some ce.cls → vx_W p l e R s m args below meth c H1 locs1 (cells + mc) (slots + ms) Q (F0 m pc ls rest) q9)
    (kk : rs.1 = 0 → ∀ H locs, HO X o rs.2.2 f s H locs → W p l e R s m args below meth c H locs (cells + mc) (slots + ms) Q (F0 m (pc + 3) ls (.int rs.2.1 :: rest))) : W p l e R s m args below meth c H locs cells slots Q (F0 m pc ls st) := by
  subst hst
  refine vx_calli (vx_runV (As := As) (rest := rest) ⟨B.hx, B.hb, B.hml, B.hown, B.hts⟩ hM (cv_wh B.hts hcv hc hs hR) ⟨PXW_blind, by rw [hy]; exact wo_recv B hw, fun U hU hW => ⟨rfl, PXW_o B hw hU hW⟩⟩ rfl hn hls rfl (lv_room hW) hdg ⟨hf.1, hf.2⟩) hw.2.2 (fun q _ h => wo_fr hw q h) (wo_fr hw) (fun q _ h => wo_fr hw q h) (fun E ce q9 u t H1 locs1 ht hvm hpu hBX hz1 hk1 hS h1 h2 h3 => ?_) (fun r u t H1 locs1 ht hvm hwv hB hz1 hk1 hS => ?_)
  · obtain ⟨hE, hP⟩ := hBX
    rw [ht] at hP
    exact kx E ce q9 H1 locs1 hpu hE ⟨hP, wo_keep B hw hk1, hS⟩ h1 h2 h3
  · rw [ht] at hB
    obtain ⟨h0, rfl⟩ := hwv
    exact kk h0 H1 locs1 ⟨hB, wo_keep B hw hk1, hS⟩
theorem w_callv (B : Co X o p s m args c cc own nl) (hw : HO X o M f s H locs) (hM : vx_Met l y (wbig y bytes maxL ret) rm (va_Pc (.ref (X.2.2 0) :: As) (PXW LC X M H.size)) (XQv LC X rs H.size) (XXC LC X rs H.size) mc ms (AX LC X H.size)) (hcv : CVm R own index y bytes maxL ret rm n) (hy : y.cls = RX10) (hn : As.length = n) (hls : ls.size = nl) (hc : rm.cells = mc) (hs : rm.slots = ms) (hR : rm.frames + 1 ≤ R.frames ∧ 8 + (maxL + 11) + rm.locals ≤ R.locals) (hW : (rest.map fun v => v.category).sum ≤ 8) (hf : cells + mc ≤ R.cells ∧ slots + ms ≤ R.slots) (hdg : decode cc pc = .ok (.invokevirtual index, 3)) {st : List Value} (hst : st = As.reverse ++ .ref (X.2.2 0) :: rest)
    (kx : ∀ (E : String) (ce : Cell) (q9 : Addr) (H1 : Heap) (locs1 : List Loc), rs.1 ≠ 0 → E = exn rs.1 → HO X o rs.2.2 f s H1 locs1 → H1[q9]? = some ce → ce.vm = .none → s.vm.findClass E = some ce.cls → vx_W p l e R s m args below meth c H1 locs1 (cells + mc) (slots + ms) Q (F0 m pc ls rest) q9)
    (kk : rs.1 = 0 → ∀ H locs, HO X o rs.2.2 f s H locs → W p l e R s m args below meth c H locs (cells + mc) (slots + ms) Q (F0 m (pc + 3) ls rest)) : W p l e R s m args below meth c H locs cells slots Q (F0 m pc ls st) := by
  subst hst
  refine vx_callv (vx_runV (As := As) (rest := rest) ⟨B.hx, B.hb, B.hml, B.hown, B.hts⟩ hM (cv_wh B.hts hcv hc hs hR) ⟨PXW_blind, by rw [hy]; exact wo_recv B hw, fun U hU hW => ⟨rfl, PXW_o B hw hU hW⟩⟩ rfl hn hls rfl (lv_room hW) hdg ⟨hf.1, hf.2⟩) hw.2.2 (fun q _ h => wo_fr hw q h) (wo_fr hw) (fun q _ h => wo_fr hw q h) (fun E ce q9 u t H1 locs1 ht hvm hpu hBX hz1 hk1 hS h1 h2 h3 => ?_) (fun u t H1 locs1 ht hvm hwv hB hz1 hk1 hS => ?_)
  · obtain ⟨hE, hP⟩ := hBX
    rw [ht] at hP
    exact kx E ce q9 H1 locs1 hpu hE ⟨hP, wo_keep B hw hk1, hS⟩ h1 h2 h3
  · rw [ht] at hB
    exact kk hwv H1 locs1 ⟨hB, wo_keep B hw hk1, hS⟩
end WCalls
theorem wo_D (B : Co X o p s m args c cc own nl) : va_D (AO X o s.heap.size) ([oC X o f] ++ wl LC X M) := by
  refine va_D.app ⟨fun i j p q hi hj _ => ?_, fun k q hq => ?_⟩ ((wl_D (M := M) (sz := s.heap.size) B.hI).weaken (fun _ _ _ h => Or.inl h)) (fun i j p q hp hq e => ?_)
  · have h1 := (List.getElem?_eq_some_iff.mp hi).1
    have h2 := (List.getElem?_eq_some_iff.mp hj).1
    simp at h1 h2
    omega
  · have h1 := (List.getElem?_eq_some_iff.mp hq).1
    simp at h1
    subst h1
    cases hq
    exact Or.inr rfl
  · have h1 := (List.getElem?_eq_some_iff.mp hp).1
    simp at h1
    subst h1
    cases hp
    obtain ⟨hj, rfl⟩ := wl_no hq
    exact B.ho j hj e.symm
theorem w_last (B : Co X o p s m args c cc own nl) (hw : HO X o M f s H locs) {x : Int64} (hdg : decode cc pc = .ok (.lastore, 1))
    (kk : ∀ H locs, HO X o M (vp_updL f 0 x) s H locs → W p l e R s m args below meth c H locs cells slots Q (F0 m (pc + 1) ls rest)) : W p l e R s m args below meth c H locs cells slots Q (F0 m pc ls (.long x :: .int 0 :: .ref o :: rest)) := by
  refine va_last B.hx B.hb B.hK (hw.2.1.app hw.1) (wo_D B) hw.2.2 0 4 (cA := X.2.1 4) (n := 1) (f := f) rfl rfl (inb_in (by decide)) hdg (fun H1 l1 hP _ hS => ?_)
  have hP2 : va_P X.1 vwCl ([oC X o (vp_updL f 0 x)] ++ wl LC X M) H1 := hP
  exact kk H1 l1 ⟨vP_r hP2, vP_l hP2, hS⟩
theorem w_iret {r : Int32} {rs : XR} {km : Nat → Nat} {PV : Int32 → Int64 → Prop} {mc ms : Nat} {XC : String → State → State → Prop} (B : Co X o p s m args c cc own nl) (hr : meth.sig.returnType = some .int) (hlk : meth.locks = false) (hw : HO X o rs.2.2 f s H locs) (h1 : r = nI (km rs.1)) (h2 : rs.1 = 0 → PV rs.2.1 (f 0)) (hc : cells ≤ mc) (hs : slots ≤ ms) (hdg : decode cc pc = .ok (.ireturn, 1)) : W p l e R s m args below meth c H locs cells slots (vx_MQ below (WQ X o km PV rs s.heap.size) XC args s mc ms (AO X o s.heap.size)) (F0 m pc ls [.int r]) := by
  refine W.widen hc hs (vx_ret ?_)
  exact W.iret B.hx B.hb hr (fun t ht hW => ⟨⟨r, f, rfl, ⟨h1, h2⟩, by dsimp only; rw [ht]; exact ⟨hw.1, hw.2.1⟩⟩, hw.2.2.F ht⟩) hw.2.2.2.2 hdg hlk
theorem w_ps1 (B : Co X o p s m args c cc RL nl) (k : Nat) (h1 : 1 ≤ k) (h2 : k ≤ 3) (h3 : k ≠ 1) {a b h : Nat} : covers ⟨a, b, h, 13⟩ pc = false ∨ ((13 : Nat) ≠ 0 ∧ ∃ nm : String, (Cond.classLink RL 13 nm).before args s = true ∧ va_Nc (exn k) nm s) := Or.inr ⟨by decide, exn 1, B.hts _ bl_1, B.hC k 1 h1 h2 (by decide) (by decide) h3⟩
theorem w_ps2 (B : Co X o p s m args c cc RL nl) (k : Nat) (h1 : 1 ≤ k) (h2 : k ≤ 3) (h3 : k ≠ 2) {a b h : Nat} : covers ⟨a, b, h, 15⟩ pc = false ∨ ((15 : Nat) ≠ 0 ∧ ∃ nm : String, (Cond.classLink RL 15 nm).before args s = true ∧ va_Nc (exn k) nm s) := Or.inr ⟨by decide, exn 2, B.hts _ bl_2, B.hC k 2 h1 h2 (by decide) (by decide) h3⟩
theorem w_ps3 (B : Co X o p s m args c cc RL nl) (k : Nat) (h1 : 1 ≤ k) (h2 : k ≤ 3) (h3 : k ≠ 3) {a b h : Nat} : covers ⟨a, b, h, 17⟩ pc = false ∨ ((17 : Nat) ≠ 0 ∧ ∃ nm : String, (Cond.classLink RL 17 nm).before args s = true ∧ va_Nc (exn k) nm s) := Or.inr ⟨by decide, exn 3, B.hts _ bl_3, B.hC k 3 h1 h2 (by decide) (by decide) h3⟩
theorem w_cast (B : Co X o p s m args c cc own nl) (k : Nat) (h1 : 1 ≤ k) (h2 : k ≤ 3) : (Cond.castable (exn k) (exn k)).before args s = true := by
  have h3 : k = 1 ∨ k = 2 ∨ k = 3 := by omega
  rcases h3 with rfl | rfl | rfl
  · exact va_Nw.use rfl (B.hT.2.2.1 _ (by simp [exn]))
  · exact va_Nw.use rfl (B.hT.2.2.1 _ (by simp [exn]))
  · exact va_Nw.use rfl (B.hT.2.2.1 _ (by simp [exn]))
end WRows
theorem aa_code {fu : Nat} {M : Mem} {rs : XR} (h : f_X10_answersAnew fu M = some rs) : rs.1 = 0 ∨ rs.1 = 3 := by
  unfold f_X10_answersAnew at h
  obtain ⟨r, -, h⟩ := bd_e h
  unfold f_X10_needState at h
  by_cases hr : r = 0
  · rw [if_pos hr, bx_3] at h
    unfold xer at h
    cases h
    exact Or.inr rfl
  · rw [if_neg hr, bx_0] at h
    obtain ⟨N, -, h⟩ := bd_e h
    cases h
    exact Or.inl rfl
