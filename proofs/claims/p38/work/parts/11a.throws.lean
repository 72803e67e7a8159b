/-! ===== methods that throw: results (0, value, memory), or (kind, 0, memory) ===== -/
theorem bxm_e {x : Option XR} {k : Int32 → Mem → Option XR} {rs : XR} (h : bx x k xer = some rs) : (∃ r : XR, x = some r ∧ r.1 ≠ 0 ∧ rs.1 = r.1 ∧ rs.2.2 = r.2.2) ∨ (∃ v M, x = some (0, v, M) ∧ k v M = some rs) := by
  match x, h with
  | some (0, v, M), h => exact Or.inr ⟨v, M, rfl, h⟩
  | some (n + 1, v, M), h => cases h; exact Or.inl ⟨_, rfl, by simp, rfl, rfl⟩
  | none, h => cases h
def exn (k : Nat) : String := if k = 1 then "java/lang/IndexOutOfBoundsException" else if k = 2 then "java/lang/IllegalArgumentException" else "java/lang/IllegalStateException"
def xnames : List String := ["java/lang/RuntimeException", "java/lang/Exception"]
abbrev XQi (L : LT) (X : XT) (rs : XR) (sz : Nat) : Array Value → State → Outcome → State → Prop := va_Qi (fun (r : Int32) (_ : Unit) => rs.1 = 0 ∧ rs.2.1 = r) (fun _ t => va_P X.1 vwCl (wl L X rs.2.2) t.heap) (AX L X sz)
abbrev XQv (L : LT) (X : XT) (rs : XR) (sz : Nat) : Array Value → State → Outcome → State → Prop := va_Qv (fun (_ : Unit) => rs.1 = 0) (fun _ t => va_P X.1 vwCl (wl L X rs.2.2) t.heap) (AX L X sz)
abbrev XXC (L : LT) (X : XT) (rs : XR) (sz : Nat) : String → State → State → Prop := vx_X (fun (_ : Unit) => rs.1 ≠ 0) (fun E _ t => E = exn rs.1 ∧ va_P X.1 vwCl (wl L X rs.2.2) t.heap) (AX L X sz)
def TX (A : Nat → Prop) (U : State) : Prop := vx_Zq Bundle.tN "UNASSIGNED_STACK" Bundle.steD A U U.heap ∧ vx_Zq Bundle.tN "SUPPRESSED_SENTINEL" Bundle.listD A U U.heap ∧ (∀ C ∈ (["java/lang/IndexOutOfBoundsException", "java/lang/IllegalArgumentException", "java/lang/IllegalStateException"] : List String), va_Nw (.castable C C) U) ∧ (∀ C ∈ ([Bundle.tN, "java/lang/RuntimeException", "java/lang/Exception"] : List String), va_Nw (.declares (Bundle.init0 C)) U)
theorem TX.to {A A' : Nat → Prop} {s U : State} {H : Heap} (h : TX A s) (hU : U.heap = H) (hW : s.WarmedH U.vm) (hk : ∀ q : Nat, q < s.heap.size → ¬ A q → H[q]? = s.heap[q]?) (hA : ∀ q, A' q → A q) : TX A' U := by
  obtain ⟨h1, h2, h3, h4⟩ := h
  subst hU
  exact ⟨((h1.moved hW.alike).kept hk).narrow hA, ((h2.moved hW.alike).kept hk).narrow hA, fun C hC => (h3 C hC).warmC hW, fun C hC => (h4 C hC).warmD hW⟩
def PXW (L : LT) (X : XT) (M : Mem) (sz : Nat) (U : State) : Prop := PW L X M sz U ∧ TX (AX L X sz) U
section XRows
variable {p : Program} {l : Launch} {e : Env} {R : Room} {s : State} {m : MethodId} {args : Array Value} {below : List Frame} {meth : Method} {c : Code} {H : Heap} {locs : List Loc} {cells slots : Nat} {Q : State → Prop}
variable {cc : ByteArray} {own : String} {nl : Nat} {L : LT} {X : XT} {M : Mem} {pc : Nat} {ls : Array Slot} {rest : List Value}
theorem PXW_of (B : Cx L X p s m args c cc own nl) (T : TX (AX L X s.heap.size) s) (hw : HW L X M s H locs) {U : State} (hU : U.heap = H) (hW : s.WarmedH U.vm) : PXW L X M H.size U := ⟨PW_of B hw hU hW, T.to hU hW hw.2.2.1 (AX_le hw.2.1)⟩
theorem PXW_blind {sz : Nat} {As : List Value} : FrameBlind (va_Pc As (PXW L X M sz)) := fun a U g mk q => by
  obtain ⟨q0, q1, t1, t2, t3, t4⟩ := q
  have hv : U.vm.Alike (U.calling g mk a).vm := Vm.Alike.refl U.vm
  exact ⟨q0, (PW_blind (sz := sz) (As := As) a U g mk ⟨q0, q1⟩).2, t1.moved hv, t2.moved hv, fun C hC => va_Nw.same rfl rfl (t3 C hC), fun C hC => va_Nw.same rfl rfl (t4 C hC)⟩
theorem metx_go {y : MethodName} {rm : Room} {sz : Nat} {As : List Value} {ret : Option FieldType} {Qc : Array Value → State → Outcome → State → Prop} {XC : String → State → State → Prop} {mc ms : Nat} (hy : plainName y.cls = true) (hl : (lg_sl As).length ≤ nl)
    (body : ∀ p e s m args below meth c, s.heap.size = sz → Cx L X p s m args c cc y.cls nl → TX (AX L X s.heap.size) s → meth.sig.returnType = ret → meth.locks = false → (∀ x ∈ c.exceptionTable.toList, False) → HW L X M s s.heap [] → ∀ ls : Array Slot, lv_has ls nl (lv_args 0 As) → W p l e rm s m args below meth c s.heap [] 0 0 (vx_MQ below Qc XC args s mc ms (AX L X s.heap.size)) (F0 m 0 ls [])) : vx_Met l y (wbig y cc nl ret) rm (va_Pc As (PXW L X M sz)) Qc XC mc ms (AX L X sz) := by
  refine vx_ofW (cc := cc) (maxL := nl) (ret := ret) hy rfl ?_
  intro p e s m args below meth c s₁ B hml hxt hv
  obtain ⟨rfl, ⟨hsz, hP, hK, hI, hN⟩, hT⟩ := hv
  have hts := atoms_spec (ws := wbig y cc nl ret) B.pre
  have hl := lv_entry As (n := nl) hl
  rw [lg_entry_eq]
  generalize (lg_sl As ++ List.replicate (nl - (lg_sl As).length) Slot.unset).toArray = ls at hl ⊢
  subst hsz
  exact body p e s m _ below meth c rfl ⟨B.exec, B.bytes, hml, findClass_of_methodNamed B.named, fun w hw => hts w (List.mem_cons_of_mem _ hw), hK, hI, hN⟩ hT B.returns B.notSynchronized hxt ⟨hP, va_S.rf⟩ ls hl
theorem x_F {A : Nat → Prop} {t : State} (hS : va_S A s.heap H locs) (h1 : H.size ≤ t.heap.size) (h2 : ∀ q : Nat, q < H.size → t.heap[q]? = H[q]?) : va_F A s t := ⟨Nat.le_trans hS.1 h1, fun q hq hA => by rw [h2 q (Nat.lt_of_lt_of_le hq hS.1)]; exact hS.2.1 q hq hA⟩
/-- new E(); throw -/
theorem x_throw {mc ms ik ic : Nat} {k : Nat} {rs : XR} {Qc : Array Value → State → Outcome → State → Prop} (hfl : l.stackTraces = false) (B : Cx L X p s m args c cc own nl) (T : TX (AX L X s.heap.size) s) (hxt : ∀ x ∈ c.exceptionTable.toList, False) (hw : HW L X M s H locs) (hlk : meth.locks = false) (hls : ls.size = nl)
    (hC : exn k ∈ (["java/lang/IndexOutOfBoundsException", "java/lang/IllegalArgumentException", "java/lang/IllegalStateException"] : List String)) (hfit : Bundle.fit (exn k) = true)
    (h1 : Cond.classLink own ik (exn k) ∈ BIG) (h2 : Cond.initialized (exn k) ∈ BIG) (h3 : ∀ w ∈ (vx_at0 own ic (exn k) xnames).filter goodWord, w ∈ BIG) (h4 : ∀ w ∈ (vx_at0 own ic (exn k) xnames).filter (fun w => !goodWord w), w ∈ ([Cond.castable (exn k) (exn k), .declares (Bundle.init0 Bundle.tN), .declares (Bundle.init0 "java/lang/RuntimeException"), .declares (Bundle.init0 "java/lang/Exception")] : List Cond)) (h5 : ∀ w ∈ Cond.classLink own ik (exn k) :: Cond.initialized (exn k) :: vx_at0 own ic (exn k) xnames, vx_ot w = true)
    (d0 : decode cc pc = .ok (.new ik, 3)) (d3 : decode cc (pc + 3) = .ok (.dup, 1)) (d4 : decode cc (pc + 4) = .ok (.invokespecial ic, 3)) (d7 : decode cc (pc + 7) = .ok (.athrow, 1))
    (hRf : 5 < R.frames) (hRl : (rest.map fun v => v.category).sum + 81 ≤ R.locals) (hRc : cells + 1 ≤ R.cells) (hRs : slots + 6 ≤ R.slots) (hc : cells + 1 ≤ mc) (hs : slots + 6 ≤ ms) (hk0 : k ≠ 0) (hk : rs.1 = k) (hM : rs.2.2 = M) :
    W p l e R s m args below meth c H locs cells slots (vx_MQ below Qc (XXC L X rs s.heap.size) args s mc ms (AX L X s.heap.size)) (F0 m pc ls rest) := by
  refine vx_throw0 (names := xnames) (A := AX L X s.heap.size) B.hx B.hb hfl B.hown hfit (by decide +kernel) (B.hts _ h1) (B.hts _ h2) (vx_hat (fun w hw => B.hts _ (h3 w hw)) h4 ?_) h5 T.1 T.2.1 hw.2 (hls.trans B.hml.symm) d0 d3 d4 d7 (fun x hx => (hxt x hx).elim) hRf hRl hRc hRs hlk (fun t _ hz hq => ⟨(), ?_, ⟨?_, ?_⟩, x_F hw.2 hz hq⟩) hw.2.2.2 hc hs
  · intro w hw
    simp only [List.mem_cons, List.not_mem_nil, or_false] at hw
    rcases hw with rfl | rfl | rfl | rfl
    · exact va_Nw.use rfl (T.2.2.1 _ hC)
    · exact va_Nw.use rfl (T.2.2.2 _ (by simp))
    · exact va_Nw.use rfl (T.2.2.2 _ (by simp))
    · exact va_Nw.use rfl (T.2.2.2 _ (by simp))
  · rw [hk]; exact hk0
  · rw [hk]
  · rw [hM]; exact hw.1.kept (fun k q hq2 => hq q.1 (hw.1 k q hq2).lt)
section XCalls
variable {y : MethodName} {bytes : ByteArray} {maxL n index mc ms : Nat} {ret : Option FieldType} {rm : Room} {i : Nat} {As : List Value} {rs' : XR}
theorem cs_wx (B : Cx L X p s m args c cc own nl) (h : CS R own index y bytes maxL ret rm n) (hc : rm.cells = mc) (hs : rm.slots = ms) (hR : rm.frames + 1 ≤ R.frames ∧ 8 + (maxL + 11) + rm.locals ≤ R.locals) : CallB R s args own index y bytes maxL ret (wbig y bytes maxL ret) rm mc ms n ∧ (Cond.static y).before args s = true := by
  obtain ⟨h1, h2, h4, h5, h6⟩ := h
  refine va_cwS n B.hts (big_sub ?_) rfl hc hs h6 hR
  intro w hw
  simp only [va_wsS, wbig, List.cons_append, List.nil_append, List.mem_cons] at hw
  rcases hw with rfl | rfl | rfl | rfl | hw
  · exact h1
  · exact h2
  · exact h4
  · exact h5
  · exact hw
theorem cv_wx (B : Cx L X p s m args c cc own nl) (h : CVm R own index y bytes maxL ret rm n) (hc : rm.cells = mc) (hs : rm.slots = ms) (hR : rm.frames + 1 ≤ R.frames ∧ 8 + (maxL + 11) + rm.locals ≤ R.locals) : CallW R s args own y.cls index y bytes maxL ret (wbig y bytes maxL ret) rm mc ms n := by
  obtain ⟨h1, h2, h3, h4, h5, h6⟩ := h
  refine cwV n B.hts (big_sub ?_) rfl hc hs ⟨rfl, h6⟩ hR
  intro w hw
  simp only [wsV, wbig, List.cons_append, List.nil_append, List.mem_cons] at hw
  rcases hw with rfl | rfl | rfl | rfl | rfl | hw
  · exact h1
  · exact h2
  · exact h3
  · exact h4
  · exact h5
  · exact hw
theorem x_callS (B : Cx L X p s m args c cc own nl) (T : TX (AX L X s.heap.size) s) (hw : HW L X M s H locs) (hM : vx_Met l y (wbig y bytes maxL ret) rm (va_Pc As (PXW L X M H.size)) (XQv L X rs' H.size) (XXC L X rs' H.size) mc ms (AX L X H.size)) (hcv : CS R own index y bytes maxL ret rm n) (hn : As.length = n) (hls : ls.size = nl) (hc : rm.cells = mc) (hs : rm.slots = ms) (hR : rm.frames + 1 ≤ R.frames ∧ 8 + (maxL + 11) + rm.locals ≤ R.locals) (hW : (rest.map fun v => v.category).sum ≤ 8) (hf : cells + mc ≤ R.cells ∧ slots + ms ≤ R.slots) (hdg : decode cc pc = .ok (.invokestatic index, 3)) {st : List Value} (hst : st = As.reverse ++ rest)
    (kx : ∀ (E : String) (ce : Cell) (q9 : Addr) (H1 : Heap) (locs1 : List Loc), rs'.1 ≠ 0 → E = exn rs'.1 → HW L X rs'.2.2 s H1 locs1 → H1[q9]? = some ce → ce.vm = .none → s.vm.findClass E = some ce.cls → vx_W p l e R s m args below meth c H1 locs1 (cells + mc) (slots + ms) Q (F0 m pc ls rest) q9)
    (kk : rs'.1 = 0 → ∀ H locs, HW L X rs'.2.2 s H locs → W p l e R s m args below meth c H locs (cells + mc) (slots + ms) Q (F0 m (pc + 3) ls rest)) : W p l e R s m args below meth c H locs cells slots Q (F0 m pc ls st) := by
  subst hst
  refine vx_callv (vx_runS (As := As) (rest := rest) ⟨B.hx, B.hb, B.hml, B.hown, B.hts⟩ hM (cs_wx B hcv hc hs hR) ⟨PXW_blind, fun U hU hW => ⟨rfl, PXW_of B T hw hU hW⟩⟩ rfl hn hls rfl (lv_room hW) hdg ⟨hf.1, hf.2⟩) hw.2 (fun q _ h => AX_fr hw q h) (AX_fr hw) (fun q _ h => AX_fr hw q h) (fun E ce q9 u t H1 locs1 ht hvm hpu hBX hz1 hk1 hS h1 h2 h3 => ?_) (fun u t H1 locs1 ht hvm hwv hB hz1 hk1 hS => ?_)
  · obtain ⟨hE, hP⟩ := hBX
    rw [ht] at hP
    exact kx E ce q9 H1 locs1 hpu hE ⟨hP, hS⟩ h1 h2 h3
  · rw [ht] at hB
    exact kk hwv H1 locs1 ⟨hB, hS⟩
theorem x_callV (B : Cx L X p s m args c cc own nl) (T : TX (AX L X s.heap.size) s) (hw : HW L X M s H locs) (hM : vx_Met l y (wbig y bytes maxL ret) rm (va_Pc (.ref (X.2.2 i) :: As) (PXW L X M H.size)) (XQv L X rs' H.size) (XXC L X rs' H.size) mc ms (AX L X H.size)) (hcv : CVm R own index y bytes maxL ret rm n) (hrv : ∃ cell : Cell, H[X.2.2 i]? = some cell ∧ cell.vm.isStatics = false ∧ s.vm.findClass y.cls = some cell.cls) (hn : As.length = n) (hls : ls.size = nl) (hc : rm.cells = mc) (hs : rm.slots = ms) (hR : rm.frames + 1 ≤ R.frames ∧ 8 + (maxL + 11) + rm.locals ≤ R.locals) (hW : (rest.map fun v => v.category).sum ≤ 8) (hf : cells + mc ≤ R.cells ∧ slots + ms ≤ R.slots) (hdg : decode cc pc = .ok (.invokevirtual index, 3)) {st : List Value} (hst : st = As.reverse ++ .ref (X.2.2 i) :: rest)
    (kx : ∀ (E : String) (ce : Cell) (q9 : Addr) (H1 : Heap) (locs1 : List Loc), rs'.1 ≠ 0 → E = exn rs'.1 → HW L X rs'.2.2 s H1 locs1 → H1[q9]? = some ce → ce.vm = .none → s.vm.findClass E = some ce.cls → vx_W p l e R s m args below meth c H1 locs1 (cells + mc) (slots + ms) Q (F0 m pc ls rest) q9)
    (kk : rs'.1 = 0 → ∀ H locs, HW L X rs'.2.2 s H locs → W p l e R s m args below meth c H locs (cells + mc) (slots + ms) Q (F0 m (pc + 3) ls rest)) : W p l e R s m args below meth c H locs cells slots Q (F0 m pc ls st) := by
  subst hst
  refine vx_callv (vx_runV (As := As) (rest := rest) ⟨B.hx, B.hb, B.hml, B.hown, B.hts⟩ hM (cv_wx B hcv hc hs hR) ⟨PXW_blind, hrv, fun U hU hW => ⟨rfl, PXW_of B T hw hU hW⟩⟩ rfl hn hls rfl (lv_room hW) hdg ⟨hf.1, hf.2⟩) hw.2 (fun q _ h => AX_fr hw q h) (AX_fr hw) (fun q _ h => AX_fr hw q h) (fun E ce q9 u t H1 locs1 ht hvm hpu hBX hz1 hk1 hS h1 h2 h3 => ?_) (fun u t H1 locs1 ht hvm hwv hB hz1 hk1 hS => ?_)
  · obtain ⟨hE, hP⟩ := hBX
    rw [ht] at hP
    exact kx E ce q9 H1 locs1 hpu hE ⟨hP, hS⟩ h1 h2 h3
  · rw [ht] at hB
    exact kk hwv H1 locs1 ⟨hB, hS⟩
/-- what a callee throws goes on -/
theorem x_on {rs : XR} {mcT msT : Nat} {Qc : Array Value → State → Outcome → State → Prop} (hxt : ∀ x ∈ c.exceptionTable.toList, False) (hlk : meth.locks = false) {E : String} {ce : Cell} {q9 : Addr} (h1 : rs'.1 ≠ 0) (hE : E = exn rs'.1) (hw : HW L X rs'.2.2 s H locs) (hce : H[q9]? = some ce) (hcv : ce.vm = .none) (hcl : s.vm.findClass E = some ce.cls) (e1 : rs.1 = rs'.1) (e2 : rs.2.2 = rs'.2.2) (hc : cells ≤ mcT) (hs : slots ≤ msT) :
    vx_W p l e R s m args below meth c H locs cells slots (vx_MQ below Qc (XXC L X rs s.heap.size) args s mcT msT (AX L X s.heap.size)) (F0 m pc ls rest) q9 :=
  vx_out (fun x hx => (hxt x hx).elim) hlk hce hcv hcl (fun t ht hvm => ⟨(), by rw [e1]; exact h1, ⟨by rw [e1]; exact hE, by rw [e2, ht]; exact hw.1⟩, hw.F ht⟩) hw.2.2.2 hc hs
end XCalls
theorem x_iret {v : Int32} {rs : XR} {mc ms : Nat} {XC : String → State → State → Prop} (B : Cx L X p s m args c cc own nl) (hr : meth.sig.returnType = some .int) (hlk : meth.locks = false) (hw : HW L X M s H locs) (h0 : rs = (0, v, M)) (hc : cells ≤ mc) (hs : slots ≤ ms) (hdg : decode cc pc = .ok (.ireturn, 1)) : W p l e R s m args below meth c H locs cells slots (vx_MQ below (XQi L X rs s.heap.size) XC args s mc ms (AX L X s.heap.size)) (F0 m pc ls [.int v]) := by
  subst h0
  refine W.widen hc hs (vx_ret ?_)
  exact W.iret B.hx B.hb hr (fun t ht hW => ⟨⟨v, (), rfl, ⟨rfl, rfl⟩, by dsimp only; rw [ht]; exact hw.1⟩, hw.F ht⟩) hw.2.2.2 hdg hlk
theorem x_zret {v : Int32} {rs : XR} {mc ms : Nat} {XC : String → State → State → Prop} (B : Cx L X p s m args c cc own nl) (hr : meth.sig.returnType = some .boolean) (hlk : meth.locks = false) (hz : isb v = true) (hw : HW L X M s H locs) (h0 : rs = (0, v, M)) (hc : cells ≤ mc) (hs : slots ≤ ms) (hdg : decode cc pc = .ok (.ireturn, 1)) : W p l e R s m args below meth c H locs cells slots (vx_MQ below (XQi L X rs s.heap.size) XC args s mc ms (AX L X s.heap.size)) (F0 m pc ls [.int v]) := by
  subst h0
  have hz' : v = 0 ∨ v = 1 := by simpa [isb] using hz
  refine W.widen hc hs (vx_ret ?_)
  exact W.zret B.hx B.hb hr (by rcases hz' with rfl | rfl <;> rfl) (fun t ht hW => ⟨⟨v, (), rfl, ⟨rfl, rfl⟩, by dsimp only; rw [ht]; exact hw.1⟩, hw.F ht⟩) hw.2.2.2 hdg hlk
theorem x_vret {rs : XR} {mc ms : Nat} {XC : String → State → State → Prop} (B : Cx L X p s m args c cc own nl) (hr : meth.sig.returnType = none) (hlk : meth.locks = false) (hw : HW L X M s H locs) (h0 : rs = (0, 0, M)) (hc : cells ≤ mc) (hs : slots ≤ ms) (hdg : decode cc pc = .ok (.return_, 1)) : W p l e R s m args below meth c H locs cells slots (vx_MQ below (XQv L X rs s.heap.size) XC args s mc ms (AX L X s.heap.size)) (F0 m pc ls []) := by
  subst h0
  refine W.widen hc hs (vx_ret ?_)
  exact W.vret B.hx B.hb hr (fun t ht hW => ⟨⟨(), rfl, rfl, by dsimp only; rw [ht]; exact hw.1⟩, hw.F ht⟩) hw.2.2.2 hdg hlk
end XRows

abbrev rm_X10_needPlace : Room := { frames := 6, cells := 1, slots := 6, locals := 90 }
set_option maxRecDepth 100000 in
set_option maxHeartbeats 4000000 in
theorem c_X10_needPlace (l : Launch) (hfl : l.stackTraces = false) (X : XT) (fu : Nat) (p0 : Int32) (M : Mem)  (rs : XR) (hf : f_X10_needPlace fu p0 M = some rs) (sz : Nat) : vx_Met l yX10_needPlace (wbig yX10_needPlace cX10_needPlace 1 none) rm_X10_needPlace (va_Pc [.int p0] (PXW LC X M sz)) (XQv LC X rs sz) (XXC LC X rs sz) 1 6 (AX LC X sz) := by
  refine metx_go (L := LC) (M := M) (by decide +kernel) (Nat.le_of_ble_eq_true rfl) ?_
  intro p e s m args below meth c hsz B T hr hlk hxt hw ls hl
  subst hsz
  have hx := B.hx
  have hb := B.hb
  have hl : lv_has ls 1 [(0, .int p0)] := hl
  generalize hQ : vx_MQ below _ _ args s _ _ (AX LC X s.heap.size) = Q
  unfold f_X10_needPlace at hf
  refine lv_iload_n hx hb dX10_needPlace_0 rfl (lv_at hl 0 rfl) ?_
  refine lv_if_ne (tgt := 12) hx hb dX10_needPlace_1 (by decide) (fun c_1 => ?_) (fun c_1 => ?_)
  · have hf := ie_e hf c_1
    cases hf
    subst hQ
    exact x_vret B hr hlk hw rfl (Nat.le_of_ble_eq_true rfl) (Nat.le_of_ble_eq_true rfl) dX10_needPlace_12
  · have hf := it_e hf c_1
    cases hf
    subst hQ
    exact x_throw (k := 1) hfl B T hxt hw hlk hl.1 (by decide +kernel) (by decide +kernel) (big_at 498 (by decide +kernel) (by decide +kernel)) (big_at 16 (by decide +kernel) (by decide +kernel)) (by decide +kernel) (by decide +kernel) (by decide +kernel) dX10_needPlace_4 dX10_needPlace_7 dX10_needPlace_8 dX10_needPlace_11 (Nat.le_of_ble_eq_true rfl) (Nat.le_of_ble_eq_true rfl) (Nat.le_of_ble_eq_true rfl) (Nat.le_of_ble_eq_true rfl) (Nat.le_of_ble_eq_true rfl) (Nat.le_of_ble_eq_true rfl) (by decide) rfl rfl
abbrev rm_X10_needIndex : Room := { frames := 7, cells := 1, slots := 6, locals := 110 }
set_option maxRecDepth 100000 in
set_option maxHeartbeats 4000000 in
theorem c_X10_needIndex (l : Launch) (hfl : l.stackTraces = false) (X : XT) (fu : Nat) (p0 : Int32) (p1 : Int32) (M : Mem)  (rs : XR) (hf : f_X10_needIndex fu p0 p1 M = some rs) (sz : Nat) : vx_Met l yX10_needIndex (wbig yX10_needIndex cX10_needIndex 2 none) rm_X10_needIndex (va_Pc [.int p0, .int p1] (PXW LC X M sz)) (XQv LC X rs sz) (XXC LC X rs sz) 1 6 (AX LC X sz) := by
  refine metx_go (L := LC) (M := M) (by decide +kernel) (Nat.le_of_ble_eq_true rfl) ?_
  intro p e s m args below meth c hsz B T hr hlk hxt hw ls hl
  subst hsz
  have hx := B.hx
  have hb := B.hb
  have hl : lv_has ls 2 [(0, .int p0), (1, .int p1)] := hl
  generalize hQ : vx_MQ below _ _ args s _ _ (AX LC X s.heap.size) = Q
  unfold f_X10_needIndex at hf
  refine lv_iload_n hx hb dX10_needIndex_0 rfl (lv_at hl 0 rfl) ?_
  refine nmv_e hf (fun kk => ∀ (H : Heap) (locs : List Loc), HW LC X M s H locs → W p l e rm_X10_needIndex s m args below meth c H locs 0 0 Q (F0 m 14 ls [.int kk])) (fun J => ?_) (fun v_3 hf H locs hw => ?_)
  · refine lv_if_lt (tgt := 13) hx hb dX10_needIndex_1 (by decide) (fun c_1 => ?_) (fun c_1 => ?_)
    · rw [if_pos c_1] at J
      refine lv_iconst (v := 0) hx hb dX10_needIndex_13 (by decide) ?_
      exact J _ _ hw
    · rw [if_neg c_1] at J
      refine lv_iload_n hx hb dX10_needIndex_4 rfl (lv_at hl 0 rfl) ?_
      refine lv_iload_n hx hb dX10_needIndex_5 rfl (lv_at hl 1 rfl) ?_
      refine lv_icmp_ge (tgt := 13) hx hb dX10_needIndex_6 (by decide) (fun c_2 => ?_) (fun c_2 => ?_)
      · rw [if_pos c_2] at J
        refine lv_iconst (v := 0) hx hb dX10_needIndex_13 (by decide) ?_
        exact J _ _ hw
      · rw [if_neg c_2] at J
        refine lv_iconst (v := 1) hx hb dX10_needIndex_9 (by decide) ?_
        refine lv_goto (tgt := 14) hx hb dX10_needIndex_10 (by decide) ?_
        exact J _ _ hw
  · rcases bxm_e hf with ⟨r_4, h_6, hr0, hr1, hr2⟩ | ⟨r_4, M_5, h_6, hf⟩
    · subst hQ
      refine x_callS (As := [.int v_3]) (rest := []) B T hw (c_X10_needPlace l hfl X fu v_3 M r_4 h_6 _) cs_X10_125 rfl hl.1 rfl rfl ⟨(Nat.le_of_ble_eq_true rfl), (Nat.le_of_ble_eq_true rfl)⟩ (Nat.le_of_ble_eq_true rfl) ⟨(Nat.le_of_ble_eq_true rfl), (Nat.le_of_ble_eq_true rfl)⟩ dX10_needIndex_14 rfl (fun E ce q9 H1 locs1 g1 g2 g3 g4 g5 g6 => ?_) (fun g1 => absurd g1 hr0)
      exact x_on hxt hlk g1 g2 g3 g4 g5 g6 hr1 hr2 (Nat.le_of_ble_eq_true rfl) (Nat.le_of_ble_eq_true rfl)
    refine x_callS (As := [.int v_3]) (rest := []) B T hw (c_X10_needPlace l hfl X fu v_3 M (0, r_4, M_5) h_6 _) cs_X10_125 rfl hl.1 rfl rfl ⟨(Nat.le_of_ble_eq_true rfl), (Nat.le_of_ble_eq_true rfl)⟩ (Nat.le_of_ble_eq_true rfl) ⟨(Nat.le_of_ble_eq_true rfl), (Nat.le_of_ble_eq_true rfl)⟩ dX10_needIndex_14 rfl (fun _ _ _ _ _ g1 => absurd rfl g1) (fun _ H locs hw => ?_)
    cases hf
    subst hQ
    exact x_vret B hr hlk hw rfl (Nat.le_of_ble_eq_true rfl) (Nat.le_of_ble_eq_true rfl) dX10_needIndex_17
abbrev rm_X10_needArgument : Room := { frames := 6, cells := 1, slots := 6, locals := 90 }
set_option maxRecDepth 100000 in
set_option maxHeartbeats 4000000 in
theorem c_X10_needArgument (l : Launch) (hfl : l.stackTraces = false) (X : XT) (fu : Nat) (p0 : Int32) (M : Mem)  (rs : XR) (hf : f_X10_needArgument fu p0 M = some rs) (sz : Nat) : vx_Met l yX10_needArgument (wbig yX10_needArgument cX10_needArgument 1 none) rm_X10_needArgument (va_Pc [.int p0] (PXW LC X M sz)) (XQv LC X rs sz) (XXC LC X rs sz) 1 6 (AX LC X sz) := by
  refine metx_go (L := LC) (M := M) (by decide +kernel) (Nat.le_of_ble_eq_true rfl) ?_
  intro p e s m args below meth c hsz B T hr hlk hxt hw ls hl
  subst hsz
  have hx := B.hx
  have hb := B.hb
  have hl : lv_has ls 1 [(0, .int p0)] := hl
  generalize hQ : vx_MQ below _ _ args s _ _ (AX LC X s.heap.size) = Q
  unfold f_X10_needArgument at hf
  refine lv_iload_n hx hb dX10_needArgument_0 rfl (lv_at hl 0 rfl) ?_
  refine lv_if_ne (tgt := 12) hx hb dX10_needArgument_1 (by decide) (fun c_1 => ?_) (fun c_1 => ?_)
  · have hf := ie_e hf c_1
    cases hf
    subst hQ
    exact x_vret B hr hlk hw rfl (Nat.le_of_ble_eq_true rfl) (Nat.le_of_ble_eq_true rfl) dX10_needArgument_12
  · have hf := it_e hf c_1
    cases hf
    subst hQ
    exact x_throw (k := 2) hfl B T hxt hw hlk hl.1 (by decide +kernel) (by decide +kernel) (big_at 575 (by decide +kernel) (by decide +kernel)) (big_at 15 (by decide +kernel) (by decide +kernel)) (by decide +kernel) (by decide +kernel) (by decide +kernel) dX10_needArgument_4 dX10_needArgument_7 dX10_needArgument_8 dX10_needArgument_11 (Nat.le_of_ble_eq_true rfl) (Nat.le_of_ble_eq_true rfl) (Nat.le_of_ble_eq_true rfl) (Nat.le_of_ble_eq_true rfl) (Nat.le_of_ble_eq_true rfl) (Nat.le_of_ble_eq_true rfl) (by decide) rfl rfl
abbrev rm_X10_needState : Room := { frames := 6, cells := 1, slots := 6, locals := 90 }
set_option maxRecDepth 100000 in
set_option maxHeartbeats 4000000 in
theorem c_X10_needState (l : Launch) (hfl : l.stackTraces = false) (X : XT) (fu : Nat) (p0 : Int32) (M : Mem)  (rs : XR) (hf : f_X10_needState fu p0 M = some rs) (sz : Nat) : vx_Met l yX10_needState (wbig yX10_needState cX10_needState 1 none) rm_X10_needState (va_Pc [.int p0] (PXW LC X M sz)) (XQv LC X rs sz) (XXC LC X rs sz) 1 6 (AX LC X sz) := by
  refine metx_go (L := LC) (M := M) (by decide +kernel) (Nat.le_of_ble_eq_true rfl) ?_
  intro p e s m args below meth c hsz B T hr hlk hxt hw ls hl
  subst hsz
  have hx := B.hx
  have hb := B.hb
  have hl : lv_has ls 1 [(0, .int p0)] := hl
  generalize hQ : vx_MQ below _ _ args s _ _ (AX LC X s.heap.size) = Q
  unfold f_X10_needState at hf
  refine lv_iload_n hx hb dX10_needState_0 rfl (lv_at hl 0 rfl) ?_
  refine lv_if_ne (tgt := 12) hx hb dX10_needState_1 (by decide) (fun c_1 => ?_) (fun c_1 => ?_)
  · have hf := ie_e hf c_1
    cases hf
    subst hQ
    exact x_vret B hr hlk hw rfl (Nat.le_of_ble_eq_true rfl) (Nat.le_of_ble_eq_true rfl) dX10_needState_12
  · have hf := it_e hf c_1
    cases hf
    subst hQ
    exact x_throw (k := 3) hfl B T hxt hw hlk hl.1 (by decide +kernel) (by decide +kernel) (big_at 635 (by decide +kernel) (by decide +kernel)) (big_at 17 (by decide +kernel) (by decide +kernel)) (by decide +kernel) (by decide +kernel) (by decide +kernel) dX10_needState_4 dX10_needState_7 dX10_needState_8 dX10_needState_11 (Nat.le_of_ble_eq_true rfl) (Nat.le_of_ble_eq_true rfl) (Nat.le_of_ble_eq_true rfl) (Nat.le_of_ble_eq_true rfl) (Nat.le_of_ble_eq_true rfl) (Nat.le_of_ble_eq_true rfl) (by decide) rfl rfl
abbrev rm_X10_add : Room := { frames := 8, cells := 3, slots := 18, locals := 131 }
set_option maxRecDepth 100000 in
set_option maxHeartbeats 4000000 in
theorem c_X10_add (l : Launch) (hfl : l.stackTraces = false) (X : XT) (fu : Nat) (p1 : Int32) (p2 : Int32) (p3 : Int32) (p4 : Int32) (p5 : Int32) (M : Mem)  (rs : XR) (hf : f_X10_add fu p1 p2 p3 p4 p5 M = some rs) (sz : Nat) : vx_Met l yX10_add (wbig yX10_add cX10_add 6 (some .int)) rm_X10_add (va_Pc [.ref (X.2.2 0), .int p1, .int p2, .int p3, .int p4, .int p5] (PXW LC X M sz)) (XQi LC X rs sz) (XXC LC X rs sz) 3 18 (AX LC X sz) := by
  refine metx_go (L := LC) (M := M) (by decide +kernel) (Nat.le_of_ble_eq_true rfl) ?_
  intro p e s m args below meth c hsz B T hr hlk hxt hw ls hl
  subst hsz
  have hx := B.hx
  have hb := B.hb
  have hl : lv_has ls 6 [(0, .ref (X.2.2 0)), (1, .int p1), (2, .int p2), (3, .int p3), (4, .int p4), (5, .int p5)] := hl
  generalize hQ : vx_MQ below _ _ args s _ _ (AX LC X s.heap.size) = Q
  unfold f_X10_add at hf
  refine lv_iload_n hx hb dX10_add_0 rfl (lv_at hl 1 rfl) ?_
  refine lv_bipush (v := 6) hx hb dX10_add_1 (by decide) ?_
  rcases bxm_e hf with ⟨r_1, h_3, hr0, hr1, hr2⟩ | ⟨r_1, M_2, h_3, hf⟩
  · subst hQ
    refine x_callS (As := [.int p1, .int 6]) (rest := []) B T hw (c_X10_needIndex l hfl X fu p1 6 M r_1 h_3 _) cs_X10_76 rfl hl.1 rfl rfl ⟨(Nat.le_of_ble_eq_true rfl), (Nat.le_of_ble_eq_true rfl)⟩ (Nat.le_of_ble_eq_true rfl) ⟨(Nat.le_of_ble_eq_true rfl), (Nat.le_of_ble_eq_true rfl)⟩ dX10_add_3 rfl (fun E ce q9 H1 locs1 g1 g2 g3 g4 g5 g6 => ?_) (fun g1 => absurd g1 hr0)
    exact x_on hxt hlk g1 g2 g3 g4 g5 g6 hr1 hr2 (Nat.le_of_ble_eq_true rfl) (Nat.le_of_ble_eq_true rfl)
  refine x_callS (As := [.int p1, .int 6]) (rest := []) B T hw (c_X10_needIndex l hfl X fu p1 6 M (0, r_1, M_2) h_3 _) cs_X10_76 rfl hl.1 rfl rfl ⟨(Nat.le_of_ble_eq_true rfl), (Nat.le_of_ble_eq_true rfl)⟩ (Nat.le_of_ble_eq_true rfl) ⟨(Nat.le_of_ble_eq_true rfl), (Nat.le_of_ble_eq_true rfl)⟩ dX10_add_3 rfl (fun _ _ _ _ _ g1 => absurd rfl g1) (fun _ H locs hw => ?_)
  refine lv_iload_n hx hb dX10_add_6 rfl (lv_at hl 1 rfl) ?_
  refine q_callSi (M' := M_2) (As := [.int p1]) (rest := []) B hw (c_X10_storeOf l X p1 _ rfl M_2 _) cs_X10_80 rfl hl.1 rfl rfl ⟨Nat.le_of_ble_eq_true rfl, Nat.le_of_ble_eq_true rfl⟩ (Nat.le_of_ble_eq_true rfl) ⟨Nat.le_of_ble_eq_true rfl, Nat.le_of_ble_eq_true rfl⟩ dX10_add_7 rfl (fun H locs hw => ?_)
  refine lv_iload_n hx hb dX10_add_10 rfl (lv_at hl 2 rfl) ?_
  refine lv_iload_n hx hb dX10_add_11 rfl (lv_at hl 3 rfl) ?_
  refine lv_iload hx hb dX10_add_12 (lv_at hl 4 rfl) ?_
  refine lv_iload hx hb dX10_add_14 (lv_at hl 5 rfl) ?_
  refine q_callSi (M' := M_2) (As := [.int (f_X10_storeOf p1), .int p2, .int p3, .int p4, .int p5]) (rest := []) B hw (c_X10_rowFits l X (f_X10_storeOf p1) p2 p3 p4 p5 _ rfl M_2 _) cs_X10_84 rfl hl.1 rfl rfl ⟨Nat.le_of_ble_eq_true rfl, Nat.le_of_ble_eq_true rfl⟩ (Nat.le_of_ble_eq_true rfl) ⟨Nat.le_of_ble_eq_true rfl, Nat.le_of_ble_eq_true rfl⟩ dX10_add_16 rfl (fun H locs hw => ?_)
  rcases bxm_e hf with ⟨r_4, h_6, hr0, hr1, hr2⟩ | ⟨r_4, M_5, h_6, hf⟩
  · subst hQ
    refine x_callS (As := [.int (f_X10_rowFits (f_X10_storeOf p1) p2 p3 p4 p5)]) (rest := []) B T hw (c_X10_needArgument l hfl X fu (f_X10_rowFits (f_X10_storeOf p1) p2 p3 p4 p5) M_2 r_4 h_6 _) cs_X10_88 rfl hl.1 rfl rfl ⟨(Nat.le_of_ble_eq_true rfl), (Nat.le_of_ble_eq_true rfl)⟩ (Nat.le_of_ble_eq_true rfl) ⟨(Nat.le_of_ble_eq_true rfl), (Nat.le_of_ble_eq_true rfl)⟩ dX10_add_19 rfl (fun E ce q9 H1 locs1 g1 g2 g3 g4 g5 g6 => ?_) (fun g1 => absurd g1 hr0)
    exact x_on hxt hlk g1 g2 g3 g4 g5 g6 hr1 hr2 (Nat.le_of_ble_eq_true rfl) (Nat.le_of_ble_eq_true rfl)
  refine x_callS (As := [.int (f_X10_rowFits (f_X10_storeOf p1) p2 p3 p4 p5)]) (rest := []) B T hw (c_X10_needArgument l hfl X fu (f_X10_rowFits (f_X10_storeOf p1) p2 p3 p4 p5) M_2 (0, r_4, M_5) h_6 _) cs_X10_88 rfl hl.1 rfl rfl ⟨(Nat.le_of_ble_eq_true rfl), (Nat.le_of_ble_eq_true rfl)⟩ (Nat.le_of_ble_eq_true rfl) ⟨(Nat.le_of_ble_eq_true rfl), (Nat.le_of_ble_eq_true rfl)⟩ dX10_add_19 rfl (fun _ _ _ _ _ g1 => absurd rfl g1) (fun _ H locs hw => ?_)
  refine lv_aload_n hx hb dX10_add_22 rfl (lv_at hl 0 rfl) ?_
  refine gt_X10_37 B hw (i := 0) rfl dX10_add_23 ?_
  refine lv_iload_n hx hb dX10_add_26 rfl (lv_at hl 1 rfl) ?_
  refine lv_iload_n hx hb dX10_add_27 rfl (lv_at hl 2 rfl) ?_
  obtain ⟨r_8, h_7, hf⟩ := bd_e hf
  refine q_callVi (M' := M_5) (i := 57) (As := [.int p1, .int p2]) (rest := []) B hw (c_X7_hasRoom l X fu p1 p2 M_5 r_8 h_7 _) cv_X10_92 (rc_7 B hw rfl) rfl hl.1 rfl rfl ⟨Nat.le_of_ble_eq_true rfl, Nat.le_of_ble_eq_true rfl⟩ (Nat.le_of_ble_eq_true rfl) ⟨Nat.le_of_ble_eq_true rfl, Nat.le_of_ble_eq_true rfl⟩ dX10_add_28 rfl (fun H locs hw => ?_)
  rcases bxm_e hf with ⟨r_9, h_11, hr0, hr1, hr2⟩ | ⟨r_9, M_10, h_11, hf⟩
  · subst hQ
    refine x_callS (As := [.int r_8]) (rest := []) B T hw (c_X10_needState l hfl X fu r_8 M_5 r_9 h_11 _) cs_X10_96 rfl hl.1 rfl rfl ⟨(Nat.le_of_ble_eq_true rfl), (Nat.le_of_ble_eq_true rfl)⟩ (Nat.le_of_ble_eq_true rfl) ⟨(Nat.le_of_ble_eq_true rfl), (Nat.le_of_ble_eq_true rfl)⟩ dX10_add_31 rfl (fun E ce q9 H1 locs1 g1 g2 g3 g4 g5 g6 => ?_) (fun g1 => absurd g1 hr0)
    exact x_on hxt hlk g1 g2 g3 g4 g5 g6 hr1 hr2 (Nat.le_of_ble_eq_true rfl) (Nat.le_of_ble_eq_true rfl)
  refine x_callS (As := [.int r_8]) (rest := []) B T hw (c_X10_needState l hfl X fu r_8 M_5 (0, r_9, M_10) h_11 _) cs_X10_96 rfl hl.1 rfl rfl ⟨(Nat.le_of_ble_eq_true rfl), (Nat.le_of_ble_eq_true rfl)⟩ (Nat.le_of_ble_eq_true rfl) ⟨(Nat.le_of_ble_eq_true rfl), (Nat.le_of_ble_eq_true rfl)⟩ dX10_add_31 rfl (fun _ _ _ _ _ g1 => absurd rfl g1) (fun _ H locs hw => ?_)
  refine lv_aload_n hx hb dX10_add_34 rfl (lv_at hl 0 rfl) ?_
  refine gt_X10_37 B hw (i := 0) rfl dX10_add_35 ?_
  refine lv_iload_n hx hb dX10_add_38 rfl (lv_at hl 1 rfl) ?_
  refine lv_iload_n hx hb dX10_add_39 rfl (lv_at hl 2 rfl) ?_
  refine lv_iload_n hx hb dX10_add_40 rfl (lv_at hl 3 rfl) ?_
  refine lv_iload hx hb dX10_add_41 (lv_at hl 4 rfl) ?_
  refine lv_iload hx hb dX10_add_43 (lv_at hl 5 rfl) ?_
  obtain ⟨r_13, M_14, h_12, hf⟩ := bm_e hf
  refine q_callVi (M' := M_14) (i := 57) (As := [.int p1, .int p2, .int p3, .int p4, .int p5]) (rest := []) B hw (c_X7_addRow l X fu p1 p2 p3 p4 p5 M_10 (r_13, M_14) h_12 _) cv_X10_99 (rc_7 B hw rfl) rfl hl.1 rfl rfl ⟨Nat.le_of_ble_eq_true rfl, Nat.le_of_ble_eq_true rfl⟩ (Nat.le_of_ble_eq_true rfl) ⟨Nat.le_of_ble_eq_true rfl, Nat.le_of_ble_eq_true rfl⟩ dX10_add_45 rfl (fun H locs hw => ?_)
  cases hf
  subst hQ
  exact x_iret B hr hlk hw rfl (Nat.le_of_ble_eq_true rfl) (Nat.le_of_ble_eq_true rfl) dX10_add_48
abbrev rm_X10_needCell : Room := { frames := 8, cells := 3, slots := 18, locals := 131 }
set_option maxRecDepth 100000 in
set_option maxHeartbeats 4000000 in
theorem c_X10_needCell (l : Launch) (hfl : l.stackTraces = false) (X : XT) (fu : Nat) (p1 : Int32) (p2 : Int32) (p3 : Int32) (M : Mem)  (rs : XR) (hf : f_X10_needCell fu p1 p2 p3 M = some rs) (sz : Nat) : vx_Met l yX10_needCell (wbig yX10_needCell cX10_needCell 4 none) rm_X10_needCell (va_Pc [.ref (X.2.2 0), .int p1, .int p2, .int p3] (PXW LC X M sz)) (XQv LC X rs sz) (XXC LC X rs sz) 3 18 (AX LC X sz) := by
  refine metx_go (L := LC) (M := M) (by decide +kernel) (Nat.le_of_ble_eq_true rfl) ?_
  intro p e s m args below meth c hsz B T hr hlk hxt hw ls hl
  subst hsz
  have hx := B.hx
  have hb := B.hb
  have hl : lv_has ls 4 [(0, .ref (X.2.2 0)), (1, .int p1), (2, .int p2), (3, .int p3)] := hl
  generalize hQ : vx_MQ below _ _ args s _ _ (AX LC X s.heap.size) = Q
  unfold f_X10_needCell at hf
  refine lv_iload_n hx hb dX10_needCell_0 rfl (lv_at hl 1 rfl) ?_
  refine lv_bipush (v := 6) hx hb dX10_needCell_1 (by decide) ?_
  rcases bxm_e hf with ⟨r_1, h_3, hr0, hr1, hr2⟩ | ⟨r_1, M_2, h_3, hf⟩
  · subst hQ
    refine x_callS (As := [.int p1, .int 6]) (rest := []) B T hw (c_X10_needIndex l hfl X fu p1 6 M r_1 h_3 _) cs_X10_76 rfl hl.1 rfl rfl ⟨(Nat.le_of_ble_eq_true rfl), (Nat.le_of_ble_eq_true rfl)⟩ (Nat.le_of_ble_eq_true rfl) ⟨(Nat.le_of_ble_eq_true rfl), (Nat.le_of_ble_eq_true rfl)⟩ dX10_needCell_3 rfl (fun E ce q9 H1 locs1 g1 g2 g3 g4 g5 g6 => ?_) (fun g1 => absurd g1 hr0)
    exact x_on hxt hlk g1 g2 g3 g4 g5 g6 hr1 hr2 (Nat.le_of_ble_eq_true rfl) (Nat.le_of_ble_eq_true rfl)
  refine x_callS (As := [.int p1, .int 6]) (rest := []) B T hw (c_X10_needIndex l hfl X fu p1 6 M (0, r_1, M_2) h_3 _) cs_X10_76 rfl hl.1 rfl rfl ⟨(Nat.le_of_ble_eq_true rfl), (Nat.le_of_ble_eq_true rfl)⟩ (Nat.le_of_ble_eq_true rfl) ⟨(Nat.le_of_ble_eq_true rfl), (Nat.le_of_ble_eq_true rfl)⟩ dX10_needCell_3 rfl (fun _ _ _ _ _ g1 => absurd rfl g1) (fun _ H locs hw => ?_)
  refine lv_iload_n hx hb dX10_needCell_6 rfl (lv_at hl 3 rfl) ?_
  refine lv_iload_n hx hb dX10_needCell_7 rfl (lv_at hl 1 rfl) ?_
  refine q_callSi (M' := M_2) (As := [.int p1]) (rest := [.int p3]) B hw (c_X10_storeOf l X p1 _ rfl M_2 _) cs_X10_80 rfl hl.1 rfl rfl ⟨Nat.le_of_ble_eq_true rfl, Nat.le_of_ble_eq_true rfl⟩ (Nat.le_of_ble_eq_true rfl) ⟨Nat.le_of_ble_eq_true rfl, Nat.le_of_ble_eq_true rfl⟩ dX10_needCell_8 rfl (fun H locs hw => ?_)
  refine q_callSi (M' := M_2) (As := [.int (f_X10_storeOf p1)]) (rest := [.int p3]) B hw (c_X10_columnsIn l X (f_X10_storeOf p1) _ rfl M_2 _) cs_X10_318 rfl hl.1 rfl rfl ⟨Nat.le_of_ble_eq_true rfl, Nat.le_of_ble_eq_true rfl⟩ (Nat.le_of_ble_eq_true rfl) ⟨Nat.le_of_ble_eq_true rfl, Nat.le_of_ble_eq_true rfl⟩ dX10_needCell_11 rfl (fun H locs hw => ?_)
  rcases bxm_e hf with ⟨r_4, h_6, hr0, hr1, hr2⟩ | ⟨r_4, M_5, h_6, hf⟩
  · subst hQ
    refine x_callS (As := [.int p3, .int (f_X10_columnsIn (f_X10_storeOf p1))]) (rest := []) B T hw (c_X10_needIndex l hfl X fu p3 (f_X10_columnsIn (f_X10_storeOf p1)) M_2 r_4 h_6 _) cs_X10_76 rfl hl.1 rfl rfl ⟨(Nat.le_of_ble_eq_true rfl), (Nat.le_of_ble_eq_true rfl)⟩ (Nat.le_of_ble_eq_true rfl) ⟨(Nat.le_of_ble_eq_true rfl), (Nat.le_of_ble_eq_true rfl)⟩ dX10_needCell_14 rfl (fun E ce q9 H1 locs1 g1 g2 g3 g4 g5 g6 => ?_) (fun g1 => absurd g1 hr0)
    exact x_on hxt hlk g1 g2 g3 g4 g5 g6 hr1 hr2 (Nat.le_of_ble_eq_true rfl) (Nat.le_of_ble_eq_true rfl)
  refine x_callS (As := [.int p3, .int (f_X10_columnsIn (f_X10_storeOf p1))]) (rest := []) B T hw (c_X10_needIndex l hfl X fu p3 (f_X10_columnsIn (f_X10_storeOf p1)) M_2 (0, r_4, M_5) h_6 _) cs_X10_76 rfl hl.1 rfl rfl ⟨(Nat.le_of_ble_eq_true rfl), (Nat.le_of_ble_eq_true rfl)⟩ (Nat.le_of_ble_eq_true rfl) ⟨(Nat.le_of_ble_eq_true rfl), (Nat.le_of_ble_eq_true rfl)⟩ dX10_needCell_14 rfl (fun _ _ _ _ _ g1 => absurd rfl g1) (fun _ H locs hw => ?_)
  refine lv_aload_n hx hb dX10_needCell_17 rfl (lv_at hl 0 rfl) ?_
  refine gt_X10_37 B hw (i := 0) rfl dX10_needCell_18 ?_
  refine gt_X10_115 B hw (i := 57) rfl dX10_needCell_21 ?_
  refine lv_iload_n hx hb dX10_needCell_24 rfl (lv_at hl 1 rfl) ?_
  obtain ⟨g_7, hf⟩ := grd_e hf
  refine c_aldR B hw (i := 61) rfl g_7 dX10_needCell_25 ?_
  refine r_topk (kV rfl g_7) hf (fun a_8 ha_8 hf => ?_)
  refine lv_iload_n hx hb dX10_needCell_26 rfl (lv_at hl 2 rfl) ?_
  obtain ⟨r_10, h_9, hf⟩ := bd_e hf
  refine q_callVi (M' := M_5) (i := a_8) (As := [.int p2]) (rest := []) B hw (c_X6_hasMark l X fu a_8 p2 M_5 ha_8 r_10 h_9 _) cv_X10_119 (rc_6 B hw ha_8) rfl hl.1 rfl rfl ⟨Nat.le_of_ble_eq_true rfl, Nat.le_of_ble_eq_true rfl⟩ (Nat.le_of_ble_eq_true rfl) ⟨Nat.le_of_ble_eq_true rfl, Nat.le_of_ble_eq_true rfl⟩ dX10_needCell_27 rfl (fun H locs hw => ?_)
  rcases bxm_e hf with ⟨r_11, h_13, hr0, hr1, hr2⟩ | ⟨r_11, M_12, h_13, hf⟩
  · subst hQ
    refine x_callS (As := [.int r_10]) (rest := []) B T hw (c_X10_needPlace l hfl X fu r_10 M_5 r_11 h_13 _) cs_X10_125 rfl hl.1 rfl rfl ⟨(Nat.le_of_ble_eq_true rfl), (Nat.le_of_ble_eq_true rfl)⟩ (Nat.le_of_ble_eq_true rfl) ⟨(Nat.le_of_ble_eq_true rfl), (Nat.le_of_ble_eq_true rfl)⟩ dX10_needCell_30 rfl (fun E ce q9 H1 locs1 g1 g2 g3 g4 g5 g6 => ?_) (fun g1 => absurd g1 hr0)
    exact x_on hxt hlk g1 g2 g3 g4 g5 g6 hr1 hr2 (Nat.le_of_ble_eq_true rfl) (Nat.le_of_ble_eq_true rfl)
  refine x_callS (As := [.int r_10]) (rest := []) B T hw (c_X10_needPlace l hfl X fu r_10 M_5 (0, r_11, M_12) h_13 _) cs_X10_125 rfl hl.1 rfl rfl ⟨(Nat.le_of_ble_eq_true rfl), (Nat.le_of_ble_eq_true rfl)⟩ (Nat.le_of_ble_eq_true rfl) ⟨(Nat.le_of_ble_eq_true rfl), (Nat.le_of_ble_eq_true rfl)⟩ dX10_needCell_30 rfl (fun _ _ _ _ _ g1 => absurd rfl g1) (fun _ H locs hw => ?_)
  cases hf
  subst hQ
  exact x_vret B hr hlk hw rfl (Nat.le_of_ble_eq_true rfl) (Nat.le_of_ble_eq_true rfl) dX10_needCell_33
abbrev rm_X10_change : Room := { frames := 9, cells := 4, slots := 24, locals := 154 }
set_option maxRecDepth 100000 in
set_option maxHeartbeats 4000000 in
theorem c_X10_change (l : Launch) (hfl : l.stackTraces = false) (X : XT) (fu : Nat) (p1 : Int32) (p2 : Int32) (p3 : Int32) (p4 : Int32) (M : Mem)  (rs : XR) (hf : f_X10_change fu p1 p2 p3 p4 M = some rs) (sz : Nat) : vx_Met l yX10_change (wbig yX10_change cX10_change 5 (some .int)) rm_X10_change (va_Pc [.ref (X.2.2 0), .int p1, .int p2, .int p3, .int p4] (PXW LC X M sz)) (XQi LC X rs sz) (XXC LC X rs sz) 4 24 (AX LC X sz) := by
  refine metx_go (L := LC) (M := M) (by decide +kernel) (Nat.le_of_ble_eq_true rfl) ?_
  intro p e s m args below meth c hsz B T hr hlk hxt hw ls hl
  subst hsz
  have hx := B.hx
  have hb := B.hb
  have hl : lv_has ls 5 [(0, .ref (X.2.2 0)), (1, .int p1), (2, .int p2), (3, .int p3), (4, .int p4)] := hl
  generalize hQ : vx_MQ below _ _ args s _ _ (AX LC X s.heap.size) = Q
  unfold f_X10_change at hf
  refine lv_aload_n hx hb dX10_change_0 rfl (lv_at hl 0 rfl) ?_
  refine lv_iload_n hx hb dX10_change_1 rfl (lv_at hl 1 rfl) ?_
  refine lv_iload_n hx hb dX10_change_2 rfl (lv_at hl 2 rfl) ?_
  refine lv_iload_n hx hb dX10_change_3 rfl (lv_at hl 3 rfl) ?_
  rcases bxm_e hf with ⟨r_1, h_3, hr0, hr1, hr2⟩ | ⟨r_1, M_2, h_3, hf⟩
  · subst hQ
    refine x_callV (i := 0) (As := [.int p1, .int p2, .int p3]) (rest := []) B T hw (c_X10_needCell l hfl X fu p1 p2 p3 M r_1 h_3 _) cv_X10_103 (rc_10 B hw rfl) rfl hl.1 rfl rfl ⟨(Nat.le_of_ble_eq_true rfl), (Nat.le_of_ble_eq_true rfl)⟩ (Nat.le_of_ble_eq_true rfl) ⟨(Nat.le_of_ble_eq_true rfl), (Nat.le_of_ble_eq_true rfl)⟩ dX10_change_4 rfl (fun E ce q9 H1 locs1 g1 g2 g3 g4 g5 g6 => ?_) (fun g1 => absurd g1 hr0)
    exact x_on hxt hlk g1 g2 g3 g4 g5 g6 hr1 hr2 (Nat.le_of_ble_eq_true rfl) (Nat.le_of_ble_eq_true rfl)
  refine x_callV (i := 0) (As := [.int p1, .int p2, .int p3]) (rest := []) B T hw (c_X10_needCell l hfl X fu p1 p2 p3 M (0, r_1, M_2) h_3 _) cv_X10_103 (rc_10 B hw rfl) rfl hl.1 rfl rfl ⟨(Nat.le_of_ble_eq_true rfl), (Nat.le_of_ble_eq_true rfl)⟩ (Nat.le_of_ble_eq_true rfl) ⟨(Nat.le_of_ble_eq_true rfl), (Nat.le_of_ble_eq_true rfl)⟩ dX10_change_4 rfl (fun _ _ _ _ _ g1 => absurd rfl g1) (fun _ H locs hw => ?_)
  refine lv_iload_n hx hb dX10_change_7 rfl (lv_at hl 1 rfl) ?_
  refine q_callSi (M' := M_2) (As := [.int p1]) (rest := []) B hw (c_X10_storeOf l X p1 _ rfl M_2 _) cs_X10_80 rfl hl.1 rfl rfl ⟨Nat.le_of_ble_eq_true rfl, Nat.le_of_ble_eq_true rfl⟩ (Nat.le_of_ble_eq_true rfl) ⟨Nat.le_of_ble_eq_true rfl, Nat.le_of_ble_eq_true rfl⟩ dX10_change_8 rfl (fun H locs hw => ?_)
  refine lv_iload_n hx hb dX10_change_11 rfl (lv_at hl 3 rfl) ?_
  refine lv_iload hx hb dX10_change_12 (lv_at hl 4 rfl) ?_
  refine q_callSi (M' := M_2) (As := [.int (f_X10_storeOf p1), .int p3, .int p4]) (rest := []) B hw (c_X10_mayChangeTo l X (f_X10_storeOf p1) p3 p4 _ rfl M_2 _) cs_X10_107 rfl hl.1 rfl rfl ⟨Nat.le_of_ble_eq_true rfl, Nat.le_of_ble_eq_true rfl⟩ (Nat.le_of_ble_eq_true rfl) ⟨Nat.le_of_ble_eq_true rfl, Nat.le_of_ble_eq_true rfl⟩ dX10_change_14 rfl (fun H locs hw => ?_)
  rcases bxm_e hf with ⟨r_4, h_6, hr0, hr1, hr2⟩ | ⟨r_4, M_5, h_6, hf⟩
  · subst hQ
    refine x_callS (As := [.int (f_X10_mayChangeTo (f_X10_storeOf p1) p3 p4)]) (rest := []) B T hw (c_X10_needArgument l hfl X fu (f_X10_mayChangeTo (f_X10_storeOf p1) p3 p4) M_2 r_4 h_6 _) cs_X10_88 rfl hl.1 rfl rfl ⟨(Nat.le_of_ble_eq_true rfl), (Nat.le_of_ble_eq_true rfl)⟩ (Nat.le_of_ble_eq_true rfl) ⟨(Nat.le_of_ble_eq_true rfl), (Nat.le_of_ble_eq_true rfl)⟩ dX10_change_17 rfl (fun E ce q9 H1 locs1 g1 g2 g3 g4 g5 g6 => ?_) (fun g1 => absurd g1 hr0)
    exact x_on hxt hlk g1 g2 g3 g4 g5 g6 hr1 hr2 (Nat.le_of_ble_eq_true rfl) (Nat.le_of_ble_eq_true rfl)
  refine x_callS (As := [.int (f_X10_mayChangeTo (f_X10_storeOf p1) p3 p4)]) (rest := []) B T hw (c_X10_needArgument l hfl X fu (f_X10_mayChangeTo (f_X10_storeOf p1) p3 p4) M_2 (0, r_4, M_5) h_6 _) cs_X10_88 rfl hl.1 rfl rfl ⟨(Nat.le_of_ble_eq_true rfl), (Nat.le_of_ble_eq_true rfl)⟩ (Nat.le_of_ble_eq_true rfl) ⟨(Nat.le_of_ble_eq_true rfl), (Nat.le_of_ble_eq_true rfl)⟩ dX10_change_17 rfl (fun _ _ _ _ _ g1 => absurd rfl g1) (fun _ H locs hw => ?_)
  refine lv_aload_n hx hb dX10_change_20 rfl (lv_at hl 0 rfl) ?_
  refine gt_X10_37 B hw (i := 0) rfl dX10_change_21 ?_
  refine lv_iload_n hx hb dX10_change_24 rfl (lv_at hl 1 rfl) ?_
  refine lv_iload_n hx hb dX10_change_25 rfl (lv_at hl 2 rfl) ?_
  refine lv_iload_n hx hb dX10_change_26 rfl (lv_at hl 3 rfl) ?_
  refine lv_iload hx hb dX10_change_27 (lv_at hl 4 rfl) ?_
  obtain ⟨r_8, M_9, h_7, hf⟩ := bm_e hf
  refine q_callVi (M' := M_9) (i := 57) (As := [.int p1, .int p2, .int p3, .int p4]) (rest := []) B hw (c_X7_changeCell l X fu p1 p2 p3 p4 M_5 (r_8, M_9) h_7 _) cv_X10_111 (rc_7 B hw rfl) rfl hl.1 rfl rfl ⟨Nat.le_of_ble_eq_true rfl, Nat.le_of_ble_eq_true rfl⟩ (Nat.le_of_ble_eq_true rfl) ⟨Nat.le_of_ble_eq_true rfl, Nat.le_of_ble_eq_true rfl⟩ dX10_change_29 rfl (fun H locs hw => ?_)
  cases hf
  subst hQ
  exact x_iret B hr hlk hw rfl (Nat.le_of_ble_eq_true rfl) (Nat.le_of_ble_eq_true rfl) dX10_change_32
abbrev rm_X10_remove : Room := { frames := 8, cells := 2, slots := 12, locals := 131 }
set_option maxRecDepth 100000 in
set_option maxHeartbeats 4000000 in
theorem c_X10_remove (l : Launch) (hfl : l.stackTraces = false) (X : XT) (fu : Nat) (p1 : Int32) (p2 : Int32) (M : Mem)  (rs : XR) (hf : f_X10_remove fu p1 p2 M = some rs) (sz : Nat) : vx_Met l yX10_remove (wbig yX10_remove cX10_remove 3 (some .int)) rm_X10_remove (va_Pc [.ref (X.2.2 0), .int p1, .int p2] (PXW LC X M sz)) (XQi LC X rs sz) (XXC LC X rs sz) 2 12 (AX LC X sz) := by
  refine metx_go (L := LC) (M := M) (by decide +kernel) (Nat.le_of_ble_eq_true rfl) ?_
  intro p e s m args below meth c hsz B T hr hlk hxt hw ls hl
  subst hsz
  have hx := B.hx
  have hb := B.hb
  have hl : lv_has ls 3 [(0, .ref (X.2.2 0)), (1, .int p1), (2, .int p2)] := hl
  generalize hQ : vx_MQ below _ _ args s _ _ (AX LC X s.heap.size) = Q
  unfold f_X10_remove at hf
  refine lv_iload_n hx hb dX10_remove_0 rfl (lv_at hl 1 rfl) ?_
  refine lv_bipush (v := 6) hx hb dX10_remove_1 (by decide) ?_
  rcases bxm_e hf with ⟨r_1, h_3, hr0, hr1, hr2⟩ | ⟨r_1, M_2, h_3, hf⟩
  · subst hQ
    refine x_callS (As := [.int p1, .int 6]) (rest := []) B T hw (c_X10_needIndex l hfl X fu p1 6 M r_1 h_3 _) cs_X10_76 rfl hl.1 rfl rfl ⟨(Nat.le_of_ble_eq_true rfl), (Nat.le_of_ble_eq_true rfl)⟩ (Nat.le_of_ble_eq_true rfl) ⟨(Nat.le_of_ble_eq_true rfl), (Nat.le_of_ble_eq_true rfl)⟩ dX10_remove_3 rfl (fun E ce q9 H1 locs1 g1 g2 g3 g4 g5 g6 => ?_) (fun g1 => absurd g1 hr0)
    exact x_on hxt hlk g1 g2 g3 g4 g5 g6 hr1 hr2 (Nat.le_of_ble_eq_true rfl) (Nat.le_of_ble_eq_true rfl)
  refine x_callS (As := [.int p1, .int 6]) (rest := []) B T hw (c_X10_needIndex l hfl X fu p1 6 M (0, r_1, M_2) h_3 _) cs_X10_76 rfl hl.1 rfl rfl ⟨(Nat.le_of_ble_eq_true rfl), (Nat.le_of_ble_eq_true rfl)⟩ (Nat.le_of_ble_eq_true rfl) ⟨(Nat.le_of_ble_eq_true rfl), (Nat.le_of_ble_eq_true rfl)⟩ dX10_remove_3 rfl (fun _ _ _ _ _ g1 => absurd rfl g1) (fun _ H locs hw => ?_)
  refine lv_aload_n hx hb dX10_remove_6 rfl (lv_at hl 0 rfl) ?_
  refine gt_X10_37 B hw (i := 0) rfl dX10_remove_7 ?_
  refine gt_X10_115 B hw (i := 57) rfl dX10_remove_10 ?_
  refine lv_iload_n hx hb dX10_remove_13 rfl (lv_at hl 1 rfl) ?_
  obtain ⟨g_4, hf⟩ := grd_e hf
  refine c_aldR B hw (i := 61) rfl g_4 dX10_remove_14 ?_
  refine r_topk (kV rfl g_4) hf (fun a_5 ha_5 hf => ?_)
  refine lv_iload_n hx hb dX10_remove_15 rfl (lv_at hl 2 rfl) ?_
  obtain ⟨r_7, h_6, hf⟩ := bd_e hf
  refine q_callVi (M' := M_2) (i := a_5) (As := [.int p2]) (rest := []) B hw (c_X6_hasMark l X fu a_5 p2 M_2 ha_5 r_7 h_6 _) cv_X10_119 (rc_6 B hw ha_5) rfl hl.1 rfl rfl ⟨Nat.le_of_ble_eq_true rfl, Nat.le_of_ble_eq_true rfl⟩ (Nat.le_of_ble_eq_true rfl) ⟨Nat.le_of_ble_eq_true rfl, Nat.le_of_ble_eq_true rfl⟩ dX10_remove_16 rfl (fun H locs hw => ?_)
  rcases bxm_e hf with ⟨r_8, h_10, hr0, hr1, hr2⟩ | ⟨r_8, M_9, h_10, hf⟩
  · subst hQ
    refine x_callS (As := [.int r_7]) (rest := []) B T hw (c_X10_needPlace l hfl X fu r_7 M_2 r_8 h_10 _) cs_X10_125 rfl hl.1 rfl rfl ⟨(Nat.le_of_ble_eq_true rfl), (Nat.le_of_ble_eq_true rfl)⟩ (Nat.le_of_ble_eq_true rfl) ⟨(Nat.le_of_ble_eq_true rfl), (Nat.le_of_ble_eq_true rfl)⟩ dX10_remove_19 rfl (fun E ce q9 H1 locs1 g1 g2 g3 g4 g5 g6 => ?_) (fun g1 => absurd g1 hr0)
    exact x_on hxt hlk g1 g2 g3 g4 g5 g6 hr1 hr2 (Nat.le_of_ble_eq_true rfl) (Nat.le_of_ble_eq_true rfl)
  refine x_callS (As := [.int r_7]) (rest := []) B T hw (c_X10_needPlace l hfl X fu r_7 M_2 (0, r_8, M_9) h_10 _) cs_X10_125 rfl hl.1 rfl rfl ⟨(Nat.le_of_ble_eq_true rfl), (Nat.le_of_ble_eq_true rfl)⟩ (Nat.le_of_ble_eq_true rfl) ⟨(Nat.le_of_ble_eq_true rfl), (Nat.le_of_ble_eq_true rfl)⟩ dX10_remove_19 rfl (fun _ _ _ _ _ g1 => absurd rfl g1) (fun _ H locs hw => ?_)
  refine lv_aload_n hx hb dX10_remove_22 rfl (lv_at hl 0 rfl) ?_
  refine gt_X10_37 B hw (i := 0) rfl dX10_remove_23 ?_
  refine lv_iload_n hx hb dX10_remove_26 rfl (lv_at hl 1 rfl) ?_
  refine lv_iload_n hx hb dX10_remove_27 rfl (lv_at hl 2 rfl) ?_
  obtain ⟨M_12, h_11, hf⟩ := bd_e hf
  refine q_callVv (M' := M_12) (i := 57) (As := [.int p1, .int p2]) (rest := []) B hw (c_X7_removeRow l X fu p1 p2 M_9 M_12 h_11 _) cv_X10_128 (rc_7 B hw rfl) rfl hl.1 rfl rfl ⟨Nat.le_of_ble_eq_true rfl, Nat.le_of_ble_eq_true rfl⟩ (Nat.le_of_ble_eq_true rfl) ⟨Nat.le_of_ble_eq_true rfl, Nat.le_of_ble_eq_true rfl⟩ dX10_remove_28 rfl (fun H locs hw => ?_)
  refine lv_aload_n hx hb dX10_remove_31 rfl (lv_at hl 0 rfl) ?_
  refine gt_X10_37 B hw (i := 0) rfl dX10_remove_32 ?_
  refine gt_X10_115 B hw (i := 57) rfl dX10_remove_35 ?_
  refine lv_iload_n hx hb dX10_remove_38 rfl (lv_at hl 1 rfl) ?_
  refine c_aldR B hw (i := 61) rfl g_4 dX10_remove_39 ?_
  refine r_topk (kV rfl g_4) hf (fun a_13 ha_13 hf => ?_)
  refine gt_X10_131 B hw (i := a_13) ha_13 dX10_remove_40 ?_
  cases hf
  subst hQ
  exact x_iret B hr hlk hw rfl (Nat.le_of_ble_eq_true rfl) (Nat.le_of_ble_eq_true rfl) dX10_remove_43
abbrev rm_X10_count : Room := { frames := 8, cells := 1, slots := 6, locals := 131 }
set_option maxRecDepth 100000 in
set_option maxHeartbeats 4000000 in
theorem c_X10_count (l : Launch) (hfl : l.stackTraces = false) (X : XT) (fu : Nat) (p1 : Int32) (M : Mem)  (rs : XR) (hf : f_X10_count fu p1 M = some rs) (sz : Nat) : vx_Met l yX10_count (wbig yX10_count cX10_count 2 (some .int)) rm_X10_count (va_Pc [.ref (X.2.2 0), .int p1] (PXW LC X M sz)) (XQi LC X rs sz) (XXC LC X rs sz) 1 6 (AX LC X sz) := by
  refine metx_go (L := LC) (M := M) (by decide +kernel) (Nat.le_of_ble_eq_true rfl) ?_
  intro p e s m args below meth c hsz B T hr hlk hxt hw ls hl
  subst hsz
  have hx := B.hx
  have hb := B.hb
  have hl : lv_has ls 2 [(0, .ref (X.2.2 0)), (1, .int p1)] := hl
  generalize hQ : vx_MQ below _ _ args s _ _ (AX LC X s.heap.size) = Q
  unfold f_X10_count at hf
  refine lv_iload_n hx hb dX10_count_0 rfl (lv_at hl 1 rfl) ?_
  refine lv_bipush (v := 6) hx hb dX10_count_1 (by decide) ?_
  rcases bxm_e hf with ⟨r_1, h_3, hr0, hr1, hr2⟩ | ⟨r_1, M_2, h_3, hf⟩
  · subst hQ
    refine x_callS (As := [.int p1, .int 6]) (rest := []) B T hw (c_X10_needIndex l hfl X fu p1 6 M r_1 h_3 _) cs_X10_76 rfl hl.1 rfl rfl ⟨(Nat.le_of_ble_eq_true rfl), (Nat.le_of_ble_eq_true rfl)⟩ (Nat.le_of_ble_eq_true rfl) ⟨(Nat.le_of_ble_eq_true rfl), (Nat.le_of_ble_eq_true rfl)⟩ dX10_count_3 rfl (fun E ce q9 H1 locs1 g1 g2 g3 g4 g5 g6 => ?_) (fun g1 => absurd g1 hr0)
    exact x_on hxt hlk g1 g2 g3 g4 g5 g6 hr1 hr2 (Nat.le_of_ble_eq_true rfl) (Nat.le_of_ble_eq_true rfl)
  refine x_callS (As := [.int p1, .int 6]) (rest := []) B T hw (c_X10_needIndex l hfl X fu p1 6 M (0, r_1, M_2) h_3 _) cs_X10_76 rfl hl.1 rfl rfl ⟨(Nat.le_of_ble_eq_true rfl), (Nat.le_of_ble_eq_true rfl)⟩ (Nat.le_of_ble_eq_true rfl) ⟨(Nat.le_of_ble_eq_true rfl), (Nat.le_of_ble_eq_true rfl)⟩ dX10_count_3 rfl (fun _ _ _ _ _ g1 => absurd rfl g1) (fun _ H locs hw => ?_)
  refine lv_aload_n hx hb dX10_count_6 rfl (lv_at hl 0 rfl) ?_
  refine gt_X10_37 B hw (i := 0) rfl dX10_count_7 ?_
  refine gt_X10_115 B hw (i := 57) rfl dX10_count_10 ?_
  refine lv_iload_n hx hb dX10_count_13 rfl (lv_at hl 1 rfl) ?_
  obtain ⟨g_4, hf⟩ := grd_e hf
  refine c_aldR B hw (i := 61) rfl g_4 dX10_count_14 ?_
  refine r_topk (kV rfl g_4) hf (fun a_5 ha_5 hf => ?_)
  refine gt_X10_131 B hw (i := a_5) ha_5 dX10_count_15 ?_
  cases hf
  subst hQ
  exact x_iret B hr hlk hw rfl (Nat.le_of_ble_eq_true rfl) (Nat.le_of_ble_eq_true rfl) dX10_count_18
abbrev rm_X10_cell : Room := { frames := 9, cells := 3, slots := 18, locals := 154 }
set_option maxRecDepth 100000 in
set_option maxHeartbeats 4000000 in
theorem c_X10_cell (l : Launch) (hfl : l.stackTraces = false) (X : XT) (fu : Nat) (p1 : Int32) (p2 : Int32) (p3 : Int32) (M : Mem)  (rs : XR) (hf : f_X10_cell fu p1 p2 p3 M = some rs) (sz : Nat) : vx_Met l yX10_cell (wbig yX10_cell cX10_cell 5 (some .int)) rm_X10_cell (va_Pc [.ref (X.2.2 0), .int p1, .int p2, .int p3] (PXW LC X M sz)) (XQi LC X rs sz) (XXC LC X rs sz) 3 18 (AX LC X sz) := by
  refine metx_go (L := LC) (M := M) (by decide +kernel) (Nat.le_of_ble_eq_true rfl) ?_
  intro p e s m args below meth c hsz B T hr hlk hxt hw ls hl
  subst hsz
  have hx := B.hx
  have hb := B.hb
  have hl : lv_has ls 5 [(0, .ref (X.2.2 0)), (1, .int p1), (2, .int p2), (3, .int p3)] := hl
  generalize hQ : vx_MQ below _ _ args s _ _ (AX LC X s.heap.size) = Q
  unfold f_X10_cell at hf
  refine lv_aload_n hx hb dX10_cell_0 rfl (lv_at hl 0 rfl) ?_
  refine lv_iload_n hx hb dX10_cell_1 rfl (lv_at hl 1 rfl) ?_
  refine lv_iload_n hx hb dX10_cell_2 rfl (lv_at hl 2 rfl) ?_
  refine lv_iload_n hx hb dX10_cell_3 rfl (lv_at hl 3 rfl) ?_
  rcases bxm_e hf with ⟨r_1, h_3, hr0, hr1, hr2⟩ | ⟨r_1, M_2, h_3, hf⟩
  · subst hQ
    refine x_callV (i := 0) (As := [.int p1, .int p2, .int p3]) (rest := []) B T hw (c_X10_needCell l hfl X fu p1 p2 p3 M r_1 h_3 _) cv_X10_103 (rc_10 B hw rfl) rfl hl.1 rfl rfl ⟨(Nat.le_of_ble_eq_true rfl), (Nat.le_of_ble_eq_true rfl)⟩ (Nat.le_of_ble_eq_true rfl) ⟨(Nat.le_of_ble_eq_true rfl), (Nat.le_of_ble_eq_true rfl)⟩ dX10_cell_4 rfl (fun E ce q9 H1 locs1 g1 g2 g3 g4 g5 g6 => ?_) (fun g1 => absurd g1 hr0)
    exact x_on hxt hlk g1 g2 g3 g4 g5 g6 hr1 hr2 (Nat.le_of_ble_eq_true rfl) (Nat.le_of_ble_eq_true rfl)
  refine x_callV (i := 0) (As := [.int p1, .int p2, .int p3]) (rest := []) B T hw (c_X10_needCell l hfl X fu p1 p2 p3 M (0, r_1, M_2) h_3 _) cv_X10_103 (rc_10 B hw rfl) rfl hl.1 rfl rfl ⟨(Nat.le_of_ble_eq_true rfl), (Nat.le_of_ble_eq_true rfl)⟩ (Nat.le_of_ble_eq_true rfl) ⟨(Nat.le_of_ble_eq_true rfl), (Nat.le_of_ble_eq_true rfl)⟩ dX10_cell_4 rfl (fun _ _ _ _ _ g1 => absurd rfl g1) (fun _ H locs hw => ?_)
  refine lv_aload_n hx hb dX10_cell_7 rfl (lv_at hl 0 rfl) ?_
  refine gt_X10_37 B hw (i := 0) rfl dX10_cell_8 ?_
  refine gt_X10_115 B hw (i := 57) rfl dX10_cell_11 ?_
  refine lv_iload_n hx hb dX10_cell_14 rfl (lv_at hl 1 rfl) ?_
  obtain ⟨g_4, hf⟩ := grd_e hf
  refine c_aldR B hw (i := 61) rfl g_4 dX10_cell_15 ?_
  refine r_topk (kV rfl g_4) hf (fun a_5 ha_5 hf => ?_)
  refine lv_astore (lv' := [(4, .ref (X.2.2 a_5)), (0, .ref (X.2.2 0)), (1, .int p1), (2, .int p2), (3, .int p3)]) hx hb dX10_cell_16 hl (by decide) rfl (fun ls hl => ?_)
  refine lv_aload hx hb dX10_cell_18 (lv_at hl 0 rfl) ?_
  refine lv_aload hx hb dX10_cell_20 (lv_at hl 0 rfl) ?_
  refine lv_iload_n hx hb dX10_cell_22 rfl (lv_at hl 3 rfl) ?_
  obtain ⟨r_7, h_6, hf⟩ := bd_e hf
  refine q_callVi (M' := M_2) (i := a_5) (As := [.int p2]) (rest := [.ref (X.2.2 a_5)]) B hw (c_X6_placeOf l X fu a_5 p2 M_2 ha_5 r_7 h_6 _) cv_X10_135 (rc_6 B hw ha_5) rfl hl.1 rfl rfl ⟨Nat.le_of_ble_eq_true rfl, Nat.le_of_ble_eq_true rfl⟩ (Nat.le_of_ble_eq_true rfl) ⟨Nat.le_of_ble_eq_true rfl, Nat.le_of_ble_eq_true rfl⟩ dX10_cell_23 rfl (fun H locs hw => ?_)
  refine lv_iload_n hx hb dX10_cell_26 rfl (lv_at hl 4 rfl) ?_
  obtain ⟨r_9, h_8, hf⟩ := bd_e hf
  refine q_callVi (M' := M_2) (i := a_5) (As := [.int r_7, .int p3]) (rest := []) B hw (c_X6_cellAt l X fu a_5 r_7 p3 M_2 ha_5 r_9 h_8 _) cv_X10_138 (rc_6 B hw ha_5) rfl hl.1 rfl rfl ⟨Nat.le_of_ble_eq_true rfl, Nat.le_of_ble_eq_true rfl⟩ (Nat.le_of_ble_eq_true rfl) ⟨Nat.le_of_ble_eq_true rfl, Nat.le_of_ble_eq_true rfl⟩ dX10_cell_27 rfl (fun H locs hw => ?_)
  cases hf
  subst hQ
  exact x_iret B hr hlk hw rfl (Nat.le_of_ble_eq_true rfl) (Nat.le_of_ble_eq_true rfl) dX10_cell_30
abbrev rm_X10_setPace : Room := { frames := 8, cells := 2, slots := 12, locals := 131 }
set_option maxRecDepth 100000 in
set_option maxHeartbeats 4000000 in
theorem c_X10_setPace (l : Launch) (hfl : l.stackTraces = false) (X : XT) (fu : Nat) (p1 : Int32) (p2 : Int32) (p3 : Int32) (M : Mem)  (rs : XR) (hf : f_X10_setPace fu p1 p2 p3 M = some rs) (sz : Nat) : vx_Met l yX10_setPace (wbig yX10_setPace cX10_setPace 5 (some .int)) rm_X10_setPace (va_Pc [.ref (X.2.2 0), .int p1, .int p2, .int p3] (PXW LC X M sz)) (XQi LC X rs sz) (XXC LC X rs sz) 2 12 (AX LC X sz) := by
  refine metx_go (L := LC) (M := M) (by decide +kernel) (Nat.le_of_ble_eq_true rfl) ?_
  intro p e s m args below meth c hsz B T hr hlk hxt hw ls hl
  subst hsz
  have hx := B.hx
  have hb := B.hb
  have hl : lv_has ls 5 [(0, .ref (X.2.2 0)), (1, .int p1), (2, .int p2), (3, .int p3)] := hl
  generalize hQ : vx_MQ below _ _ args s _ _ (AX LC X s.heap.size) = Q
  unfold f_X10_setPace at hf
  refine lv_iload_n hx hb dX10_setPace_0 rfl (lv_at hl 1 rfl) ?_
  refine lv_iconst (v := 3) hx hb dX10_setPace_1 (by decide) ?_
  rcases bxm_e hf with ⟨r_1, h_3, hr0, hr1, hr2⟩ | ⟨r_1, M_2, h_3, hf⟩
  · subst hQ
    refine x_callS (As := [.int p1, .int 3]) (rest := []) B T hw (c_X10_needIndex l hfl X fu p1 3 M r_1 h_3 _) cs_X10_76 rfl hl.1 rfl rfl ⟨(Nat.le_of_ble_eq_true rfl), (Nat.le_of_ble_eq_true rfl)⟩ (Nat.le_of_ble_eq_true rfl) ⟨(Nat.le_of_ble_eq_true rfl), (Nat.le_of_ble_eq_true rfl)⟩ dX10_setPace_2 rfl (fun E ce q9 H1 locs1 g1 g2 g3 g4 g5 g6 => ?_) (fun g1 => absurd g1 hr0)
    exact x_on hxt hlk g1 g2 g3 g4 g5 g6 hr1 hr2 (Nat.le_of_ble_eq_true rfl) (Nat.le_of_ble_eq_true rfl)
  refine x_callS (As := [.int p1, .int 3]) (rest := []) B T hw (c_X10_needIndex l hfl X fu p1 3 M (0, r_1, M_2) h_3 _) cs_X10_76 rfl hl.1 rfl rfl ⟨(Nat.le_of_ble_eq_true rfl), (Nat.le_of_ble_eq_true rfl)⟩ (Nat.le_of_ble_eq_true rfl) ⟨(Nat.le_of_ble_eq_true rfl), (Nat.le_of_ble_eq_true rfl)⟩ dX10_setPace_2 rfl (fun _ _ _ _ _ g1 => absurd rfl g1) (fun _ H locs hw => ?_)
  refine lv_iload_n hx hb dX10_setPace_5 rfl (lv_at hl 2 rfl) ?_
  refine lv_iconst (v := 0) hx hb dX10_setPace_6 (by decide) ?_
  refine lv_bipush (v := 30) hx hb dX10_setPace_7 (by decide) ?_
  refine q_callSi (M' := M_2) (As := [.int p2, .int 0, .int 30]) (rest := []) B hw (c_X10_isIn l X p2 0 30 _ rfl M_2 _) cs_X10_148 rfl hl.1 rfl rfl ⟨Nat.le_of_ble_eq_true rfl, Nat.le_of_ble_eq_true rfl⟩ (Nat.le_of_ble_eq_true rfl) ⟨Nat.le_of_ble_eq_true rfl, Nat.le_of_ble_eq_true rfl⟩ dX10_setPace_9 rfl (fun H locs hw => ?_)
  refine nmv_e hf (fun kk => ∀ (H : Heap) (locs : List Loc), HW LC X M_2 s H locs → W p l e rm_X10_setPace s m args below meth c H locs 1 6 Q (F0 m 30 ls [.int kk])) (fun J => ?_) (fun v_6 hf H locs hw => ?_)
  · refine lv_if_eq (tgt := 29) hx hb dX10_setPace_12 (by decide) (fun c_4 => ?_) (fun c_4 => ?_)
    · rw [if_pos c_4] at J
      refine lv_iconst (v := 0) hx hb dX10_setPace_29 (by decide) ?_
      exact J _ _ hw
    · rw [if_neg c_4] at J
      refine lv_iload_n hx hb dX10_setPace_15 rfl (lv_at hl 3 rfl) ?_
      refine lv_iconst (v := 0) hx hb dX10_setPace_16 (by decide) ?_
      refine lv_bipush (v := 60) hx hb dX10_setPace_17 (by decide) ?_
      refine q_callSi (M' := M_2) (As := [.int p3, .int 0, .int 60]) (rest := []) B hw (c_X10_isIn l X p3 0 60 _ rfl M_2 _) cs_X10_148 rfl hl.1 rfl rfl ⟨Nat.le_of_ble_eq_true rfl, Nat.le_of_ble_eq_true rfl⟩ (Nat.le_of_ble_eq_true rfl) ⟨Nat.le_of_ble_eq_true rfl, Nat.le_of_ble_eq_true rfl⟩ dX10_setPace_19 rfl (fun H locs hw => ?_)
      refine lv_if_eq (tgt := 29) hx hb dX10_setPace_22 (by decide) (fun c_5 => ?_) (fun c_5 => ?_)
      · rw [if_pos c_5] at J
        refine lv_iconst (v := 0) hx hb dX10_setPace_29 (by decide) ?_
        exact J _ _ hw
      · rw [if_neg c_5] at J
        refine lv_iconst (v := 1) hx hb dX10_setPace_25 (by decide) ?_
        refine lv_goto (tgt := 30) hx hb dX10_setPace_26 (by decide) ?_
        exact J _ _ hw
  · rcases bxm_e hf with ⟨r_7, h_9, hr0, hr1, hr2⟩ | ⟨r_7, M_8, h_9, hf⟩
    · subst hQ
      refine x_callS (As := [.int v_6]) (rest := []) B T hw (c_X10_needArgument l hfl X fu v_6 M_2 r_7 h_9 _) cs_X10_88 rfl hl.1 rfl rfl ⟨(Nat.le_of_ble_eq_true rfl), (Nat.le_of_ble_eq_true rfl)⟩ (Nat.le_of_ble_eq_true rfl) ⟨(Nat.le_of_ble_eq_true rfl), (Nat.le_of_ble_eq_true rfl)⟩ dX10_setPace_30 rfl (fun E ce q9 H1 locs1 g1 g2 g3 g4 g5 g6 => ?_) (fun g1 => absurd g1 hr0)
      exact x_on hxt hlk g1 g2 g3 g4 g5 g6 hr1 hr2 (Nat.le_of_ble_eq_true rfl) (Nat.le_of_ble_eq_true rfl)
    refine x_callS (As := [.int v_6]) (rest := []) B T hw (c_X10_needArgument l hfl X fu v_6 M_2 (0, r_7, M_8) h_9 _) cs_X10_88 rfl hl.1 rfl rfl ⟨(Nat.le_of_ble_eq_true rfl), (Nat.le_of_ble_eq_true rfl)⟩ (Nat.le_of_ble_eq_true rfl) ⟨(Nat.le_of_ble_eq_true rfl), (Nat.le_of_ble_eq_true rfl)⟩ dX10_setPace_30 rfl (fun _ _ _ _ _ g1 => absurd rfl g1) (fun _ H locs hw => ?_)
    refine lv_aload_n hx hb dX10_setPace_33 rfl (lv_at hl 0 rfl) ?_
    refine gt_X10_30 B hw (i := 0) rfl dX10_setPace_34 ?_
    refine gt_X10_151 B hw (i := 48) rfl dX10_setPace_37 ?_
    refine lv_iload_n hx hb dX10_setPace_40 rfl (lv_at hl 1 rfl) ?_
    obtain ⟨g_10, hf⟩ := grd_e hf
    refine c_iald B hw (i := 49) rfl g_10 dX10_setPace_41 ?_
    refine r_topn hf (fun x4_11 hf => ?_)
    refine lv_istore (lv' := [(4, .int x4_11), (0, .ref (X.2.2 0)), (1, .int p1), (2, .int p2), (3, .int p3)]) hx hb dX10_setPace_42 hl (by decide) rfl (fun ls hl => ?_)
    refine lv_aload_n hx hb dX10_setPace_44 rfl (lv_at hl 1 rfl) ?_
    refine gt_X10_30 B hw (i := 0) rfl dX10_setPace_45 ?_
    refine gt_X10_151 B hw (i := 48) rfl dX10_setPace_48 ?_
    refine lv_iload_n hx hb dX10_setPace_51 rfl (lv_at hl 2 rfl) ?_
    refine lv_iload_n hx hb dX10_setPace_52 rfl (lv_at hl 3 rfl) ?_
    refine c_iast B hw (i := 49) rfl g_10 dX10_setPace_53 hf (fun M_12 H locs hw hf => ?_)
    refine lv_aload_n hx hb dX10_setPace_54 rfl (lv_at hl 1 rfl) ?_
    refine gt_X10_21 B hw (i := 0) rfl dX10_setPace_55 ?_
    refine gt_X10_155 B hw (i := 2) rfl dX10_setPace_58 ?_
    refine lv_iload_n hx hb dX10_setPace_61 rfl (lv_at hl 2 rfl) ?_
    refine lv_iload_n hx hb dX10_setPace_62 rfl (lv_at hl 4 rfl) ?_
    refine c_iast B hw (i := 4) rfl g_10 dX10_setPace_63 hf (fun M_13 H locs hw hf => ?_)
    refine lv_iload hx hb dX10_setPace_64 (lv_at hl 0 rfl) ?_
    cases hf
    subst hQ
    exact x_iret B hr hlk hw rfl (Nat.le_of_ble_eq_true rfl) (Nat.le_of_ble_eq_true rfl) dX10_setPace_66
abbrev rm_X10_setBounds : Room := { frames := 8, cells := 2, slots := 12, locals := 131 }
set_option maxRecDepth 100000 in
set_option maxHeartbeats 4000000 in
theorem c_X10_setBounds (l : Launch) (hfl : l.stackTraces = false) (X : XT) (fu : Nat) (p1 : Int32) (p2 : Int32) (p3 : Int32) (M : Mem)  (rs : XR) (hf : f_X10_setBounds fu p1 p2 p3 M = some rs) (sz : Nat) : vx_Met l yX10_setBounds (wbig yX10_setBounds cX10_setBounds 5 (some .int)) rm_X10_setBounds (va_Pc [.ref (X.2.2 0), .int p1, .int p2, .int p3] (PXW LC X M sz)) (XQi LC X rs sz) (XXC LC X rs sz) 2 12 (AX LC X sz) := by
  refine metx_go (L := LC) (M := M) (by decide +kernel) (Nat.le_of_ble_eq_true rfl) ?_
  intro p e s m args below meth c hsz B T hr hlk hxt hw ls hl
  subst hsz
  have hx := B.hx
  have hb := B.hb
  have hl : lv_has ls 5 [(0, .ref (X.2.2 0)), (1, .int p1), (2, .int p2), (3, .int p3)] := hl
  generalize hQ : vx_MQ below _ _ args s _ _ (AX LC X s.heap.size) = Q
  unfold f_X10_setBounds at hf
  refine lv_iload_n hx hb dX10_setBounds_0 rfl (lv_at hl 1 rfl) ?_
  refine lv_iconst (v := 3) hx hb dX10_setBounds_1 (by decide) ?_
  rcases bxm_e hf with ⟨r_1, h_3, hr0, hr1, hr2⟩ | ⟨r_1, M_2, h_3, hf⟩
  · subst hQ
    refine x_callS (As := [.int p1, .int 3]) (rest := []) B T hw (c_X10_needIndex l hfl X fu p1 3 M r_1 h_3 _) cs_X10_76 rfl hl.1 rfl rfl ⟨(Nat.le_of_ble_eq_true rfl), (Nat.le_of_ble_eq_true rfl)⟩ (Nat.le_of_ble_eq_true rfl) ⟨(Nat.le_of_ble_eq_true rfl), (Nat.le_of_ble_eq_true rfl)⟩ dX10_setBounds_2 rfl (fun E ce q9 H1 locs1 g1 g2 g3 g4 g5 g6 => ?_) (fun g1 => absurd g1 hr0)
    exact x_on hxt hlk g1 g2 g3 g4 g5 g6 hr1 hr2 (Nat.le_of_ble_eq_true rfl) (Nat.le_of_ble_eq_true rfl)
  refine x_callS (As := [.int p1, .int 3]) (rest := []) B T hw (c_X10_needIndex l hfl X fu p1 3 M (0, r_1, M_2) h_3 _) cs_X10_76 rfl hl.1 rfl rfl ⟨(Nat.le_of_ble_eq_true rfl), (Nat.le_of_ble_eq_true rfl)⟩ (Nat.le_of_ble_eq_true rfl) ⟨(Nat.le_of_ble_eq_true rfl), (Nat.le_of_ble_eq_true rfl)⟩ dX10_setBounds_2 rfl (fun _ _ _ _ _ g1 => absurd rfl g1) (fun _ H locs hw => ?_)
  refine lv_iload_n hx hb dX10_setBounds_5 rfl (lv_at hl 2 rfl) ?_
  refine lv_iconst (v := 1) hx hb dX10_setBounds_6 (by decide) ?_
  refine lv_bipush (v := 20) hx hb dX10_setBounds_7 (by decide) ?_
  refine q_callSi (M' := M_2) (As := [.int p2, .int 1, .int 20]) (rest := []) B hw (c_X10_isIn l X p2 1 20 _ rfl M_2 _) cs_X10_148 rfl hl.1 rfl rfl ⟨Nat.le_of_ble_eq_true rfl, Nat.le_of_ble_eq_true rfl⟩ (Nat.le_of_ble_eq_true rfl) ⟨Nat.le_of_ble_eq_true rfl, Nat.le_of_ble_eq_true rfl⟩ dX10_setBounds_9 rfl (fun H locs hw => ?_)
  refine nmv_e hf (fun kk => ∀ (H : Heap) (locs : List Loc), HW LC X M_2 s H locs → W p l e rm_X10_setBounds s m args below meth c H locs 1 6 Q (F0 m 30 ls [.int kk])) (fun J => ?_) (fun v_6 hf H locs hw => ?_)
  · refine lv_if_eq (tgt := 29) hx hb dX10_setBounds_12 (by decide) (fun c_4 => ?_) (fun c_4 => ?_)
    · rw [if_pos c_4] at J
      refine lv_iconst (v := 0) hx hb dX10_setBounds_29 (by decide) ?_
      exact J _ _ hw
    · rw [if_neg c_4] at J
      refine lv_iload_n hx hb dX10_setBounds_15 rfl (lv_at hl 3 rfl) ?_
      refine lv_iconst (v := 0) hx hb dX10_setBounds_16 (by decide) ?_
      refine lv_bipush (v := 12) hx hb dX10_setBounds_17 (by decide) ?_
      refine q_callSi (M' := M_2) (As := [.int p3, .int 0, .int 12]) (rest := []) B hw (c_X10_isIn l X p3 0 12 _ rfl M_2 _) cs_X10_148 rfl hl.1 rfl rfl ⟨Nat.le_of_ble_eq_true rfl, Nat.le_of_ble_eq_true rfl⟩ (Nat.le_of_ble_eq_true rfl) ⟨Nat.le_of_ble_eq_true rfl, Nat.le_of_ble_eq_true rfl⟩ dX10_setBounds_19 rfl (fun H locs hw => ?_)
      refine lv_if_eq (tgt := 29) hx hb dX10_setBounds_22 (by decide) (fun c_5 => ?_) (fun c_5 => ?_)
      · rw [if_pos c_5] at J
        refine lv_iconst (v := 0) hx hb dX10_setBounds_29 (by decide) ?_
        exact J _ _ hw
      · rw [if_neg c_5] at J
        refine lv_iconst (v := 1) hx hb dX10_setBounds_25 (by decide) ?_
        refine lv_goto (tgt := 30) hx hb dX10_setBounds_26 (by decide) ?_
        exact J _ _ hw
  · rcases bxm_e hf with ⟨r_7, h_9, hr0, hr1, hr2⟩ | ⟨r_7, M_8, h_9, hf⟩
    · subst hQ
      refine x_callS (As := [.int v_6]) (rest := []) B T hw (c_X10_needArgument l hfl X fu v_6 M_2 r_7 h_9 _) cs_X10_88 rfl hl.1 rfl rfl ⟨(Nat.le_of_ble_eq_true rfl), (Nat.le_of_ble_eq_true rfl)⟩ (Nat.le_of_ble_eq_true rfl) ⟨(Nat.le_of_ble_eq_true rfl), (Nat.le_of_ble_eq_true rfl)⟩ dX10_setBounds_30 rfl (fun E ce q9 H1 locs1 g1 g2 g3 g4 g5 g6 => ?_) (fun g1 => absurd g1 hr0)
      exact x_on hxt hlk g1 g2 g3 g4 g5 g6 hr1 hr2 (Nat.le_of_ble_eq_true rfl) (Nat.le_of_ble_eq_true rfl)
    refine x_callS (As := [.int v_6]) (rest := []) B T hw (c_X10_needArgument l hfl X fu v_6 M_2 (0, r_7, M_8) h_9 _) cs_X10_88 rfl hl.1 rfl rfl ⟨(Nat.le_of_ble_eq_true rfl), (Nat.le_of_ble_eq_true rfl)⟩ (Nat.le_of_ble_eq_true rfl) ⟨(Nat.le_of_ble_eq_true rfl), (Nat.le_of_ble_eq_true rfl)⟩ dX10_setBounds_30 rfl (fun _ _ _ _ _ g1 => absurd rfl g1) (fun _ H locs hw => ?_)
    refine lv_aload_n hx hb dX10_setBounds_33 rfl (lv_at hl 0 rfl) ?_
    refine gt_X10_30 B hw (i := 0) rfl dX10_setBounds_34 ?_
    refine gt_X10_158 B hw (i := 48) rfl dX10_setBounds_37 ?_
    refine lv_iload_n hx hb dX10_setBounds_40 rfl (lv_at hl 1 rfl) ?_
    obtain ⟨g_10, hf⟩ := grd_e hf
    refine c_iald B hw (i := 50) rfl g_10 dX10_setBounds_41 ?_
    refine r_topn hf (fun x4_11 hf => ?_)
    refine lv_istore (lv' := [(4, .int x4_11), (0, .ref (X.2.2 0)), (1, .int p1), (2, .int p2), (3, .int p3)]) hx hb dX10_setBounds_42 hl (by decide) rfl (fun ls hl => ?_)
    refine lv_aload_n hx hb dX10_setBounds_44 rfl (lv_at hl 1 rfl) ?_
    refine gt_X10_30 B hw (i := 0) rfl dX10_setBounds_45 ?_
    refine gt_X10_158 B hw (i := 48) rfl dX10_setBounds_48 ?_
    refine lv_iload_n hx hb dX10_setBounds_51 rfl (lv_at hl 2 rfl) ?_
    refine lv_iload_n hx hb dX10_setBounds_52 rfl (lv_at hl 3 rfl) ?_
    refine c_iast B hw (i := 50) rfl g_10 dX10_setBounds_53 hf (fun M_12 H locs hw hf => ?_)
    refine lv_aload_n hx hb dX10_setBounds_54 rfl (lv_at hl 1 rfl) ?_
    refine gt_X10_30 B hw (i := 0) rfl dX10_setBounds_55 ?_
    refine gt_X10_161 B hw (i := 48) rfl dX10_setBounds_58 ?_
    refine lv_iload_n hx hb dX10_setBounds_61 rfl (lv_at hl 2 rfl) ?_
    refine lv_iload_n hx hb dX10_setBounds_62 rfl (lv_at hl 4 rfl) ?_
    refine c_iast B hw (i := 51) rfl g_10 dX10_setBounds_63 hf (fun M_13 H locs hw hf => ?_)
    refine lv_iload hx hb dX10_setBounds_64 (lv_at hl 0 rfl) ?_
    cases hf
    subst hQ
    exact x_iret B hr hlk hw rfl (Nat.le_of_ble_eq_true rfl) (Nat.le_of_ble_eq_true rfl) dX10_setBounds_66
abbrev rm_X10_setLease : Room := { frames := 8, cells := 2, slots := 12, locals := 131 }
set_option maxRecDepth 100000 in
set_option maxHeartbeats 4000000 in
theorem c_X10_setLease (l : Launch) (hfl : l.stackTraces = false) (X : XT) (fu : Nat) (p1 : Int32) (p2 : Int32) (M : Mem)  (rs : XR) (hf : f_X10_setLease fu p1 p2 M = some rs) (sz : Nat) : vx_Met l yX10_setLease (wbig yX10_setLease cX10_setLease 4 (some .int)) rm_X10_setLease (va_Pc [.ref (X.2.2 0), .int p1, .int p2] (PXW LC X M sz)) (XQi LC X rs sz) (XXC LC X rs sz) 2 12 (AX LC X sz) := by
  refine metx_go (L := LC) (M := M) (by decide +kernel) (Nat.le_of_ble_eq_true rfl) ?_
  intro p e s m args below meth c hsz B T hr hlk hxt hw ls hl
  subst hsz
  have hx := B.hx
  have hb := B.hb
  have hl : lv_has ls 4 [(0, .ref (X.2.2 0)), (1, .int p1), (2, .int p2)] := hl
  generalize hQ : vx_MQ below _ _ args s _ _ (AX LC X s.heap.size) = Q
  unfold f_X10_setLease at hf
  refine lv_iload_n hx hb dX10_setLease_0 rfl (lv_at hl 1 rfl) ?_
  refine lv_iconst (v := 3) hx hb dX10_setLease_1 (by decide) ?_
  rcases bxm_e hf with ⟨r_1, h_3, hr0, hr1, hr2⟩ | ⟨r_1, M_2, h_3, hf⟩
  · subst hQ
    refine x_callS (As := [.int p1, .int 3]) (rest := []) B T hw (c_X10_needIndex l hfl X fu p1 3 M r_1 h_3 _) cs_X10_76 rfl hl.1 rfl rfl ⟨(Nat.le_of_ble_eq_true rfl), (Nat.le_of_ble_eq_true rfl)⟩ (Nat.le_of_ble_eq_true rfl) ⟨(Nat.le_of_ble_eq_true rfl), (Nat.le_of_ble_eq_true rfl)⟩ dX10_setLease_2 rfl (fun E ce q9 H1 locs1 g1 g2 g3 g4 g5 g6 => ?_) (fun g1 => absurd g1 hr0)
    exact x_on hxt hlk g1 g2 g3 g4 g5 g6 hr1 hr2 (Nat.le_of_ble_eq_true rfl) (Nat.le_of_ble_eq_true rfl)
  refine x_callS (As := [.int p1, .int 3]) (rest := []) B T hw (c_X10_needIndex l hfl X fu p1 3 M (0, r_1, M_2) h_3 _) cs_X10_76 rfl hl.1 rfl rfl ⟨(Nat.le_of_ble_eq_true rfl), (Nat.le_of_ble_eq_true rfl)⟩ (Nat.le_of_ble_eq_true rfl) ⟨(Nat.le_of_ble_eq_true rfl), (Nat.le_of_ble_eq_true rfl)⟩ dX10_setLease_2 rfl (fun _ _ _ _ _ g1 => absurd rfl g1) (fun _ H locs hw => ?_)
  refine lv_iload_n hx hb dX10_setLease_5 rfl (lv_at hl 2 rfl) ?_
  refine lv_iconst (v := 0) hx hb dX10_setLease_6 (by decide) ?_
  refine lv_sipush (v := 200) hx hb dX10_setLease_7 (by decide) ?_
  refine q_callSi (M' := M_2) (As := [.int p2, .int 0, .int 200]) (rest := []) B hw (c_X10_isIn l X p2 0 200 _ rfl M_2 _) cs_X10_148 rfl hl.1 rfl rfl ⟨Nat.le_of_ble_eq_true rfl, Nat.le_of_ble_eq_true rfl⟩ (Nat.le_of_ble_eq_true rfl) ⟨Nat.le_of_ble_eq_true rfl, Nat.le_of_ble_eq_true rfl⟩ dX10_setLease_10 rfl (fun H locs hw => ?_)
  rcases bxm_e hf with ⟨r_4, h_6, hr0, hr1, hr2⟩ | ⟨r_4, M_5, h_6, hf⟩
  · subst hQ
    refine x_callS (As := [.int (f_X10_isIn p2 0 200)]) (rest := []) B T hw (c_X10_needArgument l hfl X fu (f_X10_isIn p2 0 200) M_2 r_4 h_6 _) cs_X10_88 rfl hl.1 rfl rfl ⟨(Nat.le_of_ble_eq_true rfl), (Nat.le_of_ble_eq_true rfl)⟩ (Nat.le_of_ble_eq_true rfl) ⟨(Nat.le_of_ble_eq_true rfl), (Nat.le_of_ble_eq_true rfl)⟩ dX10_setLease_13 rfl (fun E ce q9 H1 locs1 g1 g2 g3 g4 g5 g6 => ?_) (fun g1 => absurd g1 hr0)
    exact x_on hxt hlk g1 g2 g3 g4 g5 g6 hr1 hr2 (Nat.le_of_ble_eq_true rfl) (Nat.le_of_ble_eq_true rfl)
  refine x_callS (As := [.int (f_X10_isIn p2 0 200)]) (rest := []) B T hw (c_X10_needArgument l hfl X fu (f_X10_isIn p2 0 200) M_2 (0, r_4, M_5) h_6 _) cs_X10_88 rfl hl.1 rfl rfl ⟨(Nat.le_of_ble_eq_true rfl), (Nat.le_of_ble_eq_true rfl)⟩ (Nat.le_of_ble_eq_true rfl) ⟨(Nat.le_of_ble_eq_true rfl), (Nat.le_of_ble_eq_true rfl)⟩ dX10_setLease_13 rfl (fun _ _ _ _ _ g1 => absurd rfl g1) (fun _ H locs hw => ?_)
  refine lv_aload_n hx hb dX10_setLease_16 rfl (lv_at hl 0 rfl) ?_
  refine gt_X10_21 B hw (i := 0) rfl dX10_setLease_17 ?_
  refine gt_X10_164 B hw (i := 2) rfl dX10_setLease_20 ?_
  refine lv_iload_n hx hb dX10_setLease_23 rfl (lv_at hl 1 rfl) ?_
  obtain ⟨g_7, hf⟩ := grd_e hf
  refine c_iald B hw (i := 5) rfl g_7 dX10_setLease_24 ?_
  refine r_topn hf (fun x3_8 hf => ?_)
  refine lv_istore_n (lv' := [(3, .int x3_8), (0, .ref (X.2.2 0)), (1, .int p1), (2, .int p2)]) hx hb dX10_setLease_25 rfl hl (by decide) rfl (fun ls hl => ?_)
  refine lv_aload_n hx hb dX10_setLease_26 rfl (lv_at hl 1 rfl) ?_
  refine gt_X10_21 B hw (i := 0) rfl dX10_setLease_27 ?_
  refine gt_X10_164 B hw (i := 2) rfl dX10_setLease_30 ?_
  refine lv_iload_n hx hb dX10_setLease_33 rfl (lv_at hl 2 rfl) ?_
  refine lv_iload_n hx hb dX10_setLease_34 rfl (lv_at hl 3 rfl) ?_
  refine c_iast B hw (i := 5) rfl g_7 dX10_setLease_35 hf (fun M_9 H locs hw hf => ?_)
  refine lv_aload_n hx hb dX10_setLease_36 rfl (lv_at hl 1 rfl) ?_
  refine gt_X10_21 B hw (i := 0) rfl dX10_setLease_37 ?_
  obtain ⟨M_11, h_10, hf⟩ := bd_e hf
  refine q_callVv (M' := M_11) (i := 2) (As := []) (rest := []) B hw (c_X3_sweep l X fu M_9 M_11 h_10 _) cv_X10_167 (rc_3 B hw rfl) rfl hl.1 rfl rfl ⟨Nat.le_of_ble_eq_true rfl, Nat.le_of_ble_eq_true rfl⟩ (Nat.le_of_ble_eq_true rfl) ⟨Nat.le_of_ble_eq_true rfl, Nat.le_of_ble_eq_true rfl⟩ dX10_setLease_40 rfl (fun H locs hw => ?_)
  refine lv_iload_n hx hb dX10_setLease_43 rfl (lv_at hl 0 rfl) ?_
  cases hf
  subst hQ
  exact x_iret B hr hlk hw rfl (Nat.le_of_ble_eq_true rfl) (Nat.le_of_ble_eq_true rfl) dX10_setLease_44
abbrev rm_X10_fail : Room := { frames := 8, cells := 2, slots := 12, locals := 131 }
set_option maxRecDepth 100000 in
set_option maxHeartbeats 4000000 in
theorem c_X10_fail (l : Launch) (hfl : l.stackTraces = false) (X : XT) (fu : Nat) (p1 : Int32) (p2 : Int32) (p3 : Int32) (M : Mem)  (rs : XR) (hf : f_X10_fail fu p1 p2 p3 M = some rs) (sz : Nat) : vx_Met l yX10_fail (wbig yX10_fail cX10_fail 5 (some .int)) rm_X10_fail (va_Pc [.ref (X.2.2 0), .int p1, .int p2, .int p3] (PXW LC X M sz)) (XQi LC X rs sz) (XXC LC X rs sz) 2 12 (AX LC X sz) := by
  refine metx_go (L := LC) (M := M) (by decide +kernel) (Nat.le_of_ble_eq_true rfl) ?_
  intro p e s m args below meth c hsz B T hr hlk hxt hw ls hl
  subst hsz
  have hx := B.hx
  have hb := B.hb
  have hl : lv_has ls 5 [(0, .ref (X.2.2 0)), (1, .int p1), (2, .int p2), (3, .int p3)] := hl
  generalize hQ : vx_MQ below _ _ args s _ _ (AX LC X s.heap.size) = Q
  unfold f_X10_fail at hf
  refine lv_iload_n hx hb dX10_fail_0 rfl (lv_at hl 1 rfl) ?_
  refine lv_iconst (v := 3) hx hb dX10_fail_1 (by decide) ?_
  rcases bxm_e hf with ⟨r_1, h_3, hr0, hr1, hr2⟩ | ⟨r_1, M_2, h_3, hf⟩
  · subst hQ
    refine x_callS (As := [.int p1, .int 3]) (rest := []) B T hw (c_X10_needIndex l hfl X fu p1 3 M r_1 h_3 _) cs_X10_76 rfl hl.1 rfl rfl ⟨(Nat.le_of_ble_eq_true rfl), (Nat.le_of_ble_eq_true rfl)⟩ (Nat.le_of_ble_eq_true rfl) ⟨(Nat.le_of_ble_eq_true rfl), (Nat.le_of_ble_eq_true rfl)⟩ dX10_fail_2 rfl (fun E ce q9 H1 locs1 g1 g2 g3 g4 g5 g6 => ?_) (fun g1 => absurd g1 hr0)
    exact x_on hxt hlk g1 g2 g3 g4 g5 g6 hr1 hr2 (Nat.le_of_ble_eq_true rfl) (Nat.le_of_ble_eq_true rfl)
  refine x_callS (As := [.int p1, .int 3]) (rest := []) B T hw (c_X10_needIndex l hfl X fu p1 3 M (0, r_1, M_2) h_3 _) cs_X10_76 rfl hl.1 rfl rfl ⟨(Nat.le_of_ble_eq_true rfl), (Nat.le_of_ble_eq_true rfl)⟩ (Nat.le_of_ble_eq_true rfl) ⟨(Nat.le_of_ble_eq_true rfl), (Nat.le_of_ble_eq_true rfl)⟩ dX10_fail_2 rfl (fun _ _ _ _ _ g1 => absurd rfl g1) (fun _ H locs hw => ?_)
  refine lv_iload_n hx hb dX10_fail_5 rfl (lv_at hl 2 rfl) ?_
  refine lv_iconst (v := 0) hx hb dX10_fail_6 (by decide) ?_
  refine lv_bipush (v := 20) hx hb dX10_fail_7 (by decide) ?_
  refine q_callSi (M' := M_2) (As := [.int p2, .int 0, .int 20]) (rest := []) B hw (c_X10_isIn l X p2 0 20 _ rfl M_2 _) cs_X10_148 rfl hl.1 rfl rfl ⟨Nat.le_of_ble_eq_true rfl, Nat.le_of_ble_eq_true rfl⟩ (Nat.le_of_ble_eq_true rfl) ⟨Nat.le_of_ble_eq_true rfl, Nat.le_of_ble_eq_true rfl⟩ dX10_fail_9 rfl (fun H locs hw => ?_)
  rcases bxm_e hf with ⟨r_4, h_6, hr0, hr1, hr2⟩ | ⟨r_4, M_5, h_6, hf⟩
  · subst hQ
    refine x_callS (As := [.int (f_X10_isIn p2 0 20)]) (rest := []) B T hw (c_X10_needArgument l hfl X fu (f_X10_isIn p2 0 20) M_2 r_4 h_6 _) cs_X10_88 rfl hl.1 rfl rfl ⟨(Nat.le_of_ble_eq_true rfl), (Nat.le_of_ble_eq_true rfl)⟩ (Nat.le_of_ble_eq_true rfl) ⟨(Nat.le_of_ble_eq_true rfl), (Nat.le_of_ble_eq_true rfl)⟩ dX10_fail_12 rfl (fun E ce q9 H1 locs1 g1 g2 g3 g4 g5 g6 => ?_) (fun g1 => absurd g1 hr0)
    exact x_on hxt hlk g1 g2 g3 g4 g5 g6 hr1 hr2 (Nat.le_of_ble_eq_true rfl) (Nat.le_of_ble_eq_true rfl)
  refine x_callS (As := [.int (f_X10_isIn p2 0 20)]) (rest := []) B T hw (c_X10_needArgument l hfl X fu (f_X10_isIn p2 0 20) M_2 (0, r_4, M_5) h_6 _) cs_X10_88 rfl hl.1 rfl rfl ⟨(Nat.le_of_ble_eq_true rfl), (Nat.le_of_ble_eq_true rfl)⟩ (Nat.le_of_ble_eq_true rfl) ⟨(Nat.le_of_ble_eq_true rfl), (Nat.le_of_ble_eq_true rfl)⟩ dX10_fail_12 rfl (fun _ _ _ _ _ g1 => absurd rfl g1) (fun _ H locs hw => ?_)
  refine lv_aload_n hx hb dX10_fail_15 rfl (lv_at hl 0 rfl) ?_
  refine gt_X10_30 B hw (i := 0) rfl dX10_fail_16 ?_
  refine gt_X10_170 B hw (i := 48) rfl dX10_fail_19 ?_
  refine lv_iload_n hx hb dX10_fail_22 rfl (lv_at hl 1 rfl) ?_
  obtain ⟨g_7, hf⟩ := grd_e hf
  refine c_iald B hw (i := 52) rfl g_7 dX10_fail_23 ?_
  refine r_topn hf (fun x4_8 hf => ?_)
  refine lv_istore (lv' := [(4, .int x4_8), (0, .ref (X.2.2 0)), (1, .int p1), (2, .int p2), (3, .int p3)]) hx hb dX10_fail_24 hl (by decide) rfl (fun ls hl => ?_)
  refine lv_aload_n hx hb dX10_fail_26 rfl (lv_at hl 1 rfl) ?_
  refine gt_X10_30 B hw (i := 0) rfl dX10_fail_27 ?_
  refine gt_X10_170 B hw (i := 48) rfl dX10_fail_30 ?_
  refine lv_iload_n hx hb dX10_fail_33 rfl (lv_at hl 2 rfl) ?_
  refine lv_iload_n hx hb dX10_fail_34 rfl (lv_at hl 3 rfl) ?_
  refine c_iast B hw (i := 52) rfl g_7 dX10_fail_35 hf (fun M_9 H locs hw hf => ?_)
  refine lv_aload_n hx hb dX10_fail_36 rfl (lv_at hl 1 rfl) ?_
  refine gt_X10_30 B hw (i := 0) rfl dX10_fail_37 ?_
  refine gt_X10_173 B hw (i := 48) rfl dX10_fail_40 ?_
  refine lv_iload_n hx hb dX10_fail_43 rfl (lv_at hl 2 rfl) ?_
  refine lv_iload_n hx hb dX10_fail_44 rfl (lv_at hl 4 rfl) ?_
  obtain ⟨g_10, hf⟩ := grd_e hf
  refine c_zast B hw (i := 53) rfl g_7 g_10 dX10_fail_45 hf (fun M_11 H locs hw hf => ?_)
  refine lv_iload hx hb dX10_fail_46 (lv_at hl 0 rfl) ?_
  cases hf
  subst hQ
  exact x_iret B hr hlk hw rfl (Nat.le_of_ble_eq_true rfl) (Nat.le_of_ble_eq_true rfl) dX10_fail_48
abbrev rm_X10_forbid : Room := { frames := 8, cells := 2, slots := 12, locals := 131 }
set_option maxRecDepth 100000 in
set_option maxHeartbeats 4000000 in
theorem c_X10_forbid (l : Launch) (hfl : l.stackTraces = false) (X : XT) (fu : Nat) (p1 : Int32) (p2 : Int32) (p3 : Int32) (M : Mem)  (rs : XR) (hf : f_X10_forbid fu p1 p2 p3 M = some rs) (sz : Nat) : vx_Met l yX10_forbid (wbig yX10_forbid cX10_forbid 6 (some .boolean)) rm_X10_forbid (va_Pc [.ref (X.2.2 0), .int p1, .int p2, .int p3] (PXW LC X M sz)) (XQi LC X rs sz) (XXC LC X rs sz) 2 12 (AX LC X sz) := by
  refine metx_go (L := LC) (M := M) (by decide +kernel) (Nat.le_of_ble_eq_true rfl) ?_
  intro p e s m args below meth c hsz B T hr hlk hxt hw ls hl
  subst hsz
  have hx := B.hx
  have hb := B.hb
  have hl : lv_has ls 6 [(0, .ref (X.2.2 0)), (1, .int p1), (2, .int p2), (3, .int p3)] := hl
  generalize hQ : vx_MQ below _ _ args s _ _ (AX LC X s.heap.size) = Q
  unfold f_X10_forbid at hf
  refine lv_iload_n hx hb dX10_forbid_0 rfl (lv_at hl 1 rfl) ?_
  refine lv_bipush (v := 6) hx hb dX10_forbid_1 (by decide) ?_
  rcases bxm_e hf with ⟨r_1, h_3, hr0, hr1, hr2⟩ | ⟨r_1, M_2, h_3, hf⟩
  · subst hQ
    refine x_callS (As := [.int p1, .int 6]) (rest := []) B T hw (c_X10_needIndex l hfl X fu p1 6 M r_1 h_3 _) cs_X10_76 rfl hl.1 rfl rfl ⟨(Nat.le_of_ble_eq_true rfl), (Nat.le_of_ble_eq_true rfl)⟩ (Nat.le_of_ble_eq_true rfl) ⟨(Nat.le_of_ble_eq_true rfl), (Nat.le_of_ble_eq_true rfl)⟩ dX10_forbid_3 rfl (fun E ce q9 H1 locs1 g1 g2 g3 g4 g5 g6 => ?_) (fun g1 => absurd g1 hr0)
    exact x_on hxt hlk g1 g2 g3 g4 g5 g6 hr1 hr2 (Nat.le_of_ble_eq_true rfl) (Nat.le_of_ble_eq_true rfl)
  refine x_callS (As := [.int p1, .int 6]) (rest := []) B T hw (c_X10_needIndex l hfl X fu p1 6 M (0, r_1, M_2) h_3 _) cs_X10_76 rfl hl.1 rfl rfl ⟨(Nat.le_of_ble_eq_true rfl), (Nat.le_of_ble_eq_true rfl)⟩ (Nat.le_of_ble_eq_true rfl) ⟨(Nat.le_of_ble_eq_true rfl), (Nat.le_of_ble_eq_true rfl)⟩ dX10_forbid_3 rfl (fun _ _ _ _ _ g1 => absurd rfl g1) (fun _ H locs hw => ?_)
  refine lv_iload_n hx hb dX10_forbid_6 rfl (lv_at hl 2 rfl) ?_
  refine lv_iconst (v := 3) hx hb dX10_forbid_7 (by decide) ?_
  rcases bxm_e hf with ⟨r_4, h_6, hr0, hr1, hr2⟩ | ⟨r_4, M_5, h_6, hf⟩
  · subst hQ
    refine x_callS (As := [.int p2, .int 3]) (rest := []) B T hw (c_X10_needIndex l hfl X fu p2 3 M_2 r_4 h_6 _) cs_X10_76 rfl hl.1 rfl rfl ⟨(Nat.le_of_ble_eq_true rfl), (Nat.le_of_ble_eq_true rfl)⟩ (Nat.le_of_ble_eq_true rfl) ⟨(Nat.le_of_ble_eq_true rfl), (Nat.le_of_ble_eq_true rfl)⟩ dX10_forbid_8 rfl (fun E ce q9 H1 locs1 g1 g2 g3 g4 g5 g6 => ?_) (fun g1 => absurd g1 hr0)
    exact x_on hxt hlk g1 g2 g3 g4 g5 g6 hr1 hr2 (Nat.le_of_ble_eq_true rfl) (Nat.le_of_ble_eq_true rfl)
  refine x_callS (As := [.int p2, .int 3]) (rest := []) B T hw (c_X10_needIndex l hfl X fu p2 3 M_2 (0, r_4, M_5) h_6 _) cs_X10_76 rfl hl.1 rfl rfl ⟨(Nat.le_of_ble_eq_true rfl), (Nat.le_of_ble_eq_true rfl)⟩ (Nat.le_of_ble_eq_true rfl) ⟨(Nat.le_of_ble_eq_true rfl), (Nat.le_of_ble_eq_true rfl)⟩ dX10_forbid_8 rfl (fun _ _ _ _ _ g1 => absurd rfl g1) (fun _ H locs hw => ?_)
  refine lv_iload_n hx hb dX10_forbid_11 rfl (lv_at hl 1 rfl) ?_
  refine lv_iconst (v := 3) hx hb dX10_forbid_12 (by decide) ?_
  refine lv_imul hx hb dX10_forbid_13 ?_
  refine lv_iload_n hx hb dX10_forbid_14 rfl (lv_at hl 2 rfl) ?_
  refine lv_iadd hx hb dX10_forbid_15 ?_
  refine r_topn hf (fun x4_7 hf => ?_)
  refine lv_istore (lv' := [(4, .int x4_7), (0, .ref (X.2.2 0)), (1, .int p1), (2, .int p2), (3, .int p3)]) hx hb dX10_forbid_16 hl (by decide) rfl (fun ls hl => ?_)
  refine lv_aload_n hx hb dX10_forbid_18 rfl (lv_at hl 1 rfl) ?_
  refine gt_X10_30 B hw (i := 0) rfl dX10_forbid_19 ?_
  refine gt_X10_177 B hw (i := 48) rfl dX10_forbid_22 ?_
  refine lv_iload hx hb dX10_forbid_25 (lv_at hl 0 rfl) ?_
  obtain ⟨g_8, hf⟩ := grd_e hf
  refine c_zald B hw (i := 54) rfl g_8 dX10_forbid_27 ?_
  refine r_topn hf (fun x5_9 hf => ?_)
  refine lv_istore (lv' := [(5, .int x5_9), (4, .int x4_7), (0, .ref (X.2.2 0)), (1, .int p1), (2, .int p2), (3, .int p3)]) hx hb dX10_forbid_28 hl (by decide) rfl (fun ls hl => ?_)
  refine lv_aload_n hx hb dX10_forbid_30 rfl (lv_at hl 2 rfl) ?_
  refine gt_X10_30 B hw (i := 0) rfl dX10_forbid_31 ?_
  refine gt_X10_177 B hw (i := 48) rfl dX10_forbid_34 ?_
  refine lv_iload hx hb dX10_forbid_37 (lv_at hl 1 rfl) ?_
  refine lv_iload_n hx hb dX10_forbid_39 rfl (lv_at hl 5 rfl) ?_
  obtain ⟨g_10, hf⟩ := grd_e hf
  refine c_zast B hw (i := 54) rfl g_8 g_10 dX10_forbid_40 hf (fun M_11 H locs hw hf => ?_)
  refine lv_iload hx hb dX10_forbid_41 (lv_at hl 0 rfl) ?_
  obtain ⟨g_12, hf⟩ := grd_e hf
  cases hf
  subst hQ
  exact x_zret B hr hlk g_12 hw rfl (Nat.le_of_ble_eq_true rfl) (Nat.le_of_ble_eq_true rfl) dX10_forbid_43
abbrev rm_X10_pass : Room := { frames := 7, cells := 1, slots := 6, locals := 110 }
set_option maxRecDepth 100000 in
set_option maxHeartbeats 4000000 in
theorem c_X10_pass (l : Launch) (hfl : l.stackTraces = false) (X : XT) (fu : Nat) (p1 : Int32) (M : Mem)  (rs : XR) (hf : f_X10_pass fu p1 M = some rs) (sz : Nat) : vx_Met l yX10_pass (wbig yX10_pass cX10_pass 2 (some .int)) rm_X10_pass (va_Pc [.ref (X.2.2 0), .int p1] (PXW LC X M sz)) (XQi LC X rs sz) (XXC LC X rs sz) 1 6 (AX LC X sz) := by
  refine metx_go (L := LC) (M := M) (by decide +kernel) (Nat.le_of_ble_eq_true rfl) ?_
  intro p e s m args below meth c hsz B T hr hlk hxt hw ls hl
  subst hsz
  have hx := B.hx
  have hb := B.hb
  have hl : lv_has ls 2 [(0, .ref (X.2.2 0)), (1, .int p1)] := hl
  generalize hQ : vx_MQ below _ _ args s _ _ (AX LC X s.heap.size) = Q
  unfold f_X10_pass at hf
  refine lv_iload_n hx hb dX10_pass_0 rfl (lv_at hl 1 rfl) ?_
  refine lv_iconst (v := 1) hx hb dX10_pass_1 (by decide) ?_
  refine lv_bipush (v := 100) hx hb dX10_pass_2 (by decide) ?_
  refine q_callSi (M' := M) (As := [.int p1, .int 1, .int 100]) (rest := []) B hw (c_X10_isIn l X p1 1 100 _ rfl M _) cs_X10_148 rfl hl.1 rfl rfl ⟨Nat.le_of_ble_eq_true rfl, Nat.le_of_ble_eq_true rfl⟩ (Nat.le_of_ble_eq_true rfl) ⟨Nat.le_of_ble_eq_true rfl, Nat.le_of_ble_eq_true rfl⟩ dX10_pass_4 rfl (fun H locs hw => ?_)
  rcases bxm_e hf with ⟨r_1, h_3, hr0, hr1, hr2⟩ | ⟨r_1, M_2, h_3, hf⟩
  · subst hQ
    refine x_callS (As := [.int (f_X10_isIn p1 1 100)]) (rest := []) B T hw (c_X10_needArgument l hfl X fu (f_X10_isIn p1 1 100) M r_1 h_3 _) cs_X10_88 rfl hl.1 rfl rfl ⟨(Nat.le_of_ble_eq_true rfl), (Nat.le_of_ble_eq_true rfl)⟩ (Nat.le_of_ble_eq_true rfl) ⟨(Nat.le_of_ble_eq_true rfl), (Nat.le_of_ble_eq_true rfl)⟩ dX10_pass_7 rfl (fun E ce q9 H1 locs1 g1 g2 g3 g4 g5 g6 => ?_) (fun g1 => absurd g1 hr0)
    exact x_on hxt hlk g1 g2 g3 g4 g5 g6 hr1 hr2 (Nat.le_of_ble_eq_true rfl) (Nat.le_of_ble_eq_true rfl)
  refine x_callS (As := [.int (f_X10_isIn p1 1 100)]) (rest := []) B T hw (c_X10_needArgument l hfl X fu (f_X10_isIn p1 1 100) M (0, r_1, M_2) h_3 _) cs_X10_88 rfl hl.1 rfl rfl ⟨(Nat.le_of_ble_eq_true rfl), (Nat.le_of_ble_eq_true rfl)⟩ (Nat.le_of_ble_eq_true rfl) ⟨(Nat.le_of_ble_eq_true rfl), (Nat.le_of_ble_eq_true rfl)⟩ dX10_pass_7 rfl (fun _ _ _ _ _ g1 => absurd rfl g1) (fun _ H locs hw => ?_)
  refine lv_aload_n hx hb dX10_pass_10 rfl (lv_at hl 0 rfl) ?_
  refine gt_X10_30 B hw (i := 0) rfl dX10_pass_11 ?_
  refine lv_aload_n hx hb dX10_pass_14 rfl (lv_at hl 0 rfl) ?_
  refine gt_X10_10 B hw (i := 0) rfl dX10_pass_15 ?_
  refine gt_X10_180 B hw (i := 1) rfl dX10_pass_18 ?_
  refine lv_iload_n hx hb dX10_pass_21 rfl (lv_at hl 1 rfl) ?_
  refine lv_iadd hx hb dX10_pass_22 ?_
  obtain ⟨M_5, h_4, hf⟩ := bd_e hf
  refine q_callVv (M' := M_5) (i := 48) (As := [.int ((M_2 1 0) + p1)]) (rest := []) B hw (c_X8_goOnTo l X fu ((M_2 1 0) + p1) M_2 M_5 h_4 _) cv_X10_183 (rc_8 B hw rfl) rfl hl.1 rfl rfl ⟨Nat.le_of_ble_eq_true rfl, Nat.le_of_ble_eq_true rfl⟩ (Nat.le_of_ble_eq_true rfl) ⟨Nat.le_of_ble_eq_true rfl, Nat.le_of_ble_eq_true rfl⟩ dX10_pass_23 rfl (fun H locs hw => ?_)
  refine lv_aload_n hx hb dX10_pass_26 rfl (lv_at hl 0 rfl) ?_
  refine gt_X10_10 B hw (i := 0) rfl dX10_pass_27 ?_
  refine gt_X10_180 B hw (i := 1) rfl dX10_pass_30 ?_
  cases hf
  subst hQ
  exact x_iret B hr hlk hw rfl (Nat.le_of_ble_eq_true rfl) (Nat.le_of_ble_eq_true rfl) dX10_pass_33
abbrev rm_X10_seat : Room := { frames := 8, cells := 2, slots := 12, locals := 131 }
set_option maxRecDepth 100000 in
set_option maxHeartbeats 4000000 in
theorem c_X10_seat (l : Launch) (hfl : l.stackTraces = false) (X : XT) (fu : Nat) (p1 : Int32) (M : Mem)  (rs : XR) (hf : f_X10_seat fu p1 M = some rs) (sz : Nat) : vx_Met l yX10_seat (wbig yX10_seat cX10_seat 2 (some .int)) rm_X10_seat (va_Pc [.ref (X.2.2 0), .int p1] (PXW LC X M sz)) (XQi LC X rs sz) (XXC LC X rs sz) 2 12 (AX LC X sz) := by
  refine metx_go (L := LC) (M := M) (by decide +kernel) (Nat.le_of_ble_eq_true rfl) ?_
  intro p e s m args below meth c hsz B T hr hlk hxt hw ls hl
  subst hsz
  have hx := B.hx
  have hb := B.hb
  have hl : lv_has ls 2 [(0, .ref (X.2.2 0)), (1, .int p1)] := hl
  generalize hQ : vx_MQ below _ _ args s _ _ (AX LC X s.heap.size) = Q
  unfold f_X10_seat at hf
  refine lv_iload_n hx hb dX10_seat_0 rfl (lv_at hl 1 rfl) ?_
  refine lv_bipush (v := 6) hx hb dX10_seat_1 (by decide) ?_
  rcases bxm_e hf with ⟨r_1, h_3, hr0, hr1, hr2⟩ | ⟨r_1, M_2, h_3, hf⟩
  · subst hQ
    refine x_callS (As := [.int p1, .int 6]) (rest := []) B T hw (c_X10_needIndex l hfl X fu p1 6 M r_1 h_3 _) cs_X10_76 rfl hl.1 rfl rfl ⟨(Nat.le_of_ble_eq_true rfl), (Nat.le_of_ble_eq_true rfl)⟩ (Nat.le_of_ble_eq_true rfl) ⟨(Nat.le_of_ble_eq_true rfl), (Nat.le_of_ble_eq_true rfl)⟩ dX10_seat_3 rfl (fun E ce q9 H1 locs1 g1 g2 g3 g4 g5 g6 => ?_) (fun g1 => absurd g1 hr0)
    exact x_on hxt hlk g1 g2 g3 g4 g5 g6 hr1 hr2 (Nat.le_of_ble_eq_true rfl) (Nat.le_of_ble_eq_true rfl)
  refine x_callS (As := [.int p1, .int 6]) (rest := []) B T hw (c_X10_needIndex l hfl X fu p1 6 M (0, r_1, M_2) h_3 _) cs_X10_76 rfl hl.1 rfl rfl ⟨(Nat.le_of_ble_eq_true rfl), (Nat.le_of_ble_eq_true rfl)⟩ (Nat.le_of_ble_eq_true rfl) ⟨(Nat.le_of_ble_eq_true rfl), (Nat.le_of_ble_eq_true rfl)⟩ dX10_seat_3 rfl (fun _ _ _ _ _ g1 => absurd rfl g1) (fun _ H locs hw => ?_)
  refine lv_aload_n hx hb dX10_seat_6 rfl (lv_at hl 0 rfl) ?_
  refine gt_X10_44 B hw (i := 0) rfl dX10_seat_7 ?_
  refine gt_X10_187 B hw (i := 80) rfl dX10_seat_10 ?_
  refine lv_iconst (v := 3) hx hb dX10_seat_13 (by decide) ?_
  refine nmv_e hf (fun kk => ∀ (H : Heap) (locs : List Loc), HW LC X M_2 s H locs → W p l e rm_X10_seat s m args below meth c H locs 1 6 Q (F0 m 22 ls [.int kk])) (fun J => ?_) (fun v_5 hf H locs hw => ?_)
  · refine lv_icmp_ge (tgt := 21) hx hb dX10_seat_14 (by decide) (fun c_4 => ?_) (fun c_4 => ?_)
    · rw [if_pos c_4] at J
      refine lv_iconst (v := 0) hx hb dX10_seat_21 (by decide) ?_
      exact J _ _ hw
    · rw [if_neg c_4] at J
      refine lv_iconst (v := 1) hx hb dX10_seat_17 (by decide) ?_
      refine lv_goto (tgt := 22) hx hb dX10_seat_18 (by decide) ?_
      exact J _ _ hw
  · rcases bxm_e hf with ⟨r_6, h_8, hr0, hr1, hr2⟩ | ⟨r_6, M_7, h_8, hf⟩
    · subst hQ
      refine x_callS (As := [.int v_5]) (rest := []) B T hw (c_X10_needState l hfl X fu v_5 M_2 r_6 h_8 _) cs_X10_96 rfl hl.1 rfl rfl ⟨(Nat.le_of_ble_eq_true rfl), (Nat.le_of_ble_eq_true rfl)⟩ (Nat.le_of_ble_eq_true rfl) ⟨(Nat.le_of_ble_eq_true rfl), (Nat.le_of_ble_eq_true rfl)⟩ dX10_seat_22 rfl (fun E ce q9 H1 locs1 g1 g2 g3 g4 g5 g6 => ?_) (fun g1 => absurd g1 hr0)
      exact x_on hxt hlk g1 g2 g3 g4 g5 g6 hr1 hr2 (Nat.le_of_ble_eq_true rfl) (Nat.le_of_ble_eq_true rfl)
    refine x_callS (As := [.int v_5]) (rest := []) B T hw (c_X10_needState l hfl X fu v_5 M_2 (0, r_6, M_7) h_8 _) cs_X10_96 rfl hl.1 rfl rfl ⟨(Nat.le_of_ble_eq_true rfl), (Nat.le_of_ble_eq_true rfl)⟩ (Nat.le_of_ble_eq_true rfl) ⟨(Nat.le_of_ble_eq_true rfl), (Nat.le_of_ble_eq_true rfl)⟩ dX10_seat_22 rfl (fun _ _ _ _ _ g1 => absurd rfl g1) (fun _ H locs hw => ?_)
    refine lv_aload_n hx hb dX10_seat_25 rfl (lv_at hl 0 rfl) ?_
    refine gt_X10_44 B hw (i := 0) rfl dX10_seat_26 ?_
    refine lv_iload_n hx hb dX10_seat_29 rfl (lv_at hl 1 rfl) ?_
    obtain ⟨r_10, M_11, h_9, hf⟩ := bm_e hf
    refine q_callVi (M' := M_11) (i := 80) (As := [.int p1]) (rest := []) B hw (c_X4_addSeat l X fu p1 M_7 (r_10, M_11) h_9 _) cv_X10_190 (rc_4 B hw rfl) rfl hl.1 rfl rfl ⟨Nat.le_of_ble_eq_true rfl, Nat.le_of_ble_eq_true rfl⟩ (Nat.le_of_ble_eq_true rfl) ⟨Nat.le_of_ble_eq_true rfl, Nat.le_of_ble_eq_true rfl⟩ dX10_seat_30 rfl (fun H locs hw => ?_)
    cases hf
    subst hQ
    exact x_iret B hr hlk hw rfl (Nat.le_of_ble_eq_true rfl) (Nat.le_of_ble_eq_true rfl) dX10_seat_33
abbrev rm_X10_link : Room := { frames := 7, cells := 3, slots := 18, locals := 110 }
set_option maxRecDepth 100000 in
set_option maxHeartbeats 4000000 in
theorem c_X10_link (l : Launch) (hfl : l.stackTraces = false) (X : XT) (fu : Nat) (p1 : Int32) (p2 : Int32) (p3 : Int32) (p4 : Int32) (M : Mem)  (rs : XR) (hf : f_X10_link fu p1 p2 p3 p4 M = some rs) (sz : Nat) : vx_Met l yX10_link (wbig yX10_link cX10_link 5 (some .int)) rm_X10_link (va_Pc [.ref (X.2.2 0), .int p1, .int p2, .int p3, .int p4] (PXW LC X M sz)) (XQi LC X rs sz) (XXC LC X rs sz) 3 18 (AX LC X sz) := by
  refine metx_go (L := LC) (M := M) (by decide +kernel) (Nat.le_of_ble_eq_true rfl) ?_
  intro p e s m args below meth c hsz B T hr hlk hxt hw ls hl
  subst hsz
  have hx := B.hx
  have hb := B.hb
  have hl : lv_has ls 5 [(0, .ref (X.2.2 0)), (1, .int p1), (2, .int p2), (3, .int p3), (4, .int p4)] := hl
  generalize hQ : vx_MQ below _ _ args s _ _ (AX LC X s.heap.size) = Q
  unfold f_X10_link at hf
  refine lv_aload_n hx hb dX10_link_0 rfl (lv_at hl 0 rfl) ?_
  refine gt_X10_44 B hw (i := 0) rfl dX10_link_1 ?_
  refine lv_iload_n hx hb dX10_link_4 rfl (lv_at hl 1 rfl) ?_
  refine lv_iload_n hx hb dX10_link_5 rfl (lv_at hl 2 rfl) ?_
  obtain ⟨r_2, h_1, hf⟩ := bd_e hf
  refine q_callVi (M' := M) (i := 80) (As := [.int p1, .int p2]) (rest := []) B hw (c_X4_hasColumn l X fu p1 p2 M r_2 h_1 _) cv_X10_193 (rc_4 B hw rfl) rfl hl.1 rfl rfl ⟨Nat.le_of_ble_eq_true rfl, Nat.le_of_ble_eq_true rfl⟩ (Nat.le_of_ble_eq_true rfl) ⟨Nat.le_of_ble_eq_true rfl, Nat.le_of_ble_eq_true rfl⟩ dX10_link_6 rfl (fun H locs hw => ?_)
  refine jn_e hf (fun kk => ∀ (v_4 : Int32) (H : Heap) (locs : List Loc) (ls : Array Slot), HW LC X M s H locs → lv_has ls 5 [(0, .ref (X.2.2 0)), (1, .int p1), (2, .int p2), (3, .int p3), (4, .int p4)] → kk v_4 = some rs → W p l e rm_X10_link s m args below meth c H locs 0 0 Q (F0 m 30 ls [.int v_4])) ?_ (fun k30_3 J30_3 hf => ?_)
  · intro v_4 H locs ls hw hl hf
    rcases bxm_e hf with ⟨r_5, h_7, hr0, hr1, hr2⟩ | ⟨r_5, M_6, h_7, hf⟩
    · subst hQ
      refine x_callS (As := [.int v_4]) (rest := []) B T hw (c_X10_needPlace l hfl X fu v_4 M r_5 h_7 _) cs_X10_125 rfl hl.1 rfl rfl ⟨(Nat.le_of_ble_eq_true rfl), (Nat.le_of_ble_eq_true rfl)⟩ (Nat.le_of_ble_eq_true rfl) ⟨(Nat.le_of_ble_eq_true rfl), (Nat.le_of_ble_eq_true rfl)⟩ dX10_link_30 rfl (fun E ce q9 H1 locs1 g1 g2 g3 g4 g5 g6 => ?_) (fun g1 => absurd g1 hr0)
      exact x_on hxt hlk g1 g2 g3 g4 g5 g6 hr1 hr2 (Nat.le_of_ble_eq_true rfl) (Nat.le_of_ble_eq_true rfl)
    refine x_callS (As := [.int v_4]) (rest := []) B T hw (c_X10_needPlace l hfl X fu v_4 M (0, r_5, M_6) h_7 _) cs_X10_125 rfl hl.1 rfl rfl ⟨(Nat.le_of_ble_eq_true rfl), (Nat.le_of_ble_eq_true rfl)⟩ (Nat.le_of_ble_eq_true rfl) ⟨(Nat.le_of_ble_eq_true rfl), (Nat.le_of_ble_eq_true rfl)⟩ dX10_link_30 rfl (fun _ _ _ _ _ g1 => absurd rfl g1) (fun _ H locs hw => ?_)
    refine lv_iload_n hx hb dX10_link_33 rfl (lv_at hl 3 rfl) ?_
    refine lv_iload_n hx hb dX10_link_34 rfl (lv_at hl 1 rfl) ?_
    refine nmv_e hf (fun kk => ∀ (H : Heap) (locs : List Loc), HW LC X M_6 s H locs → W p l e rm_X10_link s m args below meth c H locs 1 6 Q (F0 m 43 ls [.int kk])) (fun J => ?_) (fun v_9 hf H locs hw => ?_)
    · refine lv_icmp_le (tgt := 42) hx hb dX10_link_35 (by decide) (fun c_8 => ?_) (fun c_8 => ?_)
      · rw [if_pos c_8] at J
        refine lv_iconst (v := 0) hx hb dX10_link_42 (by decide) ?_
        exact J _ _ hw
      · rw [if_neg c_8] at J
        refine lv_iconst (v := 1) hx hb dX10_link_38 (by decide) ?_
        refine lv_goto (tgt := 43) hx hb dX10_link_39 (by decide) ?_
        exact J _ _ hw
    · rcases bxm_e hf with ⟨r_10, h_12, hr0, hr1, hr2⟩ | ⟨r_10, M_11, h_12, hf⟩
      · subst hQ
        refine x_callS (As := [.int v_9]) (rest := []) B T hw (c_X10_needArgument l hfl X fu v_9 M_6 r_10 h_12 _) cs_X10_88 rfl hl.1 rfl rfl ⟨(Nat.le_of_ble_eq_true rfl), (Nat.le_of_ble_eq_true rfl)⟩ (Nat.le_of_ble_eq_true rfl) ⟨(Nat.le_of_ble_eq_true rfl), (Nat.le_of_ble_eq_true rfl)⟩ dX10_link_43 rfl (fun E ce q9 H1 locs1 g1 g2 g3 g4 g5 g6 => ?_) (fun g1 => absurd g1 hr0)
        exact x_on hxt hlk g1 g2 g3 g4 g5 g6 hr1 hr2 (Nat.le_of_ble_eq_true rfl) (Nat.le_of_ble_eq_true rfl)
      refine x_callS (As := [.int v_9]) (rest := []) B T hw (c_X10_needArgument l hfl X fu v_9 M_6 (0, r_10, M_11) h_12 _) cs_X10_88 rfl hl.1 rfl rfl ⟨(Nat.le_of_ble_eq_true rfl), (Nat.le_of_ble_eq_true rfl)⟩ (Nat.le_of_ble_eq_true rfl) ⟨(Nat.le_of_ble_eq_true rfl), (Nat.le_of_ble_eq_true rfl)⟩ dX10_link_43 rfl (fun _ _ _ _ _ g1 => absurd rfl g1) (fun _ H locs hw => ?_)
      refine lv_aload_n hx hb dX10_link_46 rfl (lv_at hl 0 rfl) ?_
      refine gt_X10_44 B hw (i := 0) rfl dX10_link_47 ?_
      refine gt_X10_196 B hw (i := 80) rfl dX10_link_50 ?_
      refine lv_iconst (v := 3) hx hb dX10_link_53 (by decide) ?_
      refine nmv_e hf (fun kk => ∀ (H : Heap) (locs : List Loc), HW LC X M_11 s H locs → W p l e rm_X10_link s m args below meth c H locs 2 12 Q (F0 m 62 ls [.int kk])) (fun J => ?_) (fun v_14 hf H locs hw => ?_)
      · refine lv_icmp_ge (tgt := 61) hx hb dX10_link_54 (by decide) (fun c_13 => ?_) (fun c_13 => ?_)
        · rw [if_pos c_13] at J
          refine lv_iconst (v := 0) hx hb dX10_link_61 (by decide) ?_
          exact J _ _ hw
        · rw [if_neg c_13] at J
          refine lv_iconst (v := 1) hx hb dX10_link_57 (by decide) ?_
          refine lv_goto (tgt := 62) hx hb dX10_link_58 (by decide) ?_
          exact J _ _ hw
      · rcases bxm_e hf with ⟨r_15, h_17, hr0, hr1, hr2⟩ | ⟨r_15, M_16, h_17, hf⟩
        · subst hQ
          refine x_callS (As := [.int v_14]) (rest := []) B T hw (c_X10_needState l hfl X fu v_14 M_11 r_15 h_17 _) cs_X10_96 rfl hl.1 rfl rfl ⟨(Nat.le_of_ble_eq_true rfl), (Nat.le_of_ble_eq_true rfl)⟩ (Nat.le_of_ble_eq_true rfl) ⟨(Nat.le_of_ble_eq_true rfl), (Nat.le_of_ble_eq_true rfl)⟩ dX10_link_62 rfl (fun E ce q9 H1 locs1 g1 g2 g3 g4 g5 g6 => ?_) (fun g1 => absurd g1 hr0)
          exact x_on hxt hlk g1 g2 g3 g4 g5 g6 hr1 hr2 (Nat.le_of_ble_eq_true rfl) (Nat.le_of_ble_eq_true rfl)
        refine x_callS (As := [.int v_14]) (rest := []) B T hw (c_X10_needState l hfl X fu v_14 M_11 (0, r_15, M_16) h_17 _) cs_X10_96 rfl hl.1 rfl rfl ⟨(Nat.le_of_ble_eq_true rfl), (Nat.le_of_ble_eq_true rfl)⟩ (Nat.le_of_ble_eq_true rfl) ⟨(Nat.le_of_ble_eq_true rfl), (Nat.le_of_ble_eq_true rfl)⟩ dX10_link_62 rfl (fun _ _ _ _ _ g1 => absurd rfl g1) (fun _ H locs hw => ?_)
        refine lv_aload_n hx hb dX10_link_65 rfl (lv_at hl 0 rfl) ?_
        refine gt_X10_44 B hw (i := 0) rfl dX10_link_66 ?_
        refine lv_iload_n hx hb dX10_link_69 rfl (lv_at hl 1 rfl) ?_
        refine lv_iload_n hx hb dX10_link_70 rfl (lv_at hl 2 rfl) ?_
        refine lv_iload_n hx hb dX10_link_71 rfl (lv_at hl 3 rfl) ?_
        refine lv_iload hx hb dX10_link_72 (lv_at hl 4 rfl) ?_
        obtain ⟨r_19, M_20, h_18, hf⟩ := bm_e hf
        refine q_callVi (M' := M_20) (i := 80) (As := [.int p1, .int p2, .int p3, .int p4]) (rest := []) B hw (c_X4_addLink l X fu p1 p2 p3 p4 M_16 (r_19, M_20) h_18 _) cv_X10_199 (rc_4 B hw rfl) rfl hl.1 rfl rfl ⟨Nat.le_of_ble_eq_true rfl, Nat.le_of_ble_eq_true rfl⟩ (Nat.le_of_ble_eq_true rfl) ⟨Nat.le_of_ble_eq_true rfl, Nat.le_of_ble_eq_true rfl⟩ dX10_link_74 rfl (fun H locs hw => ?_)
        cases hf
        subst hQ
        exact x_iret B hr hlk hw rfl (Nat.le_of_ble_eq_true rfl) (Nat.le_of_ble_eq_true rfl) dX10_link_77
  refine jn_e hf (fun kk => ∀ (_ : Unit) (H : Heap) (locs : List Loc) (ls : Array Slot), HW LC X M s H locs → lv_has ls 5 [(0, .ref (X.2.2 0)), (1, .int p1), (2, .int p2), (3, .int p3), (4, .int p4)] → kk () = some rs → W p l e rm_X10_link s m args below meth c H locs 0 0 Q (F0 m 29 ls [])) ?_ (fun k29_21 J29_21 hf => ?_)
  · intro _ H locs ls hw hl hf
    refine lv_iconst (v := 0) hx hb dX10_link_29 (by decide) ?_
    exact J30_3 0 _ _ _ hw (lv_sub hl [0, 1, 2, 3, 4] rfl) hf
  refine lv_if_eq (tgt := 29) hx hb dX10_link_9 (by decide) (fun c_22 => ?_) (fun c_22 => ?_)
  · have hf := it_e hf c_22
    exact J29_21 () _ _ _ hw (lv_sub hl [0, 1, 2, 3, 4] rfl) hf
  · have hf := ie_e hf c_22
    refine lv_aload_n hx hb dX10_link_12 rfl (lv_at hl 0 rfl) ?_
    refine gt_X10_44 B hw (i := 0) rfl dX10_link_13 ?_
    refine lv_iload_n hx hb dX10_link_16 rfl (lv_at hl 3 rfl) ?_
    refine lv_iload hx hb dX10_link_17 (lv_at hl 4 rfl) ?_
    obtain ⟨r_24, h_23, hf⟩ := bd_e hf
    refine q_callVi (M' := M) (i := 80) (As := [.int p3, .int p4]) (rest := []) B hw (c_X4_hasColumn l X fu p3 p4 M r_24 h_23 _) cv_X10_193 (rc_4 B hw rfl) rfl hl.1 rfl rfl ⟨Nat.le_of_ble_eq_true rfl, Nat.le_of_ble_eq_true rfl⟩ (Nat.le_of_ble_eq_true rfl) ⟨Nat.le_of_ble_eq_true rfl, Nat.le_of_ble_eq_true rfl⟩ dX10_link_19 rfl (fun H locs hw => ?_)
    refine lv_if_eq (tgt := 29) hx hb dX10_link_22 (by decide) (fun c_25 => ?_) (fun c_25 => ?_)
    · have hf := it_e hf c_25
      exact J29_21 () _ _ _ hw (lv_sub hl [0, 1, 2, 3, 4] rfl) hf
    · have hf := ie_e hf c_25
      refine lv_iconst (v := 1) hx hb dX10_link_25 (by decide) ?_
      refine lv_goto (tgt := 30) hx hb dX10_link_26 (by decide) ?_
      exact J30_3 1 _ _ _ hw (lv_sub hl [0, 1, 2, 3, 4] rfl) hf
abbrev rm_X10_where : Room := { frames := 7, cells := 3, slots := 18, locals := 110 }
set_option maxRecDepth 100000 in
set_option maxHeartbeats 4000000 in
theorem c_X10_where (l : Launch) (hfl : l.stackTraces = false) (X : XT) (fu : Nat) (p1 : Int32) (p2 : Int32) (p3 : Int32) (p4 : Int32) (M : Mem)  (rs : XR) (hf : f_X10_where fu p1 p2 p3 p4 M = some rs) (sz : Nat) : vx_Met l yX10_where (wbig yX10_where cX10_where 5 (some .int)) rm_X10_where (va_Pc [.ref (X.2.2 0), .int p1, .int p2, .int p3, .int p4] (PXW LC X M sz)) (XQi LC X rs sz) (XXC LC X rs sz) 3 18 (AX LC X sz) := by
  refine metx_go (L := LC) (M := M) (by decide +kernel) (Nat.le_of_ble_eq_true rfl) ?_
  intro p e s m args below meth c hsz B T hr hlk hxt hw ls hl
  subst hsz
  have hx := B.hx
  have hb := B.hb
  have hl : lv_has ls 5 [(0, .ref (X.2.2 0)), (1, .int p1), (2, .int p2), (3, .int p3), (4, .int p4)] := hl
  generalize hQ : vx_MQ below _ _ args s _ _ (AX LC X s.heap.size) = Q
  unfold f_X10_where at hf
  refine lv_aload_n hx hb dX10_where_0 rfl (lv_at hl 0 rfl) ?_
  refine gt_X10_44 B hw (i := 0) rfl dX10_where_1 ?_
  refine lv_iload_n hx hb dX10_where_4 rfl (lv_at hl 1 rfl) ?_
  refine lv_iload_n hx hb dX10_where_5 rfl (lv_at hl 2 rfl) ?_
  obtain ⟨r_2, h_1, hf⟩ := bd_e hf
  refine q_callVi (M' := M) (i := 80) (As := [.int p1, .int p2]) (rest := []) B hw (c_X4_hasColumn l X fu p1 p2 M r_2 h_1 _) cv_X10_193 (rc_4 B hw rfl) rfl hl.1 rfl rfl ⟨Nat.le_of_ble_eq_true rfl, Nat.le_of_ble_eq_true rfl⟩ (Nat.le_of_ble_eq_true rfl) ⟨Nat.le_of_ble_eq_true rfl, Nat.le_of_ble_eq_true rfl⟩ dX10_where_6 rfl (fun H locs hw => ?_)
  rcases bxm_e hf with ⟨r_3, h_5, hr0, hr1, hr2⟩ | ⟨r_3, M_4, h_5, hf⟩
  · subst hQ
    refine x_callS (As := [.int r_2]) (rest := []) B T hw (c_X10_needPlace l hfl X fu r_2 M r_3 h_5 _) cs_X10_125 rfl hl.1 rfl rfl ⟨(Nat.le_of_ble_eq_true rfl), (Nat.le_of_ble_eq_true rfl)⟩ (Nat.le_of_ble_eq_true rfl) ⟨(Nat.le_of_ble_eq_true rfl), (Nat.le_of_ble_eq_true rfl)⟩ dX10_where_9 rfl (fun E ce q9 H1 locs1 g1 g2 g3 g4 g5 g6 => ?_) (fun g1 => absurd g1 hr0)
    exact x_on hxt hlk g1 g2 g3 g4 g5 g6 hr1 hr2 (Nat.le_of_ble_eq_true rfl) (Nat.le_of_ble_eq_true rfl)
  refine x_callS (As := [.int r_2]) (rest := []) B T hw (c_X10_needPlace l hfl X fu r_2 M (0, r_3, M_4) h_5 _) cs_X10_125 rfl hl.1 rfl rfl ⟨(Nat.le_of_ble_eq_true rfl), (Nat.le_of_ble_eq_true rfl)⟩ (Nat.le_of_ble_eq_true rfl) ⟨(Nat.le_of_ble_eq_true rfl), (Nat.le_of_ble_eq_true rfl)⟩ dX10_where_9 rfl (fun _ _ _ _ _ g1 => absurd rfl g1) (fun _ H locs hw => ?_)
  refine lv_iload_n hx hb dX10_where_12 rfl (lv_at hl 3 rfl) ?_
  refine lv_iload hx hb dX10_where_13 (lv_at hl 4 rfl) ?_
  refine q_callSi (M' := M_4) (As := [.int p3, .int p4]) (rest := []) B hw (c_X10_isCondition l X p3 p4 _ rfl M_4 _) cs_X10_202 rfl hl.1 rfl rfl ⟨Nat.le_of_ble_eq_true rfl, Nat.le_of_ble_eq_true rfl⟩ (Nat.le_of_ble_eq_true rfl) ⟨Nat.le_of_ble_eq_true rfl, Nat.le_of_ble_eq_true rfl⟩ dX10_where_15 rfl (fun H locs hw => ?_)
  rcases bxm_e hf with ⟨r_6, h_8, hr0, hr1, hr2⟩ | ⟨r_6, M_7, h_8, hf⟩
  · subst hQ
    refine x_callS (As := [.int (f_X10_isCondition p3 p4)]) (rest := []) B T hw (c_X10_needArgument l hfl X fu (f_X10_isCondition p3 p4) M_4 r_6 h_8 _) cs_X10_88 rfl hl.1 rfl rfl ⟨(Nat.le_of_ble_eq_true rfl), (Nat.le_of_ble_eq_true rfl)⟩ (Nat.le_of_ble_eq_true rfl) ⟨(Nat.le_of_ble_eq_true rfl), (Nat.le_of_ble_eq_true rfl)⟩ dX10_where_18 rfl (fun E ce q9 H1 locs1 g1 g2 g3 g4 g5 g6 => ?_) (fun g1 => absurd g1 hr0)
    exact x_on hxt hlk g1 g2 g3 g4 g5 g6 hr1 hr2 (Nat.le_of_ble_eq_true rfl) (Nat.le_of_ble_eq_true rfl)
  refine x_callS (As := [.int (f_X10_isCondition p3 p4)]) (rest := []) B T hw (c_X10_needArgument l hfl X fu (f_X10_isCondition p3 p4) M_4 (0, r_6, M_7) h_8 _) cs_X10_88 rfl hl.1 rfl rfl ⟨(Nat.le_of_ble_eq_true rfl), (Nat.le_of_ble_eq_true rfl)⟩ (Nat.le_of_ble_eq_true rfl) ⟨(Nat.le_of_ble_eq_true rfl), (Nat.le_of_ble_eq_true rfl)⟩ dX10_where_18 rfl (fun _ _ _ _ _ g1 => absurd rfl g1) (fun _ H locs hw => ?_)
  refine lv_aload_n hx hb dX10_where_21 rfl (lv_at hl 0 rfl) ?_
  refine gt_X10_44 B hw (i := 0) rfl dX10_where_22 ?_
  refine gt_X10_205 B hw (i := 80) rfl dX10_where_25 ?_
  refine lv_iconst (v := 4) hx hb dX10_where_28 (by decide) ?_
  refine nmv_e hf (fun kk => ∀ (H : Heap) (locs : List Loc), HW LC X M_7 s H locs → W p l e rm_X10_where s m args below meth c H locs 2 12 Q (F0 m 37 ls [.int kk])) (fun J => ?_) (fun v_10 hf H locs hw => ?_)
  · refine lv_icmp_ge (tgt := 36) hx hb dX10_where_29 (by decide) (fun c_9 => ?_) (fun c_9 => ?_)
    · rw [if_pos c_9] at J
      refine lv_iconst (v := 0) hx hb dX10_where_36 (by decide) ?_
      exact J _ _ hw
    · rw [if_neg c_9] at J
      refine lv_iconst (v := 1) hx hb dX10_where_32 (by decide) ?_
      refine lv_goto (tgt := 37) hx hb dX10_where_33 (by decide) ?_
      exact J _ _ hw
  · rcases bxm_e hf with ⟨r_11, h_13, hr0, hr1, hr2⟩ | ⟨r_11, M_12, h_13, hf⟩
    · subst hQ
      refine x_callS (As := [.int v_10]) (rest := []) B T hw (c_X10_needState l hfl X fu v_10 M_7 r_11 h_13 _) cs_X10_96 rfl hl.1 rfl rfl ⟨(Nat.le_of_ble_eq_true rfl), (Nat.le_of_ble_eq_true rfl)⟩ (Nat.le_of_ble_eq_true rfl) ⟨(Nat.le_of_ble_eq_true rfl), (Nat.le_of_ble_eq_true rfl)⟩ dX10_where_37 rfl (fun E ce q9 H1 locs1 g1 g2 g3 g4 g5 g6 => ?_) (fun g1 => absurd g1 hr0)
      exact x_on hxt hlk g1 g2 g3 g4 g5 g6 hr1 hr2 (Nat.le_of_ble_eq_true rfl) (Nat.le_of_ble_eq_true rfl)
    refine x_callS (As := [.int v_10]) (rest := []) B T hw (c_X10_needState l hfl X fu v_10 M_7 (0, r_11, M_12) h_13 _) cs_X10_96 rfl hl.1 rfl rfl ⟨(Nat.le_of_ble_eq_true rfl), (Nat.le_of_ble_eq_true rfl)⟩ (Nat.le_of_ble_eq_true rfl) ⟨(Nat.le_of_ble_eq_true rfl), (Nat.le_of_ble_eq_true rfl)⟩ dX10_where_37 rfl (fun _ _ _ _ _ g1 => absurd rfl g1) (fun _ H locs hw => ?_)
    refine lv_aload_n hx hb dX10_where_40 rfl (lv_at hl 0 rfl) ?_
    refine gt_X10_44 B hw (i := 0) rfl dX10_where_41 ?_
    refine lv_iload_n hx hb dX10_where_44 rfl (lv_at hl 1 rfl) ?_
    refine lv_iload_n hx hb dX10_where_45 rfl (lv_at hl 2 rfl) ?_
    refine lv_iload_n hx hb dX10_where_46 rfl (lv_at hl 3 rfl) ?_
    refine lv_iload hx hb dX10_where_47 (lv_at hl 4 rfl) ?_
    obtain ⟨r_15, M_16, h_14, hf⟩ := bm_e hf
    refine q_callVi (M' := M_16) (i := 80) (As := [.int p1, .int p2, .int p3, .int p4]) (rest := []) B hw (c_X4_addCondition l X fu p1 p2 p3 p4 M_12 (r_15, M_16) h_14 _) cv_X10_208 (rc_4 B hw rfl) rfl hl.1 rfl rfl ⟨Nat.le_of_ble_eq_true rfl, Nat.le_of_ble_eq_true rfl⟩ (Nat.le_of_ble_eq_true rfl) ⟨Nat.le_of_ble_eq_true rfl, Nat.le_of_ble_eq_true rfl⟩ dX10_where_49 rfl (fun H locs hw => ?_)
    cases hf
    subst hQ
    exact x_iret B hr hlk hw rfl (Nat.le_of_ble_eq_true rfl) (Nat.le_of_ble_eq_true rfl) dX10_where_52
