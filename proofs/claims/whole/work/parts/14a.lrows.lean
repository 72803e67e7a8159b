/-! ===== the law: rows ===== -/
def FX (X : XT) (b2 : Nat → Nat) (o z : Nat) : Prop := inj LC X ∧ inj LM (X.1, X.2.1, b2) ∧ (∀ i, i < LC.1 → X.2.2 i ≠ o) ∧ (∀ j, j < LM.1 → b2 j ≠ o) ∧ (∀ i j, i < LC.1 → j < LM.1 → X.2.2 i ≠ b2 j) ∧ (∀ i, i < LC.1 → z ≤ X.2.2 i) ∧ (∀ j, j < LM.1 → z ≤ b2 j) ∧ z ≤ o
def HL (X : XT) (b2 : Nat → Nat) (o : Nat) (M m : Mem) (f : Nat → Int64) (s : State) (H : Heap) (locs : List Loc) : Prop := va_P X.1 vwCl (wl LC X M) H ∧ va_P X.1 vwCl (wl LM (X.1, X.2.1, b2) m) H ∧ va_P X.1 vwCl [oC X o f] H ∧ va_S (fun q => s.heap.size ≤ q) s.heap H locs
def CL (X : XT) (b2 : Nat → Nat) (o : Nat) (p : Program) (s : State) (m : MethodId) (args : Array Value) (c : Code) : Prop :=
  p.tables.exec = Jvm.exec ∧ c.code = cL_law ∧ c.maxLocals = 7 ∧ s.vm.findClass RL = some m.cls ∧ (∀ w ∈ BIG, w.before args s = true) ∧ va_K X.1 vwCl (tysX X) s ∧ FX X b2 o s.heap.size ∧ PN (fun q => s.heap.size ≤ q) s ∧ TX (fun q => s.heap.size ≤ q) s ∧ NC s
theorem lg_self (x : Int64) : lg_cmp x x = 0 := by
  unfold lg_cmp
  rw [if_neg (by simp), if_pos rfl]
theorem nI_in' {k L : Nat} (hk : k < L) (hL : L ≤ 3584) : vp_in (nI k) L := by
  have hc : (nI k).toNatClampNeg = k := nI_clamp (by omega)
  intro h
  rcases h with h | h
  · exact nI_pos (by omega) h
  · rw [hc] at h; omega
section LawRows
variable {p : Program} {l : Launch} {e : Env} {R : Room} {s : State} {m : MethodId} {args : Array Value} {below : List Frame} {meth : Method} {c : Code} {H : Heap} {locs : List Loc} {cells slots : Nat} {Q : State → Prop}
variable {X : XT} {b2 : Nat → Nat} {o : Nat} {M m0 : Mem} {f : Nat → Int64} {pc : Nat} {ls : Array Slot} {rest : List Value}
theorem CL.hx (B : CL X b2 o p s m args c) : p.tables.exec = Jvm.exec := B.1
theorem CL.hb (B : CL X b2 o p s m args c) : c.code = cL_law := B.2.1
theorem CL.hml (B : CL X b2 o p s m args c) : c.maxLocals = 7 := B.2.2.1
theorem CL.hown (B : CL X b2 o p s m args c) : s.vm.findClass RL = some m.cls := B.2.2.2.1
theorem CL.hts (B : CL X b2 o p s m args c) : ∀ w ∈ BIG, w.before args s = true := B.2.2.2.2.1
theorem CL.hK (B : CL X b2 o p s m args c) : va_K X.1 vwCl (tysX X) s := B.2.2.2.2.2.1
theorem CL.hF (B : CL X b2 o p s m args c) : FX X b2 o s.heap.size := B.2.2.2.2.2.2.1
theorem CL.hN (B : CL X b2 o p s m args c) : PN (fun q => s.heap.size ≤ q) s := B.2.2.2.2.2.2.2.1
theorem CL.hT (B : CL X b2 o p s m args c) : TX (fun q => s.heap.size ≤ q) s := B.2.2.2.2.2.2.2.2.1
theorem CL.hC (B : CL X b2 o p s m args c) : NC s := B.2.2.2.2.2.2.2.2.2
theorem keepP {D : va_G} {cl : List vw_C} {ws : va_W} {H H1 : Heap} {A1 : Nat → Prop} (h : va_P D cl ws H) (hk : ∀ q : Nat, q < H.size → ¬ A1 q → H1[q]? = H[q]?) (hn : ∀ (k : Nat) (q : Nat × va_E), ws[k]? = some q → q.1 < H.size → ¬ A1 q.1) : va_P D cl ws H1 :=
  h.kept (fun k q hq => hk q.1 (h k q hq).lt (hn k q hq (h k q hq).lt))
theorem oC_at {k : Nat} {q : Nat × va_E} (h : [oC X o f][k]? = some q) : q.1 = o := by
  have h1 := (List.getElem?_eq_some_iff.mp h).1
  simp at h1
  subst h1
  cases h
  rfl
theorem fr_c (B : CL X b2 o p s m args c) (hw : HL X b2 o M m0 f s H locs) : ∀ q, AX LC X H.size q → s.heap.size ≤ q := fun q h => by
  rcases h with ⟨i, hi, rfl⟩ | h
  · exact B.hF.2.2.2.2.2.1 i hi
  · exact Nat.le_trans hw.2.2.2.1 h
theorem fr_m (B : CL X b2 o p s m args c) (hw : HL X b2 o M m0 f s H locs) : ∀ q, AX LM (X.1, X.2.1, b2) H.size q → s.heap.size ≤ q := fun q h => by
  rcases h with ⟨i, hi, rfl⟩ | h
  · exact B.hF.2.2.2.2.2.2.1 i hi
  · exact Nat.le_trans hw.2.2.2.1 h
theorem fr_o (B : CL X b2 o p s m args c) (hw : HL X b2 o M m0 f s H locs) : ∀ q, AO X o H.size q → s.heap.size ≤ q := fun q h => by
  rcases h with h | rfl
  · exact fr_c B hw q h
  · exact B.hF.2.2.2.2.2.2.2
theorem kp_m (B : CL X b2 o p s m args c) (hw : HL X b2 o M m0 f s H locs) {H1 : Heap} (hk : ∀ q : Nat, q < H.size → ¬ AO X o H.size q → H1[q]? = H[q]?) : va_P X.1 vwCl (wl LM (X.1, X.2.1, b2) m0) H1 :=
  keepP hw.2.1 hk (fun k q hq hl h => by
    obtain ⟨hj, rfl⟩ := wl_no hq
    rcases h with (⟨i, hi, h⟩ | h) | h
    · exact B.hF.2.2.2.2.1 i k hi hj h.symm
    · exact Nat.not_le.mpr hl h
    · exact B.hF.2.2.2.1 k hj h)
theorem kp_m' (B : CL X b2 o p s m args c) (hw : HL X b2 o M m0 f s H locs) {H1 : Heap} (hk : ∀ q : Nat, q < H.size → ¬ AX LC X H.size q → H1[q]? = H[q]?) : va_P X.1 vwCl (wl LM (X.1, X.2.1, b2) m0) H1 := kp_m B hw (fun q h1 h2 => hk q h1 (fun h => h2 (Or.inl h)))
theorem kp_oc (B : CL X b2 o p s m args c) (hw : HL X b2 o M m0 f s H locs) {H1 : Heap} (hk : ∀ q : Nat, q < H.size → ¬ AX LC X H.size q → H1[q]? = H[q]?) : va_P X.1 vwCl [oC X o f] H1 :=
  keepP hw.2.2.1 hk (fun k q hq hl h => by
    have e := oC_at hq
    rcases h with ⟨i, hi, h⟩ | h
    · exact B.hF.2.2.1 i hi (h.symm.trans e)
    · exact Nat.not_le.mpr hl h)
theorem kp_om (B : CL X b2 o p s m args c) (hw : HL X b2 o M m0 f s H locs) {H1 : Heap} (hk : ∀ q : Nat, q < H.size → ¬ AX LM (X.1, X.2.1, b2) H.size q → H1[q]? = H[q]?) : va_P X.1 vwCl [oC X o f] H1 :=
  keepP hw.2.2.1 hk (fun k q hq hl h => by
    have e := oC_at hq
    rcases h with ⟨i, hi, h⟩ | h
    · exact B.hF.2.2.2.1 i hi (h.symm.trans e)
    · exact Nat.not_le.mpr hl h)
theorem kp_c (B : CL X b2 o p s m args c) (hw : HL X b2 o M m0 f s H locs) {H1 : Heap} (hk : ∀ q : Nat, q < H.size → ¬ AX LM (X.1, X.2.1, b2) H.size q → H1[q]? = H[q]?) : va_P X.1 vwCl (wl LC X M) H1 :=
  keepP hw.1 hk (fun k q hq hl h => by
    obtain ⟨hj, rfl⟩ := wl_no hq
    rcases h with ⟨i, hi, h⟩ | h
    · exact B.hF.2.2.2.2.1 k i hj hi h
    · exact Nat.not_le.mpr hl h)
theorem PO_l (B : CL X b2 o p s m args c) (hw : HL X b2 o M m0 f s H locs) {U : State} (hU : U.heap = H) (hW : s.WarmedH U.vm) : PO X o M f H.size U :=
  ⟨by rw [hU], by rw [hU]; exact hw.1, by rw [hU]; exact hw.2.2.1, va_K.moved hW.alike B.hK, B.hF.1, B.hF.2.2.1, B.hN.to hU hW hw.2.2.2.2.1 (fr_o B hw), B.hT.to hU hW hw.2.2.2.2.1 (fr_o B hw), fun a b h1 h2 h3 h4 h5 => va_Nc.moved hW.alike (B.hC a b h1 h2 h3 h4 h5)⟩
theorem PW_c (B : CL X b2 o p s m args c) (hw : HL X b2 o M m0 f s H locs) {U : State} (hU : U.heap = H) (hW : s.WarmedH U.vm) : PW LC X M H.size U :=
  ⟨by rw [hU], by rw [hU]; exact hw.1, va_K.moved hW.alike B.hK, B.hF.1, B.hN.to hU hW hw.2.2.2.2.1 (fr_c B hw)⟩
theorem PW_m (B : CL X b2 o p s m args c) (hw : HL X b2 o M m0 f s H locs) {U : State} (hU : U.heap = H) (hW : s.WarmedH U.vm) : PW LM (X.1, X.2.1, b2) m0 H.size U :=
  ⟨by rw [hU], by rw [hU]; exact hw.2.1, va_K.moved hW.alike B.hK, B.hF.2.1, B.hN.to hU hW hw.2.2.2.2.1 (fr_m B hw)⟩
section LCalls
variable {y : MethodName} {bytes : ByteArray} {maxL n index mc ms : Nat} {ret : Option FieldType} {rm : Room} {As st : List Value} {rs : XR} {hh : List (Nat × Nat × Nat × Nat)} {km : Nat → Nat} {PV : Int32 → Int64 → Prop} {N : Mem} {v : Int32}
theorem l_wrap (B : CL X b2 o p s m args c) (hw : HL X b2 o M m0 f s H locs) (hM : vx_Met l y (Cond.codeWith y bytes maxL (some .int) hh :: BIG) rm (va_Pc As (PO X o M f H.size)) (WQ X o km PV rs H.size) (WX X o H.size) mc ms (AO X o H.size)) (h1 : Cond.methodLink RL index y ∈ BIG) (h2 : Cond.static y ∈ BIG) (h3 : Cond.initialized y.cls ∈ BIG) (h4 : Cond.codeWith y bytes maxL (some .int) hh ∈ BIG) (hd : y.cls ≠ "java/lang/invoke/MethodHandle" ∧ y.cls ≠ "java/lang/invoke/VarHandle" ∧ (parseMethodDescriptor y.desc).map (fun d => d.parameters.length) = some n) (hn : As.length = n) (hls : ls.size = 7) (hc : rm.cells = mc) (hs : rm.slots = ms) (hR : rm.frames + 1 ≤ R.frames ∧ 8 + (maxL + 11) + rm.locals ≤ R.locals) (hW : (rest.map fun v => v.category).sum ≤ 8) (hf : cells + mc ≤ R.cells ∧ slots + ms ≤ R.slots) (hdg : decode cL_law pc = .ok (.invokestatic index, 3)) (hst : st = As.reverse ++ rest)
    (kk : ∀ (g : Nat → Int64) (H : Heap) (locs : List Loc), (rs.1 = 0 → PV rs.2.1 (g 0)) → HL X b2 o rs.2.2 m0 g s H locs → W p l e R s m args below meth c H locs (cells + mc) (slots + ms) Q (F0 m (pc + 3) ls (.int (nI (km rs.1)) :: rest))) : W p l e R s m args below meth c H locs cells slots Q (F0 m pc ls st) := by
  subst hst
  have hG : ∀ w ∈ va_wsS RL index y (Cond.codeWith y bytes maxL (some .int) hh :: BIG), w ∈ BIG := by
    intro w hw
    simp only [va_wsS, List.cons_append, List.nil_append, List.mem_cons] at hw
    rcases hw with rfl | rfl | rfl | rfl | hw
    · exact h1
    · exact h2
    · exact h3
    · exact h4
    · exact hw
  refine vx_calli (vx_runSX (hh := hh) (As := As) (rest := rest) ⟨B.hx, B.hb, B.hml, B.hown, B.hts⟩ hM (vx_cwSW n B.hts (big_sub hG) rfl hc hs hd hR) ⟨PO_blind, fun U hU hW => ⟨rfl, PO_l B hw hU hW⟩⟩ rfl hn hls rfl (lv_room hW) hdg ⟨hf.1, hf.2⟩) hw.2.2.2 (fun q _ h => fr_o B hw q h) (fr_o B hw) (fun q _ h => fr_o B hw q h) (fun E ce q9 u t H1 locs1 ht hvm hpu hBX hz1 hk1 hS h1 h2 h3 => hpu.elim) (fun r g t H1 locs1 ht hvm hwv hB hz1 hk1 hS => ?_)
  obtain ⟨rfl, hg⟩ := hwv
  rw [ht] at hB
  exact kk g H1 locs1 hg ⟨hB.1, kp_m B hw hk1, hB.2, hS⟩
theorem l_cls (B : CL X b2 o p s m args c) (hw : HL X b2 o M m0 f s H locs) (hM : Met l y (wbig y bytes maxL ret) rm (va_Pc (.ref (X.2.2 0) :: As) (PW LC X M H.size)) (QI LC X N v H.size) 0 0 (AX LC X H.size)) (hcv : CVm R RL index y bytes maxL ret rm n) (hy : y.cls = RX10) (hn : As.length = n) (hls : ls.size = 7) (hc : rm.cells = 0) (hs : rm.slots = 0) (hR : rm.frames + 1 ≤ R.frames ∧ 8 + (maxL + 11) + rm.locals ≤ R.locals) (hW : (rest.map fun v => v.category).sum ≤ 8) (hf : cells ≤ R.cells ∧ slots ≤ R.slots) (hdg : decode cL_law pc = .ok (.invokevirtual index, 3)) (hst : st = As.reverse ++ .ref (X.2.2 0) :: rest)
    (kk : ∀ H locs, HL X b2 o N m0 f s H locs → W p l e R s m args below meth c H locs cells slots Q (F0 m (pc + 3) ls (.int v :: rest))) : W p l e R s m args below meth c H locs cells slots Q (F0 m pc ls st) := by
  subst hst
  refine va_calli (va_runV (As := As) (rest := rest) ⟨B.hx, B.hb, B.hml, B.hown, B.hts⟩ hM (cv_wh B.hts hcv hc hs hR) ⟨PW_blind, by rw [hy]; exact va_recv B.hK hw.1 (ci := 10) (q0 := 0) rfl (by rw [wl_at (L := LC) (i := 0) (by decide)]; exact congrArg (fun z => some (X.2.2 0, z)) (cC_10 (X := X) (i := 0) rfl (M 0))), fun U hU hW => ⟨rfl, PW_c B hw hU hW⟩⟩ rfl hn hls rfl (lv_room hW) hdg ⟨hf.1, hf.2⟩) hw.2.2.2 (fun q _ h => fr_c B hw q h) (fr_c B hw) (fun r u t H1 locs1 ht hvm hwv hB hz1 hk1 hS => ?_)
  subst hwv
  rw [ht] at hB
  exact kk H1 locs1 ⟨hB, kp_m' B hw hk1, kp_oc B hw hk1, hS⟩
theorem l_mod (B : CL X b2 o p s m args c) (hw : HL X b2 o M m0 f s H locs) (hM : Met l y (wbig y bytes maxL ret) rm (va_Pc (.ref (b2 0) :: As) (PW LM (X.1, X.2.1, b2) m0 H.size)) (QI LM (X.1, X.2.1, b2) N v H.size) 0 0 (AX LM (X.1, X.2.1, b2) H.size)) (hcv : CVm R RL index y bytes maxL ret rm n) (hy : y.cls = RX11) (hn : As.length = n) (hls : ls.size = 7) (hc : rm.cells = 0) (hs : rm.slots = 0) (hR : rm.frames + 1 ≤ R.frames ∧ 8 + (maxL + 11) + rm.locals ≤ R.locals) (hW : (rest.map fun v => v.category).sum ≤ 8) (hf : cells ≤ R.cells ∧ slots ≤ R.slots) (hdg : decode cL_law pc = .ok (.invokevirtual index, 3)) (hst : st = As.reverse ++ .ref (b2 0) :: rest)
    (kk : ∀ H locs, HL X b2 o M N f s H locs → W p l e R s m args below meth c H locs cells slots Q (F0 m (pc + 3) ls (.int v :: rest))) : W p l e R s m args below meth c H locs cells slots Q (F0 m pc ls st) := by
  subst hst
  refine va_calli (va_runV (As := As) (rest := rest) ⟨B.hx, B.hb, B.hml, B.hown, B.hts⟩ hM (cv_wh B.hts hcv hc hs hR) ⟨PW_blind, by rw [hy]; exact va_recv B.hK hw.2.1 (ci := 11) (q0 := 0) rfl (by rw [wl_at (L := LM) (i := 0) (by decide)]; exact congrArg (fun z => some (b2 0, z)) (cM_11 (X := (X.1, X.2.1, b2)) (m0 0))), fun U hU hW => ⟨rfl, PW_m B hw hU hW⟩⟩ rfl hn hls rfl (lv_room hW) hdg ⟨hf.1, hf.2⟩) hw.2.2.2 (fun q _ h => fr_m B hw q h) (fr_m B hw) (fun r u t H1 locs1 ht hvm hwv hB hz1 hk1 hS => ?_)
  subst hwv
  rw [ht] at hB
  exact kk H1 locs1 ⟨kp_c B hw hk1, hB, kp_om B hw hk1, hS⟩
theorem l_modv (B : CL X b2 o p s m args c) (hw : HL X b2 o M m0 f s H locs) (hM : Met l y (wbig y bytes maxL ret) rm (va_Pc (.ref (b2 0) :: As) (PW LM (X.1, X.2.1, b2) m0 H.size)) (QV LM (X.1, X.2.1, b2) N H.size) 0 0 (AX LM (X.1, X.2.1, b2) H.size)) (hcv : CVm R RL index y bytes maxL ret rm n) (hy : y.cls = RX11) (hn : As.length = n) (hls : ls.size = 7) (hc : rm.cells = 0) (hs : rm.slots = 0) (hR : rm.frames + 1 ≤ R.frames ∧ 8 + (maxL + 11) + rm.locals ≤ R.locals) (hW : (rest.map fun v => v.category).sum ≤ 8) (hf : cells ≤ R.cells ∧ slots ≤ R.slots) (hdg : decode cL_law pc = .ok (.invokevirtual index, 3)) (hst : st = As.reverse ++ .ref (b2 0) :: rest)
    (kk : ∀ H locs, HL X b2 o M N f s H locs → W p l e R s m args below meth c H locs cells slots Q (F0 m (pc + 3) ls rest)) : W p l e R s m args below meth c H locs cells slots Q (F0 m pc ls st) := by
  subst hst
  refine va_callv (va_runV (As := As) (rest := rest) ⟨B.hx, B.hb, B.hml, B.hown, B.hts⟩ hM (cv_wh B.hts hcv hc hs hR) ⟨PW_blind, by rw [hy]; exact va_recv B.hK hw.2.1 (ci := 11) (q0 := 0) rfl (by rw [wl_at (L := LM) (i := 0) (by decide)]; exact congrArg (fun z => some (b2 0, z)) (cM_11 (X := (X.1, X.2.1, b2)) (m0 0))), fun U hU hW => ⟨rfl, PW_m B hw hU hW⟩⟩ rfl hn hls rfl (lv_room hW) hdg ⟨hf.1, hf.2⟩) hw.2.2.2 (fun q _ h => fr_m B hw q h) (fr_m B hw) (fun u t H1 locs1 ht hvm hwv hB hz1 hk1 hS => ?_)
  rw [ht] at hB
  exact kk H1 locs1 ⟨kp_c B hw hk1, hB, kp_om B hw hk1, hS⟩
end LCalls
theorem l_lald (B : CL X b2 o p s m args c) (hw : HL X b2 o M m0 f s H locs) (hdg : decode cL_law pc = .ok (.laload, 1)) (kk : W p l e R s m args below meth c H locs cells slots Q (F0 m (pc + 1) ls (.long (f 0) :: rest))) : W p l e R s m args below meth c H locs cells slots Q (F0 m pc ls (.int 0 :: .ref o :: rest)) :=
  va_lald B.hx B.hb B.hK hw.2.2.1 0 4 (cA := X.2.1 4) (n := 1) (f := f) rfl rfl (inb_in (by decide)) hdg kk
theorem l_sld {b L k : Nat} {xs : Nat → Int32} {x : Int32} (B : CL X b2 o p s m args c) (hX : va_X b L xs s s.heap) (hbl : b < s.heap.size) (hw : HL X b2 o M m0 f s H locs) (hx : x = nI k) (hk : k < L) (hL : L ≤ 3584) (hdg : decode cL_law pc = .ok (.iaload, 1)) (kk : W p l e R s m args below meth c H locs cells slots Q (F0 m (pc + 1) ls (.int (xs k) :: rest))) : W p l e R s m args below meth c H locs cells slots Q (F0 m pc ls (.int x :: .ref b :: rest)) := by
  subst hx
  have hc : (nI k).toNatClampNeg = k := nI_clamp (by omega)
  refine va_sld B.hx B.hb hX hbl (A := fun q => s.heap.size ≤ q) (Nat.not_le.mpr hbl) hw.2.2.2 ?_ hdg ?_
  · exact nI_in' hk hL
  · rw [hc]; exact kk
theorem l_slen {b L : Nat} {xs : Nat → Int32} (B : CL X b2 o p s m args c) (hX : va_X b L xs s s.heap) (hbl : b < s.heap.size) (hw : HL X b2 o M m0 f s H locs) (hdg : decode cL_law pc = .ok (.arraylength, 1)) (kk : W p l e R s m args below meth c H locs cells slots Q (F0 m (pc + 1) ls (.int (nI L) :: rest))) : W p l e R s m args below meth c H locs cells slots Q (F0 m pc ls (.ref b :: rest)) :=
  va_slen B.hx B.hb hX hbl (A := fun q => s.heap.size ≤ q) (Nat.not_le.mpr hbl) hw.2.2.2 hdg kk
end LawRows
theorem km0 {km : Nat → Nat} {k : Nat} (hk : kk km k) (h : nI (km k) = 0) : k = 0 := by
  refine hk.2.2 ?_
  have h1 := hk.2.1
  have h2 : nI (km k) = nI 0 := h
  exact (nI_eq (by omega) (by omega)).mp h2
