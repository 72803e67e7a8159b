/-! ===== more rows: names for numbers of cells, calls that answer an entry or null, copies, the static tables ===== -/
theorem no_none {α : Type} {r : α} {G : Prop} (h : (none : Option α) = some r) : G := by cases h
section R2
variable {p : Program} {l : Launch} {e : Env} {R : Room} {s : State} {m : MethodId} {args : Array Value} {below : List Frame} {meth : Method} {c : Code} {H : Heap} {locs : List Loc} {cells slots : Nat} {Q : State → Prop}
variable {cc : ByteArray} {own : String} {nl : Nat} {L : LT} {X : XT} {M : Mem} {pc : Nat} {ls : Array Slot} {rest : List Value}
theorem r_topr {x : Nat} {β : Type} {k : Nat → β} {rs : β} (hf : nm x k = rs) (kk : ∀ y, k y = rs → W p l e R s m args below meth c H locs cells slots Q (F0 m pc ls (.ref (X.2.2 y) :: rest))) : W p l e R s m args below meth c H locs cells slots Q (F0 m pc ls (.ref (X.2.2 x) :: rest)) := kk x hf
theorem r_topk {x : Nat} {K : Nat × Nat} (h : kC x = K) {β : Type} {k : Nat → β} {rs : β} (hf : nm x k = rs) (kk : ∀ y, kC y = K → k y = rs → W p l e R s m args below meth c H locs cells slots Q (F0 m pc ls (.ref (X.2.2 y) :: rest))) : W p l e R s m args below meth c H locs cells slots Q (F0 m pc ls (.ref (X.2.2 x) :: rest)) := kk x h hf
theorem r_topn {x : Int32} {β : Type} {k : Int32 → β} {rs : β} (hf : nm x k = rs) (kk : ∀ y, k y = rs → W p l e R s m args below meth c H locs cells slots Q (F0 m pc ls (.int y :: rest))) : W p l e R s m args below meth c H locs cells slots Q (F0 m pc ls (.int x :: rest)) := kk x hf
theorem r_iinc (hx : p.tables.exec = Jvm.exec) (hb : c.code = cc) {i k : Nat} {n : Int} {x v : Int32} {lv : List (Nat × Value)} (hdg : decode cc pc = .ok (.iinc i n, 3)) (h : lv_has ls nl lv) (hk : lv[k]? = some (i, .int x)) (hv : x + Int32.ofInt n = v) (hn : i < nl) {β : Type} {kf : Int32 → β} {rs : β} (hf : nm v kf = rs)
    (kk : ∀ (y : Int32) (ls' : Array Slot), lv_has ls' nl ((i, Value.int y) :: lv.filter (fun q => !(q.1 == i) && !(q.1 + 1 == i && q.2.category == 2))) → kf y = rs → W p l e R s m args below meth c H locs cells slots Q (F0 m (pc + 3) ls' rest)) : W p l e R s m args below meth c H locs cells slots Q (F0 m pc ls rest) :=
  lv_iinc hx hb hdg h hk hv hn rfl (fun ls' hl => kk v ls' hl hf)
theorem nmv_e {α β : Type} {v : α} {K : α → β} {b : β} {G : Prop} (hf : nm v K = b) (P : α → Prop) (h1 : P v → G) (h2 : ∀ x, K x = b → P x) : G := h1 (h2 v hf)
theorem q_callVq {y : MethodName} {bytes : ByteArray} {maxL n index : Nat} {ret : Option FieldType} {rm : Room} {i : Nat} {As : List Value} {M' : Mem} {v : Option Nat} (B : Cx L X p s m args c cc own nl) (hw : HW L X M s H locs) (hM : Met l y (wbig y bytes maxL ret) rm (va_Pc (.ref (X.2.2 i) :: As) (PW L X M H.size)) (QQ L X M' v H.size) 0 0 (AX L X H.size)) (hcv : CVm R own index y bytes maxL ret rm n) (hrv : ∃ cell : Cell, H[X.2.2 i]? = some cell ∧ cell.vm.isStatics = false ∧ s.vm.findClass y.cls = some cell.cls) (hn : As.length = n) (hls : ls.size = nl) (hc : rm.cells = 0) (hs : rm.slots = 0) (hR : rm.frames + 1 ≤ R.frames ∧ 8 + (maxL + 11) + rm.locals ≤ R.locals) (hW : (rest.map fun v => v.category).sum ≤ 8) (hf : cells ≤ R.cells ∧ slots ≤ R.slots) (hdg : decode cc pc = .ok (.invokevirtual index, 3)) {st : List Value} (hst : st = As.reverse ++ .ref (X.2.2 i) :: rest)
    (kk : ∀ H locs, HW L X M' s H locs → W p l e R s m args below meth c H locs cells slots Q (F0 m (pc + 3) ls (va_rf (v.map X.2.2) :: rest))) : W p l e R s m args below meth c H locs cells slots Q (F0 m pc ls st) := by
  subst hst
  refine va_callq (va_runV (As := As) (rest := rest) ⟨B.hx, B.hb, B.hml, B.hown, B.hts⟩ hM (cv_w B hcv hc hs hR) ⟨PW_blind, hrv, fun U hU hW => ⟨rfl, PW_of B hw hU hW⟩⟩ rfl hn hls rfl (lv_room hW) hdg ⟨hf.1, hf.2⟩) hw.2 (fun q _ h => AX_fr hw q h) (AX_fr hw) (fun r u t H1 locs1 ht hvm hwv hB hz1 hk1 hS => ?_)
  subst hwv
  rw [ht] at hB
  exact kk H1 locs1 ⟨hB, hS⟩
theorem q_qret {v v' : Option Nat} {M' : Mem} {w : Value} {cn : String} (B : Cx L X p s m args c cc own nl) (hr : meth.sig.returnType = some (.object cn)) (hlk : meth.locks = false) (hw : HW L X M s H locs) (hv : v' = v) (hM : M' = M) (hww : w = va_rf (v.map X.2.2)) (hdg : decode cc pc = .ok (.areturn, 1)) : W p l e R s m args below meth c H locs cells slots (MQ below (QQ L X M' v' s.heap.size) args s cells slots (AX L X s.heap.size)) (F0 m pc ls [w]) := by
  subst hv; subst hM; subst hww
  exact W.aret B.hx B.hb hr (Or.inl ⟨_, rfl⟩) (va_rf_or _) (fun t ht hW => ⟨⟨_, (), rfl, rfl, by dsimp only; rw [ht]; exact hw.1⟩, hw.F ht⟩) hw.2.2.2 hdg hlk
theorem q_max (B : Cx L X p s m args c cc own nl) (hls : ls.size = nl) {index : Nat} (h1 : Cond.methodLink own index Lib.Math.max.name ∈ BIG) (h2 : Cond.static Lib.Math.max.name ∈ BIG) (h3 : Cond.initialized "java/lang/Math" ∈ BIG) (h4 : Cond.code Lib.Math.max.name Lib.Math.max.code 2 (some .int) ∈ BIG) (hframes : 1 ≤ R.frames) (hlocals : (rest.map fun v => v.category).sum + 13 ≤ R.locals) (hc : cells ≤ R.cells) (hs : slots ≤ R.slots) {x y : Int32} (hdg : decode cc pc = .ok (.invokestatic index, 3))
    (kk : W p l e R s m args below meth c H locs cells slots Q (F0 m (pc + 3) ls (.int (if x < y then y else x) :: rest))) : W p l e R s m args below meth c H locs cells slots Q (F0 m pc ls (.int y :: .int x :: rest)) :=
  va_mmax B.hx B.hb (B.hml.trans hls.symm) B.hown (B.hts _ h1) (B.hts _ h2) (B.hts _ h3) (B.hts _ h4) hframes hlocals hc hs hdg kk
theorem q_min (B : Cx L X p s m args c cc own nl) (hls : ls.size = nl) {index : Nat} (h1 : Cond.methodLink own index Lib.Math.min.name ∈ BIG) (h2 : Cond.static Lib.Math.min.name ∈ BIG) (h3 : Cond.initialized "java/lang/Math" ∈ BIG) (h4 : Cond.code Lib.Math.min.name Lib.Math.min.code 2 (some .int) ∈ BIG) (hframes : 1 ≤ R.frames) (hlocals : (rest.map fun v => v.category).sum + 13 ≤ R.locals) (hc : cells ≤ R.cells) (hs : slots ≤ R.slots) {x y : Int32} (hdg : decode cc pc = .ok (.invokestatic index, 3))
    (kk : W p l e R s m args below meth c H locs cells slots Q (F0 m (pc + 3) ls (.int (if y < x then y else x) :: rest))) : W p l e R s m args below meth c H locs cells slots Q (F0 m pc ls (.int y :: .int x :: rest)) :=
  va_mmin B.hx B.hb (B.hml.trans hls.symm) B.hown (B.hts _ h1) (B.hts _ h2) (B.hts _ h3) (B.hts _ h4) hframes hlocals hc hs hdg kk
theorem c_copy (B : Cx LC X p s m args c cc own nl) (hw : HW LC X M s H locs) (hls : ls.size = nl) {i j k : Nat} {n : Int32} (hi : kC i = (20, k)) (hj : kC j = (20, k)) (hn : ¬ n < 0) (hk : n.toNatClampNeg = k) {index : Nat} (h1 : Cond.methodLink own index arraycopyName ∈ BIG) (h2 : Cond.native arraycopyName ∈ BIG) (h3 : Cond.static arraycopyName ∈ BIG) (h4 : Cond.initialized "java/lang/System" ∈ BIG) (hframes : 1 ≤ R.frames) (hlocals : (rest.map fun v => v.category).sum + (nativeFrameWords "java/lang/System" "arraycopy" 5 + 11) ≤ R.locals) (hdg : decode cc pc = .ok (.invokestatic index, 3)) {α : Type} {kf : Mem → Option α} {rs : α} (hf : nm (row M j (va_cpy (M i) (M j) 0 0 k)) kf = some rs)
    (kk : ∀ M' H locs, HW LC X M' s H locs → kf M' = some rs → W p l e R s m args below meth c H locs cells slots Q (F0 m (pc + 3) ls rest)) : W p l e R s m args below meth c H locs cells slots Q (F0 m pc ls (.int n :: .int 0 :: .ref (X.2.2 j) :: .int 0 :: .ref (X.2.2 i) :: rest)) := by
  have hi' : i < LC.1 := kC_lt hi (by decide)
  have hj' : j < LC.1 := kC_lt hj (by decide)
  have z0 : (0 : Int32).toNatClampNeg = 0 := rfl
  refine va_copyi B.hx B.hb (B.hml.trans hls.symm) B.hown (B.hts _ h1) (B.hts _ h2) (B.hts _ h3) (B.hts _ h4) B.hK hw.1 (wl_D B.hI) hw.2 i j 0 0 (f := M i) (g := M j) (n0 := k) (n1 := k) (c0 := X.2.1 0) (c1 := X.2.1 0) (ty := .int) (by rw [wl_at hi']; exact congrArg (fun z => some (X.2.2 i, z)) (cC_20 hi _)) (by rw [wl_at hj']; exact congrArg (fun z => some (X.2.2 j, z)) (cC_20 hj _)) rfl rfl rfl (by decide) (by decide) hn (by rw [z0, hk]; omega) (by rw [z0, hk]; omega) (fun _ _ => rfl) hframes hlocals hdg (fun H1 locs1 hP _ hS => kk _ H1 locs1 ⟨?_, hS⟩ hf)
  rw [z0, hk] at hP
  have h5 := hP
  rw [← cC_20 (X := X) hj (va_cpy (M i) (M j) 0 0 k)] at h5
  rw [show (wl LC X M).set j (X.2.2 j, cC X j (va_cpy (M i) (M j) 0 0 k)) = wl LC X (row M j (va_cpy (M i) (M j) 0 0 k)) from wl_row (L := LC) hj'] at h5
  exact h5
theorem q_tab {t : Nat} {f : Nat → Int32} (B : Cx L X p s m args c cc own nl) (hw : HW L X M s H locs) (hT : va_T .int t 3 (fun j => .int (f j)) (AX L X s.heap.size) s s.heap) {x : Int32} (hin : inb x 3 = true) (hdg : decode cc pc = .ok (.iaload, 1))
    (kk : W p l e R s m args below meth c H locs cells slots Q (F0 m (pc + 1) ls (.int (f x.toNatClampNeg) :: rest))) : W p l e R s m args below meth c H locs cells slots Q (F0 m pc ls (.int x :: .ref t :: rest)) := va_ti B.hx B.hb hT hw.2 (inb_in hin) rfl hdg kk
theorem q_stat {n host : String} {t index : Nat} (B : Cx L X p s m args c cc own nl) (hw : HW L X M s H locs) (hZ : va_Z "QueryHarbor" n "[I" (.ref t) (AX L X s.heap.size) s s.heap) (h1 : (own, index, "QueryHarbor", n, "[I", host) ∈ nestF) (hdg : decode cc pc = .ok (.getstatic index, 3))
    (kk : W p l e R s m args below meth c H locs cells slots Q (F0 m (pc + 3) ls (.ref t :: rest))) : W p l e R s m args below meth c H locs cells slots Q (F0 m pc ls rest) := va_getsN B.hx B.hb hZ hw.2 B.hown (va_Nw.use rfl (B.hN.2.1 _ h1)) (fun _ h9 => h9) hdg kk
end R2
/-! switches -/
theorem sw_n {n : Nat} {x : Int32} (h : ∀ k : Nat, k < n → ¬ x = nI k) (hn : n < 2 ^ 31) : x.toInt < 0 ∨ ((n : Int) - 1) < x.toInt := by
  by_cases h0 : x.toInt < 0
  · exact Or.inl h0
  · refine Or.inr ?_
    by_cases h1 : x.toInt ≤ (n : Int) - 1
    · exfalso
      have hk : x.toInt.toNat < n := by omega
      apply h _ hk
      apply Int32.toInt_inj.mp
      rw [nI_toInt (by omega)]
      omega
    · omega
theorem isb_0 : isb 0 = true := rfl
theorem isb_1 : isb 1 = true := rfl
theorem isb_ite {c : Prop} [Decidable c] {a b : Int32} (ha : isb a = true) (hb : isb b = true) : isb (if c then a else b) = true := by
  by_cases h : c
  · rw [if_pos h]; exact ha
  · rw [if_neg h]; exact hb

section RC
variable {p : Program} {s : State} {m : MethodId} {args : Array Value} {c : Code} {H : Heap} {locs : List Loc}
variable {cc : ByteArray} {own : String} {nl : Nat} {X : XT} {M : Mem}
theorem rc_0 (B : Cx LC X p s m args c cc own nl) (hw : HW LC X M s H locs) {i : Nat} (hi : kC i = (0, 0)) : ∃ cell : Cell, H[X.2.2 i]? = some cell ∧ cell.vm.isStatics = false ∧ s.vm.findClass RX0 = some cell.cls := q_recv B hw (kC_lt hi (by decide)) (cC_0 hi _) rfl
theorem rc_1 (B : Cx LC X p s m args c cc own nl) (hw : HW LC X M s H locs) {i : Nat} (hi : kC i = (1, 0)) : ∃ cell : Cell, H[X.2.2 i]? = some cell ∧ cell.vm.isStatics = false ∧ s.vm.findClass RX1 = some cell.cls := q_recv B hw (kC_lt hi (by decide)) (cC_1 hi _) rfl
theorem rc_2 (B : Cx LC X p s m args c cc own nl) (hw : HW LC X M s H locs) {i : Nat} (hi : kC i = (2, 0)) : ∃ cell : Cell, H[X.2.2 i]? = some cell ∧ cell.vm.isStatics = false ∧ s.vm.findClass RX2 = some cell.cls := q_recv B hw (kC_lt hi (by decide)) (cC_2 hi _) rfl
theorem rc_3 (B : Cx LC X p s m args c cc own nl) (hw : HW LC X M s H locs) {i : Nat} (hi : kC i = (3, 0)) : ∃ cell : Cell, H[X.2.2 i]? = some cell ∧ cell.vm.isStatics = false ∧ s.vm.findClass RX3 = some cell.cls := q_recv B hw (kC_lt hi (by decide)) (cC_3 hi _) rfl
theorem rc_4 (B : Cx LC X p s m args c cc own nl) (hw : HW LC X M s H locs) {i : Nat} (hi : kC i = (4, 0)) : ∃ cell : Cell, H[X.2.2 i]? = some cell ∧ cell.vm.isStatics = false ∧ s.vm.findClass RX4 = some cell.cls := q_recv B hw (kC_lt hi (by decide)) (cC_4 hi _) rfl
theorem rc_5 (B : Cx LC X p s m args c cc own nl) (hw : HW LC X M s H locs) {i : Nat} (hi : kC i = (5, 0)) : ∃ cell : Cell, H[X.2.2 i]? = some cell ∧ cell.vm.isStatics = false ∧ s.vm.findClass RX5 = some cell.cls := q_recv B hw (kC_lt hi (by decide)) (cC_5 hi _) rfl
theorem rc_6 (B : Cx LC X p s m args c cc own nl) (hw : HW LC X M s H locs) {i : Nat} (hi : kC i = (6, 0)) : ∃ cell : Cell, H[X.2.2 i]? = some cell ∧ cell.vm.isStatics = false ∧ s.vm.findClass RX6 = some cell.cls := q_recv B hw (kC_lt hi (by decide)) (cC_6 hi _) rfl
theorem rc_7 (B : Cx LC X p s m args c cc own nl) (hw : HW LC X M s H locs) {i : Nat} (hi : kC i = (7, 0)) : ∃ cell : Cell, H[X.2.2 i]? = some cell ∧ cell.vm.isStatics = false ∧ s.vm.findClass RX7 = some cell.cls := q_recv B hw (kC_lt hi (by decide)) (cC_7 hi _) rfl
theorem rc_8 (B : Cx LC X p s m args c cc own nl) (hw : HW LC X M s H locs) {i : Nat} (hi : kC i = (8, 0)) : ∃ cell : Cell, H[X.2.2 i]? = some cell ∧ cell.vm.isStatics = false ∧ s.vm.findClass RX8 = some cell.cls := q_recv B hw (kC_lt hi (by decide)) (cC_8 hi _) rfl
theorem rc_9 (B : Cx LC X p s m args c cc own nl) (hw : HW LC X M s H locs) {i : Nat} (hi : kC i = (9, 0)) : ∃ cell : Cell, H[X.2.2 i]? = some cell ∧ cell.vm.isStatics = false ∧ s.vm.findClass RX9 = some cell.cls := q_recv B hw (kC_lt hi (by decide)) (cC_9 hi _) rfl
theorem rc_10 (B : Cx LC X p s m args c cc own nl) (hw : HW LC X M s H locs) {i : Nat} (hi : kC i = (10, 0)) : ∃ cell : Cell, H[X.2.2 i]? = some cell ∧ cell.vm.isStatics = false ∧ s.vm.findClass RX10 = some cell.cls := q_recv B hw (kC_lt hi (by decide)) (cC_10 hi _) rfl
end RC
