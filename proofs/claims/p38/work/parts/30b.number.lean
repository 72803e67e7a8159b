/-! ===== the script's numbers ===== -/
theorem kd_L_7 : Cond.constant RL 7 1205586405 ∈ BIG := big_at 480 (by decide +kernel) (by decide +kernel)
def PS (X : XT) (M : Mem) (b L : Nat) (xs : Nat → Int32) (sz : Nat) (U : State) : Prop := PW (LW []) X M sz U ∧ va_X b L xs U U.heap ∧ b < U.heap.size ∧ ¬ AX (LW []) X sz b
abbrev QA (X : XT) (M : Mem) (sz : Nat) : Array Value → State → Outcome → State → Prop := va_Qi (fun (_ : Int32) (_ : Unit) => True) (fun _ t => va_P X.1 vwCl (wl (LW []) X M) t.heap) (AX (LW []) X sz)
abbrev rm_L_number : Room := { frames := 0, cells := 0, slots := 0, locals := 0 }
theorem PS_blind {X : XT} {M : Mem} {b L : Nat} {xs : Nat → Int32} {sz : Nat} {As : List Value} : FrameBlind (va_Pc As (PS X M b L xs sz)) := fun a U g mk q => by
  obtain ⟨q0, q1, q2, q3⟩ := q
  have hv : U.vm.Alike (U.calling g mk a).vm := Vm.Alike.refl U.vm
  exact ⟨q0, (PW_blind (sz := sz) (As := As) a U g mk ⟨q0, q1⟩).2, va_X.moved hv q2, q3⟩
theorem nI_inL {k L : Nat} (hk : k < L) (hL : L ≤ 260) : vp_in (nI k) L := by
  have hc : (nI k).toNatClampNeg = k := nI_clamp (by omega)
  intro h
  rcases h with h | h
  · exact nI_pos (by omega) h
  · rw [hc] at h; omega
section NumRows
variable {p : Program} {l : Launch} {e : Env} {R : Room} {s : State} {m : MethodId} {args : Array Value} {below : List Frame} {meth : Method} {c : Code} {H : Heap} {locs : List Loc} {cells slots : Nat} {Q : State → Prop}
variable {cc : ByteArray} {own : String} {nl : Nat} {X : XT} {M : Mem} {pc : Nat} {ls : Array Slot} {rest : List Value}
theorem n_ret {v : Int32} {L : Nat} (B : Cx (LW []) X p s m args c cc own nl) (hr : meth.sig.returnType = some .int) (hlk : meth.locks = false) (hw : HW (LW []) X M s H locs) (hdg : decode cc pc = .ok (.ireturn, 1)) : W p l e R s m args below meth c H locs cells slots (MQ below (QA X M s.heap.size) args s cells slots (AX (LW []) X s.heap.size)) (F0 m pc ls [.int v]) :=
  W.iret B.hx B.hb hr (fun t ht hW => ⟨⟨v, (), rfl, trivial, by dsimp only; rw [ht]; exact hw.1⟩, hw.F ht⟩) hw.2.2.2 hdg hlk
end NumRows
set_option maxRecDepth 100000 in
set_option maxHeartbeats 8000000 in
theorem c_L_number (l : Launch) (X : XT) (M : Mem) (b L : Nat) (xs : Nat → Int32) (hL : L ≤ 260) (k : Nat) (hk : k < 2 ^ 20) (sz : Nat) : Met l yL_number (wbig yL_number cL_number 2 (some .int)) rm_L_number (va_Pc [.ref b, .int (nI k)] (PS X M b L xs sz)) (QA X M sz) 0 0 (AX (LW []) X sz) := by
  refine Met.ofW (cc := cL_number) (maxL := 2) (ret := some .int) (by decide +kernel) rfl ?_
  intro p e s m args below meth c s₁ B0 hml hv
  obtain ⟨rfl, ⟨hsz, hP, hK, hI, hN⟩, hX, hbl, hbA⟩ := hv
  have hts := atoms_spec (ws := wbig yL_number cL_number 2 (some .int)) B0.pre
  have hl := lv_entry [.ref b, .int (nI k)] (n := 2) (Nat.le_of_ble_eq_true rfl)
  rw [lg_entry_eq]
  generalize (lg_sl [.ref b, .int (nI k)] ++ List.replicate (2 - (lg_sl [.ref b, .int (nI k)]).length) Slot.unset).toArray = ls at hl ⊢
  have hl : lv_has ls 2 [(0, .ref b), (1, .int (nI k))] := hl
  subst hsz
  have B : Cx (LW []) X p s m _ c cL_number RL 2 := ⟨B0.exec, B0.bytes, hml, findClass_of_methodNamed B0.named, fun w hw => hts w (List.mem_cons_of_mem _ hw), hK, hI, hN⟩
  have hr := B0.returns
  have hlk := B0.notSynchronized
  have hw : HW (LW []) X M s s.heap [] := ⟨hP, va_S.rf⟩
  have hx := B.hx
  have hb := B.hb
  refine lv_iload_n hx hb dL_number_0 rfl (lv_at hl 1 rfl) ?_
  refine lv_aload_n hx hb dL_number_1 rfl (lv_at hl 0 rfl) ?_
  refine va_slen hx hb hX hbl hbA hw.2 dL_number_2 ?_
  refine lv_icmp_ge (tgt := 12) hx hb dL_number_3 (by decide) (fun c9 => ?_) (fun c9 => ?_)
  · refine lv_ldc (v := 1205586405) hx hb B.hown (B.hts _ kd_L_7) dL_number_12 ?_
    refine lv_iload_n hx hb dL_number_14 rfl (lv_at hl 1 rfl) ?_
    refine lv_bipush (v := 7) hx hb dL_number_15 (by decide) ?_
    refine lv_iadd hx hb dL_number_17 ?_
    refine lv_imul hx hb dL_number_18 ?_
    exact n_ret (L := 0) B hr hlk hw dL_number_19
  · have hkL : k < L := by
      have c8 : ¬ nI L ≤ nI k := c9
      rw [nI_leI (by omega) (by omega)] at c8
      omega
    refine lv_aload_n hx hb dL_number_6 rfl (lv_at hl 0 rfl) ?_
    refine lv_iload_n hx hb dL_number_7 rfl (lv_at hl 1 rfl) ?_
    refine va_sld (i := nI k) hx hb hX hbl hbA hw.2 (nI_inL hkL hL) dL_number_8 ?_
    refine lv_goto (tgt := 19) hx hb dL_number_9 (by decide) ?_
    exact n_ret (L := 0) B hr hlk hw dL_number_19
section NumCall
variable {p : Program} {l : Launch} {e : Env} {R : Room} {s : State} {m : MethodId} {args : Array Value} {below : List Frame} {meth : Method} {c : Code} {H : Heap} {locs : List Loc} {cells slots : Nat} {Q : State → Prop}
variable {cc : ByteArray} {own : String} {nl : Nat} {X : XT} {M : Mem} {pc : Nat} {ls : Array Slot} {rest st : List Value}
theorem q_callN {b L k index : Nat} {xs : Nat → Int32} (B : Cx (LW []) X p s m args c cc own nl) (hw : HW (LW []) X M s H locs) (hX : va_X b L xs s s.heap) (hbl : b < s.heap.size) (hbA : ¬ AX (LW []) X s.heap.size b) (hL : L ≤ 260) (hk : k < 2 ^ 20) (hcv : CS R own index yL_number cL_number 2 (some .int) rm_L_number 2) (hls : ls.size = nl) (hR : rm_L_number.frames + 1 ≤ R.frames ∧ 8 + (2 + 11) + rm_L_number.locals ≤ R.locals) (hW : (rest.map fun v => v.category).sum ≤ 8) (hf : cells ≤ R.cells ∧ slots ≤ R.slots) (hdg : decode cc pc = .ok (.invokestatic index, 3)) (hst : st = [.ref b, .int (nI k)].reverse ++ rest)
    (kk : ∀ (v : Int32) (H : Heap) (locs : List Loc), HW (LW []) X M s H locs → W p l e R s m args below meth c H locs cells slots Q (F0 m (pc + 3) ls (.int v :: rest))) : W p l e R s m args below meth c H locs cells slots Q (F0 m pc ls st) := by
  subst hst
  refine va_calli (va_runS (As := [.ref b, .int (nI k)]) (rest := rest) ⟨B.hx, B.hb, B.hml, B.hown, B.hts⟩ (c_L_number l X M b L xs hL k hk H.size) (cs_w B hcv rfl rfl hR) ⟨PS_blind, fun U hU hW => ⟨rfl, PW_of B hw hU hW, ?_, ?_, ?_⟩⟩ rfl rfl hls rfl (lv_room hW) hdg ⟨hf.1, hf.2⟩) hw.2 (fun q _ h => AX_fr hw q h) (AX_fr hw) (fun r u t H1 locs1 ht hvm hwv hB hz1 hk1 hS => ?_)
  · rw [hU]
    exact va_X.moved hW.alike (hX.kept (hw.2.2.1 b hbl hbA))
  · rw [hU]
    exact Nat.lt_of_lt_of_le hbl hw.2.1
  · exact fun z => hbA (AX_fr hw b z)
  · rw [ht] at hB
    exact kk r H1 locs1 ⟨hB, hS⟩
end NumCall
