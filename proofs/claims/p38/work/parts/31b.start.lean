/-! ===== the law's start ===== -/
theorem tN {args : Array Value} {s : State} {w : Cond} (hts : ∀ w ∈ lw_tbl, w.before args s = true) (i : Nat) (h : tables_1[i]? = some w) (ho : w.onTables = true) : va_Nw w s := va_tabs ho rfl (hts w (List.mem_append_right _ (List.mem_of_getElem? h)))
theorem tW {args : Array Value} {s : State} {w : Cond} (hts : ∀ w ∈ lw_tbl, w.before args s = true) (i : Nat) (h : tables_1[i]? = some w) : w.before args s = true := hts w (List.mem_append_right _ (List.mem_of_getElem? h))
theorem st_nest {args : Array Value} {s : State} (hts : ∀ w ∈ lw_tbl, w.before args s = true) : ∀ q ∈ nestM, va_Nw (.methodLinkNest q.1 q.2.1 q.2.2.1 q.2.2.2) s :=
  List.forall_mem_cons.mpr ⟨tN hts 30 (by decide +kernel) rfl, List.forall_mem_cons.mpr ⟨tN hts 55 (by decide +kernel) rfl, List.forall_mem_cons.mpr ⟨tN hts 61 (by decide +kernel) rfl, List.forall_mem_cons.mpr ⟨tN hts 194 (by decide +kernel) rfl, List.forall_mem_cons.mpr ⟨tN hts 226 (by decide +kernel) rfl, List.forall_mem_cons.mpr ⟨tN hts 309 (by decide +kernel) rfl, List.forall_mem_cons.mpr ⟨tN hts 416 (by decide +kernel) rfl, List.forall_mem_cons.mpr ⟨tN hts 623 (by decide +kernel) rfl, List.forall_mem_cons.mpr ⟨tN hts 674 (by decide +kernel) rfl, List.forall_mem_cons.mpr ⟨tN hts 861 (by decide +kernel) rfl, List.forall_mem_cons.mpr ⟨tN hts 862 (by decide +kernel) rfl, List.forall_mem_cons.mpr ⟨tN hts 947 (by decide +kernel) rfl, List.forall_mem_cons.mpr ⟨tN hts 968 (by decide +kernel) rfl, List.forall_mem_cons.mpr ⟨tN hts 996 (by decide +kernel) rfl, List.forall_mem_cons.mpr ⟨tN hts 1005 (by decide +kernel) rfl, List.forall_mem_cons.mpr ⟨tN hts 1006 (by decide +kernel) rfl, List.forall_mem_cons.mpr ⟨tN hts 1020 (by decide +kernel) rfl, List.forall_mem_cons.mpr ⟨tN hts 1081 (by decide +kernel) rfl, List.forall_mem_cons.mpr ⟨tN hts 1109 (by decide +kernel) rfl, List.forall_mem_cons.mpr ⟨tN hts 1271 (by decide +kernel) rfl, List.forall_mem_cons.mpr ⟨tN hts 1278 (by decide +kernel) rfl, List.forall_mem_cons.mpr ⟨tN hts 1281 (by decide +kernel) rfl, List.forall_mem_cons.mpr ⟨tN hts 1282 (by decide +kernel) rfl, List.forall_mem_cons.mpr ⟨tN hts 1283 (by decide +kernel) rfl, fun _ h9 => nomatch h9⟩⟩⟩⟩⟩⟩⟩⟩⟩⟩⟩⟩⟩⟩⟩⟩⟩⟩⟩⟩⟩⟩⟩⟩
theorem st_nestF {args : Array Value} {s : State} (hts : ∀ w ∈ lw_tbl, w.before args s = true) : ∀ q ∈ nestF, va_Nw (.fieldLinkNest q.1 q.2.1 q.2.2.1 q.2.2.2.1 q.2.2.2.2.1 q.2.2.2.2.2) s :=
  List.forall_mem_cons.mpr ⟨tN hts 1011 (by decide +kernel) rfl, List.forall_mem_cons.mpr ⟨tN hts 1013 (by decide +kernel) rfl, fun _ h9 => nomatch h9⟩⟩
/-- a static table of three numbers, as the Statement gives it -/
theorem st_tab {args : Array Value} {s : State} {n : String} {g : Nat → Int32} (hl : (Cond.laysStatic "QueryHarbor" n "[I").before args s = true) (hini : (Cond.initialized "QueryHarbor").before args s = true) (harr : (Cond.arrayOf (.static "QueryHarbor" n "[I") .int).before args s = true) (hlen : (Cond.eq (.length (.static "QueryHarbor" n "[I")) (.int 3)).before args s = true) (h0 : (Cond.eq (.elem (.static "QueryHarbor" n "[I") (.int 0)) (.int (g 0))).before args s = true) (h1 : (Cond.eq (.elem (.static "QueryHarbor" n "[I") (.int 1)) (.int (g 1))).before args s = true) (h2 : (Cond.eq (.elem (.static "QueryHarbor" n "[I") (.int 2)) (.int (g 2))).before args s = true) :
    ∃ z : Nat, va_Z "QueryHarbor" n "[I" (.ref z) (fun q => s.heap.size ≤ q) s s.heap ∧ va_T .int z 3 (fun j => .int (g j)) (fun q => s.heap.size ≤ q) s s.heap := by
  have hA : ∀ a : Nat, a < s.heap.size → ¬ (fun q : Nat => s.heap.size ≤ q) a := fun a h => Nat.not_le.mpr h
  obtain ⟨z, hz, hT⟩ := va_Tof (N := 3) (f := fun j => .int (g j)) (by decide) harr (va_eqt hlen) (fun j hj => by
    rcases (show j = 0 ∨ j = 1 ∨ j = 2 by omega) with rfl | rfl | rfl
    · exact va_eqt h0
    · exact va_eqt h1
    · exact va_eqt h2) hA
  exact ⟨z, va_Zref hl hini hz hA, hT⟩
theorem st_PN {args : Array Value} {s : State} (hts : ∀ w ∈ lw_tbl, w.before args s = true) (hgv : (Jvm.Cond.and given_1 narrow_1).before args s = true) : PN (fun q => s.heap.size ≤ q) s := by
  have hs := flat_of_before _ hgv
  obtain ⟨zf, f1, f2⟩ := st_tab (n := "FEES") (g := fee) (tW hts 1012 (by decide +kernel)) (tW hts 1 (by decide +kernel)) (hs _ (by decide +kernel)) (hs _ (by decide +kernel)) (hs _ (by decide +kernel)) (hs _ (by decide +kernel)) (hs _ (by decide +kernel))
  obtain ⟨zg, g1, g2⟩ := st_tab (n := "FREIGHTS") (g := freight) (tW hts 1014 (by decide +kernel)) (tW hts 1 (by decide +kernel)) (hs _ (by decide +kernel)) (hs _ (by decide +kernel)) (hs _ (by decide +kernel)) (hs _ (by decide +kernel)) (hs _ (by decide +kernel))
  exact ⟨st_nest hts, st_nestF hts, zf, zg, f1, f2, g1, g2⟩
theorem st_TX {args : Array Value} {s : State} (hts : ∀ w ∈ lw_tbl, w.before args s = true) (hgv : (Jvm.Cond.and given_1 narrow_1).before args s = true) : TX (fun q => s.heap.size ≤ q) s := by
  have hs := flat_of_before _ hgv
  have hA : ∀ a : Nat, a < s.heap.size → ¬ (fun q : Nat => s.heap.size ≤ q) a := fun a h => Nat.not_le.mpr h
  refine ⟨vx_Zqof (tW hts 525 (by decide +kernel)) (tW hts 12 (by decide +kernel)) (hs _ (by decide +kernel)) hA, vx_Zqof (tW hts 527 (by decide +kernel)) (tW hts 12 (by decide +kernel)) (hs _ (by decide +kernel)) hA, ?_, ?_⟩
  · exact List.forall_mem_cons.mpr ⟨tN hts 500 (by decide +kernel) rfl, List.forall_mem_cons.mpr ⟨tN hts 577 (by decide +kernel) rfl, List.forall_mem_cons.mpr ⟨tN hts 637 (by decide +kernel) rfl, fun _ h9 => nomatch h9⟩⟩⟩
  · exact List.forall_mem_cons.mpr ⟨tN hts 505 (by decide +kernel) rfl, List.forall_mem_cons.mpr ⟨tN hts 501 (by decide +kernel) rfl, List.forall_mem_cons.mpr ⟨tN hts 503 (by decide +kernel) rfl, fun _ h9 => nomatch h9⟩⟩⟩
theorem st_NC {args : Array Value} {s : State} (hgv : (Jvm.Cond.and given_1 narrow_1).before args s = true) : NC s := by
  have hs := flat_of_before _ hgv
  have h12 : va_Nc (exn 1) (exn 2) s := va_Nc.of (hs _ (by decide +kernel))
  have h13 : va_Nc (exn 1) (exn 3) s := va_Nc.of (hs _ (by decide +kernel))
  have h21 : va_Nc (exn 2) (exn 1) s := va_Nc.of (hs _ (by decide +kernel))
  have h23 : va_Nc (exn 2) (exn 3) s := va_Nc.of (hs _ (by decide +kernel))
  have h31 : va_Nc (exn 3) (exn 1) s := va_Nc.of (hs _ (by decide +kernel))
  have h32 : va_Nc (exn 3) (exn 2) s := va_Nc.of (hs _ (by decide +kernel))
  intro a b h1 h2 h3 h4 h5
  rcases (show a = 1 ∨ a = 2 ∨ a = 3 by omega) with rfl | rfl | rfl <;> rcases (show b = 1 ∨ b = 2 ∨ b = 3 by omega) with rfl | rfl | rfl <;> first | exact absurd rfl h5 | assumption
theorem st_arr {args : Array Value} {s : State} {ty : FieldType} (h : (Cond.arrayClass ty).before args s = true) : ∃ cA, ArrOfT s cA ty ∧ s.vm.findClass ("[" ++ ty.toString) = some cA := by
  obtain ⟨cA, kA, comp, h1, h2, h3⟩ := Cond.arrayClass_spec h
  exact ⟨cA, fun n z => ⟨fun k h => (by cases h), kA, h2, comp, h3⟩, h1⟩
theorem st_arrq {args : Array Value} {s : State} {C : String} (h : (Cond.arrayOver (.object C)).before args s = true) : ∃ cA, ArrOfT s cA (.object C) ∧ va_RA s cA (.object C) := by
  obtain ⟨comp, cA, kA, h1, -, h2, h3, h4⟩ := Cond.arrayOver_spec h
  exact ⟨cA, fun n z => ⟨fun k h => (by cases h), kA, h2, comp, h3⟩, kA, comp, h2, h3, h1, h4⟩
set_option maxHeartbeats 4000000 in
set_option maxRecDepth 100000 in
theorem st_K {args : Array Value} {s : State} (hts : ∀ w ∈ lw_tbl, w.before args s = true) : ∃ (D : va_G) (t : Nat → ClassId), va_K D vwCl [(t 0, .int), (t 1, .boolean), (t 2, .object RX6), (t 3, .object RX5), (t 4, .long)] s := by
  have htb : ∀ w ∈ BIG, w.before args s = true := fun w hw => hts w (List.mem_filter.mp hw).1
  obtain ⟨c0, i0, hKn0⟩ := u_known (C := RX0) (T := TX0) (N := 13) (n := 13) htb in_X0 (htb _ (big_at 303 (by decide +kernel) (by decide +kernel)))
  obtain ⟨c1, i1, hKn1⟩ := u_known (C := RX1) (T := TX1) (N := 11) (n := 11) htb in_X1 (htb _ (big_at 370 (by decide +kernel) (by decide +kernel)))
  obtain ⟨c2, i2, hKn2⟩ := u_known (C := RX2) (T := TX2) (N := 10) (n := 10) htb in_X2 (htb _ (big_at 410 (by decide +kernel) (by decide +kernel)))
  obtain ⟨c3, i3, hKn3⟩ := u_known (C := RX3) (T := TX3) (N := 5) (n := 5) htb in_X3 (htb _ (big_at 47 (by decide +kernel) (by decide +kernel)))
  obtain ⟨c4, i4, hKn4⟩ := u_known (C := RX4) (T := TX4) (N := 15) (n := 15) htb in_X4 (htb _ (big_at 225 (by decide +kernel) (by decide +kernel)))
  obtain ⟨c5, i5, hKn5⟩ := u_known (C := RX5) (T := TX5) (N := 11) (n := 11) htb in_X5 (htb _ (big_at 54 (by decide +kernel) (by decide +kernel)))
  obtain ⟨c6, i6, hKn6⟩ := u_known (C := RX6) (T := TX6) (N := 3) (n := 3) htb in_X6 (htb _ (big_at 60 (by decide +kernel) (by decide +kernel)))
  obtain ⟨c7, i7, hKn7⟩ := u_known (C := RX7) (T := TX7) (N := 7) (n := 7) htb in_X7 (htb _ (big_at 187 (by decide +kernel) (by decide +kernel)))
  obtain ⟨c8, i8, hKn8⟩ := u_known (C := RX8) (T := TX8) (N := 10) (n := 10) htb in_X8 (htb _ (big_at 139 (by decide +kernel) (by decide +kernel)))
  obtain ⟨c9, i9, hKn9⟩ := u_known (C := RX9) (T := TX9) (N := 2) (n := 2) htb in_X9 (htb _ (big_at 29 (by decide +kernel) (by decide +kernel)))
  obtain ⟨c10, i10, hKn10⟩ := u_known (C := RX10) (T := TX10) (N := 9) (n := 9) htb in_X10 (htb _ (big_at 21 (by decide +kernel) (by decide +kernel)))
  obtain ⟨t0, a0, b0⟩ := st_arr (htb _ bo_int)
  obtain ⟨t1, a1, b1⟩ := st_arr (htb _ bo_bool)
  obtain ⟨t2, a2, b2⟩ := st_arrq (C := RX6) (tW hts 193 (by decide +kernel))
  obtain ⟨t3, a3, b3⟩ := st_arrq (C := RX5) (tW hts 53 (by decide +kernel))
  obtain ⟨t4, a4, b4⟩ := st_arr (htb _ bo_long)
  refine ⟨(fun k => if k = 0 then c0 else if k = 1 then c1 else if k = 2 then c2 else if k = 3 then c3 else if k = 4 then c4 else if k = 5 then c5 else if k = 6 then c6 else if k = 7 then c7 else if k = 8 then c8 else if k = 9 then c9 else c10, fun k => if k = 0 then i0 else if k = 1 then i1 else if k = 2 then i2 else if k = 3 then i3 else if k = 4 then i4 else if k = 5 then i5 else if k = 6 then i6 else if k = 7 then i7 else if k = 8 then i8 else if k = 9 then i9 else i10), fun k => if k = 0 then t0 else if k = 1 then t1 else if k = 2 then t2 else if k = 3 then t3 else t4, ?_, ?_⟩
  · intro k q hq
    match k, hq with
    | 0, hq => cases hq; exact hKn0
    | 1, hq => cases hq; exact hKn1
    | 2, hq => cases hq; exact hKn2
    | 3, hq => cases hq; exact hKn3
    | 4, hq => cases hq; exact hKn4
    | 5, hq => cases hq; exact hKn5
    | 6, hq => cases hq; exact hKn6
    | 7, hq => cases hq; exact hKn7
    | 8, hq => cases hq; exact hKn8
    | 9, hq => cases hq; exact hKn9
    | 10, hq => cases hq; exact hKn10
    | k + 11, hq => simp [vwCl] at hq
  · intro k q hq
    match k, hq with
    | 0, hq => cases hq; exact ⟨a0, b0⟩
    | 1, hq => cases hq; exact ⟨a1, b1⟩
    | 2, hq => cases hq; exact ⟨a2, b2⟩
    | 3, hq => cases hq; exact ⟨a3, b3⟩
    | 4, hq => cases hq; exact ⟨a4, b4⟩
    | k + 5, hq => simp at hq
theorem vw10 : ∀ j, j < 9 → defaultValue (tyX10 j) = vp_V [.null, .null, .null, .null, .null, .null, .null, .null, .null] j := fun j hj => by
  rcases (show j = 0 ∨ j = 1 ∨ j = 2 ∨ j = 3 ∨ j = 4 ∨ j = 5 ∨ j = 6 ∨ j = 7 ∨ j = 8 by omega) with rfl | rfl | rfl | rfl | rfl | rfl | rfl | rfl | rfl <;> rfl
set_option maxHeartbeats 4000000 in
set_option maxRecDepth 100000 in
theorem wX10_x {D : va_G} {t : Nat → ClassId} {f g : Nat → Nat} {a : Nat} {u : Nat → Nat} : wX10 (D, t, f) a u = wX10 (D, t, g) a u := rfl
set_option maxHeartbeats 4000000 in
set_option maxRecDepth 100000 in
theorem wl_ad {D : va_G} {t : Nat → ClassId} {U : Nat → Nat} : (wX10 (D, t, U) (U 0) U ++ ([(U 142, .inl (t 4, 60, .inr (.inl (fun _ => 0)))), (U 143, .inl (t 0, 6, .inl (fun _ => 0))), (U 144, .inl (t 0, 64, .inl (fun _ => 0))), (U 145, .inl (t 0, 27, .inl (fun _ => 0))), (U 146, .inl (t 0, 43, .inl (fun _ => 0))), (U 147, .inl (t 0, 48, .inl (fun _ => 0))), (U 148, .inl (t 4, 60, .inr (.inl (fun _ => 0)))), (U 149, .inl (t 4, 30, .inr (.inl (fun _ => 0)))), (U 150, .inl (t 0, 3, .inl (fun _ => 0))), (U 151, .inl (t 0, 12, .inl (fun _ => 0))), (U 152, .inl (t 0, 17, .inl (fun _ => 0))), (U 153, .inl (t 0, 14, .inl (fun _ => 0))), (U 154, .inl (t 0, 60, .inl (fun _ => 0))), (U 155, .inl (t 0, 24, .inl (fun _ => 0))), (U 156, .inl (t 0, 1, .inl (fun _ => 0)))] : va_W)).map (fun q => q.1) = (List.range 157).map U := rfl
set_option maxHeartbeats 4000000 in
set_option maxRecDepth 100000 in
/-- what lies there when all is made -/
theorem st_made {D : va_G} {t : Nat → ClassId} {f0 : Nat → Nat} {s : State} {q0 z142 z143 z144 z145 z146 z147 z148 z149 z150 z151 z152 z153 z154 z155 z156 : Nat} {u : Nat → Nat} {H : Heap} {locs : List Loc} (h : HI (D, t, f0) (fun q => s.heap.size ≤ q) s (((((((((((((((([] ++ wX10 (D, t, f0) q0 u) ++ [(z142, .inl (t 4, 60, .inr (.inl (fun _ => 0))))]) ++ [(z143, .inl (t 0, 6, .inl (fun _ => 0)))]) ++ [(z144, .inl (t 0, 64, .inl (fun _ => 0)))]) ++ [(z145, .inl (t 0, 27, .inl (fun _ => 0)))]) ++ [(z146, .inl (t 0, 43, .inl (fun _ => 0)))]) ++ [(z147, .inl (t 0, 48, .inl (fun _ => 0)))]) ++ [(z148, .inl (t 4, 60, .inr (.inl (fun _ => 0))))]) ++ [(z149, .inl (t 4, 30, .inr (.inl (fun _ => 0))))]) ++ [(z150, .inl (t 0, 3, .inl (fun _ => 0)))]) ++ [(z151, .inl (t 0, 12, .inl (fun _ => 0)))]) ++ [(z152, .inl (t 0, 17, .inl (fun _ => 0)))]) ++ [(z153, .inl (t 0, 14, .inl (fun _ => 0)))]) ++ [(z154, .inl (t 0, 60, .inl (fun _ => 0)))]) ++ [(z155, .inl (t 0, 24, .inl (fun _ => 0)))]) ++ [(z156, .inl (t 0, 1, .inl (fun _ => 0)))]) H locs) :
    ∃ U : Nat → Nat, (U 0 = q0 ∧ U 142 = z142 ∧ U 143 = z143 ∧ U 144 = z144 ∧ U 145 = z145 ∧ U 146 = z146 ∧ U 147 = z147 ∧ U 148 = z148 ∧ U 149 = z149 ∧ U 150 = z150 ∧ U 151 = z151 ∧ U 152 = z152 ∧ U 153 = z153 ∧ U 154 = z154 ∧ U 155 = z155 ∧ U 156 = z156) ∧ inj (LW []) (D, t, U) ∧ (∀ i, i < 157 → s.heap.size ≤ U i) ∧ va_P D vwCl (wl (LW []) (D, t, U) L0) H ∧ va_S (fun q => s.heap.size ≤ q) s.heap H locs := by
  obtain ⟨hP, hD, hS⟩ := h
  obtain ⟨U, hU⟩ : ∃ U : Nat → Nat, U = fun i => if i = 0 then q0 else if i = 142 then z142 else if i = 143 then z143 else if i = 144 then z144 else if i = 145 then z145 else if i = 146 then z146 else if i = 147 then z147 else if i = 148 then z148 else if i = 149 then z149 else if i = 150 then z150 else if i = 151 then z151 else if i = 152 then z152 else if i = 153 then z153 else if i = 154 then z154 else if i = 155 then z155 else if i = 156 then z156 else u i := ⟨_, rfl⟩
  have hU0 : U 0 = q0 := by rw [hU]; rfl
  have hU142 : U 142 = z142 := by rw [hU]; rfl
  have hU143 : U 143 = z143 := by rw [hU]; rfl
  have hU144 : U 144 = z144 := by rw [hU]; rfl
  have hU145 : U 145 = z145 := by rw [hU]; rfl
  have hU146 : U 146 = z146 := by rw [hU]; rfl
  have hU147 : U 147 = z147 := by rw [hU]; rfl
  have hU148 : U 148 = z148 := by rw [hU]; rfl
  have hU149 : U 149 = z149 := by rw [hU]; rfl
  have hU150 : U 150 = z150 := by rw [hU]; rfl
  have hU151 : U 151 = z151 := by rw [hU]; rfl
  have hU152 : U 152 = z152 := by rw [hU]; rfl
  have hU153 : U 153 = z153 := by rw [hU]; rfl
  have hU154 : U 154 = z154 := by rw [hU]; rfl
  have hU155 : U 155 = z155 := by rw [hU]; rfl
  have hU156 : U 156 = z156 := by rw [hU]; rfl
  have eU : [] ++ wX10 (D, t, f0) q0 u = wX10 (D, t, U) (U 0) U := by
    rw [List.nil_append, wX10_x (g := U), ← hU0]
    exact wX10_cg _ _ (fun i h1 h2 => by rw [hU]; dsimp only; rw [if_neg (by omega), if_neg (by omega), if_neg (by omega), if_neg (by omega), if_neg (by omega), if_neg (by omega), if_neg (by omega), if_neg (by omega), if_neg (by omega), if_neg (by omega), if_neg (by omega), if_neg (by omega), if_neg (by omega), if_neg (by omega), if_neg (by omega), if_neg (by omega)])
  rw [eU] at hP hD
  simp only [List.append_assoc, List.cons_append, List.nil_append] at hP hD
  have eW : ([(z142, .inl (t 4, 60, .inr (.inl (fun _ => 0)))), (z143, .inl (t 0, 6, .inl (fun _ => 0))), (z144, .inl (t 0, 64, .inl (fun _ => 0))), (z145, .inl (t 0, 27, .inl (fun _ => 0))), (z146, .inl (t 0, 43, .inl (fun _ => 0))), (z147, .inl (t 0, 48, .inl (fun _ => 0))), (z148, .inl (t 4, 60, .inr (.inl (fun _ => 0)))), (z149, .inl (t 4, 30, .inr (.inl (fun _ => 0)))), (z150, .inl (t 0, 3, .inl (fun _ => 0))), (z151, .inl (t 0, 12, .inl (fun _ => 0))), (z152, .inl (t 0, 17, .inl (fun _ => 0))), (z153, .inl (t 0, 14, .inl (fun _ => 0))), (z154, .inl (t 0, 60, .inl (fun _ => 0))), (z155, .inl (t 0, 24, .inl (fun _ => 0))), (z156, .inl (t 0, 1, .inl (fun _ => 0)))] : va_W) = [(U 142, .inl (t 4, 60, .inr (.inl (fun _ => 0)))), (U 143, .inl (t 0, 6, .inl (fun _ => 0))), (U 144, .inl (t 0, 64, .inl (fun _ => 0))), (U 145, .inl (t 0, 27, .inl (fun _ => 0))), (U 146, .inl (t 0, 43, .inl (fun _ => 0))), (U 147, .inl (t 0, 48, .inl (fun _ => 0))), (U 148, .inl (t 4, 60, .inr (.inl (fun _ => 0)))), (U 149, .inl (t 4, 30, .inr (.inl (fun _ => 0)))), (U 150, .inl (t 0, 3, .inl (fun _ => 0))), (U 151, .inl (t 0, 12, .inl (fun _ => 0))), (U 152, .inl (t 0, 17, .inl (fun _ => 0))), (U 153, .inl (t 0, 14, .inl (fun _ => 0))), (U 154, .inl (t 0, 60, .inl (fun _ => 0))), (U 155, .inl (t 0, 24, .inl (fun _ => 0))), (U 156, .inl (t 0, 1, .inl (fun _ => 0)))] := by rw [hU142, hU143, hU144, hU145, hU146, hU147, hU148, hU149, hU150, hU151, hU152, hU153, hU154, hU155, hU156]
  rw [eW] at hP hD
  have aU := wl_ad (D := D) (t := t) (U := U)
  have hB := vP_r hP
  have hC := wX10_wl (vP_l hP)
  refine ⟨U, ⟨hU0, hU142, hU143, hU144, hU145, hU146, hU147, hU148, hU149, hU150, hU151, hU152, hU153, hU154, hU155, hU156⟩, ad_inj aU hD, ad_A aU hD, ?_, hS⟩
  have h142 : va_at D vwCl (U 142, cW [] (D, t, U) 142 (L0 142)) H := by
    rw [L0z (by omega), cW_24 (kw142 _), lg_0]
    exact hB 0 _ rfl
  have h143 : va_at D vwCl (U 143, cW [] (D, t, U) 143 (L0 143)) H := by
    rw [L0z (by omega), cW_20 (kw143 _)]
    exact hB 1 _ rfl
  have h144 : va_at D vwCl (U 144, cW [] (D, t, U) 144 (L0 144)) H := by
    rw [L0z (by omega), cW_20 (kw144 _)]
    exact hB 2 _ rfl
  have h145 : va_at D vwCl (U 145, cW [] (D, t, U) 145 (L0 145)) H := by
    rw [L0z (by omega), cW_20 (kw145 _)]
    exact hB 3 _ rfl
  have h146 : va_at D vwCl (U 146, cW [] (D, t, U) 146 (L0 146)) H := by
    rw [L0z (by omega), cW_20 (kw146 _)]
    exact hB 4 _ rfl
  have h147 : va_at D vwCl (U 147, cW [] (D, t, U) 147 (L0 147)) H := by
    rw [L0z (by omega), cW_20 (kw147 _)]
    exact hB 5 _ rfl
  have h148 : va_at D vwCl (U 148, cW [] (D, t, U) 148 (L0 148)) H := by
    rw [L0z (by omega), cW_24 (kw148 _), lg_0]
    exact hB 6 _ rfl
  have h149 : va_at D vwCl (U 149, cW [] (D, t, U) 149 (L0 149)) H := by
    rw [L0z (by omega), cW_24 (kw149 _), lg_0]
    exact hB 7 _ rfl
  have h150 : va_at D vwCl (U 150, cW [] (D, t, U) 150 (L0 150)) H := by
    rw [L0z (by omega), cW_20 (kw150 _)]
    exact hB 8 _ rfl
  have h151 : va_at D vwCl (U 151, cW [] (D, t, U) 151 (L0 151)) H := by
    rw [L0z (by omega), cW_20 (kw151 _)]
    exact hB 9 _ rfl
  have h152 : va_at D vwCl (U 152, cW [] (D, t, U) 152 (L0 152)) H := by
    rw [L0z (by omega), cW_20 (kw152 _)]
    exact hB 10 _ rfl
  have h153 : va_at D vwCl (U 153, cW [] (D, t, U) 153 (L0 153)) H := by
    rw [L0z (by omega), cW_20 (kw153 _)]
    exact hB 11 _ rfl
  have h154 : va_at D vwCl (U 154, cW [] (D, t, U) 154 (L0 154)) H := by
    rw [L0z (by omega), cW_20 (kw154 _)]
    exact hB 12 _ rfl
  have h155 : va_at D vwCl (U 155, cW [] (D, t, U) 155 (L0 155)) H := by
    rw [L0z (by omega), cW_20 (kw155 _)]
    exact hB 13 _ rfl
  have h156 : va_at D vwCl (U 156, cW [] (D, t, U) 156 (L0 156)) H := by
    rw [L0z (by omega), cW_20 (kw156 _)]
    exact hB 14 _ rfl
  intro k q hq
  obtain ⟨hk, rfl⟩ := wl_no hq
  have hk' : k < 157 := hk
  show va_at D vwCl (U k, cW [] (D, t, U) k (L0 k)) H
  by_cases z : k < 142
  · rw [cW_C z, L0c z]
    exact hC k (U k, cC (D, t, U) k (C0 k)) (wl_at (L := LC) (X := (D, t, U)) (M := C0) z)
  · rcases (show k = 142 ∨ k = 143 ∨ k = 144 ∨ k = 145 ∨ k = 146 ∨ k = 147 ∨ k = 148 ∨ k = 149 ∨ k = 150 ∨ k = 151 ∨ k = 152 ∨ k = 153 ∨ k = 154 ∨ k = 155 ∨ k = 156 by omega) with rfl | rfl | rfl | rfl | rfl | rfl | rfl | rfl | rfl | rfl | rfl | rfl | rfl | rfl | rfl
    · exact h142
    · exact h143
    · exact h144
    · exact h145
    · exact h146
    · exact h147
    · exact h148
    · exact h149
    · exact h150
    · exact h151
    · exact h152
    · exact h153
    · exact h154
    · exact h155
    · exact h156
theorem w_ias {p : Program} {l : Launch} {e : Env} {R : Room} {s : State} {m : MethodId} {args : Array Value} {below : List Frame} {meth : Method} {c : Code} {H : Heap} {locs : List Loc} {cells slots : Nat} {Q : State → Prop} {cc : ByteArray} {own : String} {nl : Nat} {X : XT} {M : Mem} {pc : Nat} {ls : Array Slot} {rest : List Value} {ex : List (Nat × Nat)} (B : Cx (LW ex) X p s m args c cc own nl) (hw : HW (LW ex) X M s H locs) {i n : Nat} {x v : Int32} (hi : kW ex i = (20, n)) (hin : inb x n = true) (hdg : decode cc pc = .ok (.iastore, 1)) (kk : ∀ H locs, HW (LW ex) X (up M i x.toNatClampNeg v) s H locs → W p l e R s m args below meth c H locs cells slots Q (F0 m (pc + 1) ls rest)) : W p l e R s m args below meth c H locs cells slots Q (F0 m pc ls (.int v :: .int x :: .ref (X.2.2 i) :: rest)) :=
  w_iast B hw hi hin hdg (k := some) (rs := up M i x.toNatClampNeg v) rfl (fun M' H locs hw h => by cases h; exact kk H locs hw)
set_option maxHeartbeats 4000000 in
set_option maxRecDepth 100000 in
theorem lm_start (l : Launch) (hfl : l.stackTraces = false) {p : Program} {e : Env} {s : State} {m : MethodId} {b : Nat} {below : List Frame} {meth : Method} {c : Code} {X : XT} (B : Cx (LW []) X p s m #[Value.ref b] c cL_law RL 22) (T : TX (AX (LW []) X s.heap.size) s) (N9 : NC s) (hr : meth.sig.returnType = ret) (hlk : meth.locks = false) (hz : ∀ q, AX (LW []) X s.heap.size q → s.heap.size ≤ q) {L : Nat} {xs : Nat → Int32} (hX : va_X b L xs s s.heap) (hbl : b < s.heap.size) (hbA : ¬ AX (LW []) X s.heap.size b) (hL : L ≤ 260) {cells slots : Nat} {H : Heap} {locs : List Loc} {ls : Array Slot} (hw : HW (LW []) X L0 s H locs) (hl : lv_has ls 22 [(16, .ref (X.2.2 156)), (15, .ref (X.2.2 155)), (14, .ref (X.2.2 154)), (13, .ref (X.2.2 153)), (12, .ref (X.2.2 152)), (11, .ref (X.2.2 151)), (10, .ref (X.2.2 150)), (9, .ref (X.2.2 149)), (8, .ref (X.2.2 148)), (7, .ref (X.2.2 147)), (6, .ref (X.2.2 146)), (5, .ref (X.2.2 145)), (4, .ref (X.2.2 144)), (3, .ref (X.2.2 143)), (2, .ref (X.2.2 142)), (1, .ref (X.2.2 0)), (0, .ref b)]) (hc : cells + 1 ≤ 200) (hs : slots + 6 ≤ 4000) : W p l e room_1 s m #[Value.ref b] below meth c H locs cells slots (lw_Z below #[Value.ref b] s) (F0 m 94 ls []) := by
  refine lv_iconst (v := 0) B.hx B.hb dL_law_94 (by decide) ?_
  refine lv_istore (lv' := [(17, .int 0), (16, .ref (X.2.2 156)), (15, .ref (X.2.2 155)), (14, .ref (X.2.2 154)), (13, .ref (X.2.2 153)), (12, .ref (X.2.2 152)), (11, .ref (X.2.2 151)), (10, .ref (X.2.2 150)), (9, .ref (X.2.2 149)), (8, .ref (X.2.2 148)), (7, .ref (X.2.2 147)), (6, .ref (X.2.2 146)), (5, .ref (X.2.2 145)), (4, .ref (X.2.2 144)), (3, .ref (X.2.2 143)), (2, .ref (X.2.2 142)), (1, .ref (X.2.2 0)), (0, .ref b)]) B.hx B.hb dL_law_95 hl (by decide) rfl (fun ls hl => ?_)
  refine lv_iload B.hx B.hb dL_law_97 (lv_at hl 0 rfl) ?_
  refine lv_iconst (v := 3) B.hx B.hb dL_law_99 (by decide) ?_
  refine lv_icmp_ge (tgt := 145) B.hx B.hb dL_law_100 (by decide) (fun c9 => absurd c9 (by decide)) (fun _ => ?_)
  refine lv_aload B.hx B.hb dL_law_103 (lv_at hl 12 rfl) ?_
  refine lv_iload B.hx B.hb dL_law_105 (lv_at hl 0 rfl) ?_
  refine lv_iconst (v := 1) B.hx B.hb dL_law_107 (by decide) ?_
  refine w_ias B hw (i := 145) (kw145 _) (by decide) dL_law_108 (fun H locs hw => ?_)
  refine lv_aload B.hx B.hb dL_law_109 (lv_at hl 12 rfl) ?_
  refine lv_bipush (v := 6) B.hx B.hb dL_law_111 (by decide) ?_
  refine lv_iload B.hx B.hb dL_law_113 (lv_at hl 0 rfl) ?_
  refine lv_iadd B.hx B.hb dL_law_115 ?_
  refine lv_bipush (v := 20) B.hx B.hb dL_law_116 (by decide) ?_
  refine w_ias B hw (i := 145) (kw145 _) (by decide) dL_law_118 (fun H locs hw => ?_)
  refine lv_aload B.hx B.hb dL_law_119 (lv_at hl 12 rfl) ?_
  refine lv_bipush (v := 9) B.hx B.hb dL_law_121 (by decide) ?_
  refine lv_iload B.hx B.hb dL_law_123 (lv_at hl 0 rfl) ?_
  refine lv_iadd B.hx B.hb dL_law_125 ?_
  refine lv_bipush (v := 12) B.hx B.hb dL_law_126 (by decide) ?_
  refine w_ias B hw (i := 145) (kw145 _) (by decide) dL_law_128 (fun H locs hw => ?_)
  refine lv_aload B.hx B.hb dL_law_129 (lv_at hl 12 rfl) ?_
  refine lv_bipush (v := 12) B.hx B.hb dL_law_131 (by decide) ?_
  refine lv_iload B.hx B.hb dL_law_133 (lv_at hl 0 rfl) ?_
  refine lv_iadd B.hx B.hb dL_law_135 ?_
  refine lv_bipush (v := 60) B.hx B.hb dL_law_136 (by decide) ?_
  refine w_ias B hw (i := 145) (kw145 _) (by decide) dL_law_138 (fun H locs hw => ?_)
  refine lv_iinc (v := 1) (lv' := [(17, .int 1), (16, .ref (X.2.2 156)), (15, .ref (X.2.2 155)), (14, .ref (X.2.2 154)), (13, .ref (X.2.2 153)), (12, .ref (X.2.2 152)), (11, .ref (X.2.2 151)), (10, .ref (X.2.2 150)), (9, .ref (X.2.2 149)), (8, .ref (X.2.2 148)), (7, .ref (X.2.2 147)), (6, .ref (X.2.2 146)), (5, .ref (X.2.2 145)), (4, .ref (X.2.2 144)), (3, .ref (X.2.2 143)), (2, .ref (X.2.2 142)), (1, .ref (X.2.2 0)), (0, .ref b)]) B.hx B.hb dL_law_139 hl (k := 0) rfl (by decide) (by decide) rfl (fun ls hl => ?_)
  refine lv_goto (tgt := 97) B.hx B.hb dL_law_142 (by decide) ?_
  refine lv_iload B.hx B.hb dL_law_97 (lv_at hl 0 rfl) ?_
  refine lv_iconst (v := 3) B.hx B.hb dL_law_99 (by decide) ?_
  refine lv_icmp_ge (tgt := 145) B.hx B.hb dL_law_100 (by decide) (fun c9 => absurd c9 (by decide)) (fun _ => ?_)
  refine lv_aload B.hx B.hb dL_law_103 (lv_at hl 12 rfl) ?_
  refine lv_iload B.hx B.hb dL_law_105 (lv_at hl 0 rfl) ?_
  refine lv_iconst (v := 1) B.hx B.hb dL_law_107 (by decide) ?_
  refine w_ias B hw (i := 145) (kw145 _) (by decide) dL_law_108 (fun H locs hw => ?_)
  refine lv_aload B.hx B.hb dL_law_109 (lv_at hl 12 rfl) ?_
  refine lv_bipush (v := 6) B.hx B.hb dL_law_111 (by decide) ?_
  refine lv_iload B.hx B.hb dL_law_113 (lv_at hl 0 rfl) ?_
  refine lv_iadd B.hx B.hb dL_law_115 ?_
  refine lv_bipush (v := 20) B.hx B.hb dL_law_116 (by decide) ?_
  refine w_ias B hw (i := 145) (kw145 _) (by decide) dL_law_118 (fun H locs hw => ?_)
  refine lv_aload B.hx B.hb dL_law_119 (lv_at hl 12 rfl) ?_
  refine lv_bipush (v := 9) B.hx B.hb dL_law_121 (by decide) ?_
  refine lv_iload B.hx B.hb dL_law_123 (lv_at hl 0 rfl) ?_
  refine lv_iadd B.hx B.hb dL_law_125 ?_
  refine lv_bipush (v := 12) B.hx B.hb dL_law_126 (by decide) ?_
  refine w_ias B hw (i := 145) (kw145 _) (by decide) dL_law_128 (fun H locs hw => ?_)
  refine lv_aload B.hx B.hb dL_law_129 (lv_at hl 12 rfl) ?_
  refine lv_bipush (v := 12) B.hx B.hb dL_law_131 (by decide) ?_
  refine lv_iload B.hx B.hb dL_law_133 (lv_at hl 0 rfl) ?_
  refine lv_iadd B.hx B.hb dL_law_135 ?_
  refine lv_bipush (v := 60) B.hx B.hb dL_law_136 (by decide) ?_
  refine w_ias B hw (i := 145) (kw145 _) (by decide) dL_law_138 (fun H locs hw => ?_)
  refine lv_iinc (v := 2) (lv' := [(17, .int 2), (16, .ref (X.2.2 156)), (15, .ref (X.2.2 155)), (14, .ref (X.2.2 154)), (13, .ref (X.2.2 153)), (12, .ref (X.2.2 152)), (11, .ref (X.2.2 151)), (10, .ref (X.2.2 150)), (9, .ref (X.2.2 149)), (8, .ref (X.2.2 148)), (7, .ref (X.2.2 147)), (6, .ref (X.2.2 146)), (5, .ref (X.2.2 145)), (4, .ref (X.2.2 144)), (3, .ref (X.2.2 143)), (2, .ref (X.2.2 142)), (1, .ref (X.2.2 0)), (0, .ref b)]) B.hx B.hb dL_law_139 hl (k := 0) rfl (by decide) (by decide) rfl (fun ls hl => ?_)
  refine lv_goto (tgt := 97) B.hx B.hb dL_law_142 (by decide) ?_
  refine lv_iload B.hx B.hb dL_law_97 (lv_at hl 0 rfl) ?_
  refine lv_iconst (v := 3) B.hx B.hb dL_law_99 (by decide) ?_
  refine lv_icmp_ge (tgt := 145) B.hx B.hb dL_law_100 (by decide) (fun c9 => absurd c9 (by decide)) (fun _ => ?_)
  refine lv_aload B.hx B.hb dL_law_103 (lv_at hl 12 rfl) ?_
  refine lv_iload B.hx B.hb dL_law_105 (lv_at hl 0 rfl) ?_
  refine lv_iconst (v := 1) B.hx B.hb dL_law_107 (by decide) ?_
  refine w_ias B hw (i := 145) (kw145 _) (by decide) dL_law_108 (fun H locs hw => ?_)
  refine lv_aload B.hx B.hb dL_law_109 (lv_at hl 12 rfl) ?_
  refine lv_bipush (v := 6) B.hx B.hb dL_law_111 (by decide) ?_
  refine lv_iload B.hx B.hb dL_law_113 (lv_at hl 0 rfl) ?_
  refine lv_iadd B.hx B.hb dL_law_115 ?_
  refine lv_bipush (v := 20) B.hx B.hb dL_law_116 (by decide) ?_
  refine w_ias B hw (i := 145) (kw145 _) (by decide) dL_law_118 (fun H locs hw => ?_)
  refine lv_aload B.hx B.hb dL_law_119 (lv_at hl 12 rfl) ?_
  refine lv_bipush (v := 9) B.hx B.hb dL_law_121 (by decide) ?_
  refine lv_iload B.hx B.hb dL_law_123 (lv_at hl 0 rfl) ?_
  refine lv_iadd B.hx B.hb dL_law_125 ?_
  refine lv_bipush (v := 12) B.hx B.hb dL_law_126 (by decide) ?_
  refine w_ias B hw (i := 145) (kw145 _) (by decide) dL_law_128 (fun H locs hw => ?_)
  refine lv_aload B.hx B.hb dL_law_129 (lv_at hl 12 rfl) ?_
  refine lv_bipush (v := 12) B.hx B.hb dL_law_131 (by decide) ?_
  refine lv_iload B.hx B.hb dL_law_133 (lv_at hl 0 rfl) ?_
  refine lv_iadd B.hx B.hb dL_law_135 ?_
  refine lv_bipush (v := 60) B.hx B.hb dL_law_136 (by decide) ?_
  refine w_ias B hw (i := 145) (kw145 _) (by decide) dL_law_138 (fun H locs hw => ?_)
  refine lv_iinc (v := 3) (lv' := [(17, .int 3), (16, .ref (X.2.2 156)), (15, .ref (X.2.2 155)), (14, .ref (X.2.2 154)), (13, .ref (X.2.2 153)), (12, .ref (X.2.2 152)), (11, .ref (X.2.2 151)), (10, .ref (X.2.2 150)), (9, .ref (X.2.2 149)), (8, .ref (X.2.2 148)), (7, .ref (X.2.2 147)), (6, .ref (X.2.2 146)), (5, .ref (X.2.2 145)), (4, .ref (X.2.2 144)), (3, .ref (X.2.2 143)), (2, .ref (X.2.2 142)), (1, .ref (X.2.2 0)), (0, .ref b)]) B.hx B.hb dL_law_139 hl (k := 0) rfl (by decide) (by decide) rfl (fun ls hl => ?_)
  refine lv_goto (tgt := 97) B.hx B.hb dL_law_142 (by decide) ?_
  refine lv_iload B.hx B.hb dL_law_97 (lv_at hl 0 rfl) ?_
  refine lv_iconst (v := 3) B.hx B.hb dL_law_99 (by decide) ?_
  refine lv_icmp_ge (tgt := 145) B.hx B.hb dL_law_100 (by decide) (fun _ => ?_) (fun c9 => absurd (by decide) c9)
  refine lv_iconst (v := 0) B.hx B.hb dL_law_145 (by decide) ?_
  refine lv_istore (lv' := [(17, .int 0), (16, .ref (X.2.2 156)), (15, .ref (X.2.2 155)), (14, .ref (X.2.2 154)), (13, .ref (X.2.2 153)), (12, .ref (X.2.2 152)), (11, .ref (X.2.2 151)), (10, .ref (X.2.2 150)), (9, .ref (X.2.2 149)), (8, .ref (X.2.2 148)), (7, .ref (X.2.2 147)), (6, .ref (X.2.2 146)), (5, .ref (X.2.2 145)), (4, .ref (X.2.2 144)), (3, .ref (X.2.2 143)), (2, .ref (X.2.2 142)), (1, .ref (X.2.2 0)), (0, .ref b)]) B.hx B.hb dL_law_146 hl (by decide) rfl (fun ls hl => ?_)
  refine lv_iload B.hx B.hb dL_law_148 (lv_at hl 0 rfl) ?_
  refine lv_bipush (v := 6) B.hx B.hb dL_law_150 (by decide) ?_
  refine lv_icmp_ge (tgt := 168) B.hx B.hb dL_law_152 (by decide) (fun c9 => absurd c9 (by decide)) (fun _ => ?_)
  refine lv_aload B.hx B.hb dL_law_155 (lv_at hl 4 rfl) ?_
  refine lv_iload B.hx B.hb dL_law_157 (lv_at hl 0 rfl) ?_
  refine lv_bipush (v := 10) B.hx B.hb dL_law_159 (by decide) ?_
  refine w_ias B hw (i := 153) (kw153 _) (by decide) dL_law_161 (fun H locs hw => ?_)
  refine lv_iinc (v := 1) (lv' := [(17, .int 1), (16, .ref (X.2.2 156)), (15, .ref (X.2.2 155)), (14, .ref (X.2.2 154)), (13, .ref (X.2.2 153)), (12, .ref (X.2.2 152)), (11, .ref (X.2.2 151)), (10, .ref (X.2.2 150)), (9, .ref (X.2.2 149)), (8, .ref (X.2.2 148)), (7, .ref (X.2.2 147)), (6, .ref (X.2.2 146)), (5, .ref (X.2.2 145)), (4, .ref (X.2.2 144)), (3, .ref (X.2.2 143)), (2, .ref (X.2.2 142)), (1, .ref (X.2.2 0)), (0, .ref b)]) B.hx B.hb dL_law_162 hl (k := 0) rfl (by decide) (by decide) rfl (fun ls hl => ?_)
  refine lv_goto (tgt := 148) B.hx B.hb dL_law_165 (by decide) ?_
  refine lv_iload B.hx B.hb dL_law_148 (lv_at hl 0 rfl) ?_
  refine lv_bipush (v := 6) B.hx B.hb dL_law_150 (by decide) ?_
  refine lv_icmp_ge (tgt := 168) B.hx B.hb dL_law_152 (by decide) (fun c9 => absurd c9 (by decide)) (fun _ => ?_)
  refine lv_aload B.hx B.hb dL_law_155 (lv_at hl 4 rfl) ?_
  refine lv_iload B.hx B.hb dL_law_157 (lv_at hl 0 rfl) ?_
  refine lv_bipush (v := 10) B.hx B.hb dL_law_159 (by decide) ?_
  refine w_ias B hw (i := 153) (kw153 _) (by decide) dL_law_161 (fun H locs hw => ?_)
  refine lv_iinc (v := 2) (lv' := [(17, .int 2), (16, .ref (X.2.2 156)), (15, .ref (X.2.2 155)), (14, .ref (X.2.2 154)), (13, .ref (X.2.2 153)), (12, .ref (X.2.2 152)), (11, .ref (X.2.2 151)), (10, .ref (X.2.2 150)), (9, .ref (X.2.2 149)), (8, .ref (X.2.2 148)), (7, .ref (X.2.2 147)), (6, .ref (X.2.2 146)), (5, .ref (X.2.2 145)), (4, .ref (X.2.2 144)), (3, .ref (X.2.2 143)), (2, .ref (X.2.2 142)), (1, .ref (X.2.2 0)), (0, .ref b)]) B.hx B.hb dL_law_162 hl (k := 0) rfl (by decide) (by decide) rfl (fun ls hl => ?_)
  refine lv_goto (tgt := 148) B.hx B.hb dL_law_165 (by decide) ?_
  refine lv_iload B.hx B.hb dL_law_148 (lv_at hl 0 rfl) ?_
  refine lv_bipush (v := 6) B.hx B.hb dL_law_150 (by decide) ?_
  refine lv_icmp_ge (tgt := 168) B.hx B.hb dL_law_152 (by decide) (fun c9 => absurd c9 (by decide)) (fun _ => ?_)
  refine lv_aload B.hx B.hb dL_law_155 (lv_at hl 4 rfl) ?_
  refine lv_iload B.hx B.hb dL_law_157 (lv_at hl 0 rfl) ?_
  refine lv_bipush (v := 10) B.hx B.hb dL_law_159 (by decide) ?_
  refine w_ias B hw (i := 153) (kw153 _) (by decide) dL_law_161 (fun H locs hw => ?_)
  refine lv_iinc (v := 3) (lv' := [(17, .int 3), (16, .ref (X.2.2 156)), (15, .ref (X.2.2 155)), (14, .ref (X.2.2 154)), (13, .ref (X.2.2 153)), (12, .ref (X.2.2 152)), (11, .ref (X.2.2 151)), (10, .ref (X.2.2 150)), (9, .ref (X.2.2 149)), (8, .ref (X.2.2 148)), (7, .ref (X.2.2 147)), (6, .ref (X.2.2 146)), (5, .ref (X.2.2 145)), (4, .ref (X.2.2 144)), (3, .ref (X.2.2 143)), (2, .ref (X.2.2 142)), (1, .ref (X.2.2 0)), (0, .ref b)]) B.hx B.hb dL_law_162 hl (k := 0) rfl (by decide) (by decide) rfl (fun ls hl => ?_)
  refine lv_goto (tgt := 148) B.hx B.hb dL_law_165 (by decide) ?_
  refine lv_iload B.hx B.hb dL_law_148 (lv_at hl 0 rfl) ?_
  refine lv_bipush (v := 6) B.hx B.hb dL_law_150 (by decide) ?_
  refine lv_icmp_ge (tgt := 168) B.hx B.hb dL_law_152 (by decide) (fun c9 => absurd c9 (by decide)) (fun _ => ?_)
  refine lv_aload B.hx B.hb dL_law_155 (lv_at hl 4 rfl) ?_
  refine lv_iload B.hx B.hb dL_law_157 (lv_at hl 0 rfl) ?_
  refine lv_bipush (v := 10) B.hx B.hb dL_law_159 (by decide) ?_
  refine w_ias B hw (i := 153) (kw153 _) (by decide) dL_law_161 (fun H locs hw => ?_)
  refine lv_iinc (v := 4) (lv' := [(17, .int 4), (16, .ref (X.2.2 156)), (15, .ref (X.2.2 155)), (14, .ref (X.2.2 154)), (13, .ref (X.2.2 153)), (12, .ref (X.2.2 152)), (11, .ref (X.2.2 151)), (10, .ref (X.2.2 150)), (9, .ref (X.2.2 149)), (8, .ref (X.2.2 148)), (7, .ref (X.2.2 147)), (6, .ref (X.2.2 146)), (5, .ref (X.2.2 145)), (4, .ref (X.2.2 144)), (3, .ref (X.2.2 143)), (2, .ref (X.2.2 142)), (1, .ref (X.2.2 0)), (0, .ref b)]) B.hx B.hb dL_law_162 hl (k := 0) rfl (by decide) (by decide) rfl (fun ls hl => ?_)
  refine lv_goto (tgt := 148) B.hx B.hb dL_law_165 (by decide) ?_
  refine lv_iload B.hx B.hb dL_law_148 (lv_at hl 0 rfl) ?_
  refine lv_bipush (v := 6) B.hx B.hb dL_law_150 (by decide) ?_
  refine lv_icmp_ge (tgt := 168) B.hx B.hb dL_law_152 (by decide) (fun c9 => absurd c9 (by decide)) (fun _ => ?_)
  refine lv_aload B.hx B.hb dL_law_155 (lv_at hl 4 rfl) ?_
  refine lv_iload B.hx B.hb dL_law_157 (lv_at hl 0 rfl) ?_
  refine lv_bipush (v := 10) B.hx B.hb dL_law_159 (by decide) ?_
  refine w_ias B hw (i := 153) (kw153 _) (by decide) dL_law_161 (fun H locs hw => ?_)
  refine lv_iinc (v := 5) (lv' := [(17, .int 5), (16, .ref (X.2.2 156)), (15, .ref (X.2.2 155)), (14, .ref (X.2.2 154)), (13, .ref (X.2.2 153)), (12, .ref (X.2.2 152)), (11, .ref (X.2.2 151)), (10, .ref (X.2.2 150)), (9, .ref (X.2.2 149)), (8, .ref (X.2.2 148)), (7, .ref (X.2.2 147)), (6, .ref (X.2.2 146)), (5, .ref (X.2.2 145)), (4, .ref (X.2.2 144)), (3, .ref (X.2.2 143)), (2, .ref (X.2.2 142)), (1, .ref (X.2.2 0)), (0, .ref b)]) B.hx B.hb dL_law_162 hl (k := 0) rfl (by decide) (by decide) rfl (fun ls hl => ?_)
  refine lv_goto (tgt := 148) B.hx B.hb dL_law_165 (by decide) ?_
  refine lv_iload B.hx B.hb dL_law_148 (lv_at hl 0 rfl) ?_
  refine lv_bipush (v := 6) B.hx B.hb dL_law_150 (by decide) ?_
  refine lv_icmp_ge (tgt := 168) B.hx B.hb dL_law_152 (by decide) (fun c9 => absurd c9 (by decide)) (fun _ => ?_)
  refine lv_aload B.hx B.hb dL_law_155 (lv_at hl 4 rfl) ?_
  refine lv_iload B.hx B.hb dL_law_157 (lv_at hl 0 rfl) ?_
  refine lv_bipush (v := 10) B.hx B.hb dL_law_159 (by decide) ?_
  refine w_ias B hw (i := 153) (kw153 _) (by decide) dL_law_161 (fun H locs hw => ?_)
  refine lv_iinc (v := 6) (lv' := [(17, .int 6), (16, .ref (X.2.2 156)), (15, .ref (X.2.2 155)), (14, .ref (X.2.2 154)), (13, .ref (X.2.2 153)), (12, .ref (X.2.2 152)), (11, .ref (X.2.2 151)), (10, .ref (X.2.2 150)), (9, .ref (X.2.2 149)), (8, .ref (X.2.2 148)), (7, .ref (X.2.2 147)), (6, .ref (X.2.2 146)), (5, .ref (X.2.2 145)), (4, .ref (X.2.2 144)), (3, .ref (X.2.2 143)), (2, .ref (X.2.2 142)), (1, .ref (X.2.2 0)), (0, .ref b)]) B.hx B.hb dL_law_162 hl (k := 0) rfl (by decide) (by decide) rfl (fun ls hl => ?_)
  refine lv_goto (tgt := 148) B.hx B.hb dL_law_165 (by decide) ?_
  refine lv_iload B.hx B.hb dL_law_148 (lv_at hl 0 rfl) ?_
  refine lv_bipush (v := 6) B.hx B.hb dL_law_150 (by decide) ?_
  refine lv_icmp_ge (tgt := 168) B.hx B.hb dL_law_152 (by decide) (fun _ => ?_) (fun c9 => absurd (by decide) c9)
  refine lv_aload B.hx B.hb dL_law_168 (lv_at hl 11 rfl) ?_
  refine lv_iconst (v := 4) B.hx B.hb dL_law_170 (by decide) ?_
  refine lv_bipush (v := 20) B.hx B.hb dL_law_171 (by decide) ?_
  refine w_ias B hw (i := 146) (kw146 _) (by decide) dL_law_173 (fun H locs hw => ?_)
  refine lv_aload B.hx B.hb dL_law_174 (lv_at hl 5 rfl) ?_
  refine lv_bipush (v := 12) B.hx B.hb dL_law_176 (by decide) ?_
  refine lv_iconst (v := (-1)) B.hx B.hb dL_law_178 (by decide) ?_
  refine w_ias B hw (i := 152) (kw152 _) (by decide) dL_law_179 (fun H locs hw => ?_)
  have hw : HW (LW []) X L1 s H locs := hw
  obtain ⟨M1, e1, hI⟩ := init_ok
  refine lv_aload_n B.hx B.hb dL_law_180 rfl (lv_at hl 16 rfl) ?_
  refine lv_bipush (v := 20) B.hx B.hb dL_law_181 (by decide) ?_
  refine lv_iconst (v := 0) B.hx B.hb dL_law_183 (by decide) ?_
  refine w_wrap (n := 3) (M' := M1) (v := 0) (As := [.ref (X.2.2 0), .int 20, .int 0]) (rest := []) B T N9 hw (c_L_shape l hfl _ X 5000 20 0 L1 (0, M1) e1 _) km_L_206 kt_L_shape ki_L kc_L_shape ⟨by decide +kernel, by decide +kernel, by decide +kernel⟩ rfl hl.1 rfl rfl ⟨(Nat.le_of_ble_eq_true rfl), (Nat.le_of_ble_eq_true rfl)⟩ (Nat.le_of_ble_eq_true rfl) ⟨(by show _ ≤ 663957; omega), (by show _ ≤ 7109899; omega)⟩ dL_law_184 rfl (fun H locs hw => ?_)
  refine lv_if_eq (tgt := 192) B.hx B.hb dL_law_187 (by decide) (fun _ => ?_) (fun c9 => absurd rfl c9)
  refine lv_iconst (v := 0) B.hx B.hb dL_law_192 (by decide) ?_
  refine lv_istore (lv' := [(17, .int 0), (16, .ref (X.2.2 156)), (15, .ref (X.2.2 155)), (14, .ref (X.2.2 154)), (13, .ref (X.2.2 153)), (12, .ref (X.2.2 152)), (11, .ref (X.2.2 151)), (10, .ref (X.2.2 150)), (9, .ref (X.2.2 149)), (8, .ref (X.2.2 148)), (7, .ref (X.2.2 147)), (6, .ref (X.2.2 146)), (5, .ref (X.2.2 145)), (4, .ref (X.2.2 144)), (3, .ref (X.2.2 143)), (2, .ref (X.2.2 142)), (1, .ref (X.2.2 0)), (0, .ref b)]) B.hx B.hb dL_law_193 hl (by decide) rfl (fun ls hl => ?_)
  refine W.widen (k := 200 + 2000 * 0) (n := 4000 + 12000 * 0) (by omega) (by omega) ?_
  exact lm_loop l hfl B T N9 hr hlk hz hX hbl hbA hL 150 0 (by omega) M1 R1 0 0 H locs ls hI (by omega) hw (lv_sub hl [0, 17, 16, 15, 14, 13, 12, 11, 10, 9, 8, 7, 6, 5, 4, 3, 2, 1] rfl)
set_option maxHeartbeats 4000000 in
set_option maxRecDepth 100000 in
/-- from the entry -/
theorem whole_start {p : Program} {e : Env} {s : State} {m : MethodId} {below : List Frame} {meth : Method} {c : Code} (l : Launch) (hflags : l.flags = flags0) {b L : Nat} {xs : Nat → Int32} (hL : L ≤ 260) (K0 : lw_At p s m meth c b L xs) : W p l e room_1 s m #[Value.ref b] below meth c s.heap [] 0 0 (lw_Z below #[Value.ref b] s) (entryFrame m ([Value.ref b] : List Value).toArray 22) := by
  obtain ⟨hx, hb, hr, hml, hown, hts, hX, hbl, hlocks, hgv⟩ := id K0
  have hfl : l.stackTraces = false := by unfold Launch.stackTraces; rw [hflags]; decide +kernel
  have htb : ∀ w ∈ BIG, w.before #[Value.ref b] s = true := fun w hw => hts w (List.mem_filter.mp hw).1
  obtain ⟨D, t, hK⟩ := st_K hts
  have hA : ∀ q : Nat, s.heap.size ≤ q → (fun q : Nat => s.heap.size ≤ q) q := fun _ h => h
  have B : CI (D, t, fun _ => 0) p s m #[Value.ref b] c cL_law RL 22 := ⟨hx, hb, hml, hown, htb, hK, st_nest hts, va_AO.of (tW hts 53 (by decide +kernel)), va_AO.of (tW hts 193 (by decide +kernel))⟩
  have h : HI (D, t, fun _ => 0) (fun q => s.heap.size ≤ q) s [] s.heap [] := ⟨fun k q h => by simp at h, ⟨fun i j p q h => by simp at h, fun k q h => by simp at h⟩, va_S.rf⟩
  have hl := lv_entry ([.ref b]) (n := 22) (Nat.le_of_ble_eq_true rfl)
  rw [lg_entry_eq]
  generalize (lg_sl ([.ref b]) ++ List.replicate (22 - (lg_sl ([.ref b])).length) Slot.unset).toArray = ls at hl ⊢
  have hl : lv_has ls 22 [(0, .ref b)] := hl
  refine i_new (ci := 10) (fs := [.null, .null, .null, .null, .null, .null, .null, .null, .null]) B h hA rfl in_X10 tyX10 tyX10_ok (big_at 20 (by decide +kernel) (by decide +kernel)) (big_at 21 (by decide +kernel) (by decide +kernel)) ki_X10 vw10 (Nat.le_of_ble_eq_true rfl) (Nat.le_of_ble_eq_true rfl) dL_law_0 (fun q0 H h => ?_)
  refine lv_dup B.hx B.hb dL_law_3 rfl ?_
  refine i_callI (As := []) (rest := [.ref q0]) (n := 0) B h hA (c_X10_init l (D, t, fun _ => 0) q0 H.size) hl.1 kc_X10_init (big_at 22 (by decide +kernel) (by decide +kernel)) ki_X10 kn_X10_init rfl ⟨by decide +kernel, by decide +kernel, by decide +kernel⟩ rfl rfl rfl ⟨(Nat.le_of_ble_eq_true rfl), (Nat.le_of_ble_eq_true rfl)⟩ (Nat.le_of_ble_eq_true rfl) ⟨(Nat.le_of_ble_eq_true rfl), (Nat.le_of_ble_eq_true rfl)⟩ dL_law_4 rfl (fun u H locs h => ?_)
  refine lv_astore_n (lv' := [(1, .ref q0), (0, .ref b)]) B.hx B.hb dL_law_7 rfl hl (by decide) rfl (fun ls hl => ?_)
  refine lv_bipush (v := 60) B.hx B.hb dL_law_8 (by decide) ?_
  refine i_newl B h hA 60 (by decide +kernel) (by decide +kernel) (Nat.le_of_ble_eq_true rfl) (Nat.le_of_ble_eq_true rfl) (Nat.le_of_ble_eq_true rfl) dL_law_10 (fun z142 H h => ?_)
  refine lv_astore_n (lv' := [(2, .ref z142), (1, .ref q0), (0, .ref b)]) B.hx B.hb dL_law_12 rfl hl (by decide) rfl (fun ls hl => ?_)
  refine lv_bipush (v := 6) B.hx B.hb dL_law_13 (by decide) ?_
  refine i_newi B h hA 6 (by decide +kernel) (by decide +kernel) (Nat.le_of_ble_eq_true rfl) (Nat.le_of_ble_eq_true rfl) (Nat.le_of_ble_eq_true rfl) dL_law_15 (fun z143 H h => ?_)
  refine lv_astore_n (lv' := [(3, .ref z143), (2, .ref z142), (1, .ref q0), (0, .ref b)]) B.hx B.hb dL_law_17 rfl hl (by decide) rfl (fun ls hl => ?_)
  refine lv_bipush (v := 64) B.hx B.hb dL_law_18 (by decide) ?_
  refine i_newi B h hA 64 (by decide +kernel) (by decide +kernel) (Nat.le_of_ble_eq_true rfl) (Nat.le_of_ble_eq_true rfl) (Nat.le_of_ble_eq_true rfl) dL_law_20 (fun z144 H h => ?_)
  refine lv_astore (lv' := [(4, .ref z144), (3, .ref z143), (2, .ref z142), (1, .ref q0), (0, .ref b)]) B.hx B.hb dL_law_22 hl (by decide) rfl (fun ls hl => ?_)
  refine lv_bipush (v := 27) B.hx B.hb dL_law_24 (by decide) ?_
  refine i_newi B h hA 27 (by decide +kernel) (by decide +kernel) (Nat.le_of_ble_eq_true rfl) (Nat.le_of_ble_eq_true rfl) (Nat.le_of_ble_eq_true rfl) dL_law_26 (fun z145 H h => ?_)
  refine lv_astore (lv' := [(5, .ref z145), (4, .ref z144), (3, .ref z143), (2, .ref z142), (1, .ref q0), (0, .ref b)]) B.hx B.hb dL_law_28 hl (by decide) rfl (fun ls hl => ?_)
  refine lv_bipush (v := 43) B.hx B.hb dL_law_30 (by decide) ?_
  refine i_newi B h hA 43 (by decide +kernel) (by decide +kernel) (Nat.le_of_ble_eq_true rfl) (Nat.le_of_ble_eq_true rfl) (Nat.le_of_ble_eq_true rfl) dL_law_32 (fun z146 H h => ?_)
  refine lv_astore (lv' := [(6, .ref z146), (5, .ref z145), (4, .ref z144), (3, .ref z143), (2, .ref z142), (1, .ref q0), (0, .ref b)]) B.hx B.hb dL_law_34 hl (by decide) rfl (fun ls hl => ?_)
  refine lv_bipush (v := 48) B.hx B.hb dL_law_36 (by decide) ?_
  refine i_newi B h hA 48 (by decide +kernel) (by decide +kernel) (Nat.le_of_ble_eq_true rfl) (Nat.le_of_ble_eq_true rfl) (Nat.le_of_ble_eq_true rfl) dL_law_38 (fun z147 H h => ?_)
  refine lv_astore (lv' := [(7, .ref z147), (6, .ref z146), (5, .ref z145), (4, .ref z144), (3, .ref z143), (2, .ref z142), (1, .ref q0), (0, .ref b)]) B.hx B.hb dL_law_40 hl (by decide) rfl (fun ls hl => ?_)
  refine lv_bipush (v := 60) B.hx B.hb dL_law_42 (by decide) ?_
  refine i_newl B h hA 60 (by decide +kernel) (by decide +kernel) (Nat.le_of_ble_eq_true rfl) (Nat.le_of_ble_eq_true rfl) (Nat.le_of_ble_eq_true rfl) dL_law_44 (fun z148 H h => ?_)
  refine lv_astore (lv' := [(8, .ref z148), (7, .ref z147), (6, .ref z146), (5, .ref z145), (4, .ref z144), (3, .ref z143), (2, .ref z142), (1, .ref q0), (0, .ref b)]) B.hx B.hb dL_law_46 hl (by decide) rfl (fun ls hl => ?_)
  refine lv_bipush (v := 30) B.hx B.hb dL_law_48 (by decide) ?_
  refine i_newl B h hA 30 (by decide +kernel) (by decide +kernel) (Nat.le_of_ble_eq_true rfl) (Nat.le_of_ble_eq_true rfl) (Nat.le_of_ble_eq_true rfl) dL_law_50 (fun z149 H h => ?_)
  refine lv_astore (lv' := [(9, .ref z149), (8, .ref z148), (7, .ref z147), (6, .ref z146), (5, .ref z145), (4, .ref z144), (3, .ref z143), (2, .ref z142), (1, .ref q0), (0, .ref b)]) B.hx B.hb dL_law_52 hl (by decide) rfl (fun ls hl => ?_)
  refine lv_iconst (v := 3) B.hx B.hb dL_law_54 (by decide) ?_
  refine i_newi B h hA 3 (by decide +kernel) (by decide +kernel) (Nat.le_of_ble_eq_true rfl) (Nat.le_of_ble_eq_true rfl) (Nat.le_of_ble_eq_true rfl) dL_law_55 (fun z150 H h => ?_)
  refine lv_astore (lv' := [(10, .ref z150), (9, .ref z149), (8, .ref z148), (7, .ref z147), (6, .ref z146), (5, .ref z145), (4, .ref z144), (3, .ref z143), (2, .ref z142), (1, .ref q0), (0, .ref b)]) B.hx B.hb dL_law_57 hl (by decide) rfl (fun ls hl => ?_)
  refine lv_bipush (v := 12) B.hx B.hb dL_law_59 (by decide) ?_
  refine i_newi B h hA 12 (by decide +kernel) (by decide +kernel) (Nat.le_of_ble_eq_true rfl) (Nat.le_of_ble_eq_true rfl) (Nat.le_of_ble_eq_true rfl) dL_law_61 (fun z151 H h => ?_)
  refine lv_astore (lv' := [(11, .ref z151), (10, .ref z150), (9, .ref z149), (8, .ref z148), (7, .ref z147), (6, .ref z146), (5, .ref z145), (4, .ref z144), (3, .ref z143), (2, .ref z142), (1, .ref q0), (0, .ref b)]) B.hx B.hb dL_law_63 hl (by decide) rfl (fun ls hl => ?_)
  refine lv_bipush (v := 17) B.hx B.hb dL_law_65 (by decide) ?_
  refine i_newi B h hA 17 (by decide +kernel) (by decide +kernel) (Nat.le_of_ble_eq_true rfl) (Nat.le_of_ble_eq_true rfl) (Nat.le_of_ble_eq_true rfl) dL_law_67 (fun z152 H h => ?_)
  refine lv_astore (lv' := [(12, .ref z152), (11, .ref z151), (10, .ref z150), (9, .ref z149), (8, .ref z148), (7, .ref z147), (6, .ref z146), (5, .ref z145), (4, .ref z144), (3, .ref z143), (2, .ref z142), (1, .ref q0), (0, .ref b)]) B.hx B.hb dL_law_69 hl (by decide) rfl (fun ls hl => ?_)
  refine lv_bipush (v := 14) B.hx B.hb dL_law_71 (by decide) ?_
  refine i_newi B h hA 14 (by decide +kernel) (by decide +kernel) (Nat.le_of_ble_eq_true rfl) (Nat.le_of_ble_eq_true rfl) (Nat.le_of_ble_eq_true rfl) dL_law_73 (fun z153 H h => ?_)
  refine lv_astore (lv' := [(13, .ref z153), (12, .ref z152), (11, .ref z151), (10, .ref z150), (9, .ref z149), (8, .ref z148), (7, .ref z147), (6, .ref z146), (5, .ref z145), (4, .ref z144), (3, .ref z143), (2, .ref z142), (1, .ref q0), (0, .ref b)]) B.hx B.hb dL_law_75 hl (by decide) rfl (fun ls hl => ?_)
  refine lv_bipush (v := 60) B.hx B.hb dL_law_77 (by decide) ?_
  refine i_newi B h hA 60 (by decide +kernel) (by decide +kernel) (Nat.le_of_ble_eq_true rfl) (Nat.le_of_ble_eq_true rfl) (Nat.le_of_ble_eq_true rfl) dL_law_79 (fun z154 H h => ?_)
  refine lv_astore (lv' := [(14, .ref z154), (13, .ref z153), (12, .ref z152), (11, .ref z151), (10, .ref z150), (9, .ref z149), (8, .ref z148), (7, .ref z147), (6, .ref z146), (5, .ref z145), (4, .ref z144), (3, .ref z143), (2, .ref z142), (1, .ref q0), (0, .ref b)]) B.hx B.hb dL_law_81 hl (by decide) rfl (fun ls hl => ?_)
  refine lv_bipush (v := 24) B.hx B.hb dL_law_83 (by decide) ?_
  refine i_newi B h hA 24 (by decide +kernel) (by decide +kernel) (Nat.le_of_ble_eq_true rfl) (Nat.le_of_ble_eq_true rfl) (Nat.le_of_ble_eq_true rfl) dL_law_85 (fun z155 H h => ?_)
  refine lv_astore (lv' := [(15, .ref z155), (14, .ref z154), (13, .ref z153), (12, .ref z152), (11, .ref z151), (10, .ref z150), (9, .ref z149), (8, .ref z148), (7, .ref z147), (6, .ref z146), (5, .ref z145), (4, .ref z144), (3, .ref z143), (2, .ref z142), (1, .ref q0), (0, .ref b)]) B.hx B.hb dL_law_87 hl (by decide) rfl (fun ls hl => ?_)
  refine lv_iconst (v := 1) B.hx B.hb dL_law_89 (by decide) ?_
  refine i_newi B h hA 1 (by decide +kernel) (by decide +kernel) (Nat.le_of_ble_eq_true rfl) (Nat.le_of_ble_eq_true rfl) (Nat.le_of_ble_eq_true rfl) dL_law_90 (fun z156 H h => ?_)
  refine lv_astore (lv' := [(16, .ref z156), (15, .ref z155), (14, .ref z154), (13, .ref z153), (12, .ref z152), (11, .ref z151), (10, .ref z150), (9, .ref z149), (8, .ref z148), (7, .ref z147), (6, .ref z146), (5, .ref z145), (4, .ref z144), (3, .ref z143), (2, .ref z142), (1, .ref q0), (0, .ref b)]) B.hx B.hb dL_law_92 hl (by decide) rfl (fun ls hl => ?_)
  obtain ⟨U, ⟨hU0, hU142, hU143, hU144, hU145, hU146, hU147, hU148, hU149, hU150, hU151, hU152, hU153, hU154, hU155, hU156⟩, hinj, hsz, hP, hS⟩ := st_made h
  subst hU0
  subst hU142
  subst hU143
  subst hU144
  subst hU145
  subst hU146
  subst hU147
  subst hU148
  subst hU149
  subst hU150
  subst hU151
  subst hU152
  subst hU153
  subst hU154
  subst hU155
  subst hU156
  have hAX : ∀ q, AX (LW []) (D, t, U) s.heap.size q → s.heap.size ≤ q := fun q h => by
    rcases h with ⟨i, hi, rfl⟩ | h
    · exact hsz i hi
    · exact h
  obtain ⟨n1, n2, zf, zg, a1, a2, a3, a4⟩ := st_PN hts hgv
  obtain ⟨t1, t2, t3, t4⟩ := st_TX hts hgv
  have B2 : Cx (LW []) (D, t, U) p s m #[Value.ref b] c cL_law RL 22 := ⟨hx, hb, hml, hown, htb, hK, hinj, n1, n2, zf, zg, a1.narrow hAX, a2.narrow hAX, a3.narrow hAX, a4.narrow hAX⟩
  have T2 : TX (AX (LW []) (D, t, U) s.heap.size) s := ⟨t1.narrow hAX, t2.narrow hAX, t3, t4⟩
  have hw : HW (LW []) (D, t, U) L0 s H locs := ⟨hP, hS.1, fun q h1 h2 => hS.2.1 q h1 (fun z => h2 (Or.inr z)), fun l hl => Or.inr (hS.2.2 l hl)⟩
  exact lm_start l hfl B2 T2 (st_NC hgv) hr hlocks hAX hX hbl (fun z => Nat.not_le.mpr hbl (hAX b z)) hL hw hl (Nat.le_of_ble_eq_true rfl) (Nat.le_of_ble_eq_true rfl)
