/-! ===== the law's start ===== -/
theorem tN {args : Array Value} {s : State} {w : Cond} (hts : ∀ w ∈ lw_tbl, w.before args s = true) (i : Nat) (h : tables_1[i]? = some w) (ho : w.onTables = true) : va_Nw w s := va_tabs ho rfl (hts w (List.mem_append_right _ (List.mem_of_getElem? h)))
theorem tW {args : Array Value} {s : State} {w : Cond} (hts : ∀ w ∈ lw_tbl, w.before args s = true) (i : Nat) (h : tables_1[i]? = some w) : w.before args s = true := hts w (List.mem_append_right _ (List.mem_of_getElem? h))
theorem st_nest {args : Array Value} {s : State} (hts : ∀ w ∈ lw_tbl, w.before args s = true) : ∀ q ∈ nestM, va_Nw (.methodLinkNest q.1 q.2.1 q.2.2.1 q.2.2.2) s :=
  List.forall_mem_cons.mpr ⟨tN hts 31 (by decide +kernel) rfl, List.forall_mem_cons.mpr ⟨tN hts 56 (by decide +kernel) rfl, List.forall_mem_cons.mpr ⟨tN hts 62 (by decide +kernel) rfl, List.forall_mem_cons.mpr ⟨tN hts 195 (by decide +kernel) rfl, List.forall_mem_cons.mpr ⟨tN hts 227 (by decide +kernel) rfl, List.forall_mem_cons.mpr ⟨tN hts 310 (by decide +kernel) rfl, List.forall_mem_cons.mpr ⟨tN hts 417 (by decide +kernel) rfl, List.forall_mem_cons.mpr ⟨tN hts 645 (by decide +kernel) rfl, List.forall_mem_cons.mpr ⟨tN hts 696 (by decide +kernel) rfl, List.forall_mem_cons.mpr ⟨tN hts 843 (by decide +kernel) rfl, List.forall_mem_cons.mpr ⟨tN hts 844 (by decide +kernel) rfl, List.forall_mem_cons.mpr ⟨tN hts 925 (by decide +kernel) rfl, List.forall_mem_cons.mpr ⟨tN hts 946 (by decide +kernel) rfl, List.forall_mem_cons.mpr ⟨tN hts 974 (by decide +kernel) rfl, List.forall_mem_cons.mpr ⟨tN hts 983 (by decide +kernel) rfl, List.forall_mem_cons.mpr ⟨tN hts 984 (by decide +kernel) rfl, List.forall_mem_cons.mpr ⟨tN hts 998 (by decide +kernel) rfl, List.forall_mem_cons.mpr ⟨tN hts 1059 (by decide +kernel) rfl, List.forall_mem_cons.mpr ⟨tN hts 1087 (by decide +kernel) rfl, List.forall_mem_cons.mpr ⟨tN hts 1183 (by decide +kernel) rfl, List.forall_mem_cons.mpr ⟨tN hts 1190 (by decide +kernel) rfl, List.forall_mem_cons.mpr ⟨tN hts 1193 (by decide +kernel) rfl, List.forall_mem_cons.mpr ⟨tN hts 1194 (by decide +kernel) rfl, List.forall_mem_cons.mpr ⟨tN hts 1195 (by decide +kernel) rfl, fun _ h9 => nomatch h9⟩⟩⟩⟩⟩⟩⟩⟩⟩⟩⟩⟩⟩⟩⟩⟩⟩⟩⟩⟩⟩⟩⟩⟩
theorem st_nestF {args : Array Value} {s : State} (hts : ∀ w ∈ lw_tbl, w.before args s = true) : ∀ q ∈ nestF, va_Nw (.fieldLinkNest q.1 q.2.1 q.2.2.1 q.2.2.2.1 q.2.2.2.2.1 q.2.2.2.2.2) s :=
  List.forall_mem_cons.mpr ⟨tN hts 989 (by decide +kernel) rfl, List.forall_mem_cons.mpr ⟨tN hts 991 (by decide +kernel) rfl, fun _ h9 => nomatch h9⟩⟩
/-- a static table of three numbers, as the Statement gives it -/
theorem st_tab {args : Array Value} {s : State} {n : String} {g : Nat → Int32} (hl : (Cond.laysStatic "QueryHarbor" n "[I").before args s = true) (hini : (Cond.initialized "QueryHarbor").before args s = true) (harr : (Cond.arrayOf (.static "QueryHarbor" n "[I") .int).before args s = true) (hlen : (Cond.eq (.length (.static "QueryHarbor" n "[I")) (.int 3)).before args s = true) (h0 : (Cond.eq (.elem (.static "QueryHarbor" n "[I") (.int 0)) (.int (g 0))).before args s = true) (h1 : (Cond.eq (.elem (.static "QueryHarbor" n "[I") (.int 1)) (.int (g 1))).before args s = true) (h2 : (Cond.eq (.elem (.static "QueryHarbor" n "[I") (.int 2)) (.int (g 2))).before args s = true) :
    ∃ z : Nat, va_Z "QueryHarbor" n "[I" (.ref z) (fun q => s.heap.size ≤ q) s s.heap ∧ va_T .int z 3 (fun j => .int (g j)) (fun q => s.heap.size ≤ q) s s.heap := by
  have hA : ∀ a : Nat, a < s.heap.size → ¬ (fun q : Nat => s.heap.size ≤ q) a := fun a h => Nat.not_le.mpr h
  obtain ⟨z, hz, hT⟩ := va_Tof (N := 3) (f := fun j => .int (g j)) (by decide) harr (va_eqt hlen) (fun j hj => by
    rcases (show j = 0 ∨ j = 1 ∨ j = 2 by omega) with rfl | rfl | rfl
    · exact va_eqt h0
    · exact va_eqt h1
    · exact va_eqt h2) hA
  exact ⟨z, va_Zref hl hini hz hA, hT⟩
theorem st_PN {args : Array Value} {s : State} (hts : ∀ w ∈ lw_tbl, w.before args s = true) (hgv : (Jvm.Cond.and given_1 narrow_1).before args s = true) : PN (fun q => s.heap.size ≤ q) s := by
  have hs := flat_of_before _ hgv
  obtain ⟨zf, f1, f2⟩ := st_tab (n := "FEES") (g := fee) (tW hts 990 (by decide +kernel)) (tW hts 1 (by decide +kernel)) (hs _ (by decide +kernel)) (hs _ (by decide +kernel)) (hs _ (by decide +kernel)) (hs _ (by decide +kernel)) (hs _ (by decide +kernel))
  obtain ⟨zg, g1, g2⟩ := st_tab (n := "FREIGHTS") (g := freight) (tW hts 992 (by decide +kernel)) (tW hts 1 (by decide +kernel)) (hs _ (by decide +kernel)) (hs _ (by decide +kernel)) (hs _ (by decide +kernel)) (hs _ (by decide +kernel)) (hs _ (by decide +kernel))
  exact ⟨st_nest hts, st_nestF hts, zf, zg, f1, f2, g1, g2⟩
theorem st_TX {args : Array Value} {s : State} (hts : ∀ w ∈ lw_tbl, w.before args s = true) (hgv : (Jvm.Cond.and given_1 narrow_1).before args s = true) : TX (fun q => s.heap.size ≤ q) s := by
  have hs := flat_of_before _ hgv
  have hA : ∀ a : Nat, a < s.heap.size → ¬ (fun q : Nat => s.heap.size ≤ q) a := fun a h => Nat.not_le.mpr h
  refine ⟨vx_Zqof (tW hts 569 (by decide +kernel)) (tW hts 13 (by decide +kernel)) (hs _ (by decide +kernel)) hA, vx_Zqof (tW hts 571 (by decide +kernel)) (tW hts 13 (by decide +kernel)) (hs _ (by decide +kernel)) hA, ?_, ?_⟩
  · exact List.forall_mem_cons.mpr ⟨tN hts 544 (by decide +kernel) rfl, List.forall_mem_cons.mpr ⟨tN hts 628 (by decide +kernel) rfl, List.forall_mem_cons.mpr ⟨tN hts 659 (by decide +kernel) rfl, fun _ h9 => nomatch h9⟩⟩⟩
  · exact List.forall_mem_cons.mpr ⟨tN hts 549 (by decide +kernel) rfl, List.forall_mem_cons.mpr ⟨tN hts 545 (by decide +kernel) rfl, List.forall_mem_cons.mpr ⟨tN hts 547 (by decide +kernel) rfl, fun _ h9 => nomatch h9⟩⟩⟩
theorem st_NC {args : Array Value} {s : State} (hgv : (Jvm.Cond.and given_1 narrow_1).before args s = true) : NC s := by
  have hs := flat_of_before _ hgv
  have h12 : va_Nc (exn 1) (exn 2) s := va_Nc.of (hs _ (by decide +kernel))
  have h13 : va_Nc (exn 1) (exn 3) s := va_Nc.of (hs _ (by decide +kernel))
  have h21 : va_Nc (exn 2) (exn 1) s := va_Nc.of (hs _ (by decide +kernel))
  have h23 : va_Nc (exn 2) (exn 3) s := va_Nc.of (hs _ (by decide +kernel))
  have h31 : va_Nc (exn 3) (exn 1) s := va_Nc.of (hs _ (by decide +kernel))
  have h32 : va_Nc (exn 3) (exn 2) s := va_Nc.of (hs _ (by decide +kernel))
  intro a b h1 h2 h3 h4 h5
  rcases (show a = 1 ∨ a = 2 ∨ a = 3 by omega) with rfl | rfl | rfl <;> rcases (show b = 1 ∨ b = 2 ∨ b = 3 by omega) with rfl | rfl | rfl <;> first | exact absurd rfl h5 | assumption
theorem st_arr {args : Array Value} {s : State} {ty : FieldType} (h : (Cond.arrayClass ty).before args s = true) : ∃ cA, ArrOfT s cA ty ∧ s.vm.findClass ("[" ++ ty.toString) = some cA := by
  obtain ⟨cA, kA, comp, h1, h2, h3⟩ := Cond.arrayClass_spec h
  exact ⟨cA, fun n z => ⟨fun k h => (by cases h), kA, h2, comp, h3⟩, h1⟩
theorem st_arrq {args : Array Value} {s : State} {C : String} (h : (Cond.arrayOver (.object C)).before args s = true) : ∃ cA, ArrOfT s cA (.object C) ∧ va_RA s cA (.object C) := by
  obtain ⟨comp, cA, kA, h1, -, h2, h3, h4⟩ := Cond.arrayOver_spec h
  exact ⟨cA, fun n z => ⟨fun k h => (by cases h), kA, h2, comp, h3⟩, kA, comp, h2, h3, h1, h4⟩
set_option maxHeartbeats 4000000 in
set_option maxRecDepth 100000 in
theorem st_K {args : Array Value} {s : State} (hts : ∀ w ∈ lw_tbl, w.before args s = true) : ∃ (D : va_G) (t : Nat → ClassId), va_K D vwCl [(t 0, .int), (t 1, .boolean), (t 2, .object RX6), (t 3, .object RX5), (t 4, .long)] s := by
  have htb : ∀ w ∈ BIG, w.before args s = true := fun w hw => hts w (List.mem_filter.mp hw).1
  obtain ⟨c0, i0, hKn0⟩ := u_known (C := RX0) (T := TX0) (N := 13) (n := 13) htb in_X0 (htb _ (big_at 304 (by decide +kernel) (by decide +kernel)))
  obtain ⟨c1, i1, hKn1⟩ := u_known (C := RX1) (T := TX1) (N := 11) (n := 11) htb in_X1 (htb _ (big_at 371 (by decide +kernel) (by decide +kernel)))
  obtain ⟨c2, i2, hKn2⟩ := u_known (C := RX2) (T := TX2) (N := 10) (n := 10) htb in_X2 (htb _ (big_at 411 (by decide +kernel) (by decide +kernel)))
  obtain ⟨c3, i3, hKn3⟩ := u_known (C := RX3) (T := TX3) (N := 5) (n := 5) htb in_X3 (htb _ (big_at 48 (by decide +kernel) (by decide +kernel)))
  obtain ⟨c4, i4, hKn4⟩ := u_known (C := RX4) (T := TX4) (N := 15) (n := 15) htb in_X4 (htb _ (big_at 226 (by decide +kernel) (by decide +kernel)))
  obtain ⟨c5, i5, hKn5⟩ := u_known (C := RX5) (T := TX5) (N := 11) (n := 11) htb in_X5 (htb _ (big_at 55 (by decide +kernel) (by decide +kernel)))
  obtain ⟨c6, i6, hKn6⟩ := u_known (C := RX6) (T := TX6) (N := 3) (n := 3) htb in_X6 (htb _ (big_at 61 (by decide +kernel) (by decide +kernel)))
  obtain ⟨c7, i7, hKn7⟩ := u_known (C := RX7) (T := TX7) (N := 7) (n := 7) htb in_X7 (htb _ (big_at 188 (by decide +kernel) (by decide +kernel)))
  obtain ⟨c8, i8, hKn8⟩ := u_known (C := RX8) (T := TX8) (N := 10) (n := 10) htb in_X8 (htb _ (big_at 140 (by decide +kernel) (by decide +kernel)))
  obtain ⟨c9, i9, hKn9⟩ := u_known (C := RX9) (T := TX9) (N := 2) (n := 2) htb in_X9 (htb _ (big_at 30 (by decide +kernel) (by decide +kernel)))
  obtain ⟨c10, i10, hKn10⟩ := u_known (C := RX10) (T := TX10) (N := 9) (n := 9) htb in_X10 (htb _ (big_at 22 (by decide +kernel) (by decide +kernel)))
  obtain ⟨c11, i11, hKn11⟩ := u_known (C := RX11) (T := TX11) (N := 94) (n := 94) htb in_X11 (htb _ (big_at 1219 (by decide +kernel) (by decide +kernel)))
  obtain ⟨t0, a0, b0⟩ := st_arr (htb _ bo_int)
  obtain ⟨t1, a1, b1⟩ := st_arr (htb _ bo_bool)
  obtain ⟨t2, a2, b2⟩ := st_arrq (C := RX6) (tW hts 194 (by decide +kernel))
  obtain ⟨t3, a3, b3⟩ := st_arrq (C := RX5) (tW hts 54 (by decide +kernel))
  obtain ⟨t4, a4, b4⟩ := st_arr (htb _ bo_long)
  refine ⟨(fun k => if k = 0 then c0 else if k = 1 then c1 else if k = 2 then c2 else if k = 3 then c3 else if k = 4 then c4 else if k = 5 then c5 else if k = 6 then c6 else if k = 7 then c7 else if k = 8 then c8 else if k = 9 then c9 else if k = 10 then c10 else c11, fun k => if k = 0 then i0 else if k = 1 then i1 else if k = 2 then i2 else if k = 3 then i3 else if k = 4 then i4 else if k = 5 then i5 else if k = 6 then i6 else if k = 7 then i7 else if k = 8 then i8 else if k = 9 then i9 else if k = 10 then i10 else i11), fun k => if k = 0 then t0 else if k = 1 then t1 else if k = 2 then t2 else if k = 3 then t3 else t4, ?_, ?_⟩
  · intro k q hq
    match k, hq with
    | 0, hq => cases hq; exact hKn0
    | 1, hq => cases hq; exact hKn1
    | 2, hq => cases hq; exact hKn2
    | 3, hq => cases hq; exact hKn3
    | 4, hq => cases hq; exact hKn4
    | 5, hq => cases hq; exact hKn5
    | 6, hq => cases hq; exact hKn6
    | 7, hq => cases hq; exact hKn7
    | 8, hq => cases hq; exact hKn8
    | 9, hq => cases hq; exact hKn9
    | 10, hq => cases hq; exact hKn10
    | 11, hq => cases hq; exact hKn11
    | k + 12, hq => simp [vwCl] at hq
  · intro k q hq
    match k, hq with
    | 0, hq => cases hq; exact ⟨a0, b0⟩
    | 1, hq => cases hq; exact ⟨a1, b1⟩
    | 2, hq => cases hq; exact ⟨a2, b2⟩
    | 3, hq => cases hq; exact ⟨a3, b3⟩
    | 4, hq => cases hq; exact ⟨a4, b4⟩
    | k + 5, hq => simp at hq
theorem vw10 : ∀ j, j < 9 → defaultValue (tyX10 j) = vp_V [.null, .null, .null, .null, .null, .null, .null, .null, .null] j := fun j hj => by
  rcases (show j = 0 ∨ j = 1 ∨ j = 2 ∨ j = 3 ∨ j = 4 ∨ j = 5 ∨ j = 6 ∨ j = 7 ∨ j = 8 by omega) with rfl | rfl | rfl | rfl | rfl | rfl | rfl | rfl | rfl <;> rfl
theorem vw11 : ∀ j, j < 94 → defaultValue (tyX11 j) = vp_V [.int 0, .null, .null, .null, .null, .null, .int 0, .int 0, .int 0, .null, .null, .null, .null, .null, .null, .null, .null, .null, .null, .null, .null, .null, .int 0, .null, .int 0, .null, .null, .null, .null, .int 0, .null, .null, .null, .null, .int 0, .null, .null, .int 0, .int 0, .int 0, .null, .null, .null, .null, .null, .null, .null, .null, .null, .null, .null, .null, .int 0, .int 0, .int 0, .int 0, .null, .null, .null, .null, .null, .null, .int 0, .int 0, .null, .null, .null, .null, .int 0, .int 0, .null, .int 0, .null, .null, .null, .int 0, .int 0, .null, .int 0, .int 0, .int 0, .int 0, .int 0, .int 0, .null, .int 0, .null, .null, .null, .null, .null, .null, .null, .null] j := by decide +kernel
set_option maxHeartbeats 4000000 in
set_option maxRecDepth 100000 in
theorem wX10_x {D : va_G} {t : Nat → ClassId} {f g : Nat → Nat} {a : Nat} {u : Nat → Nat} : wX10 (D, t, f) a u = wX10 (D, t, g) a u := rfl
set_option maxHeartbeats 4000000 in
set_option maxRecDepth 100000 in
theorem wX11_x {D : va_G} {t : Nat → ClassId} {f g : Nat → Nat} {a : Nat} {u : Nat → Nat} : wX11 (D, t, f) a u = wX11 (D, t, g) a u := rfl
set_option maxHeartbeats 4000000 in
set_option maxRecDepth 100000 in
/-- what lies there when all is made -/
theorem st_made {D : va_G} {t : Nat → ClassId} {f0 : Nat → Nat} {s : State} {q0 m0 o : Nat} {u v : Nat → Nat} {H : Heap} {locs : List Loc} (h : HI (D, t, f0) (fun q => s.heap.size ≤ q) s ((([] ++ wX10 (D, t, f0) q0 u) ++ wX11 (D, t, f0) m0 v) ++ [(o, .inl (t 4, 1, .inr (.inl (fun _ => 0))))]) H locs) :
    ∃ U V : Nat → Nat, U 0 = q0 ∧ V 0 = m0 ∧ FX (D, t, U) V o s.heap.size ∧ HL (D, t, U) V o C0 R0 (fun _ => 0) s H locs := by
  obtain ⟨hP, hD, hS⟩ := h
  obtain ⟨U, hU⟩ : ∃ U : Nat → Nat, U = fun i => if i = 0 then q0 else u i := ⟨_, rfl⟩
  obtain ⟨V, hV⟩ : ∃ V : Nat → Nat, V = fun i => if i = 0 then m0 else v i := ⟨_, rfl⟩
  have hU0 : U 0 = q0 := by rw [hU]; rfl
  have hV0 : V 0 = m0 := by rw [hV]; rfl
  have eU : [] ++ wX10 (D, t, f0) q0 u = wX10 (D, t, U) (U 0) U := by
    rw [List.nil_append, wX10_x (g := U), ← hU0]
    exact wX10_cg _ _ (fun i h1 h2 => by rw [hU]; dsimp only; rw [if_neg (by omega)])
  have eV : wX11 (D, t, f0) m0 v = wX11 (D, t, V) (V 0) V := by
    rw [wX11_x (g := V), ← hV0]
    exact wX11_cg _ _ (fun i h1 h2 => by rw [hV]; dsimp only; rw [if_neg (by omega)])
  rw [eU, eV] at hP hD
  have aU := wX10_ad (X := (D, t, U)) (U := U)
  have aV := wX11_ad (X := (D, t, V)) (U := V)
  have hDU := vD_l (vD_l hD)
  have hDV := vD_r (vD_l hD)
  have hDo := vD_r hD
  refine ⟨U, V, hU0, hV0, ⟨ad_inj aU hDU, ad_inj aV hDV, ?_, ?_, ?_, ad_A aU hDU, ad_A aV hDV, hDo.2 0 _ rfl⟩, wX10_wl (vP_l (vP_l hP)), wX11_wl (vP_r (vP_l hP)), vP_r hP, hS⟩
  · intro i hi
    obtain ⟨q, h1, h2⟩ := ad_at aU hi
    have hl := (List.getElem?_eq_some_iff.mp h1).1
    have := vD_x hD (i := i) (j := 0) (p := q) (by rw [List.getElem?_append_left hl]; exact h1) rfl
    show U i ≠ o
    rw [← h2]
    exact this
  · intro i hi
    obtain ⟨q, h1, h2⟩ := ad_at aV hi
    have := vD_x hD (i := (wX10 (D, t, U) (U 0) U).length + i) (j := 0) (p := q) (by rw [List.getElem?_append_right (Nat.le_add_right _ _), Nat.add_sub_cancel_left]; exact h1) rfl
    show V i ≠ o
    rw [← h2]
    exact this
  · intro i j hi hj
    obtain ⟨q, h1, h2⟩ := ad_at aU hi
    obtain ⟨q', h3, h4⟩ := ad_at aV hj
    have := vD_x (vD_l hD) h1 h3
    show U i ≠ V j
    rw [← h2, ← h4]
    exact this
set_option maxHeartbeats 4000000 in
set_option maxRecDepth 100000 in
/-- from the entry -/
theorem whole_start {p : Program} {e : Env} {s : State} {m : MethodId} {below : List Frame} {meth : Method} {c : Code} (l : Launch) (hflags : l.flags = flags0) {b L : Nat} {xs : Nat → Int32} (hL : L ≤ 3584) (K0 : lw_At p s m meth c b L xs) : W p l e room_1 s m #[Value.ref b] below meth c s.heap [] 0 0 (lw_Z below #[Value.ref b] s) (entryFrame m ([Value.ref b] : List Value).toArray 7) := by
  obtain ⟨hx, hb, hr, hml, hown, hts, hX, hbl, hlocks, hgv⟩ := id K0
  have hfl : l.stackTraces = false := by unfold Launch.stackTraces; rw [hflags]; decide +kernel
  have htb : ∀ w ∈ BIG, w.before #[Value.ref b] s = true := fun w hw => hts w (List.mem_filter.mp hw).1
  obtain ⟨D, t, hK⟩ := st_K hts
  have hA : ∀ q : Nat, s.heap.size ≤ q → (fun q : Nat => s.heap.size ≤ q) q := fun _ h => h
  have B : CI (D, t, fun _ => 0) p s m #[Value.ref b] c cL_law RL 7 := ⟨hx, hb, hml, hown, htb, hK, st_nest hts, va_AO.of (tW hts 54 (by decide +kernel)), va_AO.of (tW hts 194 (by decide +kernel))⟩
  have h : HI (D, t, fun _ => 0) (fun q => s.heap.size ≤ q) s [] s.heap [] := ⟨fun k q h => by simp at h, ⟨fun i j p q h => by simp at h, fun k q h => by simp at h⟩, va_S.rf⟩
  have hl := lv_entry ([.ref b]) (n := 7) (Nat.le_of_ble_eq_true rfl)
  rw [lg_entry_eq]
  generalize (lg_sl ([.ref b]) ++ List.replicate (7 - (lg_sl ([.ref b])).length) Slot.unset).toArray = ls at hl ⊢
  have hl : lv_has ls 7 [(0, .ref b)] := hl
  refine i_new (ci := 10) (fs := [.null, .null, .null, .null, .null, .null, .null, .null, .null]) B h hA rfl in_X10 tyX10 tyX10_ok (big_at 21 (by decide +kernel) (by decide +kernel)) (big_at 22 (by decide +kernel) (by decide +kernel)) ki_X10 vw10 (Nat.le_of_ble_eq_true rfl) (Nat.le_of_ble_eq_true rfl) dL_law_0 (fun q0 H h => ?_)
  refine lv_dup B.hx B.hb dL_law_3 rfl ?_
  refine i_callI (As := []) (rest := [.ref q0]) (n := 0) B h hA (c_X10_init l (D, t, fun _ => 0) q0 H.size) hl.1 kc_X10_init (big_at 23 (by decide +kernel) (by decide +kernel)) ki_X10 kn_X10_init rfl ⟨by decide +kernel, by decide +kernel, by decide +kernel⟩ rfl rfl rfl ⟨(Nat.le_of_ble_eq_true rfl), (Nat.le_of_ble_eq_true rfl)⟩ (Nat.le_of_ble_eq_true rfl) ⟨(Nat.le_of_ble_eq_true rfl), (Nat.le_of_ble_eq_true rfl)⟩ dL_law_4 rfl (fun u H locs h => ?_)
  refine lv_astore_n (lv' := [(1, .ref q0), (0, .ref b)]) B.hx B.hb dL_law_7 rfl hl (by decide) rfl (fun ls hl => ?_)
  refine i_new (ci := 11) (fs := [.int 0, .null, .null, .null, .null, .null, .int 0, .int 0, .int 0, .null, .null, .null, .null, .null, .null, .null, .null, .null, .null, .null, .null, .null, .int 0, .null, .int 0, .null, .null, .null, .null, .int 0, .null, .null, .null, .null, .int 0, .null, .null, .int 0, .int 0, .int 0, .null, .null, .null, .null, .null, .null, .null, .null, .null, .null, .null, .null, .int 0, .int 0, .int 0, .int 0, .null, .null, .null, .null, .null, .null, .int 0, .int 0, .null, .null, .null, .null, .int 0, .int 0, .null, .int 0, .null, .null, .null, .int 0, .int 0, .null, .int 0, .int 0, .int 0, .int 0, .int 0, .int 0, .null, .int 0, .null, .null, .null, .null, .null, .null, .null, .null]) B h hA rfl in_X11 tyX11 tyX11_ok (big_at 1218 (by decide +kernel) (by decide +kernel)) (big_at 1219 (by decide +kernel) (by decide +kernel)) ki_X11 vw11 (Nat.le_of_ble_eq_true rfl) (Nat.le_of_ble_eq_true rfl) dL_law_8 (fun m0 H h => ?_)
  refine lv_dup B.hx B.hb dL_law_11 rfl ?_
  refine i_callI (As := []) (rest := [.ref m0]) (n := 0) B h hA (c_X11_init l (D, t, fun _ => 0) m0 H.size) hl.1 kc_X11_init (big_at 1220 (by decide +kernel) (by decide +kernel)) ki_X11 kn_X11_init rfl ⟨by decide +kernel, by decide +kernel, by decide +kernel⟩ rfl rfl rfl ⟨(Nat.le_of_ble_eq_true rfl), (Nat.le_of_ble_eq_true rfl)⟩ (Nat.le_of_ble_eq_true rfl) ⟨(Nat.le_of_ble_eq_true rfl), (Nat.le_of_ble_eq_true rfl)⟩ dL_law_12 rfl (fun v H locs h => ?_)
  refine lv_astore_n (lv' := [(2, .ref m0), (1, .ref q0), (0, .ref b)]) B.hx B.hb dL_law_15 rfl hl (by decide) rfl (fun ls hl => ?_)
  refine lv_iconst (v := 1) B.hx B.hb dL_law_16 (by decide) ?_
  refine i_newl B h hA 1 (by decide +kernel) (by decide +kernel) (Nat.le_of_ble_eq_true rfl) (Nat.le_of_ble_eq_true rfl) (Nat.le_of_ble_eq_true rfl) dL_law_17 (fun o H h => ?_)
  refine lv_astore_n (lv' := [(3, .ref o), (2, .ref m0), (1, .ref q0), (0, .ref b)]) B.hx B.hb dL_law_19 rfl hl (by decide) rfl (fun ls hl => ?_)
  refine lv_iconst (v := 0) B.hx B.hb dL_law_20 (by decide) ?_
  refine lv_istore (lv' := [(4, .int 0), (3, .ref o), (2, .ref m0), (1, .ref q0), (0, .ref b)]) B.hx B.hb dL_law_21 hl (by decide) rfl (fun ls hl => ?_)
  obtain ⟨U, V, hU0, hV0, hF, hw⟩ := st_made h
  subst hU0
  subst hV0
  have B2 : CL (D, t, U) V o p s m #[Value.ref b] c := ⟨hx, hb, hml, hown, htb, hK, hF, st_PN hts hgv, st_TX hts hgv, st_NC hgv⟩
  refine i_pc (pc' := 23) (c' := 209 + 4 * 0) (s' := 3753 + 24 * 0) rfl rfl rfl ?_
  exact lw_loop l hfl B2 hX hbl hL hr hlocks (L / 7) 0 (by omega) (by omega) C0 R0 (fun _ => 0) H locs ls rb_start hw (lv_sub hl [4, 3, 2, 1, 0] rfl)
