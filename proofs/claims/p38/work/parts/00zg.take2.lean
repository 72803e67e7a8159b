/-! ===== a seat is taken: scanned, or served ===== -/
section Take2
variable {fu nS nL nC nO i j s t u e p c fr t0 dl c0 sc o f g h w : Nat} {M m N n : Mem} {RR : Nat → List Row} {A : List Row} {tk : Nat → Bool} {sn un : Nat → Nat}
/-- cells that the base doesn't look at -/
theorem AB.cg (h : AB M m t u nS nL nC nO RR t0 dl c0 sc) (fC : ∀ a, a ≤ 89 ∨ a = 121 → N a = M a) (fM : ∀ a, 0 < a → a ≤ 41 ∨ a = 48 → n a = m a) (h8 : N 120 8 = M 120 8) (h90 : N 90 9 = M 90 9 ∧ N 90 10 = M 90 10 ∧ N 90 11 = M 90 11) (f0 : ∀ j, j = 6 ∨ j = 7 ∨ j = 8 ∨ (22 ≤ j ∧ j ≤ 39) ∨ j = 52 ∨ j = 54 ∨ j = 55 ∨ j = 80 ∨ j = 81 ∨ j = 82 → n 0 j = m 0 j) : AB N n t u nS nL nC nO RR t0 dl c0 sc := by
  refine h.of (h.1.1.cg (fun a h1 h2 h3 => fC a (by omega)) (f0 7 (by omega)) (f0 8 (by omega)) (f0 39 (by omega)) (fun a h1 h2 => fM a (by omega) (by omega)) (fun a h1 h2 => fM a (by omega) (by omega))) (Nat.le_refl _) ?_ (fun a ha => fC a (by omega)) (fun a ha => fM a (by omega) (by omega)) (fun j hj => f0 j (by omega)) (h.2.2.2.1.cg (fC 59 (by omega)) (fM 18 (by omega) (by omega)))
  obtain ⟨q1, q2, q3, q4, q5, q6, q7, q8⟩ := h.2.2.2.2.2.2.1
  exact ⟨by rw [h8]; exact q1, by rw [f0 52 (by omega)]; exact q2, by rw [f0 54 (by omega)]; exact q3, by rw [h90.1]; exact q4, by rw [f0 80 (by omega)]; exact q5, by rw [f0 55 (by omega)]; exact q6, by rw [h90.2.1, f0 81 (by omega)]; exact q7, by rw [h90.2.2, f0 82 (by omega)]; exact q8⟩
theorem mk101_eq {x : Int32} (hi3 : i < 3) (hs : n 19 i = nI s) (hs6 : s < 6) (hu : n 0 7 = nI u) : mk101 (nI i) x n = mk128 (nI i) x (up (up n 46 i (n 5 s)) 47 i (nI u)) := by
  have c1 : (nI i).toNatClampNeg = i := nI_clamp (by omega)
  have c2 : (nI s).toNatClampNeg = s := nI_clamp (by omega)
  unfold mk101
  refine grd_to (inb_nI hi3 (by omega)) (grd_to (by rw [c1, hs]; exact inb_nI hs6 (by omega)) ?_)
  refine nm_to (w := up n 46 i (n 5 s)) (by rw [c1, hs, c2]) ?_
  refine nm_to (w := up (up n 46 i (n 5 s)) 47 i (nI u)) (by rw [c1, up_n (by omega), hu]) ?_
  rfl
/-- closing a seat that is as of now -/
theorem closeNow {opn : Bool} (hfu : 5000 ≤ fu) (hAB : AB N n t u nS nL nC nO RR t0 dl c0 sc) (hX : SX N n nS nC fr tk p o i u sn un) (hi : i < nS) (hit : tk i = false) (hs : n 19 i = nI s) (hs6 : s < 6) (hw : n 5 s = nI w) (hwu : w ≤ u) (hA1 : RC N (96 + 3 * i) A) (hA2 : RS n i A) (hok : okR A) (h7 : N 90 7 = nI (ob o i opn)) (h9 : N 120 9 = nI (max (mx3 tk sn) w)) (h10 : N 120 10 = nI (mn3 tk un u)) (hh : h < 4) : ∃ N' n', f_X1_close fu (nI i) (nI h) N = some N' ∧ mk101 (nI i) (nI (h + if opn = true then 10 else 0)) n = some n' ∧ SA N' n' t u nS nL nC nO RR t0 dl fr c0 sc (setB tk i) (p + 1) (ob o i opn) (setN sn i w) (setN un i u) := by
  have hi3 : i < 3 := by have := hAB.2.2.1.1.2; omega
  have hle := mn3_le (tk := tk) (un := un) (u := u) (fun j hj hjt => (hX.2.2.2.2.2.2.2.2.1 j hj hjt).2.2.2)
  rw [mk101_eq hi3 hs hs6 hAB.1.1.1.2.2.2, hw]
  refine close2 (n := up (up n 46 i (nI w)) 47 i (nI u)) hfu ?_ ?_ hi hit hA1 (hA2.cg (by rw [up_n (by omega), up_n (by omega)]) (by rw [up_n (by omega), up_n (by omega)]) (by rw [up_n (by omega), up_n (by omega)])) hok h7 h9 (by rw [h10]; congr 1; omega) (by rw [up_n (by omega), up_s]) up_s hwu (Nat.le_refl _) hh
  · exact hAB.cg (fun _ _ => rfl) (fun a h1 h2 => by rw [up_n (by omega), up_n (by omega)]) rfl ⟨rfl, rfl, rfl⟩ (fun j _ => by rw [up_n (by omega), up_n (by omega)])
  · refine hX.cg rfl rfl (fun _ _ _ _ h => h) rfl rfl (by rw [up_n (by omega), up_n (by omega)]) hit (fun j hj => by rw [up_n (by omega), up_m hj]) (fun j hj => by rw [up_m hj, up_n (by omega)]) (by rw [up_n (by omega), up_n (by omega)]) (by rw [up_n (by omega), up_n (by omega)]) (by rw [up_n (by omega), up_n (by omega)]) (by rw [up_n (by omega), up_n (by omega)]) (fun i' A' z1 z2 z3 => z3.cg (by rw [up_n (by omega), up_n (by omega)]) (by rw [up_n (by omega), up_n (by omega)]) (by rw [up_n (by omega), up_n (by omega)])) ⟨fun a h1 h2 => by rw [up_n (by omega), up_n (by omega)], fun j h1 h2 => by rw [up_n (by omega), up_n (by omega)]⟩ ⟨fun _ _ _ => rfl, fun a _ _ => by rw [up_n (by omega), up_n (by omega)], by rw [up_n (by omega), up_n (by omega)], by rw [up_n (by omega), up_n (by omega)]⟩
/-- a seat is scanned, and closed -/
theorem scanClose {b0 : Bool} (hfu : 5000 ≤ fu) (hAB : AB N n t u nS nL nC nO RR t0 dl c0 sc) (hX : SX N n nS nC fr tk p o i u sn un) (hi : i < nS) (hit : tk i = false) (hs : n 19 i = nI s) (hs6 : s < 6) (hw : n 5 s = nI w) (hwu : w ≤ u) (ht : t + 120 < 2 ^ 29) (hl : t0 + dl < 2 ^ 29) (hc : c0 + sc + 39 < 2 ^ 29) (h7 : N 90 7 = nI (ob o i b0)) (h9 : N 120 9 = nI (max (mx3 tk sn) w)) (h10 : N 120 10 = nI (mn3 tk un u)) (hh : h < 4) : ∃ N' n' t' sc' o' sn' un', bd (f_X1_scan fu (nI i) N) (fun M_27 => bd (f_X1_close fu (nI i) (nI h) M_27) (fun M_24 => some M_24)) = some N' ∧ bm (f_X11_scans fu (nI i) n) (fun r_28 M_29 => mk101 (nI i) (nI h + if r_28 = 0 then 0 else 10) M_29) = some n' ∧ t ≤ t' ∧ t' ≤ t + 120 ∧ sc' ≤ sc + 39 ∧ SA N' n' t' u nS nL nC nO RR t0 dl fr c0 sc' (setB tk i) (p + 1) o' sn' un' := by
  have hi3 : i < 3 := by have := hAB.2.2.1.1.2; omega
  have hbit := hX.2.2.2.2.1.2.2 i hi3 hit
  obtain ⟨P, q, A, opn, t', sc', g1, g2, g3, g4, g5, g6, g7, g8, g9, g10, g11, g12⟩ := scan2 hfu hAB hi ht hl hc hX.2.2.2.2.1.2.1 hbit h7
  have hX' := hX.fs hi3 hit g10 g11 g12
  have hs' : q 19 i = nI s := by rw [g11.1 19 (by omega)]; exact hs
  obtain ⟨w', k1, k2⟩ := (g5.1.2.2.1 s hs6).2.2.2.2
  have e5 : P 60 = q 5 := g5.1.2.2.2.2.1
  have hww : q 5 s = nI w := by rw [g11.1 5 (by omega)]; exact hw
  have p120 : ∀ j, P 120 j = N 120 j := fun j => by rw [g10.1 120 (by omega) (by omega) (by omega) (by omega) (by omega)]
  obtain ⟨N', n', v1, v2, v3⟩ := closeNow (h := h) (opn := opn) hfu g5 hX' hi hit hs' hs6 hww hwu g6 g7 g8 g9 (by rw [p120]; exact h9) (by rw [p120]; exact h10) hh
  refine ⟨N', n', t', sc', _, _, _, ?_, ?_, g3.1, g3.2, g4, v3⟩
  · rw [g1, bd_some, v1, bd_some]
  · rw [g2, bm_some, ← v2]
    congr 1
    cases opn with
    | true =>
      have : ¬ (bI true = 0) := by decide
      rw [if_neg this, if_pos rfl]
      exact nI_add h 10
    | false =>
      rw [if_pos (show bI false = 0 from rfl), if_neg (by decide)]
      exact nI_add h 0
end Take2
