/-! ===== the law's calls, one after another (pure) ===== -/
def RB (c : Nat) (M m : Mem) : Prop := ∃ t u, t ≤ 2000 * c ∧ u ≤ 8 * c ∧ REL M m t u
def OB (km : Nat → Nat) (c : Nat) (f : Option XR) (g : Option (Int32 × Mem)) : Prop := ∃ k v N w n, f = some (k, v, N) ∧ g = some (w, n) ∧ n 0 0 = nI (km k) ∧ (k = 0 → v = w) ∧ kk km k ∧ RB (c + 1) N n
section Law
variable {c : Nat} {M m : Mem} {km : Nat → Nat} {f : Option XR} {g : Option (Int32 × Mem)} {p1 p2 p3 p4 p5 p6 : Int32}
theorem rb_start : RB 0 C0 R0 := ⟨0, 0, by omega, by omega, start_rel⟩
theorem obx (h : RB c M m) (hc : c < 512) (H : ∀ t u, t < 2 ^ 28 - 2 → u < 2 ^ 28 - 2 → REL M m t u → OUT km t u f g) : OB km c f g := by
  obtain ⟨t, u, h1, h2, h3⟩ := h
  obtain ⟨k, v, N, w, n, t', u', a1, a2, a3, a4, a5, a6, a7, a8, a9, a10⟩ := H t u (by omega) (by omega) h3
  exact ⟨k, v, N, w, n, a1, a2, a3, a4, a5, t', u', by omega, by omega, a10⟩
theorem ob_add (h : RB c M m) (hc : c < 512) : OB kmI c (f_X10_add 5000 p1 p2 p3 p4 p5 M) (f_X11_add 5000 p1 p2 p3 p4 p5 m) := obx h hc fun _ _ ht hu h => add_call (by omega) h (by omega) (by omega)
theorem ob_change (h : RB c M m) (hc : c < 512) : OB kmB c (f_X10_change 5000 p1 p2 p3 p4 M) (f_X11_change 5000 p1 p2 p3 p4 m) := obx h hc fun _ _ ht hu h => change_call (by omega) h (by omega) (by omega)
theorem ob_remove (h : RB c M m) (hc : c < 512) : OB kmC c (f_X10_remove 5000 p1 p2 M) (f_X11_remove 5000 p1 p2 m) := obx h hc fun _ _ ht hu h => remove_call (by omega) h (by omega) (by omega)
theorem ob_count (h : RB c M m) (hc : c < 512) : OB kmC c (f_X10_count 5000 p1 M) (f_X11_count 5000 p1 m) := obx h hc fun _ _ _ _ h => count_call h
theorem ob_cell (h : RB c M m) (hc : c < 512) : OB kmC c (f_X10_cell 5000 p1 p2 p3 M) (f_X11_cell 5000 p1 p2 p3 m) := obx h hc fun _ _ _ _ h => cell_call (by omega) h
theorem ob_setPace (h : RB c M m) (hc : c < 512) : OB kmB c (f_X10_setPace 5000 p1 p2 p3 M) (f_X11_setPace 5000 p1 p2 p3 m) := obx h hc fun _ _ _ _ h => setPace_call h
theorem ob_setBounds (h : RB c M m) (hc : c < 512) : OB kmB c (f_X10_setBounds 5000 p1 p2 p3 M) (f_X11_setBounds 5000 p1 p2 p3 m) := obx h hc fun _ _ _ _ h => setBounds_call h
theorem ob_setLease (h : RB c M m) (hc : c < 512) : OB kmB c (f_X10_setLease 5000 p1 p2 M) (f_X11_setLease 5000 p1 p2 m) := obx h hc fun _ _ ht _ h => setLease_call (by omega) h (by omega)
theorem ob_fail (h : RB c M m) (hc : c < 512) (hb : isb p3 = true) : OB kmB c (f_X10_fail 5000 p1 p2 p3 M) (f_X11_fail 5000 p1 p2 p3 m) := obx h hc fun _ _ _ _ h => fail_call h hb
theorem ob_forbid (h : RB c M m) (hc : c < 512) (hb : isb p3 = true) : OB kmC c (f_X10_forbid 5000 p1 p2 p3 M) (f_X11_forbid 5000 p1 p2 p3 m) := obx h hc fun _ _ _ _ h => forbid_call h hb
theorem ob_pass (h : RB c M m) (hc : c < 512) : OB kmP c (f_X10_pass 5000 p1 M) (f_X11_pass 5000 p1 m) := obx h hc fun _ _ ht _ h => pass_call (by omega) h (by omega)
theorem ob_seat (h : RB c M m) (hc : c < 512) : OB kmS c (f_X10_seat 5000 p1 M) (f_X11_seat 5000 p1 m) := obx h hc fun _ _ _ _ h => seat_call h
theorem ob_link (h : RB c M m) (hc : c < 512) : OB kmI c (f_X10_link 5000 p1 p2 p3 p4 M) (f_X11_link 5000 p1 p2 p3 p4 m) := obx h hc fun _ _ _ _ h => link_call h
theorem ob_where (h : RB c M m) (hc : c < 512) : OB kmI c (f_X10_where 5000 p1 p2 p3 p4 M) (f_X11_where 5000 p1 p2 p3 p4 m) := obx h hc fun _ _ _ _ h => where_call h
theorem ob_out (h : RB c M m) (hc : c < 512) : OB kmS c (f_X10_out 5000 p1 p2 M) (f_X11_out 5000 p1 p2 m) := obx h hc fun _ _ _ _ h => out_call h
theorem ob_ask (h : RB c M m) (hc : c < 512) : OB kmA c (f_X10_ask 5000 p1 p2 M) (f_X11_ask 5000 p1 p2 m) := obx h hc fun _ _ ht hu h => ask_call (by omega) h ht hu
theorem ob_answer (h : RB c M m) (hc : c < 512) : OB kmC c (f_X10_answer 5000 p1 p2 M) (f_X11_answer 5000 p1 p2 m) := obx h hc fun _ _ _ _ h => answer_call h
theorem ob_taken (h : RB c M m) (hc : c < 512) : OB kmC c (f_X10_taken 5000 p1 M) (f_X11_taken 5000 p1 m) := obx h hc fun _ _ _ _ h => taken_call h
theorem ob_size (h : RB c M m) (hc : c < 512) : OB kmC c (f_X10_size 5000 p1 M) (f_X11_size 5000 p1 m) := obx h hc fun _ _ _ _ h => size_call h
theorem ob_answersAnew (h : RB c M m) (hc : c < 512) : OB kmN c (f_X10_answersAnew 5000 M) (f_X11_answersAnew 5000 m) := obx h hc fun _ _ _ _ h => answersAnew_call (by omega) h
theorem ob_answerAnew (h : RB c M m) (hc : c < 512) : OB kmN c (f_X10_answerAnew 5000 p1 p2 M) (f_X11_answerAnew 5000 p1 p2 m) := obx h hc fun _ _ _ _ h => answerAnew_call (by omega) h
theorem ob_step (h : RB c M m) (hc : c < 512) : OB kmI c (f_X10_step 5000 p1 p2 p3 p4 p5 p6 M) (f_X11_step 5000 p1 p2 p3 p4 p5 p6 m) := obx h hc fun _ _ _ _ h => step_call h
theorem ob_run (h : RB c M m) (hc : c < 512) : OB kmR c (f_X10_run 5000 M) (f_X11_run 5000 m) := obx h hc fun _ _ ht hu h => run_call (by omega) h (by omega) (by omega)
theorem ob_shape (h : RB c M m) (hb : isb p2 = true) : ∃ k N n, f_X10_shape 5000 p1 p2 M = some (k, 0, N) ∧ f_X11_shape 5000 p1 p2 m = some n ∧ (k = 0 ∧ n 0 0 = 0 ∨ k = 2 ∧ n 0 0 = 1) ∧ RB (c + 1) N n := by
  obtain ⟨t, u, h1, h2, h3⟩ := h
  obtain ⟨k, N, n, a1, a2, a3, a4⟩ := shape_call (fu := 5000) (p1 := p1) h3 hb
  exact ⟨k, N, n, a1, a2, a3, t, u, by omega, by omega, a4⟩
theorem ob_clear (h : RB c M m) : ∃ v N n, f_X10_clear 5000 M = some (v, N) ∧ f_X11_clear 5000 m = some (v, n) ∧ RB (c + 1) N n := by
  obtain ⟨t, u, h1, h2, h3⟩ := h
  obtain ⟨v, N, n, a1, a2, _, a4⟩ := clear_call (fu := 5000) h3
  exact ⟨v, N, n, a1, a2, t, u, by omega, by omega, a4⟩
/-- what is got: both -/
def GB (c : Nat) (M : Mem) (f : Option Int32) (g : Option (Int32 × Mem)) : Prop := ∃ v n, f = some v ∧ g = some (v, n) ∧ RB (c + 1) M n
theorem gb {t u : Nat} {f : Option Int32} (h1 : t ≤ 2000 * c) (h2 : u ≤ 8 * c) (h : GET t u M f g) : GB c M f g := by
  obtain ⟨v, n, a1, a2, _, a4⟩ := h
  exact ⟨v, n, a1, a2, t, u, by omega, by omega, a4⟩
theorem ob_gets (h : RB c M m) : GB c M (f_X10_losses 5000 M) (f_X11_losses 5000 m) ∧ GB c M (f_X10_moment 5000 M) (f_X11_moment 5000 m) ∧ GB c M (f_X10_now 5000 M) (f_X11_now 5000 m) ∧ GB c M (f_X10_answers 5000 M) (f_X11_answers 5000 m) ∧ GB c M (f_X10_missing 5000 M) (f_X11_missing 5000 m) ∧ GB c M (f_X10_claims 5000 M) (f_X11_claims 5000 m) ∧ GB c M (f_X10_cost 5000 M) (f_X11_cost 5000 m) ∧ GB c M (f_X10_attempts 5000 M) (f_X11_attempts 5000 m) ∧ GB c M (f_X10_shipped 5000 M) (f_X11_shipped 5000 m) ∧ GB c M (f_X10_entries 5000 M) (f_X11_entries 5000 m) := by
  obtain ⟨t, u, h1, h2, h3⟩ := h
  obtain ⟨a1, a2, a3, a4, a5, a6, a7, a8, a9, a10⟩ := gets (fu := 5000) h3
  exact ⟨gb h1 h2 a1, gb h1 h2 a2, gb h1 h2 a3, gb h1 h2 a4, gb h1 h2 a5, gb h1 h2 a6, gb h1 h2 a7, gb h1 h2 a8, gb h1 h2 a9, gb h1 h2 a10⟩
/-- a script's word that isn't a call changes nothing -/
theorem rb_next (h : RB c M m) : RB (c + 1) M m := by
  obtain ⟨t, u, h1, h2, h3⟩ := h
  exact ⟨t, u, by omega, by omega, h3⟩
end Law
