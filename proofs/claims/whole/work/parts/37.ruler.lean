/-! Layer 2: how the reference works a line out -/
/-- the machine comes from depth d at a to depth d2 at b -/
def zq_run (F line d a d2 b : Nat) (μ μ2 : g_St) : Prop := a ≤ b ∧ ∀ n, mm_worked_14 F (nI line) (n + (b - a)) (nI d) (nI a) μ = mm_worked_14 F (nI line) n (nI d2) (nI b) μ2
theorem zq_run_trans {F line d a d2 b d3 c : Nat} {μ μ2 μ3 : g_St} (h : zq_run F line d a d2 b μ μ2) (h2 : zq_run F line d2 b d3 c μ2 μ3) : zq_run F line d a d3 c μ μ3 := by
  refine ⟨Nat.le_trans h.1 h2.1, fun n => ?_⟩
  have e : n + (c - a) = (n + (c - b)) + (b - a) := by have := h.1; have := h2.1; omega
  rw [e, h.2, h2.2]
/-- the machine's rows: what is left as it is below depth d, and at d but in some -/
def zq_id (id : Nat) : Prop := 19 ≤ id ∧ id ≤ 27
def zq_kp (d : Nat) (μ μ2 : g_St) : Prop := z_f (fun id => ¬ zq_id id) μ μ2 ∧ ∀ id e, zq_id id → e < d → μ2.1 id e = μ.1 id e
theorem zq_kp_refl {d : Nat} {μ : g_St} : zq_kp d μ μ := ⟨z_f_refl, fun _ _ _ _ => rfl⟩
theorem zq_kp_trans {d : Nat} {μ μ2 μ3 : g_St} (h : zq_kp d μ μ2) (h2 : zq_kp d μ2 μ3) : zq_kp d μ μ3 :=
  ⟨z_f_trans h.1 h2.1 (fun _ q => q) (fun _ q => q), fun id e h3 h4 => by rw [h2.2 id e h3 h4, h.2 id e h3 h4]⟩
theorem zq_kp_mono {d e : Nat} {μ μ2 : g_St} (h : zq_kp d μ μ2) (he : e ≤ d) : zq_kp e μ μ2 := ⟨h.1, fun id j h3 h4 => h.2 id j h3 (by omega)⟩
theorem zq_kp_sI {d k id : Nat} {μ : g_St} {v : Int32} (hi : zq_id id) (hk : d ≤ k) : zq_kp d μ (g_sI μ id k v) :=
  ⟨z_f_sI (P := fun id => ¬ zq_id id) (fun q => q hi), fun j e _ he => z_sI_k (by omega)⟩
/-- what the facts are, where the codes are -/
def zq_fc (f : Nat → Int32) (μ : g_St) : Prop := μ.1 28 1 = f 14 ∧ μ.1 28 2 = f 15 ∧ μ.1 28 3 = f 16 ∧ μ.1 28 4 = f 17 ∧ μ.1 28 5 = f 3 ∧ μ.1 28 6 = f 18 ∧ μ.1 28 7 = f 2 ∧ μ.1 28 8 = f 19
def zq_at (S : Nat → Int32) (line e : Nat) (f : Nat → Int32) (μ : g_St) : Prop := μ.1 16 = S ∧ line < 12 ∧ μ.1 15 line = nI e ∧ e ≤ 1000 ∧ zq_fc f μ
theorem zq_at_kp {S : Nat → Int32} {line e d : Nat} {f : Nat → Int32} {μ μ2 : g_St} (h : zq_at S line e f μ) (hk : zq_kp d μ μ2) : zq_at S line e f μ2 := by
  have e1 : μ2.1 16 = μ.1 16 := hk.1.1 _ (by unfold zq_id; omega)
  have e2 : μ2.1 15 = μ.1 15 := hk.1.1 _ (by unfold zq_id; omega)
  have e3 : μ2.1 28 = μ.1 28 := hk.1.1 _ (by unfold zq_id; omega)
  unfold zq_at zq_fc at *
  rw [e1, e2, e3]; exact h
/-- values in the making at depth d -/
def zq_sv (μ : g_St) (d : Nat) : Int32 := if μ.1 24 d = nI 21 then μ.1 23 d - μ.1 25 d else μ.1 23 d + μ.1 25 d
def zq_tv (μ : g_St) (d : Nat) : Int32 := if μ.1 22 d = nI 24 then (if μ.1 21 d < zq_sv μ d then nI 1 else nI 0) else if μ.1 22 d = nI 25 then (if μ.1 21 d = zq_sv μ d then nI 1 else nI 0) else zq_sv μ d
def zq_ev (μ : g_St) (d : Nat) : Int32 := if μ.1 20 d = nI 26 then zu_jn 11 (μ.1 19 d) (zq_tv μ d) else if μ.1 20 d = nI 27 then zu_jn 12 (μ.1 19 d) (zq_tv μ d) else zq_tv μ d
/-- the sum is drawn -/
theorem zq_sums {μ : g_St} {d : Nat} (hd : d < 7) : mm_sums (nI d) μ = some (g_sI (g_sI μ 23 d (zq_sv μ d)) 26 d (nI 0)) := by
  unfold mm_sums zq_sv
  simp (disch := omega) only [↓reduceIte, nI_lit, z_sbind, z_rd, z_rl, z_rr, z_wr, z_wl, nI_add, z_mul, z_lt, z_le, z_eq, z_ltm1, z_m1lt, z_eqm1, z_m1eq, z_lem1, z_m1le, if_true, if_false, ite_true, ite_false]
  split <;> rfl
/-- the test is drawn -/
def zq_tst (μ : g_St) (d : Nat) : g_St := g_sI (g_sI (g_sI (g_sI (g_sI (g_sI μ 23 d (zq_sv μ d)) 26 d (nI 0)) 19 d (zq_ev μ d)) 22 d (nI 0)) 23 d (nI 0)) 24 d (nI 20)
theorem zq_tests {μ : g_St} {d : Nat} (hd : d < 7) : mm_tests (nI d) μ = some (zq_tst μ d) := by
  unfold mm_tests
  rw [zq_sums hd]
  have g : ∀ (id : Nat), id ≠ 23 → id ≠ 26 → (g_sI (g_sI μ 23 d (zq_sv μ d)) 26 d (nI 0)).1 id d = μ.1 id d := fun id h1 h2 => by rw [z_sI_id h2, z_sI_id h1]
  have g23 : (g_sI (g_sI μ 23 d (zq_sv μ d)) 26 d (nI 0)).1 23 d = zq_sv μ d := by rw [z_sI_id (by omega), z_sI_same]
  have g22 := g 22 (by omega) (by omega)
  have g21 := g 21 (by omega) (by omega)
  have g20 := g 20 (by omega) (by omega)
  have g19 := g 19 (by omega) (by omega)
  unfold zq_tst
  generalize hμ : g_sI (g_sI μ 23 d (zq_sv μ d)) 26 d (nI 0) = ν at *
  have key : ∀ v, v = zq_tv μ d → mm_tests_76 (nI d) v ν = some (g_sI (g_sI (g_sI (g_sI ν 19 d (zq_ev μ d)) 22 d (nI 0)) 23 d (nI 0)) 24 d (nI 20)) := by
    intro v hv
    unfold mm_tests_76 mm_tests_104 mm_tests_105 mm_tests_106 mm_tests_130 mm_tests_135 mm_tests_136 zq_ev zu_jn
    simp (disch := omega) only [↓reduceIte, nI_lit, z_sbind, z_rd, z_rl, z_rr, z_wr, z_wl, nI_add, z_mul, z_lt, z_le, z_eq, z_ltm1, z_m1lt, z_eqm1, z_m1eq, z_lem1, z_m1le, if_true, if_false, ite_true, ite_false, g20, g19, ← hv]
    by_cases h1 : μ.1 20 d = nI 26
    · simp only [h1, if_true]
      by_cases h2 : μ.1 19 d = nI 0 <;> by_cases h3 : v = nI 0 <;> simp only [h2, h3, if_true, if_false, show (nI 26 = nI 27) = False from by rw [z_eq (by omega) (by omega)]; exact eq_false (by omega)]
    · simp only [h1, if_false]
      by_cases h4 : μ.1 20 d = nI 27
      · simp only [h4, if_true]
        by_cases h2 : μ.1 19 d = nI 0 <;> by_cases h3 : v = nI 0 <;> simp only [h2, h3, if_true, if_false, show ¬ (12 = 11) by omega]
      · simp only [h4, if_false]
  unfold mm_tests_43 mm_tests_44 mm_tests_75
  simp (disch := omega) only [↓reduceIte, nI_lit, z_sbind, z_rd, z_rl, z_rr, z_wr, z_wl, nI_add, z_mul, z_lt, z_le, z_eq, z_ltm1, z_m1lt, z_eqm1, z_m1eq, z_lem1, z_m1le, if_true, if_false, ite_true, ite_false, g23, g22, g21]
  unfold zq_tv at key
  by_cases h1 : μ.1 22 d = nI 24
  · simp only [h1, if_true] at key ⊢
    by_cases h2 : μ.1 21 d < zq_sv μ d
    · simp only [h2, if_true] at key ⊢
      simp only [show (nI 24 = nI 25) = False from by rw [z_eq (by omega) (by omega)]; exact eq_false (by omega), if_false]
      exact key _ rfl
    · simp only [h2, if_false] at key ⊢
      simp only [show (nI 24 = nI 25) = False from by rw [z_eq (by omega) (by omega)]; exact eq_false (by omega), if_false]
      exact key _ rfl
  · simp only [h1, if_false] at key ⊢
    by_cases h2 : μ.1 22 d = nI 25
    · simp only [h2, if_true] at key ⊢
      by_cases h3 : μ.1 21 d = zq_sv μ d
      · simp only [h3, if_true] at key ⊢; exact key _ rfl
      · simp only [h3, if_false] at key ⊢; exact key _ rfl
    · simp only [h2, if_false] at key ⊢; exact key _ rfl
