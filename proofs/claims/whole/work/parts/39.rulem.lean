/-! Layer 2: PRODUCT, SUM, TEST, E of the reference; a line; a RULE -/
def zq_ed (μ : g_St) (d : Nat) : Prop := d = 0 ∨ μ.1 27 d ≠ nI 1
def zq_M (S : Nat → Int32) (a b h : Nat) (φ : (Nat → Int32) → Int32) : Prop :=
  ∀ (F line e : Nat) (f : Nat → Int32) (μ : g_St) (d : Nat), zq_at S line e f μ → 10 < F → d + h < 7 → b ≤ e → zq_ed μ d → μ.1 26 d = nI 0 →
    ∃ μ2, zq_run F line d a d b μ μ2 ∧ zq_kp d μ μ2 ∧ (∀ id, zq_id id → id ≠ 25 → id ≠ 26 → μ2.1 id d = μ.1 id d) ∧ μ2.1 25 d = φ f
def zq_S (S : Nat → Int32) (a b h : Nat) (φ : (Nat → Int32) → Int32) : Prop :=
  ∀ (F line e : Nat) (f : Nat → Int32) (μ : g_St) (d : Nat), zq_at S line e f μ → 10 < F → d + h < 7 → b ≤ e → zq_ed μ d → μ.1 26 d = nI 0 → μ.1 23 d = nI 0 → μ.1 24 d = nI 20 →
    ∃ μ2, zq_run F line d a d b μ μ2 ∧ zq_kp d μ μ2 ∧ (∀ id, zq_id id → (id < 23 ∨ 26 < id) → μ2.1 id d = μ.1 id d) ∧ zq_sv μ2 d = φ f
def zq_T (S : Nat → Int32) (a b h : Nat) (φ : (Nat → Int32) → Int32) : Prop :=
  ∀ (F line e : Nat) (f : Nat → Int32) (μ : g_St) (d : Nat), zq_at S line e f μ → 10 < F → d + h < 7 → b ≤ e → zq_ed μ d → μ.1 26 d = nI 0 → μ.1 23 d = nI 0 → μ.1 24 d = nI 20 → μ.1 22 d = nI 0 →
    ∃ μ2, zq_run F line d a d b μ μ2 ∧ zq_kp d μ μ2 ∧ (∀ id, zq_id id → (id < 21 ∨ 26 < id) → μ2.1 id d = μ.1 id d) ∧ zq_tv μ2 d = φ f
def zq_E (S : Nat → Int32) (a b h : Nat) (φ : (Nat → Int32) → Int32) : Prop :=
  ∀ (F line e : Nat) (f : Nat → Int32) (μ : g_St) (d : Nat), zq_at S line e f μ → 10 < F → d + h < 7 → b ≤ e → zq_ed μ d → μ.1 26 d = nI 0 → μ.1 23 d = nI 0 → μ.1 24 d = nI 20 → μ.1 22 d = nI 0 → μ.1 20 d = nI 0 →
    ∃ μ2, zq_run F line d a d b μ μ2 ∧ zq_kp d μ μ2 ∧ μ2.1 27 d = μ.1 27 d ∧ zq_ev μ2 d = φ f
theorem zq_P_h {S : Nat → Int32} {a b h h2 : Nat} {φ : (Nat → Int32) → Int32} (p : zq_P S a b h φ) (hh : h ≤ h2) : zq_P S a b h2 φ :=
  fun F line e f μ d hat hF hd hb => p F line e f μ d hat hF (by omega) hb
theorem zq_ed_eq {μ μ2 : g_St} {d : Nat} (h : zq_ed μ d) (e : μ2.1 27 d = μ.1 27 d) : zq_ed μ2 d := by
  unfold zq_ed at *; rw [e]; exact h
theorem zq_i {n : Nat} (h : 19 ≤ n ∧ n ≤ 27) : zq_id n := h
/-- PRODUCT -/
theorem zq_M_P {S : Nat → Int32} {a b h : Nat} {φ : (Nat → Int32) → Int32} (p : zq_P S a b h φ) : zq_M S a b h φ := by
  intro F line e f μ d hat hF hd hb hed h26
  obtain ⟨μ2, r2, k2, h2⟩ := p F line e f μ d hat hF hd hb
  have e1 := zq_fd_ed (v := φ f) hed
  unfold zq_fs at h2
  rw [e1] at r2 k2 h2
  refine ⟨μ2, r2, k2, fun id hid n1 _ => ?_, ?_⟩
  · rw [h2 id hid, z_sI_id n1]
  · rw [h2 25 (zq_i (by omega)), z_sI_same, if_pos h26]
theorem zq_t22 {S : Nat → Int32} {F line d a e : Nat} {f : Nat → Int32} {μ : g_St} (hat : zq_at S line e f μ) (ha : a < e) (hd : d < 7) (hS : S a = nI 22) : zq_run F line d a d (a + 1) μ (g_sI μ 26 d (nI 22)) := by
  refine ⟨by omega, fun n => zq_turn hat ha n ?_⟩
  obtain ⟨h16, hl, h15, he, hfc⟩ := hat
  have e1 : μ.1 16 a = nI 22 := by rw [h16, hS]
  unfold mm_worked_14_b
  rw [z_rd hl (by omega), z_sbind, h15, if_pos (nI_lt ha (by omega)), z_rd (by omega) (by omega), z_sbind, e1]
  simp (disch := omega) only [↓reduceIte, nI_lit, z_eq, z_wr, z_sbind, nI_add, show ¬ (22 = 28) by omega, show ¬ (22 = 30) by omega, show ¬ (22 = 20) by omega, show ¬ (22 = 21) by omega]
theorem zq_M_mul {S : Nat → Int32} {a b c h : Nat} {φ ψ : (Nat → Int32) → Int32} (x : zq_M S a b h φ) (hS : S b = nI 22) (y : zq_P S (b + 1) c h ψ) (hbc : b + 1 ≤ c) : zq_M S a c h (fun f => zu_jn 42 (φ f) (ψ f)) := by
  intro F line e f μ d hat hF hd hb hed h26
  obtain ⟨μ2, r2, k2, h2, v2⟩ := x F line e f μ d hat hF hd (by omega) hed h26
  have r3 := zq_t22 (F := F) (d := d) (a := b) (zq_at_kp hat k2) (by omega) (by omega) hS
  have k3 : zq_kp d μ2 (g_sI μ2 26 d (nI 22)) := zq_kp_sI (zq_i (by omega)) (Nat.le_refl _)
  obtain ⟨μ4, r4, k4, h4⟩ := y F line e f (g_sI μ2 26 d (nI 22)) d (zq_at_kp (zq_at_kp hat k2) k3) hF hd hb
  have hed3 : zq_ed (g_sI μ2 26 d (nI 22)) d := zq_ed_eq hed (by rw [z_sI_id (by omega), h2 27 (zq_i (by omega)) (by omega) (by omega)])
  have e1 := zq_fd_ed (v := ψ f) hed3
  unfold zq_fs at h4
  rw [e1] at r4 k4 h4
  refine ⟨μ4, zq_run_trans (zq_run_trans r2 r3) r4, zq_kp_trans (zq_kp_trans k2 k3) k4, fun id hid n1 n2 => ?_, ?_⟩
  · rw [h4 id hid, z_sI_id n1, z_sI_id n2, h2 id hid n1 n2]
  · rw [h4 25 (zq_i (by omega)), z_sI_same, z_sI_same, if_neg (by rw [z_eq (by omega) (by omega)]; omega), z_sI_id (by omega), v2]
    rfl
/-- SUM -/
theorem zq_S_M {S : Nat → Int32} {a b h : Nat} {φ : (Nat → Int32) → Int32} (p : zq_M S a b h φ) : zq_S S a b h φ := by
  intro F line e f μ d hat hF hd hb hed h26 h23 h24
  obtain ⟨μ2, r2, k2, h2, v2⟩ := p F line e f μ d hat hF hd hb hed h26
  refine ⟨μ2, r2, k2, fun id hid n1 => h2 id hid (by omega) (by omega), ?_⟩
  unfold zq_sv
  rw [h2 24 (zq_i (by omega)) (by omega) (by omega), h24, if_neg (by rw [z_eq (by omega) (by omega)]; omega), h2 23 (zq_i (by omega)) (by omega) (by omega), h23, v2]
  exact Int32.zero_add _
theorem zq_t20 {S : Nat → Int32} {F line d a e c : Nat} {f : Nat → Int32} {μ : g_St} (hat : zq_at S line e f μ) (ha : a < e) (hd : d < 7) (hc : c = 20 ∨ c = 21) (hS : S a = nI c) : zq_run F line d a d (a + 1) μ (g_sI (g_sI (g_sI μ 23 d (zq_sv μ d)) 26 d (nI 0)) 24 d (nI c)) := by
  refine ⟨by omega, fun n => zq_turn hat ha n ?_⟩
  obtain ⟨h16, hl, h15, he, hfc⟩ := hat
  have e1 : μ.1 16 a = nI c := by rw [h16, hS]
  unfold mm_worked_14_b
  rw [z_rd hl (by omega), z_sbind, h15, if_pos (nI_lt ha (by omega)), z_rd (by omega) (by omega), z_sbind, e1]
  have q : mm_worked_89 F (mm_worked_14 F (nI line) n) (nI line) (nI d) (nI a) (nI c) μ = mm_worked_14 F (nI line) n (nI d) (nI (a + 1)) (g_sI (g_sI (g_sI μ 23 d (zq_sv μ d)) 26 d (nI 0)) 24 d (nI c)) := by
    unfold mm_worked_89
    rw [zq_sums hd, z_sbind, z_wr hd (by omega), z_sbind, nI_1]
  rcases hc with rfl | rfl
  · simp (disch := omega) only [↓reduceIte, nI_lit, z_eq, show ¬ (20 = 28) by omega, show ¬ (20 = 30) by omega]; exact q
  · simp (disch := omega) only [↓reduceIte, nI_lit, z_eq, show ¬ (21 = 28) by omega, show ¬ (21 = 30) by omega, show ¬ (21 = 20) by omega]; exact q
theorem zq_S_add {S : Nat → Int32} {a b c h o : Nat} {φ ψ : (Nat → Int32) → Int32} (x : zq_S S a b h φ) (ho : o = 20 ∨ o = 21) (hS : S b = nI o) (y : zq_M S (b + 1) c h ψ) (hbc : b + 1 ≤ c) : zq_S S a c h (fun f => zu_jn (if o = 20 then 43 else 45) (φ f) (ψ f)) := by
  intro F line e f μ d hat hF hd hb hed h26 h23 h24
  obtain ⟨μ2, r2, k2, h2, v2⟩ := x F line e f μ d hat hF hd (by omega) hed h26 h23 h24
  have r3 := zq_t20 (F := F) (d := d) (a := b) (zq_at_kp hat k2) (by omega) (by omega) ho hS
  have k3 : zq_kp d μ2 (g_sI (g_sI (g_sI μ2 23 d (zq_sv μ2 d)) 26 d (nI 0)) 24 d (nI o)) := zq_kp_trans (zq_kp_trans (zq_kp_sI (zq_i (by omega)) (Nat.le_refl _)) (zq_kp_sI (zq_i (by omega)) (Nat.le_refl _))) (zq_kp_sI (zq_i (by omega)) (Nat.le_refl _))
  have o3 : ∀ id, id ≠ 23 → id ≠ 26 → id ≠ 24 → (g_sI (g_sI (g_sI μ2 23 d (zq_sv μ2 d)) 26 d (nI 0)) 24 d (nI o)).1 id d = μ2.1 id d := fun id a1 a2 a3 => by rw [z_sI_id a3, z_sI_id a2, z_sI_id a1]
  obtain ⟨μ4, r4, k4, h4, v4⟩ := y F line e f _ d (zq_at_kp (zq_at_kp hat k2) k3) hF hd hb (zq_ed_eq hed (by rw [o3 27 (by omega) (by omega) (by omega), h2 27 (zq_i (by omega)) (by omega)])) (by rw [z_sI_id (by omega), z_sI_same])
  refine ⟨μ4, zq_run_trans (zq_run_trans r2 r3) r4, zq_kp_trans (zq_kp_trans k2 k3) k4, fun id hid n1 => ?_, ?_⟩
  · rw [h4 id hid (by omega) (by omega), o3 id (by omega) (by omega) (by omega), h2 id hid n1]
  · unfold zq_sv
    rw [h4 24 (zq_i (by omega)) (by omega) (by omega), z_sI_same, h4 23 (zq_i (by omega)) (by omega) (by omega), z_sI_id (by omega), z_sI_id (by omega), z_sI_same, v2, v4]
    rcases ho with rfl | rfl
    · rw [if_neg (by rw [z_eq (by omega) (by omega)]; omega)]; rfl
    · rw [if_pos rfl]; rfl
/-- TEST -/
theorem zq_T_S {S : Nat → Int32} {a b h : Nat} {φ : (Nat → Int32) → Int32} (p : zq_S S a b h φ) : zq_T S a b h φ := by
  intro F line e f μ d hat hF hd hb hed h26 h23 h24 h22
  obtain ⟨μ2, r2, k2, h2, v2⟩ := p F line e f μ d hat hF hd hb hed h26 h23 h24
  refine ⟨μ2, r2, k2, fun id hid n1 => h2 id hid (by omega), ?_⟩
  unfold zq_tv
  rw [h2 22 (zq_i (by omega)) (by omega), h22, if_neg (by rw [z_eq (by omega) (by omega)]; omega), if_neg (by rw [z_eq (by omega) (by omega)]; omega), v2]
theorem zq_t24 {S : Nat → Int32} {F line d a e c : Nat} {f : Nat → Int32} {μ : g_St} (hat : zq_at S line e f μ) (ha : a < e) (hd : d < 7) (hc : c = 24 ∨ c = 25) (hS : S a = nI c) : zq_run F line d a d (a + 1) μ (g_sI (g_sI (g_sI (g_sI (g_sI (g_sI μ 23 d (zq_sv μ d)) 26 d (nI 0)) 21 d (zq_sv μ d)) 22 d (nI c)) 23 d (nI 0)) 24 d (nI 20)) := by
  refine ⟨by omega, fun n => zq_turn hat ha n ?_⟩
  obtain ⟨h16, hl, h15, he, hfc⟩ := hat
  have e1 : μ.1 16 a = nI c := by rw [h16, hS]
  unfold mm_worked_14_b
  rw [z_rd hl (by omega), z_sbind, h15, if_pos (nI_lt ha (by omega)), z_rd (by omega) (by omega), z_sbind, e1]
  have q : mm_worked_137 F (mm_worked_14 F (nI line) n) (nI line) (nI d) (nI a) (nI c) μ = mm_worked_14 F (nI line) n (nI d) (nI (a + 1)) (g_sI (g_sI (g_sI (g_sI (g_sI (g_sI μ 23 d (zq_sv μ d)) 26 d (nI 0)) 21 d (zq_sv μ d)) 22 d (nI c)) 23 d (nI 0)) 24 d (nI 20)) := by
    unfold mm_worked_137
    rw [zq_sums hd, z_sbind, z_rd hd (by omega), z_sbind, z_sI_id (by omega), z_sI_same]
    simp (disch := omega) only [↓reduceIte, nI_lit, z_sbind, z_rd, z_rl, z_rr, z_wr, z_wl, nI_add, z_mul, z_lt, z_le, z_eq, z_ltm1, z_m1lt, z_eqm1, z_m1eq, z_lem1, z_m1le, if_true, if_false, ite_true, ite_false]
  rcases hc with rfl | rfl
  · simp (disch := omega) only [↓reduceIte, nI_lit, z_eq, show ¬ (24 = 28) by omega, show ¬ (24 = 30) by omega, show ¬ (24 = 20) by omega, show ¬ (24 = 21) by omega, show ¬ (24 = 22) by omega]; exact q
  · simp (disch := omega) only [↓reduceIte, nI_lit, z_eq, show ¬ (25 = 28) by omega, show ¬ (25 = 30) by omega, show ¬ (25 = 20) by omega, show ¬ (25 = 21) by omega, show ¬ (25 = 22) by omega, show ¬ (25 = 24) by omega]; exact q
theorem zq_T_cmp {S : Nat → Int32} {a b c h o : Nat} {φ ψ : (Nat → Int32) → Int32} (x : zq_S S a b h φ) (ho : o = 24 ∨ o = 25) (hS : S b = nI o) (y : zq_S S (b + 1) c h ψ) (hbc : b + 1 ≤ c) : zq_T S a c h (fun f => zu_jn (if o = 24 then 60 else 61) (φ f) (ψ f)) := by
  intro F line e f μ d hat hF hd hb hed h26 h23 h24 h22
  obtain ⟨μ2, r2, k2, h2, v2⟩ := x F line e f μ d hat hF hd (by omega) hed h26 h23 h24
  have r3 := zq_t24 (F := F) (d := d) (a := b) (zq_at_kp hat k2) (by omega) (by omega) ho hS
  have k3 : zq_kp d μ2 (g_sI (g_sI (g_sI (g_sI (g_sI (g_sI μ2 23 d (zq_sv μ2 d)) 26 d (nI 0)) 21 d (zq_sv μ2 d)) 22 d (nI o)) 23 d (nI 0)) 24 d (nI 20)) := by
    refine zq_kp_trans (zq_kp_trans (zq_kp_trans (zq_kp_trans (zq_kp_trans (zq_kp_sI ?_ ?_) (zq_kp_sI ?_ ?_)) (zq_kp_sI ?_ ?_)) (zq_kp_sI ?_ ?_)) (zq_kp_sI ?_ ?_)) (zq_kp_sI ?_ ?_) <;> (first | exact Nat.le_refl _ | (unfold zq_id; omega))
  have o3 : ∀ id, (id < 21 ∨ 26 < id) → (g_sI (g_sI (g_sI (g_sI (g_sI (g_sI μ2 23 d (zq_sv μ2 d)) 26 d (nI 0)) 21 d (zq_sv μ2 d)) 22 d (nI o)) 23 d (nI 0)) 24 d (nI 20)).1 id d = μ2.1 id d := fun id a1 => by rw [z_sI_id (by omega), z_sI_id (by omega), z_sI_id (by omega), z_sI_id (by omega), z_sI_id (by omega), z_sI_id (by omega)]
  obtain ⟨μ4, r4, k4, h4, v4⟩ := y F line e f _ d (zq_at_kp (zq_at_kp hat k2) k3) hF hd hb (zq_ed_eq hed (by rw [o3 27 (by omega), h2 27 (zq_i (by omega)) (by omega)])) (by rw [z_sI_id (by omega), z_sI_id (by omega), z_sI_id (by omega), z_sI_id (by omega), z_sI_same]) (by rw [z_sI_id (by omega), z_sI_same]) (by rw [z_sI_same])
  refine ⟨μ4, zq_run_trans (zq_run_trans r2 r3) r4, zq_kp_trans (zq_kp_trans k2 k3) k4, fun id hid n1 => ?_, ?_⟩
  · rw [h4 id hid (by omega), o3 id n1, h2 id hid (by omega)]
  · unfold zq_tv
    rw [h4 22 (zq_i (by omega)) (by omega), z_sI_id (by omega), z_sI_id (by omega), z_sI_same, h4 21 (zq_i (by omega)) (by omega), z_sI_id (by omega), z_sI_id (by omega), z_sI_id (by omega), z_sI_same, v2, v4]
    rcases ho with rfl | rfl
    · rw [if_pos rfl]; rfl
    · rw [if_neg (by rw [z_eq (by omega) (by omega)]; omega), if_pos rfl]; rfl
/-- E -/
theorem zq_E_T {S : Nat → Int32} {a b h : Nat} {φ : (Nat → Int32) → Int32} (p : zq_T S a b h φ) : zq_E S a b h φ := by
  intro F line e f μ d hat hF hd hb hed h26 h23 h24 h22 h20
  obtain ⟨μ2, r2, k2, h2, v2⟩ := p F line e f μ d hat hF hd hb hed h26 h23 h24 h22
  refine ⟨μ2, r2, k2, h2 27 (zq_i (by omega)) (by omega), ?_⟩
  unfold zq_ev
  rw [h2 20 (zq_i (by omega)) (by omega), h20, if_neg (by rw [z_eq (by omega) (by omega)]; omega), if_neg (by rw [z_eq (by omega) (by omega)]; omega), v2]
theorem zq_t26 {S : Nat → Int32} {F line d a e c : Nat} {f : Nat → Int32} {μ : g_St} (hat : zq_at S line e f μ) (ha : a < e) (hd : d < 7) (hc : c = 26 ∨ c = 27) (hS : S a = nI c) : zq_run F line d a d (a + 1) μ (g_sI (zq_tst μ d) 20 d (nI c)) := by
  refine ⟨by omega, fun n => zq_turn hat ha n ?_⟩
  obtain ⟨h16, hl, h15, he, hfc⟩ := hat
  have e1 : μ.1 16 a = nI c := by rw [h16, hS]
  unfold mm_worked_14_b
  rw [z_rd hl (by omega), z_sbind, h15, if_pos (nI_lt ha (by omega)), z_rd (by omega) (by omega), z_sbind, e1]
  have q : mm_worked_194 F (mm_worked_14 F (nI line) n) (nI line) (nI d) (nI a) (nI c) μ = mm_worked_14 F (nI line) n (nI d) (nI (a + 1)) (g_sI (zq_tst μ d) 20 d (nI c)) := by
    unfold mm_worked_194
    rw [zq_tests hd, z_sbind, z_wr hd (by omega), z_sbind, nI_1]
  rcases hc with rfl | rfl
  · simp (disch := omega) only [↓reduceIte, nI_lit, z_eq, show ¬ (26 = 28) by omega, show ¬ (26 = 30) by omega, show ¬ (26 = 20) by omega, show ¬ (26 = 21) by omega, show ¬ (26 = 22) by omega, show ¬ (26 = 24) by omega, show ¬ (26 = 25) by omega]; exact q
  · simp (disch := omega) only [↓reduceIte, nI_lit, z_eq, show ¬ (27 = 28) by omega, show ¬ (27 = 30) by omega, show ¬ (27 = 20) by omega, show ¬ (27 = 21) by omega, show ¬ (27 = 22) by omega, show ¬ (27 = 24) by omega, show ¬ (27 = 25) by omega, show ¬ (27 = 26) by omega]; exact q
theorem zq_tst_kp {μ : g_St} {d : Nat} : zq_kp d μ (zq_tst μ d) := by
  unfold zq_tst
  refine zq_kp_trans (zq_kp_trans (zq_kp_trans (zq_kp_trans (zq_kp_trans (zq_kp_sI ?_ ?_) (zq_kp_sI ?_ ?_)) (zq_kp_sI ?_ ?_)) (zq_kp_sI ?_ ?_)) (zq_kp_sI ?_ ?_)) (zq_kp_sI ?_ ?_) <;> (first | exact Nat.le_refl _ | (unfold zq_id; omega))
theorem zq_E_and {S : Nat → Int32} {a b c h o : Nat} {φ ψ : (Nat → Int32) → Int32} (x : zq_E S a b h φ) (ho : o = 26 ∨ o = 27) (hS : S b = nI o) (y : zq_T S (b + 1) c h ψ) (hbc : b + 1 ≤ c) : zq_E S a c h (fun f => zu_jn (if o = 26 then 11 else 12) (φ f) (ψ f)) := by
  intro F line e f μ d hat hF hd hb hed h26 h23 h24 h22 h20
  obtain ⟨μ2, r2, k2, h2, v2⟩ := x F line e f μ d hat hF hd (by omega) hed h26 h23 h24 h22 h20
  have r3 := zq_t26 (F := F) (d := d) (a := b) (zq_at_kp hat k2) (by omega) (by omega) ho hS
  have k3 : zq_kp d μ2 (g_sI (zq_tst μ2 d) 20 d (nI o)) := zq_kp_trans zq_tst_kp (zq_kp_sI (zq_i (by omega)) (Nat.le_refl _))
  have g27 : (g_sI (zq_tst μ2 d) 20 d (nI o)).1 27 d = μ2.1 27 d := by unfold zq_tst; rw [z_sI_id (by omega), z_sI_id (by omega), z_sI_id (by omega), z_sI_id (by omega), z_sI_id (by omega), z_sI_id (by omega), z_sI_id (by omega)]
  have g26 : (g_sI (zq_tst μ2 d) 20 d (nI o)).1 26 d = nI 0 := by unfold zq_tst; rw [z_sI_id (by omega), z_sI_id (by omega), z_sI_id (by omega), z_sI_id (by omega), z_sI_id (by omega), z_sI_same]
  have g24 : (g_sI (zq_tst μ2 d) 20 d (nI o)).1 24 d = nI 20 := by unfold zq_tst; rw [z_sI_id (by omega), z_sI_same]
  have g23 : (g_sI (zq_tst μ2 d) 20 d (nI o)).1 23 d = nI 0 := by unfold zq_tst; rw [z_sI_id (by omega), z_sI_id (by omega), z_sI_same]
  have g22 : (g_sI (zq_tst μ2 d) 20 d (nI o)).1 22 d = nI 0 := by unfold zq_tst; rw [z_sI_id (by omega), z_sI_id (by omega), z_sI_id (by omega), z_sI_same]
  have g19 : (g_sI (zq_tst μ2 d) 20 d (nI o)).1 19 d = zq_ev μ2 d := by unfold zq_tst; rw [z_sI_id (by omega), z_sI_id (by omega), z_sI_id (by omega), z_sI_id (by omega), z_sI_same]
  obtain ⟨μ4, r4, k4, h4, v4⟩ := y F line e f _ d (zq_at_kp (zq_at_kp hat k2) k3) hF hd hb (zq_ed_eq hed (by rw [g27, h2])) g26 g23 g24 g22
  refine ⟨μ4, zq_run_trans (zq_run_trans r2 r3) r4, zq_kp_trans (zq_kp_trans k2 k3) k4, ?_, ?_⟩
  · rw [h4 27 (zq_i (by omega)) (by omega), g27, h2]
  · unfold zq_ev
    rw [h4 20 (zq_i (by omega)) (by omega), z_sI_same, h4 19 (zq_i (by omega)) (by omega), g19, v2, v4]
    rcases ho with rfl | rfl
    · rw [if_pos rfl]; rfl
    · rw [if_neg (by rw [z_eq (by omega) (by omega)]; omega), if_pos rfl]; rfl
/-- ( E ) -/
theorem zq_P_par {S : Nat → Int32} {a b h : Nat} {φ : (Nat → Int32) → Int32} (hS : S a = nI 28) (x : zq_E S (a + 1) b h φ) (hab : a + 1 ≤ b) (hS2 : S b = nI 29) : zq_P S a (b + 1) (h + 1) φ := by
  intro F line e f μ d hat hF hd hb
  have r1 := zq_opens (F := F) (d := d) hat (by omega) (by omega) (Or.inl rfl) hS
  rw [if_neg (by omega)] at r1
  have k1 := zq_op_kp (μ := μ) (d := d + 1) (v := nI 0)
  have hat1 := zq_at_kp hat k1
  obtain ⟨μ2, r2, k2, h2, v2⟩ := x F line e f (zq_op μ (d + 1) (nI 0)) (d + 1) hat1 hF (by omega) (by omega)
    (Or.inr (by unfold zq_op; rw [z_sI_id (by omega), z_sI_id (by omega), z_sI_id (by omega), z_sI_id (by omega), z_sI_id (by omega), z_sI_same, ne_eq, z_01]; exact fun h => h))
    (by unfold zq_op; rw [z_sI_same]) (by unfold zq_op; rw [z_sI_id (by omega), z_sI_id (by omega), z_sI_same]) (by unfold zq_op; rw [z_sI_id (by omega), z_sI_same]) (by unfold zq_op; rw [z_sI_id (by omega), z_sI_id (by omega), z_sI_id (by omega), z_sI_same]) (by unfold zq_op; rw [z_sI_id (by omega), z_sI_id (by omega), z_sI_id (by omega), z_sI_id (by omega), z_sI_same])
  have k3 := zq_tst_kp (μ := μ2) (d := d + 1)
  have hat2 := zq_at_kp hat1 k2
  have hat3 := zq_at_kp hat2 k3
  have g19 : (zq_tst μ2 (d + 1)).1 19 (d + 1) = φ f := by unfold zq_tst; rw [z_sI_id (by omega), z_sI_id (by omega), z_sI_id (by omega), z_sI_same, v2]
  have k4 : zq_kp (d + 1) μ (zq_tst μ2 (d + 1)) := zq_kp_trans (zq_kp_trans k1 k2) k3
  have r3 : zq_run F line (d + 1) b (zq_fd (zq_tst μ2 (d + 1)) d (φ f)).1 (b + 1) μ2 (zq_fs (zq_tst μ2 (d + 1)) d (φ f)) := by
    refine ⟨by omega, fun n => zq_turn hat2 (by omega) n ?_⟩
    obtain ⟨h16, hl, h15, he, hfc⟩ := hat2
    have e1 : μ2.1 16 b = nI 29 := by rw [h16, hS2]
    have e3 : (nI (d + 1) + -nI 1 : Int32) = nI d := by rw [← Int32.sub_eq_add_neg, z_sub (by omega)]; rfl
    unfold mm_worked_14_b
    rw [z_rd hl (by omega), z_sbind, h15, if_pos (nI_lt (by omega) (by omega)), z_rd (by omega) (by omega), z_sbind, e1]
    simp (disch := omega) only [↓reduceIte, nI_lit, z_eq, z_le, z_lt, show ¬ (29 = 28) by omega, show ¬ (29 = 30) by omega, show ¬ (29 = 20) by omega, show ¬ (29 = 21) by omega, show ¬ (29 = 22) by omega, show ¬ (29 = 24) by omega, show ¬ (29 = 25) by omega, show ¬ (29 = 26) by omega, show ¬ (29 = 27) by omega, show ¬ (100 ≤ 29) by omega, show ¬ (29 < 20) by omega]
    unfold mm_worked_243
    rw [if_pos (show nI 29 = 29 from rfl), zq_tests (by omega), z_sbind, z_rd (by omega) (by omega), z_sbind, g19, show (-1 : Int32) = -nI 1 from rfl, e3, zq_pop (by omega) (by omega), nI_1]
  have efd : zq_fd (zq_tst μ2 (d + 1)) d (φ f) = zq_fd μ d (φ f) := zq_fd_congr (fun j hj => k4.2 27 j (zq_i (by omega)) (by omega))
  have hle := zq_fd_le μ d (φ f)
  rw [efd] at r3
  have hr : ∀ id, zq_id id → (zq_tst μ2 (d + 1)).1 id (zq_fd μ d (φ f)).1 = μ.1 id (zq_fd μ d (φ f)).1 := fun id hid => k4.2 id _ hid (by omega)
  refine ⟨zq_fs (zq_tst μ2 (d + 1)) d (φ f), zq_run_trans (zq_run_trans r1 r2) r3, zq_kp_trans (zq_kp_mono k4 (by omega)) ?_, fun id hid => ?_⟩
  · unfold zq_fs; rw [efd]; exact zq_kp_sI (zq_i (by omega)) (Nat.le_refl _)
  · unfold zq_fs
    rw [efd, z_sI, z_sI, hr 26 (zq_i (by omega)), hr 25 (zq_i (by omega)), hr id hid]
