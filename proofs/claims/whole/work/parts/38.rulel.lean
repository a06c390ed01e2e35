/-! Layer 2: the reference's levels: PART, PRODUCT, SUM, TEST, E -/
def zq_nt (v : Int32) : Int32 := if v = nI 0 then nI 1 else nI 0
def zq_fd (μ : g_St) : Nat → Int32 → Nat × Int32
  | 0, v => (0, v)
  | d + 1, v => if μ.1 27 (d + 1) = nI 1 then zq_fd μ d (zq_nt v) else (d + 1, v)
theorem zq_fd_le (μ : g_St) : ∀ d v, (zq_fd μ d v).1 ≤ d
  | 0, _ => Nat.le_refl 0
  | d + 1, v => by
    unfold zq_fd
    split
    · exact Nat.le_trans (zq_fd_le μ d _) (Nat.le_succ d)
    · exact Nat.le_refl _
theorem zq_fd_ed {μ : g_St} {d : Nat} {v : Int32} (h : d = 0 ∨ μ.1 27 d ≠ nI 1) : zq_fd μ d v = (d, v) := by
  cases d with
  | zero => rfl
  | succ d =>
    have h2 : μ.1 27 (d + 1) ≠ nI 1 := h.resolve_left (by omega)
    unfold zq_fd; rw [if_neg h2]
theorem zq_fd_congr {μ ν : g_St} : ∀ {d : Nat} {v : Int32}, (∀ j, j ≤ d → μ.1 27 j = ν.1 27 j) → zq_fd μ d v = zq_fd ν d v
  | 0, _, _ => rfl
  | d + 1, v, h => by
    unfold zq_fd
    rw [h (d + 1) (Nat.le_refl _), zq_fd_congr (d := d) (fun j hj => h j (by omega))]
/-- a value is handed down -/
def zq_fs (μ : g_St) (d : Nat) (v : Int32) : g_St := g_sI μ 25 (zq_fd μ d v).1 (if μ.1 26 (zq_fd μ d v).1 = nI 0 then (zq_fd μ d v).2 else μ.1 25 (zq_fd μ d v).1 * (zq_fd μ d v).2)
theorem zq_pop {F : Nat} {l k : Int32} {K : Int32 → Int32 → g_St → Option (Int32 × g_St)} {μ : g_St} : ∀ {d n : Nat} {v : Int32}, d < 7 → d < n → mm_worked_268 F l k K n (nI d) v μ = K (nI (zq_fd μ d v).1) (k + 1) (zq_fs μ d v) := by
  have base : ∀ (d : Nat) (v : Int32), d < 7 → zq_fd μ d v = (d, v) → mm_worked_300 F K l (nI d) k v μ = K (nI (zq_fd μ d v).1) (k + 1) (zq_fs μ d v) := by
    intro d v hd e
    unfold mm_worked_300 zq_fs
    rw [e]
    simp (disch := omega) only [↓reduceIte, nI_lit, z_sbind, z_rd, z_rl, z_rr, z_wr, z_wl, nI_add, z_mul, z_lt, z_le, z_eq, z_ltm1, z_m1lt, z_eqm1, z_m1eq, z_lem1, z_m1le, if_true, if_false, ite_true, ite_false]
    split <;> rfl
  intro d
  induction d with
  | zero =>
    intro n v hd hn
    obtain ⟨n, rfl⟩ : ∃ m, n = m + 1 := ⟨n - 1, by omega⟩
    show mm_worked_268_b F l k K _ (nI 0) v μ = _
    unfold mm_worked_268_b
    simp (disch := omega) only [↓reduceIte, nI_lit, z_sbind, z_rd, z_rl, z_rr, z_wr, z_wl, nI_add, z_mul, z_lt, z_le, z_eq, z_ltm1, z_m1lt, z_eqm1, z_m1eq, z_lem1, z_m1le, if_true, if_false, ite_true, ite_false, Nat.lt_irrefl]
    exact base 0 v (by omega) rfl
  | succ d ih =>
    intro n v hd hn
    obtain ⟨n, rfl⟩ : ∃ m, n = m + 1 := ⟨n - 1, by omega⟩
    show mm_worked_268_b F l k K _ (nI (d + 1)) v μ = _
    unfold mm_worked_268_b
    simp (disch := omega) only [↓reduceIte, nI_lit, z_sbind, z_rd, z_rl, z_rr, z_wr, z_wl, nI_add, z_mul, z_lt, z_le, z_eq, z_ltm1, z_m1lt, z_eqm1, z_m1eq, z_lem1, z_m1le, if_true, if_false, ite_true, ite_false, show 0 < d + 1 by omega]
    have e3 : (nI (d + 1) + -nI 1 : Int32) = nI d := by rw [← Int32.sub_eq_add_neg, z_sub (by omega)]; rfl
    by_cases h : μ.1 27 (d + 1) = nI 1
    · simp only [h, if_true, e3]
      have e4 : zq_fd μ (d + 1) v = zq_fd μ d (zq_nt v) := by
        show (if μ.1 27 (d + 1) = nI 1 then zq_fd μ d (zq_nt v) else (d + 1, v)) = _
        rw [if_pos h]
      have e5 : zq_fs μ (d + 1) v = zq_fs μ d (zq_nt v) := by unfold zq_fs; rw [e4]
      have h9 := ih (n := n) (v := zq_nt v) (by omega) (by omega)
      rw [e4, e5]
      refine Eq.trans ?_ h9
      unfold zq_nt
      split <;> rfl
    · simp only [h, if_false]
      exact base (d + 1) v (by omega) (zq_fd_ed (Or.inr h))
/-- one turn of the machine -/
theorem zq_turn {F line d a e : Nat} {S : Nat → Int32} {f : Nat → Int32} {μ : g_St} (h : zq_at S line e f μ) (ha : a < e) (n : Nat) {X : Option (Int32 × g_St)}
    (hx : mm_worked_14_b F (nI line) (mm_worked_14 F (nI line) n) (nI d) (nI a) μ = X) : mm_worked_14 F (nI line) (n + (a + 1 - a)) (nI d) (nI a) μ = X := by
  rw [show n + (a + 1 - a) = n + 1 by omega]; exact hx
/-- a PART -/
def zq_P (S : Nat → Int32) (a b h : Nat) (φ : (Nat → Int32) → Int32) : Prop :=
  ∀ (F line e : Nat) (f : Nat → Int32) (μ : g_St) (d : Nat), zq_at S line e f μ → 10 < F → d + h < 7 → b ≤ e →
    ∃ μ2, zq_run F line d a (zq_fd μ d (φ f)).1 b μ μ2 ∧ zq_kp (zq_fd μ d (φ f)).1 μ μ2 ∧ ∀ id, zq_id id → μ2.1 id (zq_fd μ d (φ f)).1 = (zq_fs μ d (φ f)).1 id (zq_fd μ d (φ f)).1
theorem zq_P_v {S : Nat → Int32} {a : Nat} {φ : (Nat → Int32) → Int32}
    (h : ∀ (F line e : Nat) (f : Nat → Int32) (μ : g_St) (d n : Nat), zq_at S line e f μ → a < e → d < 7 → mm_worked_14_b F (nI line) (mm_worked_14 F (nI line) n) (nI d) (nI a) μ = mm_worked_268 F (nI line) (nI a) (mm_worked_14 F (nI line) n) F (nI d) (φ f) μ) : zq_P S a (a + 1) 0 φ := by
  intro F line e f μ d hat hF hd hb
  refine ⟨zq_fs μ d (φ f), ⟨by omega, fun n => ?_⟩, zq_kp_sI (by unfold zq_id; omega) (Nat.le_refl _), fun _ _ => rfl⟩
  refine zq_turn hat (by omega) n ?_
  rw [h F line e f μ d n hat (by omega) (by omega), zq_pop (by omega) (by omega), nI_1]
theorem zq_P_num {S : Nat → Int32} {a k : Nat} (hk : k < 10000) (hS : S a = nI (100 + k)) : zq_P S a (a + 1) 0 (fun _ => nI k) := by
  refine zq_P_v (fun F line e f μ d n hat ha hd => ?_)
  obtain ⟨h16, hl, h15, he, hfc⟩ := hat
  have e1 : μ.1 16 a = nI (100 + k) := by rw [h16, hS]
  unfold mm_worked_14_b
  rw [z_rd hl (by omega), z_sbind, h15, if_pos (nI_lt ha (by omega)), z_rd (by omega) (by omega), z_sbind, e1]
  simp (disch := omega) only [↓reduceIte, nI_lit, z_eq, z_le, show ¬ (100 + k = 28) by omega, show ¬ (100 + k = 30) by omega, show ¬ (100 + k = 20) by omega, show ¬ (100 + k = 21) by omega, show ¬ (100 + k = 22) by omega, show ¬ (100 + k = 24) by omega, show ¬ (100 + k = 25) by omega, show ¬ (100 + k = 26) by omega, show ¬ (100 + k = 27) by omega, show 100 ≤ 100 + k by omega]
  unfold mm_worked_243
  simp (disch := omega) only [↓reduceIte, nI_lit, z_eq, z_sub, show ¬ (100 + k = 29) by omega, show 100 + k - 100 = k by omega]
theorem zq_P_fact {S : Nat → Int32} {a k j : Nat} (hk : k < 20) (hj : ∀ f μ, zq_fc f μ → μ.1 28 k = f j) (hS : S a = nI k) : zq_P S a (a + 1) 0 (fun f => f j) := by
  refine zq_P_v (fun F line e f μ d n hat ha hd => ?_)
  obtain ⟨h16, hl, h15, he, hfc⟩ := hat
  have e1 : μ.1 16 a = nI k := by rw [h16, hS]
  have e2 := hj f μ hfc
  unfold mm_worked_14_b
  rw [z_rd hl (by omega), z_sbind, h15, if_pos (nI_lt ha (by omega)), z_rd (by omega) (by omega), z_sbind, e1]
  simp (disch := omega) only [↓reduceIte, nI_lit, z_eq, z_le, z_lt, show ¬ (k = 28) by omega, show ¬ (k = 30) by omega, show ¬ (k = 20) by omega, show ¬ (k = 21) by omega, show ¬ (k = 22) by omega, show ¬ (k = 24) by omega, show ¬ (k = 25) by omega, show ¬ (k = 26) by omega, show ¬ (k = 27) by omega, show ¬ (100 ≤ k) by omega, hk]
  rw [z_rd hk (by omega), z_sbind, e2]
  unfold mm_worked_243
  simp (disch := omega) only [↓reduceIte, nI_lit, z_eq, show ¬ (k = 29) by omega]
/-- depth d + 1 is opened -/
def zq_op (μ : g_St) (d : Nat) (v : Int32) : g_St := g_sI (g_sI (g_sI (g_sI (g_sI (g_sI μ 27 d v) 20 d (nI 0)) 22 d (nI 0)) 23 d (nI 0)) 24 d (nI 20)) 26 d (nI 0)
theorem zq_opens {S : Nat → Int32} {F line d a e c : Nat} {f : Nat → Int32} {μ : g_St} (hat : zq_at S line e f μ) (ha : a < e) (hd : d + 1 < 7) (hc : c = 28 ∨ c = 30) (hS : S a = nI c) : zq_run F line d a (d + 1) (a + 1) μ (zq_op μ (d + 1) (nI (if c = 30 then 1 else 0))) := by
  refine ⟨by omega, fun n => zq_turn hat ha n ?_⟩
  obtain ⟨h16, hl, h15, he, hfc⟩ := hat
  have e1 : μ.1 16 a = nI c := by rw [h16, hS]
  unfold mm_worked_14_b
  rw [z_rd hl (by omega), z_sbind, h15, if_pos (nI_lt ha (by omega)), z_rd (by omega) (by omega), z_sbind, e1]
  rcases hc with rfl | rfl
  · simp (disch := omega) only [↓reduceIte, nI_lit, z_eq, show ¬ (28 = 30) by omega]
    unfold mm_worked_46 mm_worked_66 mm_opens zq_op
    simp (disch := omega) only [↓reduceIte, nI_lit, z_sbind, z_rd, z_rl, z_rr, z_wr, z_wl, nI_add, z_mul, z_lt, z_le, z_eq, z_ltm1, z_m1lt, z_eqm1, z_m1eq, z_lem1, z_m1le, if_true, if_false, ite_true, ite_false, show ¬ (28 = 30) by omega]
  · simp (disch := omega) only [↓reduceIte, nI_lit, z_eq, show ¬ (30 = 28) by omega]
    unfold mm_worked_46 mm_worked_66 mm_opens zq_op
    simp (disch := omega) only [↓reduceIte, nI_lit, z_sbind, z_rd, z_rl, z_rr, z_wr, z_wl, nI_add, z_mul, z_lt, z_le, z_eq, z_ltm1, z_m1lt, z_eqm1, z_m1eq, z_lem1, z_m1le, if_true, if_false, ite_true, ite_false]
theorem zq_op_kp {μ : g_St} {d : Nat} {v : Int32} : zq_kp d μ (zq_op μ d v) := by
  unfold zq_op
  refine zq_kp_trans (zq_kp_trans (zq_kp_trans (zq_kp_trans (zq_kp_trans (zq_kp_sI ?_ ?_) (zq_kp_sI ?_ ?_)) (zq_kp_sI ?_ ?_)) (zq_kp_sI ?_ ?_)) (zq_kp_sI ?_ ?_)) (zq_kp_sI ?_ ?_) <;> (first | exact Nat.le_refl _ | (unfold zq_id; omega))
theorem zq_P_not {S : Nat → Int32} {a b h : Nat} {φ : (Nat → Int32) → Int32} (hS : S a = nI 30) (p : zq_P S (a + 1) b h φ) (hab : a + 1 ≤ b) : zq_P S a b (h + 1) (fun f => zq_nt (φ f)) := by
  intro F line e f μ d hat hF hd hb
  have r1 := zq_opens (F := F) (d := d) hat (by omega) (by omega) (Or.inr rfl) hS
  rw [if_pos rfl] at r1
  have k1 := zq_op_kp (μ := μ) (d := d + 1) (v := nI 1)
  obtain ⟨μ2, r2, k2, h2⟩ := p F line e f (zq_op μ (d + 1) (nI 1)) (d + 1) (zq_at_kp hat k1) hF (by omega) hb
  have e27 : (zq_op μ (d + 1) (nI 1)).1 27 (d + 1) = nI 1 := by
    unfold zq_op
    rw [z_sI_id (by omega), z_sI_id (by omega), z_sI_id (by omega), z_sI_id (by omega), z_sI_id (by omega), z_sI_same]
  have efd : zq_fd (zq_op μ (d + 1) (nI 1)) (d + 1) (φ f) = zq_fd μ d (zq_nt (φ f)) := by
    show (if (zq_op μ (d + 1) (nI 1)).1 27 (d + 1) = nI 1 then zq_fd (zq_op μ (d + 1) (nI 1)) d (zq_nt (φ f)) else (d + 1, φ f)) = _
    rw [if_pos e27]
    exact zq_fd_congr (fun j hj => k1.2 27 j (by unfold zq_id; omega) (by omega))
  have hle := zq_fd_le μ d (zq_nt (φ f))
  have hr : ∀ id, zq_id id → (zq_op μ (d + 1) (nI 1)).1 id (zq_fd μ d (zq_nt (φ f))).1 = μ.1 id (zq_fd μ d (zq_nt (φ f))).1 := fun id hid => k1.2 id _ hid (by omega)
  rw [efd] at r2 k2 h2
  refine ⟨μ2, zq_run_trans r1 r2, zq_kp_trans (zq_kp_mono k1 (Nat.le_trans hle (Nat.le_succ d))) k2, fun id hid => ?_⟩
  refine Eq.trans (h2 id hid) ?_
  unfold zq_fs
  rw [efd, z_sI, z_sI, hr 26 (by unfold zq_id; omega), hr 25 (by unfold zq_id; omega), hr id hid]
