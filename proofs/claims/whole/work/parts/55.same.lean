/-! Layer 2: rounds are the same in both programs -/
theorem zx_up_at {S T : Nat → Nat → Prop} {b b1 b2 : Nat → Nat} {s : Nat} (h1 : zx_up S b b1) (h2 : zx_up T b b2) (h : ∀ w, S s w ↔ T s w) : b1 s = b2 s := by
  obtain ⟨a1, a2, a3⟩ := h1 s
  obtain ⟨c1, c2, c3⟩ := h2 s
  apply Nat.le_antisymm
  · rcases a3 with e | e
    · rw [e]; exact c1
    · exact c2 _ ((h _).mp e)
  · rcases c3 with e | e
    · rw [e]; exact a1
    · exact a2 _ ((h _).mpr e)
theorem zx_cd_in {X : zx_T} : ∀ {n ring first gave one got gain s w : Nat}, zx_cd X n ring first gave one got gain s w → z_in ring s := by
  intro n
  induction n with
  | zero => rintro ring first gave one got gain s w ⟨rfl, -⟩; exact z_in_self _
  | succ n ih =>
    rintro ring first gave one got gain s w (⟨rfl, -⟩ | ⟨q, g, h1, h2, h3, h4, h5⟩)
    · exact z_in_self _
    · have := ih h5
      rw [z_in_tb] at *
      intro i hi
      exact this i (by rw [Nat.testBit_or, hi]; rfl)
theorem z_in_bit {ring q s : Nat} (h : z_in (ring ||| 2 ^ q) s) : s.testBit q = true := by
  rw [z_in_tb] at h
  exact h q (by rw [Nat.testBit_or, Nat.testBit_two_pow_self, Bool.or_true])
theorem z_in_bit2 {a q s : Nat} (h : z_in (2 ^ a ||| 2 ^ q) s) : s.testBit a = true := by
  rw [z_in_tb] at h
  exact h a (by rw [Nat.testBit_or, Nat.testBit_two_pow_self, Bool.true_or])
def zx_eq (X Y : zx_T) (A : Nat) : Prop := (∀ p q g, A.testBit p = true → A.testBit q = true → zx_can X p q g = zx_can Y p q g) ∧ ∀ p g, A.testBit p = true → zx_mo X p g = zx_mo Y p g ∧ zx_la X p g = zx_la Y p g
theorem zx_gl_eq {X Y : zx_T} {A p a b : Nat} (h : zx_eq X Y A) (hp : A.testBit p = true) : zx_gl X p a b = zx_gl Y p a b := by
  unfold zx_gl; rw [(h.2 p a hp).1, (h.2 p b hp).2]
theorem zx_cl_eq {X Y : zx_T} {A ring first gave one got gain s w : Nat} (h : zx_eq X Y A) (hf : A.testBit first = true) (ho : A.testBit one = true) (hc : zx_cl X ring first gave one got gain s w) : zx_cl Y ring first gave one got gain s w := by
  obtain ⟨h1, g, h2, h3, h4, h5⟩ := hc
  refine ⟨h1, g, ?_, ?_, ?_, ?_⟩
  · rw [← h.1 one first g ho hf]; exact h2
  · rw [← zx_gl_eq h ho]; exact h3
  · rw [← zx_gl_eq h hf]; exact h4
  · rw [← (h.2 one got ho).1, ← (h.2 one g ho).2, ← (h.2 first g hf).1, ← (h.2 first gave hf).2]; exact h5
theorem zx_cd_eq {X Y : zx_T} {A : Nat} (h : zx_eq X Y A) : ∀ {n ring first gave one got gain s w : Nat}, z_in s A → A.testBit first = true → A.testBit one = true → zx_cd X n ring first gave one got gain s w → zx_cd Y n ring first gave one got gain s w := by
  intro n
  induction n with
  | zero => intro ring first gave one got gain s w _ hf ho hc; exact zx_cl_eq h hf ho hc
  | succ n ih =>
    intro ring first gave one got gain s w hs hf ho hc
    rcases hc with hc | ⟨q, g, h1, h2, h3, h4, h5⟩
    · exact Or.inl (zx_cl_eq h hf ho hc)
    · have hq : A.testBit q = true := (z_in_tb.mp hs) q (z_in_bit (zx_cd_in h5))
      refine Or.inr ⟨q, g, h1, h2, by rw [← h.1 one q g ho hq]; exact h3, by rw [← zx_gl_eq h ho]; exact h4, ?_⟩
      rw [← (h.2 one got ho).1, ← (h.2 one g ho).2]
      exact ih hs hf hq h5
theorem zx_eq_symm {X Y : zx_T} {A : Nat} (h : zx_eq X Y A) : zx_eq Y X A := ⟨fun p q g hp hq => (h.1 p q g hp hq).symm, fun p g hp => ⟨(h.2 p g hp).1.symm, (h.2 p g hp).2.symm⟩⟩
theorem zx_st_eq {X Y : zx_T} {A first s w : Nat} (h : zx_eq X Y A) (hs : z_in s A) (hc : zx_st X first s w) : zx_st Y first s w := by
  obtain ⟨q, g, h1, h2, h3⟩ := hc
  have hin := zx_cd_in h3
  have hf := (z_in_tb.mp hs) first (z_in_bit2 hin)
  have hq := (z_in_tb.mp hs) q (z_in_bit hin)
  exact ⟨q, g, h1, by rw [← h.1 first q g hf hq]; exact h2, zx_cd_eq h hs hf hq h3⟩
theorem z_tb8 {A p : Nat} (hA : A < 256) (h : A.testBit p = true) : p < 8 := by
  refine Nat.lt_of_not_le (fun hle => ?_)
  rw [Nat.testBit_lt_two_pow (Nat.lt_of_lt_of_le hA (Nat.pow_le_pow_right (by omega) hle : 2 ^ 8 ≤ 2 ^ p))] at h
  cases h
theorem z_255 : ∀ k, k < 8 → (255 : Nat).testBit k = true := by decide
theorem zx_all_eq {X Y : zx_T} {A s w : Nat} (h : zx_eq X Y A) (hpp : zx_pp X = zx_pp Y) (hA : A < 256) (hs : z_in s A) : zx_all X A s w ↔ zx_all Y 255 s w := by
  constructor
  · rintro ⟨f, h1, h2, h3⟩
    exact ⟨f, by rw [← hpp]; exact h1, z_255 f (z_tb8 hA h2), zx_st_eq h hs h3⟩
  · rintro ⟨f, h1, h2, h3⟩
    obtain ⟨q, g, -, -, h6⟩ := id h3
    exact ⟨f, by rw [hpp]; exact h1, (z_in_tb.mp hs) f (z_in_bit2 (zx_cd_in h6)), zx_st_eq (zx_eq_symm h) hs h3⟩
theorem zc_X_eq {L : zl_T} {U : zu_T} {W : zw_T} {A ds lf : Nat} (hA : A < 256) : zx_eq (zc_X L U W A ds lf) (zc_X L U W 255 ds lf) A := by
  have hh : ∀ p g, A.testBit p = true → zc_h W A (zw_n W) p g = zc_h W 255 (zw_n W) p g := by
    intro p g hp
    unfold zc_h; rw [hp, z_255 p (z_tb8 hA hp)]
  refine ⟨fun p q g hp hq => ?_, fun p g hp => ⟨?_, ?_⟩⟩
  · show zc_can L U W A ds lf (zw_n W) p q g = zc_can L U W 255 ds lf (zw_n W) p q g
    have e : ∀ n, zc_can L U W A ds lf n p q g = zc_can L U W 255 ds lf n p q g := by
      intro n
      induction n with
      | zero => rfl
      | succ n ih =>
        show (zc_can L U W A ds lf n p q g || zc_hit L U W A ds lf n p q g) = (zc_can L U W 255 ds lf n p q g || zc_hit L U W 255 ds lf n p q g)
        rw [ih]; unfold zc_hit; rw [hp, hq, z_255 p (z_tb8 hA hp), z_255 q (z_tb8 hA hq)]
    exact e _
  · show zl_wk L p g (zc_h W A (zw_n W) p g) = zl_wk L p g (zc_h W 255 (zw_n W) p g)
    rw [hh p g hp]
  · show zl_wl L p g (zc_h W A (zw_n W) p g) = zl_wl L p g (zc_h W 255 (zw_n W) p g)
    rw [hh p g hp]
theorem z_two0 : ∀ s, s < 256 → ∀ a, a < 8 → ∀ b, b < 8 → (s = 0 ∨ b ≤ a ∨ ¬ ((2 ^ a ||| 2 ^ b) &&& z_lw s = 2 ^ a ||| 2 ^ b)) := by decide +kernel
theorem zx_all_one {X : zx_T} {gd s w : Nat} (ho : zx_ok X gd) (hs : s < 256) (h0 : s ≠ 0) : ¬ zx_all X 255 (z_lw s) w := by
  rintro ⟨f, h1, h2, q, g, h3, h4, h5⟩
  have hin := zx_cd_in h5
  have := ho.1
  have a := ho.2.2.1 _ _ _ h4
  rcases z_two0 s hs f (by omega) q (by omega) with e | e | e
  · exact h0 e
  · omega
  · exact e hin
/-- the reference's rows of rounds -/
def zr_R (X : zx_T) (pp : Nat) (r : g_St) : Prop := ∃ b, zx_up (zx_all X 255) (fun _ => 0) b ∧ zj_B b r ∧ ∀ s, s < 2 ^ pp → zm_R (zm_f b 256) s r
theorem zr_same {L : zl_T} {U : zu_T} {W : zw_T} {A ds lf br : Nat} {c r : g_St} (hA : A < 256) (h1 : zr_C (zc_X L U W A ds lf) A br c) (h2 : zr_R (zc_X L U W 255 ds lf) (zl_pp L) r) : ∃ b : Nat → Nat, (∀ s, s < 256 → b s < 100000) ∧ (∀ s, s < 256 → r.1 39 s = zE (b s)) ∧ (∀ s, s < 256 → z_in s A → c.1 (br + 6) s = zE (b s)) ∧ (∀ s, s < 2 ^ zl_pp L → zm_R (zm_f b 256) s r) ∧ ∀ s, s < 256 → z_in s A → zm_C br (zm_f b 256) s c := by
  obtain ⟨b1, u1, c1, m1⟩ := h1
  obtain ⟨b2, u2, c2, m2⟩ := h2
  have e : ∀ s, z_in s A → b1 s = b2 s := fun s hs => zx_up_at u1 u2 (fun w => zx_all_eq (zc_X_eq hA) rfl hA hs)
  refine ⟨b2, fun s hs => (c2 s hs).2, fun s hs => (c2 s hs).1, fun s hs hin => by rw [(c1 s hs).1, e s hin], m2, fun s hs hin => ?_⟩
  have := m1 s hs hin
  unfold zm_C at *
  rw [← zm_f_congr (b := b1) (b' := b2) (A := A) (fun p _ hp => e p hp) 256 s (Nat.le_refl _) hin]
  exact this
/-- the reference works it out -/
def zr_id (id : Nat) : Prop := id < 19 ∨ (28 < id ∧ id < 37) ∨ 44 < id
theorem zr_works0 {L : zl_T} {U : zu_T} {W : zw_T} {r : g_St} {F ds : Nat} (hk0 : zk_R L U W r) (ho : zl_ok L) (how : zw_ok L W) (hds : ds < 256) (hF : 1010 < F) :
    z_w (mm_laysOut F (nI ds) r) (fun ν => z_f zr_id r ν ∧ zj_X (zc_X L U W 255 ds (zw_lf W)) ν) := by
  refine z_w_mono (zj_lays hk0 ho how hds hF) (fun ν hν => ?_)
  obtain ⟨h1, h2, h3⟩ := hν
  have hk := zk_R_f hk0 h1 (fun id q => by unfold zj_id; omega)
  refine ⟨z_f_mono h1 (fun id q => by unfold zr_id at q; unfold zj_id; omega), zj_gains hk.1 ho (fun p g hp hg => ⟨?_, ?_⟩) h3⟩
  · rw [h2 p g hp hg]; unfold zc_h; rw [if_pos (z_255 p hp)]
  · unfold zc_h; rw [if_pos (z_255 p hp)]; have := zw_held_le W p g (zw_n W); have := how.1; omega
theorem zc_X_ok {L : zl_T} {U : zu_T} {W : zw_T} {A ds lf : Nat} (ho : zl_ok L) (how : zw_ok L W) : zx_ok (zc_X L U W A ds lf) (zl_gd L) := zx_mk_ok ho (zc_can_ok how)
/-- rings alone -/
def zr_b (X : zx_T) (r : g_St) : Prop := ∃ b, zx_up (zx_all X 255) (fun _ => 0) b ∧ zj_B b r
theorem zr_rings {L : zl_T} {U : zu_T} {W : zw_T} {r : g_St} {F ds : Nat} (hk0 : zk_R L U W r) (ho : zl_ok L) (how : zw_ok L W) (hds : ds < 256) (hF : 1010 < F) :
    z_w ((mm_laysOut F (nI ds) r).bind fun μ => mm_rings F μ) (fun ν => z_f zr_id r ν ∧ zr_b (zc_X L U W 255 ds (zw_lf W)) ν ∧ ν.1 4 0 = nI (zl_pp L)) := by
  refine z_w_call (zr_works0 hk0 ho how hds hF) (fun μ hμ => ?_)
  refine z_w_mono (zj_rings (zc_X_ok ho how) hμ.2 (by omega)) (fun ν hν => ?_)
  obtain ⟨b, h1, h2, h3⟩ := hν
  exact ⟨z_f_trans hμ.1 h3 (fun _ q => q) (fun id q => by unfold zr_id at q; unfold zj_P; omega), ⟨b, h2, h1⟩, by rw [h3.1 4 (by unfold zj_P; omega)]; exact hμ.2.1⟩
theorem zr_works {L : zl_T} {U : zu_T} {W : zw_T} {r : g_St} {F ds : Nat} (hk0 : zk_R L U W r) (ho : zl_ok L) (how : zw_ok L W) (hds : ds < 256) (hF : 1010 < F) :
    z_w (mm_works F (nI ds) r) (fun ν => z_f zr_id r ν ∧ zr_R (zc_X L U W 255 ds (zw_lf W)) (zl_pp L) ν) := by
  have h8 := ho.2.2.1
  obtain ⟨ν, hν, h1, ⟨b, h2, h3⟩, h4⟩ := zr_rings (ds := ds) hk0 ho how hds hF
  have hb1 : ∀ s, s < 256 → s ≠ 0 → b (z_lw s) = 0 := by
    intro s hs h0
    rcases (h2 (z_lw s)).2.2 with e | e
    · exact e
    · exact absurd e (zx_all_one (zc_X_ok ho how) hs h0)
  obtain ⟨ξ, hξ, x1, x2⟩ := zm_mosts (F := F) h4 h8 h3 hb1 (by omega)
  refine ⟨ξ, ?_, z_f_trans h1 x1 (fun _ q => q) (fun id q => by unfold zr_id at q; unfold zm_P; omega), b, h2, fun s hs => by rw [x1.1 39 (by unfold zm_P; omega)]; exact h3 s hs, x2⟩
  unfold mm_works
  cases h : mm_laysOut F (nI ds) r with
  | none => rw [h] at hν; cases hν
  | some μ =>
    rw [h, z_sbind] at hν
    rw [z_sbind, hν, z_sbind, hξ, z_sbind]
