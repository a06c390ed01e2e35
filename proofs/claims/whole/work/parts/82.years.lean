/-! Layer 2: YEARS, what is drawn -/
def zy_nb (a : Nat) : Nat → Nat
  | 0 => a
  | i + 1 => zy_nb a i &&& (zy_nb a i - 1)
def zy_tz (a : Nat) : Nat := if z_bit a 0 = 1 then 0 else if z_bit a 1 = 1 then 1 else if z_bit a 2 = 1 then 2 else if z_bit a 3 = 1 then 3 else if z_bit a 4 = 1 then 4 else 5
theorem zy_tz0 : ∀ a, a < 64 → (a = 0 ∨ jj_numberOfTrailingZeros (fun _ _ => 0, fun _ _ => 0, fun _ => 0) (nI a) = some (nI (zy_tz a))) := by decide +kernel
theorem zy_nb0 : ∀ a, a < 64 → ∀ x, x < 6 → (z_pc a ≤ x ∨ (zy_nb a x ≠ 0 ∧ zy_nb a x < 64 ∧ z_bit a (zy_tz (zy_nb a x)) = 1 ∧ z_sum (fun i => z_bit a i) (zy_tz (zy_nb a x)) = x ∧ zy_tz (zy_nb a x) < 6)) := by decide +kernel
def zy_at (a x : Nat) : Nat := zy_tz (zy_nb a x)
theorem zy_C {μ : g_St} {F a x : Nat} (ha : a < 64) (hx : x < z_pc a) (hx6 : x < 6) (hF : 10 < F) : oo_nthBit F μ (nI a) (nI x) = some (nI (zy_at a x)) := by
  unfold oo_nthBit zy_at
  refine z_cnt0 (n := x) (A := fun f i => oo_nthBit_4 F μ (nI x) f (nI (zy_nb a i)) (nI i)) (fun f i hi => ?_) (fun f => ?_) (by omega)
  · show oo_nthBit_4_b F μ (nI x) _ (nI (zy_nb a i)) (nI i) = oo_nthBit_4 F μ (nI x) f (nI (zy_nb a (i + 1))) (nI (i + 1))
    have nz := ((zy_nb0 a ha i (by omega)).resolve_left (by omega)).1
    unfold oo_nthBit_4_b
    rw [if_pos (nI_lt hi (by omega)), show (1 : Int32) = nI 1 from rfl, z_sub (by omega), z_and, nI_add]
    rfl
  · show oo_nthBit_4_b F μ (nI x) _ (nI (zy_nb a x)) (nI x) = _
    have nz := (zy_nb0 a ha x hx6).resolve_left (by omega)
    unfold oo_nthBit_4_b
    have e : jj_numberOfTrailingZeros μ (nI (zy_nb a x)) = some (nI (zy_tz (zy_nb a x))) := (zy_tz0 _ nz.2.1).resolve_left nz.1
    rw [if_neg (by rw [z_lt (by omega) (by omega)]; omega), e, z_sbind]
theorem zy_R {r : g_St} {F p a x : Nat} {K : Int32 → g_St → Option g_St} (ha : a < 64) (hx : x < z_pc a) (hx6 : x < 6) (hp : p < 8) (h12 : r.1 12 p = nI a) (hF : 10 < F) : mm_week_83 F (nI p) K F (nI x) 0 r = mm_week_134 F (nI p) (nI (zy_at a x)) K F 0 (g_sI r 37 (6 * p + zy_at a x) 1) := by
  obtain ⟨nz, n64, b1, bs, b6⟩ := (zy_nb0 a ha x hx6).resolve_left (by omega)
  have key := z_cnt0 (n := zy_at a x) (F := F) (X := mm_week_134 F (nI p) (nI (zy_at a x)) K F 0 (g_sI r 37 (6 * p + zy_at a x) 1)) (A := fun f i => mm_week_83 F (nI p) K f (nI (x - z_sum (fun i => z_bit a i) i)) (nI i) r) (fun f i hi => ?_) (fun f => ?_) (by unfold zy_at; omega)
  · exact key
  · show mm_week_83_b F (nI p) K _ (nI (x - z_sum (fun i => z_bit a i) i)) (nI i) r = mm_week_83 F (nI p) K f (nI (x - z_sum (fun i => z_bit a i) (i + 1))) (nI (i + 1)) r
    have hi6 : i < 6 := by unfold zy_at at hi; omega
    have bl := z_bit_lt a i
    have es : z_sum (fun i => z_bit a i) (i + 1) = z_sum (fun i => z_bit a i) i + z_bit a i := rfl
    have mono : ∀ j, z_sum (fun i => z_bit a i) (i + 1) ≤ z_sum (fun i => z_bit a i) (i + 1 + j) := by
      intro j
      induction j with
      | zero => exact Nat.le_refl _
      | succ j ih => exact Nat.le_trans ih (Nat.le_add_right _ _)
    have le := mono (zy_at a x - (i + 1))
    rw [show i + 1 + (zy_at a x - (i + 1)) = zy_at a x by omega] at le
    have bs' : z_sum (fun i => z_bit a i) (zy_at a x) = x := bs
    unfold mm_week_83_b mm_week_100
    rw [z_rd (by omega) (by omega), z_sbind, z_sbind, h12, z_bitq (by omega) (by omega), z_sbind, z_sub (by omega), nI_1, show x - z_sum (fun i => z_bit a i) i - z_bit a i = x - z_sum (fun i => z_bit a i) (i + 1) by omega]
    by_cases e : z_bit a i = 0
    · rw [if_pos (show nI (z_bit a i) = (0 : Int32) from by rw [e]; rfl)]
    · rw [if_neg (show ¬ nI (z_bit a i) = (0 : Int32) from by show ¬ _ = nI 0; rw [z_eq (by omega) (by omega)]; exact e), if_pos (show (0 : Int32) < nI (x - z_sum (fun i => z_bit a i) i) from nI_lt (a := 0) (by omega) (by omega))]
  · show mm_week_83_b F (nI p) K _ (nI (x - z_sum (fun i => z_bit a i) (zy_at a x))) (nI (zy_at a x)) r = _
    have h6 : zy_at a x < 6 := b6
    have bs' : z_sum (fun i => z_bit a i) (zy_at a x) = x := bs
    have b1' : z_bit a (zy_at a x) = 1 := b1
    unfold mm_week_83_b
    rw [z_rd (by omega) (by omega), z_sbind, h12, z_bitq (by omega) (by omega), b1', if_neg (by decide), bs', Nat.sub_self, if_neg (by decide), show (6 : Int32) = nI 6 from rfl, z_mul, nI_add, z_wr (by omega) (by omega), z_sbind]
