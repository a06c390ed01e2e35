/-! The two programs' states at their beginning are alike -/
def zi_L0 : zl_T := ((0, 0, 0), fun _ _ => 0, fun _ => 0, fun _ => 0, fun _ => 0, fun _ => 0, fun _ _ => 0)
def zi_U0 : zu_T := (0, fun _ _ => 0)
def zi_W0 : zw_T := ((0, 0), fun _ => 0, fun _ => 0, fun _ => 0, fun _ => 0, fun _ => 0, fun _ => 0, fun _ => 0)
theorem zi_0 : zi cs_c0 g_mu0 := by
  have n0 : ∀ {P : Nat → Prop}, ∀ k, k < 0 → P k := fun k h => absurd h (by omega)
  have b0 : ∀ m, m < 6 → z_bit 0 m = 0 := fun m hm => by
    rcases (show m = 0 ∨ m = 1 ∨ m = 2 ∨ m = 3 ∨ m = 4 ∨ m = 5 by omega) with rfl | rfl | rfl | rfl | rfl | rfl <;> decide
  refine ⟨zi_L0, zi_U0, zi_W0, ⟨by show 0 ≤ 5; omega, by show 0 ≤ 6; omega, by show 0 ≤ 8; omega, fun a b h => absurd h (by show ¬ a < 0; omega), fun g h => absurd h (by show ¬ g < 0; omega), fun p h => absurd h (by show ¬ p < 0; omega)⟩, ⟨by show 0 ≤ 40; omega, by show 0 < 64; omega, fun t h => absurd h (by show ¬ t < 0; omega), fun p h => absurd h (by show ¬ p < 0; omega)⟩, ⟨Or.inl rfl, Or.inl rfl, ⟨rfl, rfl, rfl, fun x y h => absurd h (by show ¬ x < 0; omega), fun g h => absurd h (by show ¬ g < 0; omega), fun p h => absurd h (by show ¬ p < 0; omega)⟩, ⟨by show 0 ≤ 6; omega, rfl, fun _ => 0, rfl, fun k h => absurd h (by show ¬ k < 0; omega)⟩, ⟨rfl, rfl, fun t h => absurd h (by show ¬ t < 0; omega), fun p h => absurd h (by show ¬ p < 0; omega)⟩⟩,
    ⟨⟨rfl, rfl, rfl, fun x y h => absurd h (by show ¬ x < 0; omega), fun g h => absurd h (by show ¬ g < 0; omega), fun p h => absurd h (by show ¬ p < 0; omega)⟩, ⟨by show 0 ≤ 6; omega, rfl, fun k h => absurd h (by show ¬ k < 0; omega)⟩, ⟨rfl, fun g hg => ?_, fun t h => absurd h (by show ¬ t < 0; omega), fun p h => absurd h (by show ¬ p < 0; omega)⟩⟩,
    ⟨Or.inl ⟨rfl, rfl⟩, Or.inl ⟨rfl, rfl⟩⟩, ⟨0, by omega, rfl, rfl, fun i h => absurd h (by omega), fun k hk => rfl⟩, ⟨0, by omega, rfl, fun m hm => ⟨?_, fun h => ?_⟩⟩, Or.inl rfl⟩
  · show (0 : Int32) = nI (z_bit 0 g)
    rw [b0 g hg]; rfl
  · show (0 : Int32) = nI (z_bit 0 m)
    rw [b0 m (by omega)]; rfl
  · rw [b0 m (by omega)] at h
    cases h
