/-! Layer 2: the class finds the MOST of each set, and all its rounds -/
theorem zm_findMost {br set F : Nat} {c : g_St} {b : Nat → Nat} {A : Nat} (hB : zb_B br b c) (hs : set < 256) (h0 : set ≠ 0) (hA : z_in set A) (hT : ∀ s, s < set → z_in s A → zm_C br (zm_f b set) s c) (hF : 300 < F) :
    z_w (og_findMost F br (nI set) c) (fun ν => z_f (zm_w3 br) c ν ∧ zm_C br (zm_f b (set + 1)) set ν ∧ ∀ id j, j ≠ set → ν.1 id j = c.1 id j) := by
  have hbb : ∀ s, s < 256 → b s < 100000 := fun s hs => (hB s hs).2
  have hle := zm_f_le hbb
  have hlow := z_lw_in hs h0
  have hl0 := (z_lw_in0 set hs h0).2.1
  have hl2 := (z_lw_in0 set hs h0).2.2
  have hrest := z_xor_lt hlow hl0
  have hrA := z_in_trans (z_in_xor hlow) hA
  have t0 := hT _ hrest hrA
  have q0 := hle set (set ^^^ z_lw set) (by omega)
  have lq := z_low set hs
  -- the loop over the parts
  have loop : ∀ (μ : g_St) (cur : zm_T), z_f (zm_w3 br) c μ → (∀ id j, j ≠ set → μ.1 id j = c.1 id j) → (μ.1 (br + 7) set = nI cur.1 ∧ μ.1 (br + 8) set = nI cur.2.1 ∧ μ.1 (br + 9) set = nI cur.2.2) → zm_le cur set →
      ((z_ss (set ^^^ z_lw set) (set ^^^ z_lw set)).map (fun p => p ||| z_lw set)).foldl (zm_off b (zm_f b set) set) cur = zm_f b (set + 1) set →
      z_w (og_findMost_48 F br (nI set) (nI (z_lw set)) (nI (set ^^^ z_lw set)) F (nI (set ^^^ z_lw set)) μ) (fun ν => z_f (zm_w3 br) c ν ∧ zm_C br (zm_f b (set + 1)) set ν ∧ ∀ id j, j ≠ set → ν.1 id j = c.1 id j) := by
    intro μ cur hz ho hc hcl hf
    refine z_mw (A := fun n (s : Nat × g_St) => og_findMost_48 F br (nI set) (nI (z_lw set)) (nI (set ^^^ z_lw set)) n (nI s.1) s.2)
      (fun s => s.1 < 256 ∧ z_in s.1 (set ^^^ z_lw set) ∧ z_f (zm_w3 br) c s.2 ∧ (∀ id j, j ≠ set → s.2.1 id j = c.1 id j) ∧ ∃ cur : zm_T, (s.2.1 (br + 7) set = nI cur.1 ∧ s.2.1 (br + 8) set = nI cur.2.1 ∧ s.2.1 (br + 9) set = nI cur.2.2) ∧ zm_le cur set ∧ ((z_ss (set ^^^ z_lw set) s.1).map (fun p => p ||| z_lw set)).foldl (zm_off b (zm_f b set) set) cur = zm_f b (set + 1) set) (fun s => s.1) ?_ F (set ^^^ z_lw set, μ) ⟨by omega, z_in_self _, hz, ho, cur, hc, hcl, hf⟩ (by show set ^^^ z_lw set < F; omega)
    intro n s hI hk
    obtain ⟨p, ν⟩ := s
    obtain ⟨hp, hin, hz, ho, cur, hc, hcl, hf⟩ := hI
    show z_w (og_findMost_48_b F br (nI set) (nI (z_lw set)) (nI (set ^^^ z_lw set)) _ (nI p) ν) _
    unfold og_findMost_48_b
    by_cases hp0 : p = 0
    · subst hp0
      simp (disch := omega) only [↓reduceIte, nI_lit, z_lt, Nat.lt_irrefl]
      rw [z_ss_0] at hf
      have hf2 : cur = zm_f b (set + 1) set := hf
      refine z_w_some ⟨hz, ?_, ho⟩
      unfold zm_C; rw [← hf2]; exact hc
    · have hpp : z_in (p ||| z_lw set) set := z_in_or (z_in_trans hin (z_in_xor hlow)) hlow
      have hpl : p ≤ p ||| z_lw set := Nat.left_le_or
      have hpx := z_in_le hpp
      have hB2 : zb_B br b ν := fun s hs => by rw [hz.1 (br + 6) (by unfold zm_w3; omega)]; exact hB s hs
      have hb := hB2 (p ||| z_lw set) (by omega)
      have hand : (p - 1) &&& (set ^^^ z_lw set) ≤ p - 1 := Nat.and_le_left
      rw [z_ss_s hp0, List.map_cons, List.foldl_cons] at hf
      rw [if_pos (show (0 : Int32) < nI p from nI_lt (a := 0) (by omega) (by omega)), z_or, z_rd (by omega) (by omega), z_sbind, hb.1, show (-1 : Int32) = -nI 1 from rfl]
      simp (disch := omega) only [zE_m1, nI_lit, z_sub, z_and]
      by_cases hb0 : b (p ||| z_lw set) = 0
      · rw [if_pos hb0]
        refine hk ((p - 1) &&& (set ^^^ z_lw set), ν) ⟨by omega, z_in_and, hz, ho, cur, hc, hcl, ?_⟩ (by show (p - 1) &&& (set ^^^ z_lw set) < p; omega)
        rw [show zm_off b (zm_f b set) set cur (p ||| z_lw set) = cur from by unfold zm_off; rw [if_pos hb0]] at hf
        exact hf
      · rw [if_neg hb0]
        have hx := z_xor_lt hpp (by omega)
        have t1 := hT _ hx (z_in_trans (z_in_xor hpp) hA)
        have t1' : zm_C br (zm_f b set) (set ^^^ (p ||| z_lw set)) ν := by unfold zm_C at *; rw [ho _ _ (by omega), ho _ _ (by omega), ho _ _ (by omega)]; exact t1
        have q1 := hle set (set ^^^ (p ||| z_lw set)) (by omega)
        have ho1 := zm_offer (cur := cur) hB2 hs hpp (by omega) hb0 t1' (by unfold zm_le at *; omega) hc (by unfold zm_le at *; omega)
        rw [ho1, z_sbind]
        have cl2 := zm_off_le (b := b) (t := zm_f b set) (c := cur) hbb hs (fun s h => hle set s (by omega)) hcl hpp (by omega)
        have e2 : zm_off b (zm_f b set) set cur (p ||| z_lw set) = if zm_dec cur ((zm_f b set (set ^^^ (p ||| z_lw set))).1 + (b (p ||| z_lw set) - 1)) ((zm_f b set (set ^^^ (p ||| z_lw set))).2.1 + 1) ((zm_f b set (set ^^^ (p ||| z_lw set))).2.2 + z_pc (p ||| z_lw set)) = true then ((zm_f b set (set ^^^ (p ||| z_lw set))).1 + (b (p ||| z_lw set) - 1), (zm_f b set (set ^^^ (p ||| z_lw set))).2.1 + 1, (zm_f b set (set ^^^ (p ||| z_lw set))).2.2 + z_pc (p ||| z_lw set)) else cur := by unfold zm_off; rw [if_neg hb0]
        by_cases hd : zm_dec cur ((zm_f b set (set ^^^ (p ||| z_lw set))).1 + (b (p ||| z_lw set) - 1)) ((zm_f b set (set ^^^ (p ||| z_lw set))).2.1 + 1) ((zm_f b set (set ^^^ (p ||| z_lw set))).2.2 + z_pc (p ||| z_lw set)) = true
        · rw [if_pos hd]
          rw [if_pos hd] at e2
          rw [← e2]
          refine hk ((p - 1) &&& (set ^^^ z_lw set), zm_put br ν set (zm_off b (zm_f b set) set cur (p ||| z_lw set))) ⟨by omega, z_in_and, z_f_trans hz zm_put_f (fun _ q => q) (fun _ q => q), fun id j hj => by rw [zm_put_o hj]; exact ho id j hj, zm_off b (zm_f b set) set cur (p ||| z_lw set), zm_put_s, cl2, hf⟩ (by show (p - 1) &&& (set ^^^ z_lw set) < p; omega)
        · rw [if_neg hd]
          rw [if_neg hd] at e2
          refine hk ((p - 1) &&& (set ^^^ z_lw set), ν) ⟨by omega, z_in_and, hz, ho, cur, hc, hcl, by rw [e2] at hf; exact hf⟩ (by show (p - 1) &&& (set ^^^ z_lw set) < p; omega)
  unfold og_findMost
  simp (disch := omega) only [lq, z_xor, z_rd, z_wr, z_sbind, t0.1, z_sI_id, t0.2.1, t0.2.2]
  refine loop (zm_put br c set (zm_f b set (set ^^^ z_lw set))) (zm_f b set (set ^^^ z_lw set)) zm_put_f (fun id j hj => zm_put_o hj) zm_put_s ?_ ?_
  · unfold zm_le at *; omega
  · rw [zm_f_at h0]; rfl
/-- all that rings are, of some people among A -/
def zx_all (X : zx_T) (A s w : Nat) : Prop := ∃ first, first < zx_pp X ∧ A.testBit first = true ∧ zx_st X first s w
/-- what the class's rows of rounds are in the end -/
def zr_C (X : zx_T) (A br : Nat) (c : g_St) : Prop := ∃ b, zx_up (zx_all X A) (fun _ => 0) b ∧ zb_B br b c ∧ ∀ s, s < 256 → z_in s A → zm_C br (zm_f b 256) s c
