/-! Layer 2: the reference's MOSTs -/
theorem zm_list0 : ∀ s, s < 256 → s ≠ 0 → (z_ss s s).filter (fun p => decide (p &&& z_lw s ≠ 0)) = (z_ss (s ^^^ z_lw s) (s ^^^ z_lw s)).map (fun p => p ||| z_lw s) ++ [z_lw s] := by decide +kernel
theorem zm_sub0 : ∀ s, s < 256 → s ≠ 0 → z_lw s ≤ s ∧ s - z_lw s = s ^^^ z_lw s := by decide +kernel
def zm_off2 (b : Nat → Nat) (t : Nat → zm_T) (set : Nat) (c : zm_T) (p : Nat) : zm_T := if p &&& z_lw set = 0 then c else zm_off b t set c p
theorem zm_fold2 {b : Nat → Nat} {t : Nat → zm_T} {set : Nat} : ∀ (l : List Nat) (c : zm_T), l.foldl (zm_off2 b t set) c = (l.filter (fun p => decide (p &&& z_lw set ≠ 0))).foldl (zm_off b t set) c
  | [], _ => rfl
  | p :: l, c => by
    rw [List.foldl_cons, zm_fold2 l]
    by_cases h : p &&& z_lw set = 0
    · rw [List.filter_cons_of_neg (by simp [h])]
      unfold zm_off2; rw [if_pos h]
    · rw [List.filter_cons_of_pos (by simp [h]), List.foldl_cons]
      unfold zm_off2; rw [if_neg h]
theorem zm_set2 {b : Nat → Nat} {set : Nat} (hs : set < 256) (h0 : set ≠ 0) (hb : b (z_lw set) = 0) : (z_ss set set).foldl (zm_off2 b (zm_f b set) set) (zm_f b set (set ^^^ z_lw set)) = zm_f b (set + 1) set := by
  rw [zm_fold2, zm_list0 set hs h0, List.foldl_append, zm_f_at h0]
  show zm_off b (zm_f b set) set (zm_set b (zm_f b set) set) (z_lw set) = _
  unfold zm_off; rw [if_pos hb]
def zm_R (T : Nat → zm_T) (s : Nat) (r : g_St) : Prop := r.1 42 s = nI (T s).1 ∧ r.1 43 s = nI (T s).2.1 ∧ r.1 44 s = nI (T s).2.2
def zm_rput (r : g_St) (s : Nat) (t : zm_T) : g_St := g_sI (g_sI (g_sI r 42 s (nI t.1)) 43 s (nI t.2.1)) 44 s (nI t.2.2)
def zm_P (id : Nat) : Prop := id ≠ 42 ∧ id ≠ 43 ∧ id ≠ 44
theorem zm_rput_f {s : Nat} {r : g_St} {t : zm_T} : z_f zm_P r (zm_rput r s t) :=
  z_f_trans (z_f_trans (z_f_sI (P := zm_P) (fun q => q.1 rfl)) (z_f_sI (P := zm_P) (fun q => q.2.1 rfl)) (R := zm_P) (fun _ q => q) (fun _ q => q)) (z_f_sI (P := zm_P) (fun q => q.2.2 rfl)) (fun _ q => q) (fun _ q => q)
theorem zm_rput_o {s j id : Nat} {r : g_St} {t : zm_T} (h : j ≠ s) : (zm_rput r s t).1 id j = r.1 id j := by
  unfold zm_rput; rw [z_sI_k h, z_sI_k h, z_sI_k h]
theorem zm_rput_s {s : Nat} {r : g_St} {t : zm_T} : (zm_rput r s t).1 42 s = nI t.1 ∧ (zm_rput r s t).1 43 s = nI t.2.1 ∧ (zm_rput r s t).1 44 s = nI t.2.2 := by
  unfold zm_rput
  refine ⟨?_, ?_, ?_⟩
  · rw [z_sI_id (by omega), z_sI_id (by omega), z_sI_same]
  · rw [z_sI_id (by omega), z_sI_same]
  · rw [z_sI_same]
theorem zm_better {r : g_St} {set w k n : Nat} {cur : zm_T} (hs : set < 256) (hc : r.1 42 set = nI cur.1 ∧ r.1 43 set = nI cur.2.1 ∧ r.1 44 set = nI cur.2.2) (hcl : zm_le cur 256) (hw : w < 2147483648) (hk : k < 2147483648) (hn : n < 2147483648) : mm_isBetter r (nI set) (nI w) (nI k) (nI n) = some (nI (zm_dec cur w k n).toNat) := by
  unfold zm_le at hcl
  unfold mm_isBetter
  simp (disch := omega) only [nI_lit, z_rd, z_sbind, hc.1, hc.2.1, hc.2.2, z_le, z_lt, z_eq]
  have D : zm_dec cur w k n = decide (cur.1 < w ∨ (w = cur.1 ∧ (k < cur.2.1 ∨ (k = cur.2.1 ∧ n < cur.2.2)))) := by
    by_cases h : zm_bt cur w k n
    · rw [zm_dec_iff.mpr h]; unfold zm_bt at h; rw [decide_eq_true h]
    · have : zm_dec cur w k n = false := by cases e : zm_dec cur w k n with
        | false => rfl
        | true => exact absurd (zm_dec_iff.mp e) h
      rw [this]; unfold zm_bt at h; rw [decide_eq_false h]
  rw [D]
  by_cases h1 : w = cur.1
  · rw [if_pos h1]
    by_cases h2 : cur.2.1 ≤ k
    · rw [if_pos h2]
      by_cases h3 : k = cur.2.1
      · rw [if_pos h3]
        by_cases h4 : n < cur.2.2
        · rw [if_pos h4, decide_eq_true (by omega)]; rfl
        · rw [if_neg h4, decide_eq_false (by omega)]; rfl
      · rw [if_neg h3, decide_eq_false (by omega)]; rfl
    · rw [if_neg h2, decide_eq_true (by omega)]; rfl
  · rw [if_neg h1]
    by_cases h5 : cur.1 < w
    · rw [if_pos h5, decide_eq_true (by omega)]; rfl
    · rw [if_neg h5, decide_eq_false (by omega)]; rfl
theorem zm_mosts {pp F : Nat} {r : g_St} {b : Nat → Nat} (h4 : r.1 4 0 = nI pp) (hpp : pp ≤ 8) (hB : zj_B b r) (hb1 : ∀ s, s < 256 → s ≠ 0 → b (z_lw s) = 0) (hF : 300 < F) :
    z_w (mm_mosts F r) (fun ν => z_f zm_P r ν ∧ ∀ s, s < 2 ^ pp → zm_R (zm_f b 256) s ν) := by
  have hbb : ∀ s, s < 256 → b s < 100000 := fun s hs => (hB s hs).2
  have hle := zm_f_le hbb
  have h28 : (2 : Nat) ^ pp ≤ 256 := Nat.pow_le_pow_right (by omega) hpp (n := 2)
  have h20 : 0 < (2 : Nat) ^ pp := Nat.two_pow_pos pp
  unfold mm_mosts
  refine z_cw (n := 2 ^ pp) (A := fun n i s => mm_mosts_2 F n (nI i) s) (fun i s => z_f zm_P r s ∧ ∀ j, j < i → zm_R (zm_f b i) j s) ?_ ?_ F 0 r (by omega) ⟨z_f_refl, fun j hj => absurd hj (by omega)⟩ (by omega)
  · intro n set s hset hI hk
    obtain ⟨a1, a2⟩ := hI
    have e4 : s.1 4 0 = nI pp := by rw [a1.1 4 (by unfold zm_P; omega)]; exact h4
    show z_w (mm_mosts_2_b F _ (nI set) s) _
    unfold mm_mosts_2_b
    rw [show (0 : Int32) = nI 0 from rfl, z_rd (by omega) (by omega), z_sbind, e4]
    simp (disch := omega) only [z_and, z_or, z_xor, z_n31, z_shr, z_shl1, z_bit_and, z_andn, nI_lit, z_lt, z_eq]
    rw [if_pos hset, z_wr (by omega) (by omega), z_sbind, z_wr (by omega) (by omega), z_sbind, z_wr (by omega) (by omega), z_sbind]
    have zput : g_sI (g_sI (g_sI s 42 set (nI 0)) 43 set (nI 0)) 44 set (nI 0) = zm_rput s set (0, 0, 0) := rfl
    rw [zput]
    have a1' : z_f zm_P r (zm_rput s set (0, 0, 0)) := z_f_trans a1 zm_rput_f (fun _ q => q) (fun _ q => q)
    have a2' : ∀ j, j < set → zm_R (zm_f b set) j (zm_rput s set (0, 0, 0)) := fun j hj => by
      have := a2 j hj
      unfold zm_R at *; rw [zm_rput_o (by omega), zm_rput_o (by omega), zm_rput_o (by omega)]; exact this
    by_cases h0 : set = 0
    · rw [if_pos h0]
      subst h0
      rw [nI_add]
      refine hk _ ⟨a1', fun j hj => ?_⟩
      have : j = 0 := by omega
      subst this
      unfold zm_R; rw [zm_f_0]; exact zm_rput_s
    · rw [if_neg h0]
      have hlow := z_lw_in (show set < 256 by omega) h0
      have hl0 := (z_lw_in0 set (by omega) h0).2.1
      have hsb := zm_sub0 set (by omega) h0
      have hrest := z_xor_lt hlow hl0
      have t0 := a2' _ hrest
      have lq := z_low set (by omega)
      generalize hμ : zm_rput s set (0, 0, 0) = μ at *
      have q0 := hle set (set ^^^ z_lw set) (by omega)
      unfold zm_R at t0
      rw [lq, z_sub hsb.1, hsb.2, z_rd (by omega) (by omega), z_sbind, t0.1, z_wr (by omega) (by omega), z_sbind, z_rd (by omega) (by omega), z_sbind, z_sI_id (by omega), t0.2.1, z_wr (by omega) (by omega), z_sbind, z_rd (by omega) (by omega), z_sbind, z_sI_id (by omega), z_sI_id (by omega), t0.2.2, z_wr (by omega) (by omega), z_sbind]
      refine z_mw (A := fun n (s : Nat × g_St) => mm_mosts_91 F (nI set) (nI (z_lw set)) (mm_mosts_2 F _) n (nI s.1) s.2)
        (fun s => s.1 ≤ set ∧ z_in s.1 set ∧ z_f zm_P r s.2 ∧ (∀ id j, j ≠ set → s.2.1 id j = μ.1 id j) ∧ ∃ cur : zm_T, (s.2.1 42 set = nI cur.1 ∧ s.2.1 43 set = nI cur.2.1 ∧ s.2.1 44 set = nI cur.2.2) ∧ zm_le cur set ∧ (z_ss set s.1).foldl (zm_off2 b (zm_f b set) set) cur = zm_f b (set + 1) set) (fun s => s.1) ?_ F (set, zm_rput μ set (zm_f b set (set ^^^ z_lw set))) ⟨Nat.le_refl _, z_in_self _, z_f_trans a1' zm_rput_f (fun _ q => q) (fun _ q => q), fun id j hj => zm_rput_o hj, zm_f b set (set ^^^ z_lw set), zm_rput_s, by unfold zm_le at *; omega, zm_set2 (by omega) h0 (hb1 set (by omega) h0)⟩ (by show set < F; omega)
      intro n2 s2 hI hk2
      obtain ⟨p, ν⟩ := s2
      obtain ⟨hp, hin, hz, ho, cur, hc, hcl, hf⟩ := hI
      have hp : p ≤ set := hp
      have hin : z_in p set := hin
      have hz : z_f zm_P r ν := hz
      show z_w (mm_mosts_91_b F (nI set) (nI (z_lw set)) _ _ (nI p) ν) _
      unfold mm_mosts_91_b
      have hand : (p - 1) &&& set ≤ p - 1 := Nat.and_le_left
      by_cases hp0 : p = 0
      · subst hp0
        rw [if_neg (show ¬ (0 : Int32) < nI 0 from by decide), nI_1]
        rw [z_ss_0] at hf
        have hf2 : cur = zm_f b (set + 1) set := hf
        refine hk ν ⟨hz, fun j hj => ?_⟩
        by_cases e : j = set
        · subst e; unfold zm_R; rw [← hf2]; exact hc
        · have := a2' j (by omega)
          unfold zm_R at *
          rw [ho _ _ e, ho _ _ e, ho _ _ e, zm_f_up (show j < set by omega) (show set ≤ set + 1 by omega)]; exact this
      · have hlw : p &&& z_lw set ≤ p := Nat.and_le_left
        rw [z_ss_s hp0, List.foldl_cons] at hf
        rw [if_pos (show (0 : Int32) < nI p from nI_lt (a := 0) (by omega) (by omega))]
        simp (disch := omega) only [z_and, nI_lit, z_sub, z_eq]
        have next : ∀ (ν2 : g_St) (c2 : zm_T), z_f zm_P r ν2 → (∀ id j, j ≠ set → ν2.1 id j = μ.1 id j) → (ν2.1 42 set = nI c2.1 ∧ ν2.1 43 set = nI c2.2.1 ∧ ν2.1 44 set = nI c2.2.2) → zm_le c2 set → zm_off2 b (zm_f b set) set cur p = c2 → z_w (mm_mosts_91 F (nI set) (nI (z_lw set)) (mm_mosts_2 F n) n2 (nI ((p - 1) &&& set)) ν2) (fun ν => z_f zm_P r ν ∧ ∀ s, s < 2 ^ pp → zm_R (zm_f b 256) s ν) := by
          intro ν2 c2 x1 x2 x3 x4 x5
          exact hk2 ((p - 1) &&& set, ν2) ⟨by omega, z_in_and, x1, x2, c2, x3, x4, by rw [← x5]; exact hf⟩ (by show (p - 1) &&& set < p; omega)
        by_cases hl : p &&& z_lw set = 0
        · rw [if_pos hl]
          exact next ν cur hz ho hc hcl (by unfold zm_off2; rw [if_pos hl])
        · rw [if_neg hl]
          have hb := hB p (by omega)
          have e39 : ν.1 39 p = zE (b p) := by rw [hz.1 39 (by unfold zm_P; omega)]; exact hb.1
          rw [z_rd (by omega) (by omega), z_sbind, e39]
          simp only [zE_lt0 (show b p < 2147483648 by omega)]
          by_cases hb0 : b p = 0
          · rw [if_pos hb0]
            exact next ν cur hz ho hc hcl (by unfold zm_off2 zm_off; rw [if_neg hl, if_pos hb0])
          · rw [if_neg hb0]
            have hx := z_xor_lt hin hp0
            have hsp : set &&& p = p := by rw [Nat.and_comm]; exact hin
            have t1 := a2' _ hx
            have t1' : zm_R (zm_f b set) (set ^^^ p) ν := by unfold zm_R at *; rw [ho _ _ (by omega), ho _ _ (by omega), ho _ _ (by omega)]; exact t1
            have q1 := hle set (set ^^^ p) (by omega)
            have h4p := z_pc_le p
            unfold zm_R at t1'
            have cl2 := zm_off_le (b := b) (t := zm_f b set) (c := cur) hbb (by omega) (fun s h => hle set s (by omega)) hcl hin hp0
            have hw : (zm_f b set (set ^^^ p)).1 + (b p - 1) < 2147483648 := by unfold zm_le at q1; omega
            have hr2 : (zm_f b set (set ^^^ p)).2.1 + 1 < 2147483648 := by unfold zm_le at q1; omega
            have hn2 : (zm_f b set (set ^^^ p)).2.2 + z_pc p < 2147483648 := by unfold zm_le at q1; omega
            rw [z_andn, hsp, z_rd (by omega) (by omega), z_sbind, t1'.1, z_sbind, zE_pos hb0, z_rd (by omega) (by omega), z_sbind, t1'.2.1, z_rd (by omega) (by omega), z_sbind, t1'.2.2, z_bits (by omega) (by omega), z_sbind, nI_add, nI_add, nI_add, zm_better (by omega) hc (by unfold zm_le at *; omega) hw hr2 hn2, z_sbind]
            have eo : zm_off2 b (zm_f b set) set cur p = if zm_dec cur ((zm_f b set (set ^^^ p)).1 + (b p - 1)) ((zm_f b set (set ^^^ p)).2.1 + 1) ((zm_f b set (set ^^^ p)).2.2 + z_pc p) = true then ((zm_f b set (set ^^^ p)).1 + (b p - 1), (zm_f b set (set ^^^ p)).2.1 + 1, (zm_f b set (set ^^^ p)).2.2 + z_pc p) else cur := by unfold zm_off2 zm_off; rw [if_neg hl, if_neg hb0]
            have eo2 : zm_off b (zm_f b set) set cur p = zm_off2 b (zm_f b set) set cur p := by unfold zm_off2; rw [if_neg hl]
            cases hd : zm_dec cur ((zm_f b set (set ^^^ p)).1 + (b p - 1)) ((zm_f b set (set ^^^ p)).2.1 + 1) ((zm_f b set (set ^^^ p)).2.2 + z_pc p) with
            | false =>
              rw [if_pos (show nI (false).toNat = nI 0 from rfl)]
              exact next ν cur hz ho hc hcl (by rw [eo, hd, if_neg (by decide)])
            | true =>
              rw [if_neg (show ¬ nI (true).toNat = nI 0 from by decide), z_wr (by omega) (by omega), z_sbind, z_wr (by omega) (by omega), z_sbind, z_wr (by omega) (by omega), z_sbind]
              rw [hd, if_pos rfl] at eo
              rw [eo2, eo] at cl2
              exact next (zm_rput ν set ((zm_f b set (set ^^^ p)).1 + (b p - 1), (zm_f b set (set ^^^ p)).2.1 + 1, (zm_f b set (set ^^^ p)).2.2 + z_pc p)) _ (z_f_trans hz zm_rput_f (fun _ q => q) (fun _ q => q)) (fun id j hj => by rw [zm_rput_o hj]; exact ho id j hj) zm_rput_s cl2 eo
  · intro n s hI
    obtain ⟨a1, a2⟩ := hI
    have e4 : s.1 4 0 = nI pp := by rw [a1.1 4 (by unfold zm_P; omega)]; exact h4
    show z_w (mm_mosts_2_b F _ (nI (2 ^ pp)) s) _
    unfold mm_mosts_2_b
    rw [show (0 : Int32) = nI 0 from rfl, z_rd (by omega) (by omega), z_sbind, e4]
    simp (disch := omega) only [z_and, z_or, z_xor, z_n31, z_shr, z_shl1, z_bit_and, z_andn, nI_lit, z_lt]
    rw [if_neg (Nat.lt_irrefl _)]
    refine z_w_some ⟨a1, fun j hj => ?_⟩
    have := a2 j hj
    unfold zm_R at *
    rw [zm_f_up hj h28]; exact this
