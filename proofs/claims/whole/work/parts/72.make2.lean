/-! Layer 2: MAKE, as an operation -/
theorem z_bitq {a i : Nat} (ha : a < 2147483648) (hi : i < 32) : ((nI a >>> (nI i &&& 31)) &&& (1 : Int32)) = nI (z_bit a i) := by
  rw [show (31 : Int32) = nI 31 from rfl, z_and, z_n31 hi, z_shr ha hi, show (1 : Int32) = nI 1 from rfl, z_and, z_bit_and]
theorem z_bit1 {a i : Nat} : (nI (z_bit a i) = (1 : Int32)) = (z_bit a i = 1) := by
  have := z_bit_lt a i
  show (nI (z_bit a i) = nI 1) = _
  rw [z_eq (by omega) (by omega)]
theorem z_tp {i : Nat} (hi : i < 31) : (1 : Int32) <<< (nI i &&& 31) = nI (2 ^ i) := by
  rw [show (31 : Int32) = nI 31 from rfl, z_and, z_n31 (by omega), show (1 : Int32) = nI 1 from rfl, z_shl1 hi]
theorem zw_C_use {L : zl_T} {W : zw_T} {c : g_St} {F p fr : Nat} (hC : zw_C L W c 61) (how : zw_ok L W) (hs : zw_hs W p fr 6 = true) (hp : p < 8) (h8 : zl_pp L ≤ 8 ∧ zl_gd L ≤ 6) (hfr : fr < 64) (hF : 60 < F) : z_w (ow_useUp F 61 (nI p) (nI fr) c) (fun s => zw_C L (zw_us W p fr 6) s 61 ∧ z_f (fun id => id ≠ 65) c s) := by
  have h40 := how.1
  unfold ow_useUp
  refine z_cw (n := 6) (A := fun f i s => ow_useUp_2 F 61 (nI p) (nI fr) f (nI i) s) (fun i s => zw_C L (zw_us W p fr i) s 61 ∧ z_f (fun id => id ≠ 65) c s) ?_ ?_ F 0 c (by omega) ⟨hC, z_f_refl⟩ (by omega)
  · intro f i s hi ⟨h1, h2⟩ hk
    have kn := (zw_us_k (W := W) (p := p) (fr := fr) i).1
    show z_w (ow_useUp_2_b F 61 (nI p) (nI fr) _ (nI i) s) _
    unfold ow_useUp_2_b ow_useUp_27
    rw [if_pos (show nI i < (6 : Int32) from nI_lt (b := 6) hi (by omega)), z_bitq (by omega) (by omega), zw_C_first h1 (zw_us_ok how) hp hi h8 (by omega), z_sbind, kn, nI_1]
    by_cases a : z_bit fr i = 1
    · have nz : zw_fh (zw_us W p fr i) p i (zw_n W) ≠ 0 := by rw [zw_us_fh hs i (by omega) i (Nat.le_refl _)]; exact zw_hs_at hs i hi a
      have fl := zw_fh_le (W := zw_us W p fr i) (p := p) (g := i) (zw_n W)
      rw [if_pos (by rw [z_bit1]; exact a), if_neg (show ¬ zE (zw_fh (zw_us W p fr i) p i (zw_n W)) = (-1 : Int32) from fun q => nz (by have : zE (zw_fh (zw_us W p fr i) p i (zw_n W)) = -nI 1 := q; rwa [zE_m1 (by omega)] at this)), zE_pos nz, z_wr (by omega) (by omega), z_sbind]
      refine hk _ ⟨?_, z_f_trans h2 (z_f_sI (P := fun id => id ≠ 65) (fun q => q rfl)) (fun _ q => q) (fun _ q => q)⟩
      rw [zw_us_s, if_pos a]
      refine ⟨?_, ?_, fun t ht => ?_, fun q hq => ?_⟩
      · rw [z_sI_id (by omega)]; exact h1.1
      · rw [z_sI_id (by omega)]; exact h1.2.1
      · have b := h1.2.2.1 t ht
        refine ⟨by rw [z_sI_id (by omega)]; exact b.1, by rw [z_sI_id (by omega)]; exact b.2.1, by rw [z_sI_id (by omega)]; exact b.2.2.1, ?_, by rw [z_sI_id (by omega)]; exact b.2.2.2.2⟩
        show _ = zE (if t = zw_fh (zw_us W p fr i) p i (zw_n W) - 1 then 0 else zw_ho (zw_us W p fr i) t)
        by_cases e : t = zw_fh (zw_us W p fr i) p i (zw_n W) - 1
        · rw [if_pos e, ← e]; exact z_sI_same _ _ _ _
        · rw [if_neg e, z_sI_k e]; exact b.2.2.2.1
      · simp (disch := omega) only [z_sI_id]; exact h1.2.2.2 q hq
    · rw [if_neg (by rw [z_bit1]; exact a), if_pos rfl]
      refine hk _ ⟨?_, h2⟩
      rw [zw_us_s, if_neg a]; exact h1
  · intro f s ⟨h1, h2⟩
    show z_w (ow_useUp_2_b F 61 (nI p) (nI fr) _ (nI 6) s) _
    unfold ow_useUp_2_b
    rw [if_neg (by decide)]
    exact z_w_some ⟨h1, h2⟩
theorem zw_R_use {L : zl_T} {W : zw_T} {r : g_St} {F p g fr : Nat} {v2 v4 : Int32} {Q : Int32 × g_St → Prop} (hL : zl_R L r) (hR : zw_R L W r) (how : zw_ok L W) (hs : zw_hs W p fr 6 = true) (hp : p < 8) (hg : g < zl_gd L) (h8 : zl_pp L ≤ 8 ∧ zl_gd L ≤ 6) (efr : zl_fr L g = fr) (hfr : fr < 64) (hF : 60 < F)
    (tail : ∀ s, zw_R L (zw_us W p fr 6) s → z_f (fun id => id ≠ 32) r s → z_w (if v2 = (-1 : Int32) then (g_rd s 35 8 (nI p)).bind fun x6 => mm_make_97 F (nI p) v2 (nI g) v4 x6 s else (g_rd s 35 8 (nI p)).bind fun x16 => (g_rd s 35 8 v2).bind fun x17 => mm_make_97 F (nI p) v2 (nI g) v4 (g_max x16 x17) s) Q) : z_w (mm_make_27 F (nI p) v2 (nI g) v4 F 0 r) Q := by
  have h40 := how.1
  refine z_cw (n := 6) (A := fun f i s => mm_make_27 F (nI p) v2 (nI g) v4 f (nI i) s) (fun i s => zw_R L (zw_us W p fr i) s ∧ z_f (fun id => id ≠ 32) r s) ?_ ?_ F 0 r (by omega) ⟨hR, z_f_refl⟩ (by omega)
  · intro f i s hi ⟨h1, h2⟩ hk
    have kn := (zw_us_k (W := W) (p := p) (fr := fr) i).1
    have e10 : s.1 10 g = nI fr := by rw [h2.1 10 (by omega), (hL.2.2.2.2.1 g hg).2, efr]
    show z_w (mm_make_27_b F (nI p) v2 (nI g) v4 _ (nI i) s) _
    unfold mm_make_27_b
    rw [if_pos (show nI i < (6 : Int32) from nI_lt (b := 6) hi (by omega)), z_rd (by omega) (by omega), z_sbind, e10, z_bitq (by omega) (by omega), zw_R_first h1 (zw_us_ok how) hp hi h8 (by omega), z_sbind, kn, nI_1]
    by_cases a : z_bit fr i = 1
    · have nz : zw_fh (zw_us W p fr i) p i (zw_n W) ≠ 0 := by rw [zw_us_fh hs i (by omega) i (Nat.le_refl _)]; exact zw_hs_at hs i hi a
      have fl := zw_fh_le (W := zw_us W p fr i) (p := p) (g := i) (zw_n W)
      rw [if_pos (by rw [z_bit1]; exact a), zE_pos nz, z_wr (by omega) (by omega), z_sbind]
      refine hk _ ⟨?_, z_f_trans h2 (z_f_sI (P := fun id => id ≠ 32) (fun q => q rfl)) (fun _ q => q) (fun _ q => q)⟩
      rw [zw_us_s, if_pos a]
      refine ⟨?_, fun j hj => ?_, fun t ht => ?_, fun q hq => ?_⟩
      · rw [z_sI_id (by omega)]; exact h1.1
      · rw [z_sI_id (by omega)]; exact h1.2.1 j hj
      · have b := h1.2.2.1 t ht
        refine ⟨by rw [z_sI_id (by omega)]; exact b.1, by rw [z_sI_id (by omega)]; exact b.2.1, by rw [z_sI_id (by omega)]; exact b.2.2.1, ?_, by rw [z_sI_id (by omega)]; exact b.2.2.2.2⟩
        show _ = zE (if t = zw_fh (zw_us W p fr i) p i (zw_n W) - 1 then 0 else zw_ho (zw_us W p fr i) t)
        by_cases e : t = zw_fh (zw_us W p fr i) p i (zw_n W) - 1
        · rw [if_pos e, ← e]; exact z_sI_same _ _ _ _
        · rw [if_neg e, z_sI_k e]; exact b.2.2.2.1
      · simp (disch := omega) only [z_sI_id]; exact h1.2.2.2 q hq
    · rw [if_neg (by rw [z_bit1]; exact a)]
      refine hk _ ⟨?_, h2⟩
      rw [zw_us_s, if_neg a]; exact h1
  · intro f s ⟨h1, h2⟩
    show z_w (mm_make_27_b F (nI p) v2 (nI g) v4 _ (nI 6) s) _
    unfold mm_make_27_b
    rw [if_neg (by decide)]
    exact tail s h1 h2
/-- one more THING -/
def zw_mkd (V : zw_T) (p q g s d m : Nat) : zw_T := ((zw_n V + 1, zw_lf V), (fun i => if i = zw_n V then g else zw_gd V i), (fun i => if i = zw_n V then s else zw_so V i), (fun i => if i = zw_n V then m else zw_mk V i), (fun i => if i = zw_n V then p + 1 else zw_ho V i), (fun i => if i = zw_n V then d else zw_dn V i), (fun i => if i = p ∨ i = q then d else zw_ck V i), zw_pc V)
theorem zw_mkd_ok {L : zl_T} {V : zw_T} {p q g s d m : Nat} (how : zw_ok L V) (hn : zw_n V < 40) (hp : p < zl_pp L) (hg : g < zl_gd L) (hs : s ≤ 3) (hd : d ≤ 168) (hm : m < 256) : zw_ok L (zw_mkd V p q g s d m) := by
  refine ⟨by show zw_n V + 1 ≤ 40; omega, how.2.1, fun t ht => ?_, fun k hk => ?_⟩
  · have ht : t < zw_n V + 1 := ht
    show (if t = zw_n V then g else zw_gd V t) < _ ∧ (if t = zw_n V then s else zw_so V t) ≤ 3 ∧ (if t = zw_n V then m else zw_mk V t) < 256 ∧ (if t = zw_n V then p + 1 else zw_ho V t) ≤ _ ∧ (if t = zw_n V then d else zw_dn V t) ≤ 168
    by_cases e : t = zw_n V
    · simp only [if_pos e]; exact ⟨hg, hs, hm, by omega, hd⟩
    · simp only [if_neg e]; exact how.2.2.1 t (by omega)
  · refine ⟨?_, (how.2.2.2 k hk).2⟩
    show (if k = p ∨ k = q then d else zw_ck V k) ≤ 168
    split
    · exact hd
    · exact (how.2.2.2 k hk).1
theorem zw_C_mkd {L : zl_T} {V : zw_T} {c : g_St} {p q g s d m : Nat} (hC : zw_C L V c 61) (hn : zw_n V < 40) : zw_C L (zw_mkd V p q g s d m) (g_sI (g_sI (g_sI (g_sI (g_sI (g_sI (g_sI (g_sI (g_sI c 62 (zw_n V) (nI g)) 63 (zw_n V) (nI s)) 64 (zw_n V) (nI m)) 65 (zw_n V) (nI p)) 66 (zw_n V) (nI d)) 61 0 (nI (zw_n V + 1))) 67 p (nI d)) 67 q (nI d)) 0 14 0) 61 := by
  refine ⟨?_, ?_, fun t ht => ?_, fun k hk => ?_⟩
  · simp (disch := omega) only [z_sI_id, z_sI_same]; rfl
  · simp (disch := omega) only [z_sI_id, z_sI_k]; exact hC.2.1
  · have ht : t < zw_n V + 1 := ht
    show _ = nI (if t = zw_n V then g else zw_gd V t) ∧ _ = nI (if t = zw_n V then s else zw_so V t) ∧ _ = nI (if t = zw_n V then m else zw_mk V t) ∧ _ = zE (if t = zw_n V then p + 1 else zw_ho V t) ∧ _ = nI (if t = zw_n V then d else zw_dn V t)
    by_cases e : t = zw_n V
    · subst e
      simp (disch := omega) only [z_sI_id, z_sI_same, if_true, zE_s]
      exact ⟨trivial, trivial, trivial, trivial, trivial⟩
    · have b := hC.2.2.1 t (by omega)
      simp (disch := omega) only [z_sI_id, z_sI_k, if_neg e]
      exact b
  · have b := hC.2.2.2 k hk
    refine ⟨?_, by simp (disch := omega) only [z_sI_id]; exact b.2⟩
    show _ = nI (if k = p ∨ k = q then d else zw_ck V k)
    rw [z_sI_id (by omega)]
    by_cases e : k = q
    · rw [if_pos (Or.inr e), e]; exact z_sI_same _ _ _ _
    · rw [z_sI_k e]
      by_cases e2 : k = p
      · rw [if_pos (Or.inl e2), e2]; exact z_sI_same _ _ _ _
      · rw [if_neg (by omega), z_sI_k e2]
        simp (disch := omega) only [z_sI_id]
        exact b.1
theorem zw_R_mkd {L : zl_T} {V : zw_T} {r : g_St} {p q g s d m : Nat} (hR : zw_R L V r) (hn : zw_n V < 40) : zw_R L (zw_mkd V p q g s d m) (g_sI (g_sI (g_sI (g_sI (g_sI (g_sI (g_sI (g_sI r 35 p (nI d)) 35 q (nI d)) 29 (zw_n V) (nI g)) 30 (zw_n V) (nI s)) 31 (zw_n V) (nI m)) 32 (zw_n V) (nI p)) 33 (zw_n V) (nI d)) 0 39 (nI (zw_n V + 1))) := by
  refine ⟨?_, fun j hj => ?_, fun t ht => ?_, fun k hk => ?_⟩
  · exact z_sI_same _ _ _ _
  · simp (disch := omega) only [z_sI_id]; exact hR.2.1 j hj
  · have ht : t < zw_n V + 1 := ht
    show _ = nI (if t = zw_n V then g else zw_gd V t) ∧ _ = nI (if t = zw_n V then s else zw_so V t) ∧ _ = nI (if t = zw_n V then m else zw_mk V t) ∧ _ = zE (if t = zw_n V then p + 1 else zw_ho V t) ∧ _ = nI (if t = zw_n V then d else zw_dn V t)
    by_cases e : t = zw_n V
    · subst e
      simp (disch := omega) only [z_sI_id, z_sI_same, if_true, zE_s]
      exact ⟨trivial, trivial, trivial, trivial, trivial⟩
    · have b := hR.2.2.1 t (by omega)
      simp (disch := omega) only [z_sI_id, z_sI_k, if_neg e]
      exact b
  · have b := hR.2.2.2 k hk
    refine ⟨?_, by simp (disch := omega) only [z_sI_id]; exact b.2⟩
    show _ = nI (if k = p ∨ k = q then d else zw_ck V k)
    simp (disch := omega) only [z_sI_id]
    by_cases e : k = q
    · rw [if_pos (Or.inr e), e]; exact z_sI_same _ _ _ _
    · rw [z_sI_k e]
      by_cases e2 : k = p
      · rw [if_pos (Or.inl e2), e2]; exact z_sI_same _ _ _ _
      · rw [if_neg (by omega), z_sI_k e2]
        exact b.1
