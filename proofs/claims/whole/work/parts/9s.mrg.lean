/-! OwnMade's constructor: the worlds that it goes through -/
def cs_c0 : g_St := (fun _ _ => 0, fun id k => if id = 2 then zt_wd k else 0, fun k => [7, 30, 53, 57].getD k 0)
def cs_F : List (Nat × Nat) := [(2, 1), (2, 7), (2, 30), (2, 53), (2, 57), (2, 61), (2, 69), (0, 0), (2, 70), (2, 71), (2, 81), (2, 91), (2, 99), (2, 100), (0, 0)]
def cs_e (ad ca : Nat → Nat) (mk i : Nat) : va_E := if i = 69 then .inl (ca 69, 4, .inr (.inr (.inr (.inr (fun j => if j < mk then some (ad (101 + 8 * j)) else none))))) else g_ent ad ca gC cs_c0 i
def cs_tl (ad ca : Nat → Nat) (n mk : Nat) : va_W := (List.range n).map (fun i => (ad (i + 1), cs_e ad ca mk (i + 1)))
def cs_w (ad ca : Nat → Nat) (n mk : Nat) : va_W := (ad 0, .inr (6, ci_f ad cs_c0 cs_F n)) :: cs_tl ad ca n mk
theorem cs_tl_s {ad ca : Nat → Nat} {n mk i : Nat} (h : i < n) : (cs_tl ad ca n mk)[i]? = some (ad (i + 1), cs_e ad ca mk (i + 1)) := by simp [cs_tl, h]
theorem cs_tl_len {ad ca : Nat → Nat} {n mk : Nat} : (cs_tl ad ca n mk).length = n := by simp [cs_tl]
theorem cs_w_len {ad ca : Nat → Nat} {n mk : Nat} : (cs_w ad ca n mk).length = n + 1 := by simp [cs_w, cs_tl]
theorem cs_wW_s {ad ca : Nat → Nat} {Λ : g_Lay} {μ : g_St} {i : Nat} (h : i < Λ.1) : (g_wW ad ca Λ μ)[i]? = some (ad i, g_ent ad ca Λ μ i) := by simp [g_wW, h]
theorem cs_wW_len {ad ca : Nat → Nat} {Λ : g_Lay} {μ : g_St} : (g_wW ad ca Λ μ).length = Λ.1 := by simp [g_wW]
/-- what stands below n looks no further than n -/
def cs_cl (n : Nat) : Bool := (List.range (n + 1)).all (fun i => i == 0 || i == 69 || (match gC.2 i with
  | .inl (_, F) => F.all (fun p => decide (p.1 ≤ 1) || (decide (p.1 = 2) && decide (p.2 ≤ n)))
  | .inr (ty, N, rf) => decide (ty < 4) || (decide (ty = 4) && (List.range N).all (fun j => decide (rf j ≤ n)))))
theorem cs_at_same {ad ad' ca ca' : Nat → Nat} {mk n i : Nat} (hcl : cs_cl n = true) (h1 : 1 ≤ i) (h2 : i ≤ n) (hm : ∀ j, j < mk → 101 + 8 * j ≤ n) (ho : ∀ j, j ≤ n → ad' j = ad j) (hc : ca' i = ca i) (a : Nat) (D : va_G) (H : Heap) (x : va_at D g_cl (a, cs_e ad ca mk i) H) : va_at D g_cl (a, cs_e ad' ca' mk i) H := by
  unfold cs_e at x ⊢
  by_cases e : i = 69
  · subst e
    rw [if_pos rfl] at x ⊢
    have : (fun j => if j < mk then some (ad' (101 + 8 * j)) else none) = (fun j => if j < mk then some (ad (101 + 8 * j)) else none) := funext fun j => by
      by_cases h : j < mk
      · rw [if_pos h, if_pos h, ho _ (hm j h)]
      · rw [if_neg h, if_neg h]
    rw [this, hc]; exact x
  · rw [if_neg e] at x ⊢
    have h3 := List.all_eq_true.mp hcl i (List.mem_range.mpr (by omega))
    have e0 : (i == 0) = false := by simp; omega
    have e9 : (i == 69) = false := by simp [e]
    rw [e0, e9, Bool.false_or, Bool.false_or] at h3
    cases hq : gC.2 i with
    | inl q =>
      obtain ⟨ci, F⟩ := q
      rw [hq] at h3
      rw [g_ent_o hq] at x ⊢
      have : g_fs ad' cs_c0 i F = g_fs ad cs_c0 i F := by
        unfold g_fs
        apply List.ext_getElem?
        intro j
        rw [List.getElem?_mapIdx, List.getElem?_mapIdx]
        cases hp : F[j]? with
        | none => rfl
        | some p =>
          have h4 := List.all_eq_true.mp h3 p (List.mem_of_getElem? hp)
          show some (g_fv ad' cs_c0 i j p) = some (g_fv ad cs_c0 i j p)
          obtain ⟨p1, p2⟩ := p
          rcases Bool.or_eq_true_iff.mp h4 with h5 | h5
          · have h5 : p1 ≤ 1 := of_decide_eq_true h5
            rcases (show p1 = 0 ∨ p1 = 1 by omega) with rfl | rfl <;> rfl
          · have h6 : p1 = 2 := of_decide_eq_true (Bool.and_eq_true_iff.mp h5).1
            have h7 : p2 ≤ n := of_decide_eq_true (Bool.and_eq_true_iff.mp h5).2
            subst h6
            show some (Value.ref (ad' p2)) = some (Value.ref (ad p2))
            rw [ho p2 h7]
      rw [this]; exact x
    | inr q =>
      obtain ⟨ty, N, rf⟩ := q
      rw [hq] at h3
      refine cj_ent hq hc ?_ a D H x
      rcases Bool.or_eq_true_iff.mp h3 with h5 | h5
      · exact .inl (of_decide_eq_true h5)
      · exact .inr (fun j hj => ho _ (of_decide_eq_true (List.all_eq_true.mp (Bool.and_eq_true_iff.mp h5).2 j (List.mem_range.mpr hj))))
/-- a callee's layout is that of the ids behind n -/
def cs_bl (Λ : g_Lay) (n : Nat) : Bool := (List.range Λ.1).all (fun i => decide (n + 1 + i ≠ 69) && (match Λ.2 i with
  | .inl (c1, F1) => (match gC.2 (n + 1 + i) with
    | .inl (c2, F2) => decide (c1 = c2) && decide (F2 = F1.map (fun p => (p.1, if p.1 = 2 then n + 1 + p.2 else p.2))) && F1.all (fun p => decide (p.1 ≤ 2) && (decide (p.1 ≠ 2) || decide (p.2 < Λ.1)))
    | .inr _ => false)
  | .inr (t1, N1, r1) => (match gC.2 (n + 1 + i) with
    | .inl _ => false
    | .inr (t2, N2, r2) => decide (t1 = t2) && decide (N1 = N2) && (decide (t1 < 4) || (decide (t1 = 4) && (List.range N1).all (fun j => decide (r2 j = n + 1 + r1 j) && decide (r1 j < Λ.1)))))))
theorem cs_bl_a {Λ : g_Lay} {n i t2 N2 : Nat} {r2 : Nat → Nat} (hb : cs_bl Λ n = true) (hi : i < Λ.1) (h : gC.2 (n + 1 + i) = .inr (t2, N2, r2)) : ∃ r1, Λ.2 i = .inr (t2, N2, r1) := by
  have h3 := (Bool.and_eq_true_iff.mp (List.all_eq_true.mp hb i (List.mem_range.mpr hi))).2
  cases hq : Λ.2 i with
  | inl q => rw [hq] at h3; simp only [h] at h3; cases h3
  | inr q =>
    obtain ⟨t1, N1, r1⟩ := q
    rw [hq] at h3
    simp only [h] at h3
    have h4 := Bool.and_eq_true_iff.mp (Bool.and_eq_true_iff.mp h3).1
    have h5 : t1 = t2 := of_decide_eq_true h4.1
    have h6 : N1 = N2 := of_decide_eq_true h4.2
    subst h5; subst h6
    exact ⟨r1, rfl⟩
theorem cs_at_new {ad ad1 ca ca1 : Nat → Nat} {Λ : g_Lay} {μ : g_St} {mk n i : Nat} (hb : cs_bl Λ n = true) (hi : i < Λ.1) (hμ : cs_c0.1 (n + 1 + i) = μ.1 i ∧ cs_c0.2.1 (n + 1 + i) = μ.2.1 i) (had : ∀ t, t < Λ.1 → ad (n + 1 + t) = ad1 t) (hc : ca (n + 1 + i) = ca1 i) (a : Nat) (D : va_G) (H : Heap) (x : va_at D g_cl (a, g_ent ad1 ca1 Λ μ i) H) : va_at D g_cl (a, cs_e ad ca mk (n + 1 + i)) H := by
  have h3 := Bool.and_eq_true_iff.mp (List.all_eq_true.mp hb i (List.mem_range.mpr hi))
  have h69 : n + 1 + i ≠ 69 := of_decide_eq_true h3.1
  have h3 := h3.2
  unfold cs_e
  rw [if_neg h69]
  cases hq : Λ.2 i with
  | inl q =>
    obtain ⟨c1, F1⟩ := q
    rw [hq] at h3
    rw [g_ent_o hq] at x
    cases hz : gC.2 (n + 1 + i) with
    | inr z => simp only [hz] at h3; cases h3
    | inl z =>
      obtain ⟨c2, F2⟩ := z
      simp only [hz] at h3
      obtain ⟨h4, h5⟩ := Bool.and_eq_true_iff.mp h3
      have hc2 : c1 = c2 := of_decide_eq_true (Bool.and_eq_true_iff.mp h4).1
      have hF : F2 = F1.map (fun p => (p.1, if p.1 = 2 then n + 1 + p.2 else p.2)) := of_decide_eq_true (Bool.and_eq_true_iff.mp h4).2
      rw [g_ent_o hz]
      subst hc2
      have : g_fs ad cs_c0 (n + 1 + i) F2 = g_fs ad1 μ i F1 := by
        rw [hF]
        unfold g_fs
        apply List.ext_getElem?
        intro j
        rw [List.getElem?_mapIdx, List.getElem?_mapIdx, List.getElem?_map]
        cases hp : F1[j]? with
        | none => rfl
        | some p =>
          obtain ⟨p1, p2⟩ := p
          have h6 := Bool.and_eq_true_iff.mp (List.all_eq_true.mp h5 _ (List.mem_of_getElem? hp))
          have h7 : p1 ≤ 2 := of_decide_eq_true h6.1
          show some (g_fv ad cs_c0 (n + 1 + i) j (p1, if p1 = 2 then n + 1 + p2 else p2)) = some (g_fv ad1 μ i j (p1, p2))
          rcases (show p1 = 0 ∨ p1 = 1 ∨ p1 = 2 by omega) with rfl | rfl | rfl
          · show some (Value.int (cs_c0.1 (n + 1 + i) j)) = some (Value.int (μ.1 i j))
            rw [hμ.1]
          · show some (Value.long (cs_c0.2.1 (n + 1 + i) j)) = some (Value.long (μ.2.1 i j))
            rw [hμ.2]
          · show some (Value.ref (ad (n + 1 + p2))) = some (Value.ref (ad1 p2))
            have h8 := h6.2
            have h8 : p2 < Λ.1 := by
              rcases Bool.or_eq_true_iff.mp h8 with h9 | h9
              · exact absurd rfl (of_decide_eq_true h9)
              · exact of_decide_eq_true h9
            rw [had p2 h8]
      rw [this]; exact x
  | inr q =>
    obtain ⟨t1, N1, r1⟩ := q
    rw [hq] at h3
    rw [g_ent_a hq] at x
    cases hz : gC.2 (n + 1 + i) with
    | inl z => simp only [hz] at h3; cases h3
    | inr z =>
      obtain ⟨t2, N2, r2⟩ := z
      simp only [hz] at h3
      obtain ⟨h4, h5⟩ := Bool.and_eq_true_iff.mp h3
      have h6 : t1 = t2 := of_decide_eq_true (Bool.and_eq_true_iff.mp h4).1
      have h7 : N1 = N2 := of_decide_eq_true (Bool.and_eq_true_iff.mp h4).2
      subst h6; subst h7
      rw [g_ent_a hz]
      have x : H[a]? = some (vp_cell (ca1 i) (g_ar ad1 μ i t1 N1 r1)) := x
      show H[a]? = some (vp_cell (ca (n + 1 + i)) (g_ar ad cs_c0 (n + 1 + i) t1 N1 r2))
      rw [x, hc]
      congr 1
      have i0 : vp_cell (ca1 i) (N1, .inl (μ.1 i)) = vp_cell (ca1 i) (N1, .inl (cs_c0.1 (n + 1 + i))) := by rw [hμ.1]
      rcases Bool.or_eq_true_iff.mp h5 with h8 | h8
      · have h8 : t1 < 4 := of_decide_eq_true h8
        rcases (show t1 = 0 ∨ t1 = 1 ∨ t1 = 2 ∨ t1 = 3 by omega) with rfl | rfl | rfl | rfl
        · show vp_cell (ca1 i) (g_ar ad1 μ i 0 N1 r1) = vp_cell (ca1 i) (g_ar ad cs_c0 (n + 1 + i) 0 N1 r2)
          unfold g_ar; simp only [hμ.1]
        · show vp_cell (ca1 i) (g_ar ad1 μ i 1 N1 r1) = vp_cell (ca1 i) (g_ar ad cs_c0 (n + 1 + i) 1 N1 r2)
          unfold g_ar; simp only [hμ.2]
        · show vp_cell (ca1 i) (g_ar ad1 μ i 2 N1 r1) = vp_cell (ca1 i) (g_ar ad cs_c0 (n + 1 + i) 2 N1 r2)
          unfold g_ar; simp only [hμ.1]
        · show vp_cell (ca1 i) (g_ar ad1 μ i 3 N1 r1) = vp_cell (ca1 i) (g_ar ad cs_c0 (n + 1 + i) 3 N1 r2)
          unfold g_ar; simp only [hμ.1]
      · have h9 : t1 = 4 := of_decide_eq_true (Bool.and_eq_true_iff.mp h8).1
        subst h9
        refine cj_arr (f := fun j => va_rf (some (ad1 (r1 j)))) (g := fun j => va_rf (some (ad (r2 j)))) (fun j hj => congrArg (fun z => va_rf (some z)) ?_)
        have h10 := Bool.and_eq_true_iff.mp (List.all_eq_true.mp (Bool.and_eq_true_iff.mp h8).2 j (List.mem_range.mpr hj))
        rw [(of_decide_eq_true h10.1 : r2 j = n + 1 + r1 j), had _ (of_decide_eq_true h10.2)]
/-- a world and a callee's block make the next world -/
theorem cs_merge {ad ca ad1 ca1 : Nat → Nat} {Λ : g_Lay} {μ : g_St} {mk n : Nat} {f f' : List Value} (hcl : cs_cl n = true) (hb : cs_bl Λ n = true) (hm : ∀ j, j < mk → 101 + 8 * j ≤ n) (hμ : ∀ i, i < Λ.1 → cs_c0.1 (n + 1 + i) = μ.1 i ∧ cs_c0.2.1 (n + 1 + i) = μ.2.1 i) (hf : f = f') :
    cj_e ((ad 0, .inr (6, f)) :: (cs_tl ad ca n mk ++ g_wW ad1 ca1 Λ μ)) (((fun i => if n < i ∧ i < n + 1 + Λ.1 then ad1 (i - (n + 1)) else ad i) 0, .inr (6, f')) :: cs_tl (fun i => if n < i ∧ i < n + 1 + Λ.1 then ad1 (i - (n + 1)) else ad i) (fun i => if n < i then ca1 (i - (n + 1)) else ca i) (n + Λ.1) mk) := by
  subst hf
  refine ⟨by simp [cs_tl, g_wW], fun j x x' h1 h2 => ?_⟩
  cases j with
  | zero =>
    cases h1
    cases h2
    refine ⟨by show ad 0 = (if n < 0 ∧ 0 < n + 1 + Λ.1 then ad1 (0 - (n + 1)) else ad 0); rw [if_neg (by omega)], fun D H h => ?_⟩
    show va_at D g_cl ((if n < 0 ∧ 0 < n + 1 + Λ.1 then ad1 (0 - (n + 1)) else ad 0), _) H
    rw [if_neg (by omega)]; exact h
  | succ j =>
    rw [List.getElem?_cons_succ] at h1 h2
    have jl : j < n + Λ.1 := by
      have := (List.getElem?_eq_some_iff.mp h2).1
      rwa [cs_tl_len] at this
    rw [cs_tl_s jl] at h2
    cases h2
    by_cases e : j < n
    · rw [List.getElem?_append_left (by rw [cs_tl_len]; exact e), cs_tl_s e] at h1
      cases h1
      refine ⟨(if_neg (by omega)).symm, fun D H h => ?_⟩
      have h := cs_at_same (ad' := fun i => if n < i ∧ i < n + 1 + Λ.1 then ad1 (i - (n + 1)) else ad i) (ca' := fun i => if n < i then ca1 (i - (n + 1)) else ca i) hcl (by omega) (by omega) hm (fun j hj => if_neg (by omega)) (if_neg (by omega)) _ D H h
      show va_at D g_cl ((if n < j + 1 ∧ j + 1 < n + 1 + Λ.1 then ad1 (j + 1 - (n + 1)) else ad (j + 1)), _) H
      rw [if_neg (by omega)]; exact h
    · obtain ⟨r, rfl⟩ : ∃ r, j = n + r := ⟨j - n, by omega⟩
      rw [List.getElem?_append_right (by rw [cs_tl_len]; omega), cs_tl_len, show n + r - n = r by omega, cs_wW_s (by omega)] at h1
      cases h1
      refine ⟨by show ad1 r = (if n < n + r + 1 ∧ n + r + 1 < n + 1 + Λ.1 then ad1 (n + r + 1 - (n + 1)) else ad (n + r + 1)); rw [if_pos (by omega), show n + r + 1 - (n + 1) = r by omega], fun D H h => ?_⟩
      have h := cs_at_new (ad := fun i => if n < i ∧ i < n + 1 + Λ.1 then ad1 (i - (n + 1)) else ad i) (ca := fun i => if n < i then ca1 (i - (n + 1)) else ca i) (mk := mk) hb (by omega) (hμ r (by omega)) (fun t ht => by
        show (if n < n + 1 + t ∧ n + 1 + t < n + 1 + Λ.1 then ad1 (n + 1 + t - (n + 1)) else ad (n + 1 + t)) = ad1 t
        rw [if_pos (by omega), show n + 1 + t - (n + 1) = t by omega]) (by
        show (if n < n + 1 + r then ca1 (n + 1 + r - (n + 1)) else ca (n + 1 + r)) = ca1 r
        rw [if_pos (by omega), show n + 1 + r - (n + 1) = r by omega]) _ D H h
      show va_at D g_cl ((if n < n + r + 1 ∧ n + r + 1 < n + 1 + Λ.1 then ad1 (n + r + 1 - (n + 1)) else ad (n + r + 1)), _) H
      rw [if_pos (by omega), show n + r + 1 - (n + 1) = r by omega, show n + r + 1 = n + 1 + r by omega]
      exact h
theorem cs_ty {ca ca1 : Nat → Nat} {tys tys1 : List (ClassId × FieldType)} {Λ : g_Lay} {n : Nat} (hb : cs_bl Λ n = true) (hT : ci_ty gC ca tys n) (h1 : g_Ty Λ tys1 ca1) : ci_ty gC (fun i => if n < i then ca1 (i - (n + 1)) else ca i) (tys ++ tys1) (n + Λ.1) := by
  intro i h2 h3 ty N rf hs
  by_cases e : i ≤ n
  · obtain ⟨t0, ht⟩ := hT i h2 e ty N rf hs
    refine ⟨t0, ?_⟩
    rw [List.getElem?_append_left (List.getElem?_eq_some_iff.mp ht).1]
    show _ = some ((if n < i then ca1 (i - (n + 1)) else ca i), g_tyOf ty)
    rw [if_neg (by omega)]; exact ht
  · have hs2 : gC.2 (n + 1 + (i - (n + 1))) = .inr (ty, N, rf) := by rw [show n + 1 + (i - (n + 1)) = i by omega]; exact hs
    obtain ⟨r1, hr⟩ := cs_bl_a hb (by omega) hs2
    obtain ⟨t0, ht⟩ := h1 (i - (n + 1)) (by omega) ty N r1 hr
    refine ⟨tys.length + t0, ?_⟩
    rw [List.getElem?_append_right (by omega), show tys.length + t0 - tys.length = t0 by omega]
    show _ = some ((if n < i then ca1 (i - (n + 1)) else ca i), g_tyOf ty)
    rw [if_pos (by omega)]; exact ht
theorem cs_f_same {ad ad' : Nat → Nat} {n m : Nat} (hu : cs_F.all (fun p => decide (p.1 = 2 → p.2 ≤ n ∨ m < p.2)) = true) (hm : n ≤ m) (ho : ∀ i, i ≤ n → ad' i = ad i) : ci_f ad cs_c0 cs_F n = ci_f ad' cs_c0 cs_F m := by
  unfold ci_f
  apply List.ext_getElem?
  intro j
  rw [List.getElem?_mapIdx, List.getElem?_mapIdx]
  cases hp : cs_F[j]? with
  | none => rfl
  | some p =>
    have h2 : p.1 ≤ 2 := of_decide_eq_true (List.all_eq_true.mp (by decide : cs_F.all (fun p => decide (p.1 ≤ 2)) = true) p (List.mem_of_getElem? hp))
    have h3 : p.1 = 2 → p.2 ≤ n ∨ m < p.2 := of_decide_eq_true (List.all_eq_true.mp hu p (List.mem_of_getElem? hp))
    show some (if p.1 = 2 ∧ n < p.2 then Value.null else g_fv ad cs_c0 0 j p) = some (if p.1 = 2 ∧ m < p.2 then Value.null else g_fv ad' cs_c0 0 j p)
    by_cases e : p.1 = 2
    · rcases h3 e with h4 | h4
      · rw [if_neg (by omega), if_neg (by omega)]
        unfold g_fv
        rw [e]
        show some (Value.ref (ad p.2)) = some (Value.ref (ad' p.2))
        rw [ho p.2 h4]
      · rw [if_pos ⟨e, by omega⟩, if_pos ⟨e, h4⟩]
    · rw [if_neg (fun z => e z.1), if_neg (fun z => e z.1)]
      unfold g_fv
      rcases (show p.1 = 0 ∨ p.1 = 1 by omega) with z | z <;> (rw [z]; first | done | rfl)
