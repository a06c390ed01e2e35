/-! Layer 2: MARK, brought back; MARK -/
def zk_T (r s : g_St) : Prop := (∀ id, id ≠ 0 → ¬ (29 ≤ id ∧ id ≤ 36) → s.1 id = r.1 id) ∧ (∀ j, j ≠ 39 → s.1 0 j = r.1 0 j) ∧ s.2 = r.2
theorem zk_T_s {r s : g_St} {id k : Nat} {v : Int32} (h : zk_T r s) (h1 : 29 ≤ id ∧ id ≤ 36) : zk_T r (g_sI s id k v) :=
  ⟨fun a q1 q2 => by rw [z_sI_f (by omega)]; exact h.1 a q1 q2, fun j q => by rw [z_sI_id (by omega)]; exact h.2.1 j q, h.2.2⟩
def zk_4 (r : g_St) (b i : Nat) (s : g_St) : Prop := s.1 0 39 = r.1 48 b ∧ ∀ t, t < i → s.1 29 t = r.1 48 (b + 1 + t) ∧ s.1 30 t = r.1 48 (b + 41 + t) ∧ s.1 31 t = r.1 48 (b + 81 + t) ∧ s.1 32 t = r.1 48 (b + 121 + t) ∧ s.1 33 t = r.1 48 (b + 161 + t)
def zk_5 (r : g_St) (b i : Nat) (s : g_St) : Prop := ∀ p, p < i → s.1 34 p = r.1 48 (b + 201 + p) ∧ s.1 35 p = r.1 48 (b + 209 + p)
def zk_6 (r : g_St) (b i : Nat) (s : g_St) : Prop := ∀ g, g < i → s.1 36 g = if r.1 48 (b + 217 + g) = 1 then 1 else 0
theorem zk_back {r : g_St} {F m : Nat} {v2 : Int32} (hv : v2 ≠ 0) (hm : m < 4) (h47 : r.1 47 m = 1) (hF : 50 < F) : z_w (mm_mark_29 F (nI m) v2 r) (fun y => y.1 = 1 ∧ zk_T r y.2 ∧ zk_4 r (250 * m) 40 y.2 ∧ zk_5 r (250 * m) 8 y.2 ∧ zk_6 r (250 * m) 6 y.2) := by
  unfold mm_mark_29
  rw [z_wr (by omega) (by omega), z_sbind, show g_nz (1 : Int32) = 1 from rfl, z_sI_no h47, show ((250 : Int32) * nI m) = nI (250 * m) from by rw [show (250 : Int32) = nI 250 from rfl, z_mul]]
  generalize hb : 250 * m = b
  have hb2 : b + 250 ≤ 1000 := by omega
  rw [zk_keep1 hv (by omega), z_sbind, z_sbind]
  have hT0 : zk_T r (g_sI r 0 39 (r.1 48 b)) := ⟨fun a q1 _ => z_sI_f q1, fun j q => z_sI_k q, rfl⟩
  refine z_cw (n := 40) (A := fun f i s => mm_mark_59 F v2 (nI b) f (nI i) s) (fun i s => zk_T r s ∧ zk_4 r b i s) ?_ ?_ F 0 _ (by omega) ⟨hT0, z_sI_same _ _ _ _, fun t ht => absurd ht (by omega)⟩ (by omega)
  · intro f i s hi ⟨hT, h1⟩ hk
    have e48 : s.1 48 = r.1 48 := hT.1 48 (by omega) (by omega)
    show z_w (mm_mark_59_b F v2 (nI b) _ (nI i) s) _
    unfold mm_mark_59_b
    rw [if_pos (show nI i < (40 : Int32) from nI_lt (b := 40) hi (by omega))]
    rw [zk_step1 hv (idx := b + 1 + i) (by rw [show (1 : Int32) = nI 1 from rfl, nI_add, nI_add]) (by omega) hi (by omega)]
    rw [zk_step1 hv (idx := b + 41 + i) (by rw [show (41 : Int32) = nI 41 from rfl, nI_add, nI_add]) (by omega) hi (by omega)]
    rw [zk_step1 hv (idx := b + 81 + i) (by rw [show (81 : Int32) = nI 81 from rfl, nI_add, nI_add]) (by omega) hi (by omega)]
    rw [zk_step1 hv (idx := b + 121 + i) (by rw [show (121 : Int32) = nI 121 from rfl, nI_add, nI_add]) (by omega) hi (by omega)]
    rw [zk_step1 hv (idx := b + 161 + i) (by rw [show (161 : Int32) = nI 161 from rfl, nI_add, nI_add]) (by omega) hi (by omega)]
    rw [nI_1]
    simp (disch := omega) only [z_sI_id]
    rw [e48]
    refine hk _ ⟨zk_T_s (zk_T_s (zk_T_s (zk_T_s (zk_T_s hT (by omega)) (by omega)) (by omega)) (by omega)) (by omega), ?_, fun t ht => ?_⟩
    · simp (disch := omega) only [z_sI_id]; exact h1.1
    · by_cases e : t = i
      · subst e
        simp (disch := omega) only [z_sI_id, z_sI_same]
        exact ⟨trivial, trivial, trivial, trivial, trivial⟩
      · have := h1.2 t (by omega)
        simp (disch := omega) only [z_sI_k]
        exact this
  · intro f s ⟨hT, h1⟩
    show z_w (mm_mark_59_b F v2 (nI b) _ (nI 40) s) _
    unfold mm_mark_59_b
    rw [if_neg (by decide)]
    refine z_cw (n := 8) (A := fun f i s => mm_mark_205 F v2 (nI b) f (nI i) s) (fun i s => zk_T r s ∧ zk_4 r b 40 s ∧ zk_5 r b i s) ?_ ?_ F 0 s (by omega) ⟨hT, h1, fun p hp => absurd hp (by omega)⟩ (by omega)
    · intro f i s hi ⟨hT, h1, h2⟩ hk
      have e48 : s.1 48 = r.1 48 := hT.1 48 (by omega) (by omega)
      show z_w (mm_mark_205_b F v2 (nI b) _ (nI i) s) _
      unfold mm_mark_205_b
      rw [if_pos (show nI i < (8 : Int32) from nI_lt (b := 8) hi (by omega))]
      rw [zk_step1 hv (idx := b + 201 + i) (by rw [show (201 : Int32) = nI 201 from rfl, nI_add, nI_add]) (by omega) hi (by omega)]
      rw [zk_step1 hv (idx := b + 209 + i) (by rw [show (209 : Int32) = nI 209 from rfl, nI_add, nI_add]) (by omega) hi (by omega)]
      rw [nI_1]
      simp (disch := omega) only [z_sI_id]
      rw [e48]
      refine hk _ ⟨zk_T_s (zk_T_s hT (by omega)) (by omega), ⟨?_, fun t ht => ?_⟩, fun p hp => ?_⟩
      · simp (disch := omega) only [z_sI_id]; exact h1.1
      · have := h1.2 t ht
        simp (disch := omega) only [z_sI_id]
        exact this
      · by_cases e : p = i
        · subst e
          simp (disch := omega) only [z_sI_id, z_sI_same]
          exact ⟨trivial, trivial⟩
        · have := h2 p (by omega)
          simp (disch := omega) only [z_sI_k]
          exact this
    · intro f s ⟨hT, h1, h2⟩
      show z_w (mm_mark_205_b F v2 (nI b) _ (nI 8) s) _
      unfold mm_mark_205_b
      rw [if_neg (by decide)]
      refine z_cw (n := 6) (A := fun f i s => mm_mark_275 F v2 (nI b) f (nI i) s) (fun i s => zk_T r s ∧ zk_4 r b 40 s ∧ zk_5 r b 8 s ∧ zk_6 r b i s) ?_ ?_ F 0 s (by omega) ⟨hT, h1, h2, fun p hp => absurd hp (by omega)⟩ (by omega)
      · intro f i s hi ⟨hT, h1, h2, h3⟩ hk
        have e48 : s.1 48 = r.1 48 := hT.1 48 (by omega) (by omega)
        show z_w (mm_mark_275_b F v2 (nI b) _ (nI i) s) _
        unfold mm_mark_275_b mm_mark_312
        have eb : (nI b + (217 : Int32)) + nI i = nI (b + 217 + i) := by rw [show (217 : Int32) = nI 217 from rfl, nI_add, nI_add]
        rw [if_pos (show nI i < (6 : Int32) from nI_lt (b := 6) hi (by omega)), z_rd hi (by omega), z_sbind, eb, zk_keep1 hv (by omega), zk_keep1 hv (by omega), z_sbind]
        have same : ∀ {α : Type} (q : Prop) [Decidable q] (a : α), (if q then a else a) = a := fun q _ a => by split <;> rfl
        rw [same, e48]
        have fin : ∀ v : Int32, v = (if r.1 48 (b + 217 + i) = 1 then 1 else 0) → zk_T r (g_sI s 36 i v) ∧ zk_4 r b 40 (g_sI s 36 i v) ∧ zk_5 r b 8 (g_sI s 36 i v) ∧ zk_6 r b (i + 1) (g_sI s 36 i v) := by
          intro v hv2
          refine ⟨zk_T_s hT (by omega), ⟨?_, fun t ht => ?_⟩, fun p hp => ?_, fun g hg => ?_⟩
          · simp (disch := omega) only [z_sI_id]; exact h1.1
          · have := h1.2 t ht
            simp (disch := omega) only [z_sI_id]
            exact this
          · have := h2 p hp
            simp (disch := omega) only [z_sI_id]
            exact this
          · by_cases e : g = i
            · subst e; rw [z_sI_same]; exact hv2
            · rw [z_sI_k (by omega)]; exact h3 g (by omega)
        dsimp only
        by_cases e : r.1 48 (b + 217 + i) = 1
        · rw [if_pos e, z_wr hi (by omega), z_sbind, show g_nz (1 : Int32) = 1 from rfl, nI_1]
          exact hk _ (fin _ (by rw [if_pos e]))
        · rw [if_neg e, z_wr hi (by omega), z_sbind, show g_nz (0 : Int32) = 0 from rfl, nI_1]
          exact hk _ (fin _ (by rw [if_neg e]))
      · intro f s ⟨hT, h1, h2, h3⟩
        show z_w (mm_mark_275_b F v2 (nI b) _ (nI 6) s) _
        unfold mm_mark_275_b
        rw [if_neg (by decide)]
        exact z_w_some ⟨rfl, hT, h1, h2, h3⟩
/-- the class's copy of a week -/
theorem z_cp {μ : g_St} {a b n id j : Nat} : (g_cp μ a b n).1 id j = if id = b ∧ j < n then μ.1 a j else μ.1 id j := by
  show (if id = b then va_cpy (μ.1 a) (μ.1 b) 0 0 n else μ.1 id) j = _
  by_cases e : id = b
  · subst e
    rw [if_pos rfl]
    show (if 0 ≤ j ∧ j < 0 + n then μ.1 a (0 + (j - 0)) else μ.1 id j) = _
    by_cases e2 : j < n
    · rw [if_pos ⟨by omega, by omega⟩, if_pos ⟨rfl, e2⟩, Nat.zero_add, Nat.sub_zero]
    · rw [if_neg (by omega), if_neg (fun q => e2 q.2)]
  · rw [if_neg e, if_neg (fun q => e q.1)]
theorem z_cp_o {μ : g_St} {a b n id : Nat} (h : id ≠ b) : (g_cp μ a b n).1 id = μ.1 id := if_neg h
theorem z_cp_f {μ : g_St} {a b n : Nat} {P : Nat → Prop} (h : ¬ P b) : z_f P μ (g_cp μ a b n) := ⟨fun id q => z_cp_o (fun e => h (e ▸ q)), rfl⟩
theorem z_cp_in {μ : g_St} {a b n j : Nat} (h : j < n) : (g_cp μ a b n).1 b j = μ.1 a j := by rw [z_cp, if_pos ⟨rfl, h⟩]
theorem zw_copy {L : zl_T} {W : zw_T} {c : g_St} {a b : Nat} (hC : zw_C L W c a) (how : zw_ok L W) (h8 : zl_pp L ≤ 8) (hab : a + 8 ≤ b ∨ b + 8 ≤ a) : ∃ c2, ow_copy b a c = some c2 ∧ zw_C L W c2 b ∧ z_f (fun id => id < b ∨ b + 8 ≤ id) c c2 := by
  have h40 := how.1
  refine ⟨_, rfl, ?_, ?_⟩
  · refine ⟨?_, ?_, fun t ht => ?_, fun p hp => ?_⟩
    · have := hC.1
      simp (disch := omega) only [z_cp_o, z_sI_f, z_sI_k, z_sI_id, z_sI_same]; exact this
    · have := hC.2.1
      simp (disch := omega) only [z_cp_o, z_sI_f, z_sI_k, z_sI_id, z_sI_same]; exact this
    · have := hC.2.2.1 t ht
      simp (disch := omega) only [z_cp_o, z_cp_in, z_sI_f, z_sI_k, z_sI_id, z_sI_same]; exact this
    · have := hC.2.2.2 p hp
      simp (disch := omega) only [z_cp_o, z_cp_in, z_sI_f, z_sI_k, z_sI_id, z_sI_same]; exact this
  · refine ⟨fun id q => ?_, rfl⟩
    simp (disch := omega) only [z_cp_o, z_sI_f]
