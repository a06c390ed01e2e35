/-! Layer 2: both programs read a RULE: what holds meanwhile; the reference's turns -/
def zg_FC (c0 : g_St) (bu : Nat) (c : g_St) : Prop := (∀ id, (id = 0 ∨ 6 < id) → (id < bu ∨ bu + 4 ≤ id) → c.1 id = c0.1 id) ∧ (∀ id, 6 < id → c.2.1 id = c0.2.1 id) ∧ c.2.2 = c0.2.2 ∧ c.1 1 2 = c0.1 1 2 ∧ c.2.1 2 = c0.2.1 2
def zg_FR (r0 r : g_St) : Prop := (∀ id, (id < 14 ∨ 18 < id) → id ≠ 0 → r.1 id = r0.1 id) ∧ (∀ k, k < 6 → r.1 14 k = r0.1 14 k ∧ r.1 15 k = r0.1 15 k) ∧ (∀ k, k < 1000 → r.1 16 k = r0.1 16 k) ∧ ∀ k, (k < 3 ∨ 9 < k) → k ≠ 26 → r.1 0 k = r0.1 0 k
def zg_V (Y : zp_S) (j : Nat) (c r : g_St) : Prop := zn_C Y.2.1 Y.2.2.1 Y.2.2.2.1 Y.2.2.2.2 j c ∧ zn_R Y.2.1 Y.2.2.1 Y.2.2.2.1 Y.2.2.2.2 j r ∧ g_isRule Y.1.2.2 ∧ c.1 1 10 = nI 0 ∧ zg_FC Y.1.1 Y.1.2.2 c ∧ zg_FR Y.1.2.1 r
def zg_E (Y : zp_S) (c r : g_St) : Prop := (∃ f, 0 < f ∧ f < 100000 ∧ c.1 1 10 = nI f ∧ r.1 0 9 = nI f) ∧ zg_FC Y.1.1 Y.1.2.2 c ∧ zg_FR Y.1.2.1 r
theorem zg_b53 {b : Nat} (h : g_isRule b) : b = 53 ∨ b = 57 := h
theorem zg_V_kd {Y : zp_S} {j : Nat} {c r : g_St} (h : zg_V Y j c r) : zn_kd Y.2.1 Y.2.2.1 (zp_t Y j) := zn_C_kd h.1
theorem zg_FC_k {c0 c c2 : g_St} {bu : Nat} (h : zg_FC c0 bu c) (hk : zn_kC c c2) : zg_FC c0 bu c2 :=
  ⟨fun id q1 q2 => by rw [hk.1 id (by omega) (by omega) (by omega)]; exact h.1 id q1 q2, fun id q1 => by rw [hk.2.2.1 id (by omega) (by omega)]; exact h.2.1 id q1, by rw [hk.2.2.2]; exact h.2.2.1, by rw [hk.2.1 2 (by omega)]; exact h.2.2.2.1, by rw [hk.2.2.1 2 (by omega) (by omega)]; exact h.2.2.2.2⟩
theorem zg_FR_k {r0 r r2 : g_St} (h : zg_FR r0 r) (h1 : ∀ id, id ≠ 0 → r2.1 id = r.1 id) (h0 : ∀ k, (k < 3 ∨ 9 < k) → k ≠ 26 → r2.1 0 k = r.1 0 k) : zg_FR r0 r2 := by
  unfold zg_FR at *
  rw [h1 14 (by omega), h1 15 (by omega), h1 16 (by omega)]
  exact ⟨fun id q q2 => by rw [h1 id q2]; exact h.1 id q q2, h.2.1, h.2.2.1, fun k q q2 => by rw [h0 k q q2]; exact h.2.2.2 k q q2⟩
theorem zg_adv {Y : zp_S} {j F : Nat} {c r : g_St} (h : zg_V Y j c r) (hF : 1100 < F) : ∃ c2 r2, ot_advance c = some c2 ∧ mm_nextToken F r = some r2 ∧ zg_V Y (zp_n Y j) c2 r2 ∧ zn_kC c c2 ∧ zn_kR r r2 := by
  obtain ⟨h1, h2, h3, k10, h5, h6⟩ := h
  obtain ⟨c2, a1, a2, a3⟩ := zn_C_adv h1
  obtain ⟨r2, b1, b2, b3⟩ := zn_R_nx h2 hF
  exact ⟨c2, r2, a1, b1, ⟨a2, b2, h3, by rw [a3.2.1 10 (by omega)]; exact k10, zg_FC_k h5 a3, zg_FR_k h6 b3.1 (fun k q _ => b3.2.1 k (by omega) (by omega) (by omega) (by omega))⟩, a3, b3⟩
theorem zg_bad {Y : zp_S} {j f : Nat} {c r : g_St} (h : zg_V Y j c r) (hf : 0 < f ∧ f < 16) : zg_E Y (g_sI c 1 10 (zn_ft f (zn_b (zp_t Y j)))) (g_sI r 0 9 (zn_ft f (zn_b (zp_t Y j)))) := by
  obtain ⟨h1, h2, h3, k10, h5, h6⟩ := h
  have hb := zg_b53 h3
  have hbn : zn_b (zp_t Y j) ≤ 1000 := by
    have := h1.1.1
    rcases zn_ok_t h1.2.1 h1.2.2.1 with q | q
    · have := q.1; unfold zp_t; omega
    · unfold zp_t; rw [q]; show Y.2.1 ≤ 1000; omega
  refine ⟨⟨f + 16 * zn_b (zp_t Y j), by omega, by omega, by rw [z_sI_same]; rfl, by rw [z_sI_same]; rfl⟩, ?_, ?_⟩
  · exact ⟨fun id q1 q2 => by rw [z_sI_f (by omega)]; exact h5.1 id q1 q2, h5.2.1, h5.2.2.1, by rw [z_sI_k (by omega)]; exact h5.2.2.2.1, h5.2.2.2.2⟩
  · exact zg_FR_k h6 (fun id q => z_sI_f q) (fun k q _ => z_sI_k (by omega))
theorem zg_wr {Y : zp_S} {j : Nat} {c r : g_St} (h : zg_V Y j c r) (f : Nat) : ot_wrong (nI f) c = some (nI 0, g_sI c 1 10 (zn_ft f (zn_b (zp_t Y j)))) ∧ mm_fails (nI f) r = some (nI 0, g_sI r 0 9 (zn_ft f (zn_b (zp_t Y j)))) := ⟨zn_wrong h.1, zn_fails h.2.1.2.2.2⟩
/-- codes are put -/
def zg_pC (bu q : Nat) (v : Int32) (c : g_St) : g_St := g_sI (g_sI c (bu + 1) q v) bu 2 (nI (q + 1))
def zg_pR (g : Nat) (v : Int32) (r : g_St) : g_St := g_sI (g_sI r 16 (1000 + g) v) 0 26 (nI (1000 + (g + 1)))
theorem zg_put {bu q : Nat} {v : Int32} {c : g_St} (h : c.1 bu 2 = nI q) (hq : q < 1000) : ou_put bu v c = some (zg_pC bu q v c) := by
  unfold ou_put zg_pC
  rw [h, if_pos (show nI q < (1000 : Int32) from nI_lt (b := 1000) hq (by omega)), z_wr hq (by omega), z_sbind, z_sbind, z_sI_id (by omega), h, nI_1]
theorem zg_puts {g : Nat} {v : Int32} {r : g_St} (h : r.1 0 26 = nI (1000 + g)) (hg : g < 1000) : mm_puts v r = some (zg_pR g v r) := by
  unfold mm_puts zg_pR
  rw [h, z_wr (by omega) (by omega), z_sbind, z_sbind, z_sI_id (by omega), h, nI_1]
  rfl
theorem zg_V_pC {Y : zp_S} {j q : Nat} {v : Int32} {c r : g_St} (h : zg_V Y j c r) : zg_V Y j (zg_pC Y.1.2.2 q v c) r := by
  obtain ⟨h1, h2, h3, k10, h5, h6⟩ := h
  have hb := zg_b53 h3
  have e : ∀ id, (id < Y.1.2.2 ∨ Y.1.2.2 + 4 ≤ id) → (zg_pC Y.1.2.2 q v c).1 id = c.1 id := fun id q2 => by unfold zg_pC; rw [z_sI_f (by omega), z_sI_f (by omega)]
  exact ⟨zn_C_w h1 (fun id q1 q2 => e id (by omega)) (fun id _ _ => rfl), h2, h3, by rw [e 1 (by omega)]; exact k10, ⟨fun id q1 q2 => by rw [e id q2]; exact h5.1 id q1 q2, h5.2.1, h5.2.2.1, by rw [e 1 (by omega)]; exact h5.2.2.2.1, h5.2.2.2.2⟩, h6⟩
theorem zg_V_R {Y : zp_S} {j : Nat} {c r r2 : g_St} (h : zg_V Y j c r) (e1 : ∀ id, (id < 14 ∨ 18 < id) → id ≠ 0 → r2.1 id = r.1 id) (e2 : ∀ k, k ≠ 26 → r2.1 0 k = r.1 0 k) (e3 : r2.2 = r.2) (e4 : ∀ k, k < 6 → r2.1 14 k = r.1 14 k ∧ r2.1 15 k = r.1 15 k) (e5 : ∀ k, k < 1000 → r2.1 16 k = r.1 16 k) : zg_V Y j c r2 := by
  obtain ⟨h1, h2, h3, k10, h5, h6⟩ := h
  exact ⟨h1, zn_R_w h2 (e1 1 (by omega) (by omega)) (fun k q1 q2 => e2 k (by omega)) (by rw [e3]), h3, k10, h5, fun id q q2 => by rw [e1 id q q2]; exact h6.1 id q q2, fun k q => by rw [(e4 k q).1, (e4 k q).2]; exact h6.2.1 k q, fun k q => by rw [e5 k q]; exact h6.2.2.1 k q, fun k q q2 => by rw [e2 k q2]; exact h6.2.2.2 k q q2⟩
theorem zg_V_pR {Y : zp_S} {j g : Nat} {v : Int32} {c r : g_St} (h : zg_V Y j c r) : zg_V Y j c (zg_pR g v r) := by
  unfold zg_pR
  exact zg_V_R h (fun id q q2 => by rw [z_sI_f (by omega), z_sI_f (by omega)]) (fun k q => by rw [z_sI_k q, z_sI_id (by omega)]) rfl (fun k q => by rw [z_sI_id (by omega), z_sI_id (by omega), z_sI_id (by omega), z_sI_id (by omega)]; exact ⟨rfl, rfl⟩) (fun k q => by rw [z_sI_id (by omega), z_sI_k (by omega)])
theorem zg_V_18 {Y : zp_S} {j id k : Nat} {v : Int32} {c r : g_St} (h : zg_V Y j c r) (hi : id = 17 ∨ id = 18) : zg_V Y j c (g_sI r id k v) :=
  zg_V_R h (fun id q q2 => z_sI_f (by omega)) (fun k q => z_sI_id (by omega)) rfl (fun k q => by rw [z_sI_id (by omega), z_sI_id (by omega)]; exact ⟨rfl, rfl⟩) (fun k q => z_sI_id (by omega))
/-- the facts -/
def zg_fk (k : Nat) : Nat := if k = 14 then 1 else if k = 15 then 2 else if k = 16 then 3 else if k = 17 then 4 else if k = 3 then 5 else if k = 18 then 6 else if k = 2 then 7 else if k = 19 then 8 else 0
theorem zg_fk_0 {k : Nat} : zg_fk k = 0 ↔ ¬ zu_fx k := by
  unfold zg_fk zu_fx
  repeat' split
  all_goals omega
theorem zg_fk_lt (k : Nat) : zg_fk k < 9 := by unfold zg_fk; repeat' split
                                               all_goals omega
theorem zg_fk_f {k : Nat} (h : zu_fx k) : ∀ f μ, zq_fc f μ → μ.1 28 (zg_fk k) = f k := by
  intro f μ ⟨a1, a2, a3, a4, a5, a6, a7, a8⟩
  unfold zu_fx at h
  rcases (show k = 14 ∨ k = 15 ∨ k = 16 ∨ k = 17 ∨ k = 3 ∨ k = 18 ∨ k = 2 ∨ k = 19 by omega) with e | e | e | e | e | e | e | e <;> subst e
  · exact a1
  · exact a2
  · exact a3
  · exact a4
  · exact a5
  · exact a6
  · exact a7
  · exact a8
theorem zg_word {n : Nat} {s : Nat → Nat} {t : zn_K} {r : g_St} (h : zn_at t r) (hk : zn_kd n s t) (h6 : r.1 0 6 = (1 : Int32)) (i : Nat) (hi : i < 20) : (lg_cmp (r.2.1 0 7) (zn_wd27 i) = 0) = (zn_k t = i) := by
  have := zn_isWord h hk hi
  unfold mm_isWord at this
  rw [if_pos h6] at this
  apply propext
  constructor
  · intro g
    rw [if_pos g] at this
    by_cases e : zn_k t = i
    · exact e
    · rw [if_neg e] at this; exact absurd this (by decide)
  · intro e
    rw [if_pos e] at this
    by_cases g : lg_cmp (r.2.1 0 7) (zn_wd27 i) = 0
    · exact g
    · rw [if_neg g] at this; exact absurd this (by decide)
theorem zg_fact {n : Nat} {s : Nat → Nat} {t : zn_K} {r : g_St} (h : zn_at t r) (hk : zn_kd n s t) : mm_fact r = some (nI (zg_fk (zn_k t))) := by
  unfold mm_fact
  by_cases q : zn_isw (zn_k t)
  · have h6 : r.1 0 6 = (1 : Int32) := (zn_at_w h hk).1 q
    have w := zg_word h hk h6
    have w0 := w 14 (by omega); have w1 := w 15 (by omega); have w2 := w 16 (by omega); have w3 := w 17 (by omega); have w4 := w 3 (by omega)
    have w5 := w 18 (by omega); have w6 := w 2 (by omega); have w7 := w 19 (by omega)
    simp only [show zn_wd27 14 = 11570 from rfl, show zn_wd27 15 = 316163 from rfl, show zn_wd27 16 = 385418 from rfl, show zn_wd27 17 = 90090 from rfl, show zn_wd27 3 = 4562587 from rfl, show zn_wd27 18 = 36502 from rfl, show zn_wd27 2 = 149125 from rfl, show zn_wd27 19 = 131360 from rfl] at w0 w1 w2 w3 w4 w5 w6 w7
    rw [if_pos h6]
    simp only [w0, w1, w2, w3, w4, w5, w6, w7]
    unfold zg_fk
    repeat' split
    all_goals first | rfl | omega
  · obtain ⟨v, v1, v2, v3⟩ := (zn_at_w h hk).2 q
    rw [v3, if_neg (show ¬ nI v = (1 : Int32) by show ¬ nI v = nI 1; rw [z_eq (by omega) (by omega)]; exact v1)]
    have : zg_fk (zn_k t) = 0 := by rw [zg_fk_0]; unfold zu_fx; unfold zn_isw at q; omega
    rw [this]; rfl
/-- nots are left -/
def zg_o (r : g_St) : Nat → Nat
  | 0 => 0
  | d + 1 => if r.1 17 (d + 1) = nI 1 then zg_o r d else d + 1
theorem zg_o_le (r : g_St) : ∀ d, zg_o r d ≤ d
  | 0 => Nat.le_refl _
  | d + 1 => by
    show (if r.1 17 (d + 1) = nI 1 then zg_o r d else d + 1) ≤ d + 1
    split
    · have := zg_o_le r d; omega
    · exact Nat.le_refl _
theorem zg_o_c {r r2 : g_St} : ∀ {d : Nat}, (∀ i, i ≤ d → r2.1 17 i = r.1 17 i) → zg_o r2 d = zg_o r d
  | 0, _ => rfl
  | d + 1, h => by
    show (if r2.1 17 (d + 1) = nI 1 then zg_o r2 d else d + 1) = (if r.1 17 (d + 1) = nI 1 then zg_o r d else d + 1)
    rw [h (d + 1) (Nat.le_refl _), zg_o_c (d := d) (fun i hi => h i (by omega))]
theorem zg_m1 (d : Nat) : nI (d + 1) + (-1 : Int32) = nI d := by
  rw [show (-1 : Int32) = -nI 1 from rfl, ← Int32.sub_eq_add_neg, z_sub (by omega)]; rfl
theorem zg_152 {F : Nat} {v2 : Int32} {K : Int32 → Int32 → g_St → Option (Int32 × g_St)} {r : g_St} : ∀ (d f : Nat), d < 7 → d < f → mm_reads_152 F v2 K f (nI d) r = mm_reads_172 F K (nI (zg_o r d)) v2 r
  | 0, f, _, hf => by
    obtain ⟨f, rfl⟩ : ∃ f', f = f' + 1 := ⟨f - 1, by omega⟩
    show mm_reads_152_b F v2 K _ (nI 0) r = _
    unfold mm_reads_152_b
    rw [if_neg (by decide)]; rfl
  | d + 1, f, hd, hf => by
    obtain ⟨f, rfl⟩ : ∃ f', f = f' + 1 := ⟨f - 1, by omega⟩
    show mm_reads_152_b F v2 K (mm_reads_152 F v2 K f) (nI (d + 1)) r = mm_reads_172 F K (nI (if r.1 17 (d + 1) = nI 1 then zg_o r d else d + 1)) v2 r
    unfold mm_reads_152_b
    rw [if_pos (show (0 : Int32) < nI (d + 1) by show nI 0 < nI (d + 1); rw [z_lt (by omega) (by omega)]; omega), z_rd (by omega) (by omega), z_sbind, zg_m1, zg_152 d f (by omega) (by omega)]
    by_cases e : r.1 17 (d + 1) = nI 1
    · rw [if_pos (show r.1 17 (d + 1) = (1 : Int32) from e), if_pos e]
    · rw [if_neg (show ¬ r.1 17 (d + 1) = (1 : Int32) from e), if_neg e]
theorem zg_379 {F : Nat} {v2 : Int32} {K : Int32 → Int32 → g_St → Option (Int32 × g_St)} {r : g_St} : ∀ (d f : Nat), d < 7 → d < f → mm_reads_379 F v2 K f (nI d) r = mm_reads_424 F K (nI (zg_o r d)) v2 r
  | 0, f, _, hf => by
    obtain ⟨f, rfl⟩ : ∃ f', f = f' + 1 := ⟨f - 1, by omega⟩
    show mm_reads_379_b F v2 K _ (nI 0) r = _
    unfold mm_reads_379_b
    rw [if_neg (by decide)]; rfl
  | d + 1, f, hd, hf => by
    obtain ⟨f, rfl⟩ : ∃ f', f = f' + 1 := ⟨f - 1, by omega⟩
    show mm_reads_379_b F v2 K (mm_reads_379 F v2 K f) (nI (d + 1)) r = mm_reads_424 F K (nI (if r.1 17 (d + 1) = nI 1 then zg_o r d else d + 1)) v2 r
    unfold mm_reads_379_b
    rw [if_pos (show (0 : Int32) < nI (d + 1) by show nI 0 < nI (d + 1); rw [z_lt (by omega) (by omega)]; omega), z_rd (by omega) (by omega), z_sbind, zg_m1, zg_379 d f (by omega) (by omega)]
    by_cases e : r.1 17 (d + 1) = nI 1
    · rw [if_pos (show r.1 17 (d + 1) = (1 : Int32) from e), if_pos e]
    · rw [if_neg (show ¬ r.1 17 (d + 1) = (1 : Int32) from e), if_neg e]
theorem zg_o_pR {g : Nat} {v : Int32} {r : g_St} {d : Nat} : zg_o (zg_pR g v r) d = zg_o r d := zg_o_c (fun i _ => by unfold zg_pR; rw [z_sI_id (by omega), z_sI_id (by omega)])
/-- the reference's turns: something is wanted -/
abbrev zg_pt (k : Nat) : Prop := k = 201 ∨ zu_fx k
theorem zg_w1 {F f d g n : Nat} {s : Nat → Nat} {t : zn_K} {r : g_St} (hB : zn_B n s r) (h : zn_at t r) (hk : zn_kd n s t) (hd : d < 5) (h26 : r.1 0 26 = nI (1000 + g)) (hg : g < 1000) (hp : zg_pt (zn_k t)) (hF : 1100 < F) : mm_reads_11 F (f + 1) (nI d) (1 : Int32) r = (mm_nextToken F (zg_pR g (if zn_k t = 201 then nI (100 + zn_n t) else nI (zg_fk (zn_k t))) r)).bind fun μ => mm_reads_11 F f (nI (zg_o r d)) (0 : Int32) μ := by
  have k4 := zn_kd_lt hk
  show mm_reads_11_b F (mm_reads_11 F f) (nI d) (1 : Int32) r = _
  unfold mm_reads_11_b
  rw [if_neg (by decide), zg_fact h hk, show mm_isWord r (10631 : Int64) = _ from zn_isWord (i := 13) h hk (by omega), show mm_isSign r (40 : Int32) = _ from zn_isSign (i := 40) hB h hk (by unfold zn_si; omega), z_sbind, z_sbind, z_sbind]
  have n13 : ¬ zn_k t = 13 := by unfold zg_pt zu_fx at hp; omega
  have n40 : ¬ zn_k t = 40 := by unfold zg_pt zu_fx at hp; omega
  have fl := zg_fk_lt (zn_k t)
  rw [if_neg n13, if_neg n40]
  have w : mm_reads_65 F (mm_reads_11 F f) (nI d) (1 : Int32) (nI (zg_fk (zn_k t))) (nI 0) (nI 0) r = (mm_nextToken F (zg_pR g (if zn_k t = 201 then nI (100 + zn_n t) else nI (zg_fk (zn_k t))) r)).bind fun μ => mm_reads_11 F f (nI (zg_o r d)) (0 : Int32) μ := by
    unfold mm_reads_65
    rw [if_neg (show ¬ nI d = (5 : Int32) by show ¬ nI d = nI 5; rw [z_eq (by omega) (by omega)]; omega), if_pos zn_p0, if_pos zn_p0]
    have fin : ∀ v, mm_reads_147 F (mm_reads_11 F f) (nI d) v r = (mm_nextToken F (zg_pR g v r)).bind fun μ => mm_reads_11 F f (nI (zg_o r d)) (0 : Int32) μ := by
      intro v
      unfold mm_reads_147
      rw [zg_puts h26 hg, z_sbind, zg_152 d F (by omega) (by omega), zg_o_pR]
      rfl
    by_cases e : zn_k t = 201
    · have f0 : zg_fk (zn_k t) = 0 := by rw [zg_fk_0]; unfold zu_fx; omega
      rw [f0, if_neg (by decide), if_pos e, h.2.2.2.2 e, show (100 : Int32) = nI 100 from rfl, nI_add]
      exact fin _
    · have f0 : zg_fk (zn_k t) ≠ 0 := by
        intro q
        rw [zg_fk_0] at q
        exact q (hp.resolve_left e)
      rw [if_neg e, if_pos (show (0 : Int32) < nI (zg_fk (zn_k t)) by show nI 0 < nI _; rw [z_lt (by omega) (by omega)]; omega)]
      exact fin _
  by_cases e : zn_k t = 201
  · have f0 : zg_fk (zn_k t) = 0 := by rw [zg_fk_0]; unfold zu_fx; omega
    have h6 : r.1 0 6 = (2 : Int32) := by rw [h.2.2.1, e]; rfl
    rw [if_pos (show nI (zg_fk (zn_k t)) = (0 : Int32) by rw [f0]; rfl), if_pos zn_p0, if_pos zn_p0, if_pos h6]
    exact w
  · have f0 : zg_fk (zn_k t) ≠ 0 := by
      intro q
      rw [zg_fk_0] at q
      exact q (hp.resolve_left e)
    rw [if_neg (show ¬ nI (zg_fk (zn_k t)) = (0 : Int32) by show ¬ nI _ = nI 0; rw [z_eq (by omega) (by omega)]; exact f0)]
    exact w
theorem zg_w2 {F f d g n : Nat} {s : Nat → Nat} {t : zn_K} {r : g_St} (hB : zn_B n s r) (h : zn_at t r) (hk : zn_kd n s t) (hd : d < 5) (h26 : r.1 0 26 = nI (1000 + g)) (hg : g < 1000) (hp : zn_k t = 13 ∨ zn_k t = 40) (hF : 1100 < F) : mm_reads_11 F (f + 1) (nI d) (1 : Int32) r = (mm_nextToken F (g_sI (g_sI (zg_pR g (if zn_k t = 13 then nI 30 else nI 28) r) 17 (d + 1) (if zn_k t = 13 then nI 1 else nI 2)) 18 (d + 1) (nI 0))).bind fun μ => mm_reads_11 F f (nI (d + 1)) (1 : Int32) μ := by
  have k4 := zn_kd_lt hk
  show mm_reads_11_b F (mm_reads_11 F f) (nI d) (1 : Int32) r = _
  unfold mm_reads_11_b
  rw [if_neg (by decide), zg_fact h hk, show mm_isWord r (10631 : Int64) = _ from zn_isWord (i := 13) h hk (by omega), show mm_isSign r (40 : Int32) = _ from zn_isSign (i := 40) hB h hk (by unfold zn_si; omega), z_sbind, z_sbind, z_sbind]
  have f0 : zg_fk (zn_k t) = 0 := by rw [zg_fk_0]; unfold zu_fx; omega
  rw [f0, if_pos zn_p0]
  have d5 : ¬ nI d = (5 : Int32) := by show ¬ nI d = nI 5; rw [z_eq (by omega) (by omega)]; omega
  rcases hp with e | e
  · rw [if_pos e, if_neg (show ¬ zn_k t = 40 by omega), if_neg zn_p1, if_pos e, if_pos e]
    unfold mm_reads_65
    rw [if_neg d5, if_neg zn_p1]
    unfold mm_reads_86
    rw [if_neg zn_p1]
    unfold mm_reads_99
    rw [show (30 : Int32) = nI 30 from rfl, zg_puts h26 hg, z_sbind, if_neg zn_p1, nI_1]
    unfold mm_reads_120
    rw [z_wr (by omega) (by omega), z_sbind, zp_nz0, z_wr (by omega) (by omega), z_sbind]
    rfl
  · rw [if_neg (show ¬ zn_k t = 13 by omega), if_pos e, if_pos zn_p0, if_neg zn_p1, if_neg (show ¬ zn_k t = 13 by omega), if_neg (show ¬ zn_k t = 13 by omega)]
    unfold mm_reads_65
    rw [if_neg d5, if_pos zn_p0, if_neg zn_p1]
    unfold mm_reads_86
    rw [if_pos zn_p0]
    unfold mm_reads_99
    rw [show (28 : Int32) = nI 28 from rfl, zg_puts h26 hg, z_sbind, if_pos zn_p0, nI_1]
    unfold mm_reads_120
    rw [z_wr (by omega) (by omega), z_sbind, zp_nz0, z_wr (by omega) (by omega), z_sbind]
    rfl
theorem zg_w3 {F f d n : Nat} {s : Nat → Nat} {t : zn_K} {r : g_St} (hB : zn_B n s r) (h : zn_at t r) (hk : zn_kd n s t) (hd : d < 6) (hF : 1100 < F) (q : ¬ (zg_pt (zn_k t) ∨ zn_k t = 13 ∨ zn_k t = 40)) : mm_reads_11 F (f + 1) (nI d) (1 : Int32) r = mm_fails (nI 1) r := by
  have k4 := zn_kd_lt hk
  have t2 := zp_tok2 h hk
  have fa : ∀ v : Nat, ((mm_fails (nI v) r).bind fun q => some (q.1 &&& (1 : Int32), q.2)) = mm_fails (nI v) r := by
    intro v
    rw [zn_fails h, z_sbind]
    show some (nI 0 &&& (1 : Int32), _) = _
    rw [zn_a0]
  show mm_reads_11_b F (mm_reads_11 F f) (nI d) (1 : Int32) r = _
  unfold mm_reads_11_b
  rw [if_neg (by decide), zg_fact h hk, show mm_isWord r (10631 : Int64) = _ from zn_isWord (i := 13) h hk (by omega), show mm_isSign r (40 : Int32) = _ from zn_isSign (i := 40) hB h hk (by unfold zn_si; omega), z_sbind, z_sbind, z_sbind]
  simp only [t2]
  have f0 : zg_fk (zn_k t) = 0 := by rw [zg_fk_0]; exact fun h => q (Or.inl (Or.inr h))
  rw [f0, if_pos zn_p0, if_neg (show ¬ zn_k t = 13 from fun h => q (Or.inr (Or.inl h))), if_pos zn_p0, if_neg (show ¬ zn_k t = 40 from fun h => q (Or.inr (Or.inr h))), if_pos zn_p0, if_neg (show ¬ zn_k t = 201 from fun h => q (Or.inl (Or.inl h)))]
  exact fa 1
theorem zg_w5 {F f n : Nat} {s : Nat → Nat} {t : zn_K} {r : g_St} (hB : zn_B n s r) (h : zn_at t r) (hk : zn_kd n s t) (hF : 1100 < F) (q : zg_pt (zn_k t) ∨ zn_k t = 13 ∨ zn_k t = 40) : mm_reads_11 F (f + 1) (nI 5) (1 : Int32) r = mm_fails (nI 5) r := by
  have k4 := zn_kd_lt hk
  have t2 := zp_tok2 h hk
  have fa : ∀ v : Nat, ((mm_fails (nI v) r).bind fun q => some (q.1 &&& (1 : Int32), q.2)) = mm_fails (nI v) r := by
    intro v
    rw [zn_fails h, z_sbind]
    show some (nI 0 &&& (1 : Int32), _) = _
    rw [zn_a0]
  show mm_reads_11_b F (mm_reads_11 F f) (nI 5) (1 : Int32) r = _
  unfold mm_reads_11_b
  rw [if_neg (by decide), zg_fact h hk, show mm_isWord r (10631 : Int64) = _ from zn_isWord (i := 13) h hk (by omega), show mm_isSign r (40 : Int32) = _ from zn_isSign (i := 40) hB h hk (by unfold zn_si; omega), z_sbind, z_sbind, z_sbind]
  simp only [t2]
  have w : ∀ v3 v4 v5, mm_reads_65 F (mm_reads_11 F f) (nI 5) (1 : Int32) v3 v4 v5 r = mm_fails (nI 5) r := by
    intro v3 v4 v5
    unfold mm_reads_65
    rw [if_pos (show nI 5 = (5 : Int32) from rfl)]
    exact fa 5
  simp only [w]
  have f0 := zg_fk_0 (k := zn_k t)
  have fl := zg_fk_lt (zn_k t)
  by_cases a1 : zg_fk (zn_k t) = 0
  · rw [a1, if_pos zn_p0]
    rw [f0] at a1
    by_cases a2 : zn_k t = 13
    · rw [if_pos a2, if_neg zn_p1]
    · rw [if_neg a2, if_pos zn_p0]
      by_cases a3 : zn_k t = 40
      · rw [if_pos a3, if_neg zn_p1]
      · rw [if_neg a3, if_pos zn_p0, if_pos (show zn_k t = 201 from (q.resolve_right (fun h => h.elim a2 a3)).resolve_right a1)]
  · rw [if_neg (show ¬ nI (zg_fk (zn_k t)) = (0 : Int32) by show ¬ nI _ = nI 0; rw [z_eq (by omega) (by omega)]; exact a1)]
