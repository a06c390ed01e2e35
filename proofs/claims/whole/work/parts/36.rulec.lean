/-! Layer 2: a RULE's lines as functions of the facts; how the class works one out -/
def zu_fx (j : Nat) : Prop := j = 2 ∨ j = 3 ∨ (14 ≤ j ∧ j < 20)
def zu_jn (op : Nat) (x y : Int32) : Int32 := if op = 11 then (if x = nI 0 then nI 0 else if y = nI 0 then nI 0 else nI 1) else if op = 12 then (if x = nI 0 then if y = nI 0 then nI 0 else nI 1 else nI 1) else if op = 43 then x + y else if op = 45 then x - y else if op = 60 then (if x < y then nI 1 else nI 0) else if op = 61 then (if x = y then nI 1 else nI 0) else x * y
theorem zu_joined {μ : g_St} {op : Nat} {x y : Int32} (h : op < 1000) : ou_joined μ (nI op) x y = some (zu_jn op x y) := by
  unfold ou_joined zu_jn
  simp (disch := omega) only [↓reduceIte, nI_lit, z_sbind, z_rd, z_rl, z_rr, z_wr, z_wl, nI_add, z_mul, z_lt, z_le, z_eq, z_ltm1, z_m1lt, z_eqm1, z_m1eq, z_lem1, z_m1le, if_true, if_false, ite_true, ite_false]
  by_cases h1 : op = 11
  · simp only [h1, if_true]
    by_cases hx : x = nI 0 <;> by_cases hy : y = nI 0 <;> simp only [hx, hy, if_true, if_false]
  · by_cases h2 : op = 12
    · simp only [h2, if_true, show ¬ (12 = 11) by omega, if_false]
      by_cases hx : x = nI 0 <;> by_cases hy : y = nI 0 <;> simp only [hx, hy, if_true, if_false]
    · simp only [h1, h2, if_false]
      by_cases h3 : op = 43
      · simp only [h3, if_true]
      · by_cases h4 : op = 45
        · simp only [h4, if_true, show ¬ (45 = 43) by omega, if_false]
        · by_cases h5 : op = 60
          · simp only [h5, if_true, show ¬ (60 = 43) by omega, show ¬ (60 = 45) by omega, if_false]; split <;> rfl
          · by_cases h6 : op = 61
            · simp only [h6, if_true, show ¬ (61 = 43) by omega, show ¬ (61 = 45) by omega, show ¬ (61 = 60) by omega, if_false]; split <;> rfl
            · simp only [h3, h4, h5, h6, if_false]
def zu_cd (S : Nat → Int32) (a b h : Nat) (φ : (Nat → Int32) → Int32) : Prop :=
  a ≤ b ∧ ∀ (F bu top e : Nat) (f : Nat → Int32) (μ : g_St), g_isRule bu → μ.1 (bu + 1) = S → (∀ j, zu_fx j → μ.1 70 j = f j) → top + h ≤ 32 → b ≤ e → e ≤ 1000 →
    ∃ μ' : g_St, z_f (fun id => id ≠ bu + 3) μ μ' ∧ (∀ j, j < top → μ'.1 (bu + 3) j = μ.1 (bu + 3) j) ∧ μ'.1 (bu + 3) top = φ f ∧ ∀ n, ou_valueOf_6 F bu (nI e) (n + (b - a)) (nI top) (nI a) μ = ou_valueOf_6 F bu (nI e) n (nI (top + 1)) (nI b) μ'
theorem zu_rule70 {bu : Nat} (h : g_isRule bu) : 70 ≠ bu + 3 ∧ bu + 1 ≠ bu + 3 := by unfold g_isRule at h; omega
theorem zu_cd_num {S : Nat → Int32} {a k : Nat} (hk : k < 10000) (hS : S a = nI k) : zu_cd S a (a + 1) 1 (fun _ => nI k) := by
  refine ⟨by omega, fun F bu top e f μ hu hm hf ht he h1 => ⟨g_sI μ (bu + 3) top (nI k), z_f_sI (fun q => q rfl), fun j hj => z_sI_k (by omega), z_sI_same _ _ _ _, fun n => ?_⟩⟩
  rw [show n + (a + 1 - a) = n + 1 by omega]
  show ou_valueOf_6_b F bu (nI e) _ (nI top) (nI a) μ = _
  have e1 : μ.1 (bu + 1) a = nI k := by rw [hm, hS]
  unfold ou_valueOf_6_b
  simp (disch := omega) only [↓reduceIte, nI_lit, z_sbind, z_rd, z_rl, z_rr, z_wr, z_wl, nI_add, z_mul, z_lt, z_le, z_eq, z_ltm1, z_m1lt, z_eqm1, z_m1eq, z_lem1, z_m1le, if_true, if_false, ite_true, ite_false, e1, show a < e by omega, show k < 20000 by omega, show top < 32 by omega, hk]
theorem zu_cd_fact {S : Nat → Int32} {a k : Nat} (hk : zu_fx k) (hS : S a = nI (10000 + k)) : zu_cd S a (a + 1) 1 (fun f => f k) := by
  have hk2 : k < 20 := by unfold zu_fx at hk; omega
  refine ⟨by omega, fun F bu top e f μ hu hm hf ht he h1 => ⟨g_sI μ (bu + 3) top (f k), z_f_sI (fun q => q rfl), fun j hj => z_sI_k (by omega), z_sI_same _ _ _ _, fun n => ?_⟩⟩
  rw [show n + (a + 1 - a) = n + 1 by omega]
  show ou_valueOf_6_b F bu (nI e) _ (nI top) (nI a) μ = _
  have e1 : μ.1 (bu + 1) a = nI (10000 + k) := by rw [hm, hS]
  unfold ou_valueOf_6_b
  simp (disch := omega) only [↓reduceIte, nI_lit, z_sbind, z_rd, z_rl, z_rr, z_wr, z_wl, nI_add, z_mul, z_lt, z_le, z_eq, z_ltm1, z_m1lt, z_eqm1, z_m1eq, z_lem1, z_m1le, if_true, if_false, ite_true, ite_false, e1, show a < e by omega, show 10000 + k < 20000 by omega, show top < 32 by omega, show ¬ (10000 + k < 10000) by omega, z_sub, show 10000 + k - 10000 = k by omega, hf k hk]
theorem zu_cd_not {S : Nat → Int32} {a b h : Nat} {φ : (Nat → Int32) → Int32} (c : zu_cd S a b h φ) (h0 : 0 < h) (hS : S b = nI 20013) : zu_cd S a (b + 1) h (fun f => if φ f = nI 0 then nI 1 else nI 0) := by
  obtain ⟨hab, c⟩ := c
  refine ⟨by omega, fun F bu top e f μ hu hm hf ht he h1 => ?_⟩
  obtain ⟨μ', hz, hlow, htop, hrun⟩ := c F bu top e f μ hu hm hf ht (by omega) h1
  refine ⟨g_sI μ' (bu + 3) top (if φ f = nI 0 then nI 1 else nI 0), z_f_trans hz (z_f_sI (P := fun id => id ≠ bu + 3) (fun q => q rfl)) (fun _ q => q) (fun _ q => q), fun j hj => by rw [z_sI_k (by omega)]; exact hlow j hj, z_sI_same _ _ _ _, fun n => ?_⟩
  rw [show n + (b + 1 - a) = (n + 1) + (b - a) by omega, hrun (n + 1)]
  show ou_valueOf_6_b F bu (nI e) _ (nI (top + 1)) (nI b) μ' = _
  have e1 : μ'.1 (bu + 1) b = nI 20013 := by rw [hz.1 _ (zu_rule70 hu).2, hm, hS]
  unfold ou_valueOf_6_b ou_valueOf_73
  simp (disch := omega) only [↓reduceIte, nI_lit, z_sbind, z_rd, z_rl, z_rr, z_wr, z_wl, nI_add, z_mul, z_lt, z_le, z_eq, z_ltm1, z_m1lt, z_eqm1, z_m1eq, z_lem1, z_m1le, if_true, if_false, ite_true, ite_false, e1, show b < e by omega, show ¬ (20013 < 20000) by omega, z_sub, show (0 < top + 1) by omega, show top + 1 - 1 = top by omega, htop]
  split <;> rfl
theorem zu_cd_bin {S : Nat → Int32} {a b c h h2 op : Nat} {φ ψ : (Nat → Int32) → Int32} (x : zu_cd S a b h φ) (y : zu_cd S b c h2 ψ) (h0 : 0 < h2) (hop : op < 1000) (hop2 : op ≠ 13) (hS : S c = nI (20000 + op)) : zu_cd S a (c + 1) (max h (h2 + 1)) (fun f => zu_jn op (φ f) (ψ f)) := by
  obtain ⟨hab, x⟩ := x
  obtain ⟨hbc, y⟩ := y
  refine ⟨by omega, fun F bu top e f μ hu hm hf ht he h1 => ?_⟩
  obtain ⟨μ', hz, hlow, htop, hrun⟩ := x F bu top e f μ hu hm hf (by omega) (by omega) h1
  obtain ⟨μ2, hz2, hlow2, htop2, hrun2⟩ := y F bu (top + 1) e f μ' hu (by rw [hz.1 _ (zu_rule70 hu).2]; exact hm) (fun j hj => by rw [hz.1 _ (zu_rule70 hu).1]; exact hf j hj) (by omega) (by omega) h1
  have hz3 := z_f_trans hz hz2 (R := fun id => id ≠ bu + 3) (fun _ q => q) (fun _ q => q)
  refine ⟨g_sI μ2 (bu + 3) top (zu_jn op (φ f) (ψ f)), z_f_trans hz3 (z_f_sI (P := fun id => id ≠ bu + 3) (fun q => q rfl)) (fun _ q => q) (fun _ q => q), fun j hj => by rw [z_sI_k (by omega), hlow2 j (by omega)]; exact hlow j hj, z_sI_same _ _ _ _, fun n => ?_⟩
  rw [show n + (c + 1 - a) = ((n + 1) + (c - b)) + (b - a) by omega, hrun, hrun2]
  show ou_valueOf_6_b F bu (nI e) _ (nI (top + 1 + 1)) (nI c) μ2 = _
  have e1 : μ2.1 (bu + 1) c = nI (20000 + op) := by rw [hz3.1 _ (zu_rule70 hu).2, hm, hS]
  have e2 : μ2.1 (bu + 3) top = φ f := by rw [hlow2 top (by omega)]; exact htop
  have e3 : (nI (top + 1 + 1) + -nI 1 : Int32) = nI (top + 1) := by rw [← Int32.sub_eq_add_neg, z_sub (by omega)]; rfl
  unfold ou_valueOf_6_b ou_valueOf_73 ou_valueOf_115
  simp (disch := omega) only [↓reduceIte, nI_lit, z_sbind, z_rd, z_rl, z_rr, z_wr, z_wl, nI_add, z_mul, z_lt, z_le, z_eq, z_ltm1, z_m1lt, z_eqm1, z_m1eq, z_lem1, z_m1le, if_true, if_false, ite_true, ite_false, e1, show c < e by omega, show ¬ (20000 + op < 20000) by omega, z_sub, show ¬ (20000 + op = 20013) by omega, show (1 < top + 1 + 1) by omega, e3, show top + 1 - 1 = top by omega, e2, htop2, show 20000 + op - 20000 = op by omega, zu_joined hop]
/-- a line -/
theorem zu_value {S : Nat → Int32} {a b F bu : Nat} {f : Nat → Int32} {μ : g_St} {φ : (Nat → Int32) → Int32} (c : zu_cd S a b 32 φ) (hb : b ≤ 1000) (hu : g_isRule bu) (hm : μ.1 (bu + 1) = S) (hf : ∀ j, zu_fx j → μ.1 70 j = f j) (hF : 1010 < F) : z_w (ou_valueOf F bu (nI a) (nI b) μ) (fun q => q.1 = φ f ∧ z_f (fun id => id ≠ bu + 3) μ q.2) := by
  obtain ⟨hab, c⟩ := c
  obtain ⟨μ', hz, -, htop, hrun⟩ := c F bu 0 b f μ hu hm hf (by omega) (by omega) hb
  refine ⟨(φ f, μ'), ?_, rfl, hz⟩
  unfold ou_valueOf
  have h := hrun (F - (b - a))
  rw [show F - (b - a) + (b - a) = F by omega] at h
  refine Eq.trans h ?_
  obtain ⟨n, hn⟩ : ∃ n, F - (b - a) = n + 1 := ⟨F - (b - a) - 1, by omega⟩
  rw [hn]
  show ou_valueOf_6_b F bu (nI b) _ _ (nI b) μ' = _
  unfold ou_valueOf_6_b
  simp (disch := omega) only [↓reduceIte, nI_lit, z_sbind, z_rd, z_rl, z_rr, z_wr, z_wl, nI_add, z_mul, z_lt, z_le, z_eq, z_ltm1, z_m1lt, z_eqm1, z_m1eq, z_lem1, z_m1le, if_true, if_false, ite_true, ite_false, Nat.lt_irrefl, htop]
/-- a RULE: how many lines, and each as a function of the facts -/
abbrev zu_T : Type := Nat × (Nat → (Nat → Int32) → Int32)
def zu_C (U : zu_T) (c : g_St) (bu : Nat) : Prop := U.1 ≤ 6 ∧ c.1 bu 3 = nI U.1 ∧ ∃ e : Nat → Nat, e 0 = 0 ∧ ∀ k, k < U.1 → c.1 (bu + 2) k = nI (e (k + 1)) ∧ e (k + 1) ≤ 1000 ∧ zu_cd (c.1 (bu + 1)) (e k) (e (k + 1)) 32 (U.2 k)
def zu_any (U : zu_T) (f : Nat → Int32) : Nat → Bool
  | 0 => false
  | k + 1 => zu_any U f k || decide (U.2 k f ≠ nI 0)
def zu_law (U : zu_T) (f : Nat → Int32) : Bool := if U.1 = 0 then decide (f 14 = nI 1) || decide (f 19 = nI 1) else zu_any U f U.1
theorem zu_any_up {U : zu_T} {f : Nat → Int32} {m : Nat} (h : zu_any U f m = true) : ∀ {n : Nat}, m ≤ n → zu_any U f n = true
  | 0, h9 => by have : m = 0 := by omega
                subst this; exact h
  | n + 1, h9 => by
    by_cases e : m = n + 1
    · rw [← e]; exact h
    · show (zu_any U f n || _) = true
      rw [zu_any_up h (n := n) (by omega)]; rfl
theorem zu_C_allows {U : zu_T} {c : g_St} {bu F : Nat} {f : Nat → Int32} (hC : zu_C U c bu) (hu : g_isRule bu) (hf : ∀ j, zu_fx j → c.1 70 j = f j) (hF : 1010 < F) : z_w (ou_allows F bu c) (fun q => q.1 = nI (zu_law U f).toNat ∧ z_f (fun id => id ≠ bu + 3) c q.2) := by
  obtain ⟨h6, hn, e, he0, he⟩ := hC
  unfold ou_allows zu_law
  rw [hn]
  by_cases h0 : U.1 = 0
  · simp (disch := omega) only [↓reduceIte, nI_lit, z_sbind, z_rd, z_rl, z_rr, z_wr, z_wl, nI_add, z_mul, z_lt, z_le, z_eq, z_ltm1, z_m1lt, z_eqm1, z_m1eq, z_lem1, z_m1le, if_true, if_false, ite_true, ite_false, h0, hf 14 (Or.inr (Or.inr ⟨by omega, by omega⟩)), hf 19 (Or.inr (Or.inr ⟨by omega, by omega⟩))]
    by_cases h1 : f 14 = nI 1
    · simp only [h1, if_true]; exact z_w_some ⟨rfl, z_f_refl⟩
    · simp only [h1, if_false]
      by_cases h2 : f 19 = nI 1
      · simp only [h2, if_true]; exact z_w_some ⟨rfl, z_f_refl⟩
      · simp only [h2, if_false]; exact z_w_some ⟨rfl, z_f_refl⟩
  · simp (disch := omega) only [↓reduceIte, nI_lit, z_sbind, z_rd, z_rl, z_rr, z_wr, z_wl, nI_add, z_mul, z_lt, z_le, z_eq, z_ltm1, z_m1lt, z_eqm1, z_m1eq, z_lem1, z_m1le, if_true, if_false, ite_true, ite_false, h0]
    refine z_w_mono (Q := fun q => q.1 = nI (zu_any U f U.1).toNat ∧ z_f (fun id => id ≠ bu + 3) c q.2) ?_ (fun q h => h)
    have hz := z_cw (n := U.1) (A := fun n i s => ou_allows_33 F bu n (nI (e i)) (nI i) s) (Q := fun q => q.1 = nI (zu_any U f U.1).toNat ∧ z_f (fun id => id ≠ bu + 3) c q.2) (fun i s => zu_any U f i = false ∧ z_f (fun id => id ≠ bu + 3) c s) ?_ ?_ F 0 c (by omega) ⟨rfl, z_f_refl⟩ (by omega)
    · rw [he0] at hz; exact hz
    · intro n i s hi hI hk
      obtain ⟨hIa, hIz⟩ := hI
      obtain ⟨g1, g2, g3⟩ := he i hi
      have ebu : s.1 bu = c.1 bu := hIz.1 _ (by omega)
      have e2 : s.1 (bu + 2) = c.1 (bu + 2) := hIz.1 _ (by show bu + 2 ≠ bu + 3; omega)
      obtain ⟨q, hq, hq1, hq2⟩ := zu_value (F := F) g3 g2 hu (μ := s) (hIz.1 _ (zu_rule70 hu).2) (f := f) (fun j hj => by rw [hIz.1 _ (zu_rule70 hu).1]; exact hf j hj) hF
      have e3 : q.2.1 (bu + 2) = c.1 (bu + 2) := by rw [hq2.1 _ (by show bu + 2 ≠ bu + 3; omega), e2]
      have hz2 := z_f_trans hIz hq2 (R := fun id => id ≠ bu + 3) (fun _ q => q) (fun _ q => q)
      show z_w (ou_allows_33_b F bu _ (nI (e i)) (nI i) s) _
      unfold ou_allows_33_b
      simp (disch := omega) only [↓reduceIte, nI_lit, z_sbind, z_rd, z_rl, z_rr, z_wr, z_wl, nI_add, z_mul, z_lt, z_le, z_eq, z_ltm1, z_m1lt, z_eqm1, z_m1eq, z_lem1, z_m1le, if_true, if_false, ite_true, ite_false, ebu, hn, hi, e2, g1, hq, e3]
      by_cases hv : U.2 i f = nI 0
      · rw [hq1]; simp only [hv, if_true]
        exact hk q.2 ⟨by show (zu_any U f i || decide (U.2 i f ≠ nI 0)) = false; rw [hIa, hv]; rfl, hz2⟩
      · rw [hq1]; simp only [hv, if_false]
        have h1 : zu_any U f (i + 1) = true := by show (zu_any U f i || decide (U.2 i f ≠ nI 0)) = true; rw [decide_eq_true hv, Bool.or_true]
        exact z_w_some ⟨by rw [zu_any_up h1 (by omega)]; rfl, hz2⟩
    · intro n s hI
      obtain ⟨hIa, hIz⟩ := hI
      have ebu : s.1 bu = c.1 bu := hIz.1 _ (by omega)
      show z_w (ou_allows_33_b F bu _ (nI (e U.1)) (nI U.1) s) _
      unfold ou_allows_33_b
      simp (disch := omega) only [↓reduceIte, nI_lit, z_sbind, z_rd, z_rl, z_rr, z_wr, z_wl, nI_add, z_mul, z_lt, z_le, z_eq, z_ltm1, z_m1lt, z_eqm1, z_m1eq, z_lem1, z_m1le, if_true, if_false, ite_true, ite_false, ebu, hn, Nat.lt_irrefl]
      exact z_w_some ⟨by rw [hIa]; rfl, hIz⟩
