def g_rd (μ : g_St) (id n : Nat) (i : Int32) : Option Int32 := if g_out i n then none else some (μ.1 id i.toNatClampNeg)
def g_rl (μ : g_St) (id n : Nat) (i : Int32) : Option Int64 := if g_out i n then none else some (μ.2.1 id i.toNatClampNeg)
def g_rr (rf : Nat → Nat) (n : Nat) (i : Int32) : Option Nat := if g_out i n then none else some (rf i.toNatClampNeg)
def g_wr (μ : g_St) (id n : Nat) (i v : Int32) : Option g_St := if g_out i n then none else some (g_sI μ id i.toNatClampNeg v)
def g_wl (μ : g_St) (id n : Nat) (i : Int32) (v : Int64) : Option g_St := if g_out i n then none else some (g_sL μ id i.toNatClampNeg v)
def g_dv (x z : Int32) : Option Int32 := if z = 0 then none else some (x / z)
def g_rm (x z : Int32) : Option Int32 := if z = 0 then none else some (x - x / z * z)
def g_dvL (x z : Int64) : Option Int64 := if z = 0 then none else some (x / z)
def g_rmL (x z : Int64) : Option Int64 := if z = 0 then none else some (x - x / z * z)
section GoWrap
variable {Λ : g_Lay} {d : Nat} {y : MethodName} {cc : ByteArray} {nL : Nat} {rt : Option FieldType} {pc : Nat} {lo : List (Option Value)} {st : List Value} {μ : g_St} {ρ : Type} {ω : ρ → Option Value × g_St}
variable {X : Option ρ}
theorem w_icmp_ge {x z : Int32} {off : Int} {tgt : Nat} {X1 X2 : Option ρ} (hd : decode cc pc = .ok (.if_icmp .ge off, 3)) (ht : (pc : Int) + off = (tgt : Int)) (k1 : g_Go Λ d y cc nL rt (pc + 3) lo st μ (Option.map ω X1)) (k2 : g_Go Λ d y cc nL rt tgt lo st μ (Option.map ω X2)) : g_Go Λ d y cc nL rt pc lo (.int z :: .int x :: st) μ (Option.map ω (if x < z then X1 else X2)) :=
  g_eq (X2 := if x < z then Option.map ω X1 else Option.map ω X2) (by split <;> rfl) (g_icmp_ge hd ht k1 k2)
theorem w_if_ge {x : Int32} {off : Int} {tgt : Nat} {X1 X2 : Option ρ} (hd : decode cc pc = .ok (.ifCond .ge off, 3)) (ht : (pc : Int) + off = (tgt : Int)) (k1 : g_Go Λ d y cc nL rt (pc + 3) lo st μ (Option.map ω X1)) (k2 : g_Go Λ d y cc nL rt tgt lo st μ (Option.map ω X2)) : g_Go Λ d y cc nL rt pc lo (.int x :: st) μ (Option.map ω (if x < 0 then X1 else X2)) :=
  g_eq (X2 := if x < 0 then Option.map ω X1 else Option.map ω X2) (by split <;> rfl) (g_if_ge hd ht k1 k2)
theorem w_icmp_gt {x z : Int32} {off : Int} {tgt : Nat} {X1 X2 : Option ρ} (hd : decode cc pc = .ok (.if_icmp .gt off, 3)) (ht : (pc : Int) + off = (tgt : Int)) (k1 : g_Go Λ d y cc nL rt (pc + 3) lo st μ (Option.map ω X1)) (k2 : g_Go Λ d y cc nL rt tgt lo st μ (Option.map ω X2)) : g_Go Λ d y cc nL rt pc lo (.int z :: .int x :: st) μ (Option.map ω (if x ≤ z then X1 else X2)) :=
  g_eq (X2 := if x ≤ z then Option.map ω X1 else Option.map ω X2) (by split <;> rfl) (g_icmp_gt hd ht k1 k2)
theorem w_if_gt {x : Int32} {off : Int} {tgt : Nat} {X1 X2 : Option ρ} (hd : decode cc pc = .ok (.ifCond .gt off, 3)) (ht : (pc : Int) + off = (tgt : Int)) (k1 : g_Go Λ d y cc nL rt (pc + 3) lo st μ (Option.map ω X1)) (k2 : g_Go Λ d y cc nL rt tgt lo st μ (Option.map ω X2)) : g_Go Λ d y cc nL rt pc lo (.int x :: st) μ (Option.map ω (if x ≤ 0 then X1 else X2)) :=
  g_eq (X2 := if x ≤ 0 then Option.map ω X1 else Option.map ω X2) (by split <;> rfl) (g_if_gt hd ht k1 k2)
theorem w_icmp_le {x z : Int32} {off : Int} {tgt : Nat} {X1 X2 : Option ρ} (hd : decode cc pc = .ok (.if_icmp .le off, 3)) (ht : (pc : Int) + off = (tgt : Int)) (k1 : g_Go Λ d y cc nL rt (pc + 3) lo st μ (Option.map ω X1)) (k2 : g_Go Λ d y cc nL rt tgt lo st μ (Option.map ω X2)) : g_Go Λ d y cc nL rt pc lo (.int z :: .int x :: st) μ (Option.map ω (if z < x then X1 else X2)) :=
  g_eq (X2 := if z < x then Option.map ω X1 else Option.map ω X2) (by split <;> rfl) (g_icmp_le hd ht k1 k2)
theorem w_if_le {x : Int32} {off : Int} {tgt : Nat} {X1 X2 : Option ρ} (hd : decode cc pc = .ok (.ifCond .le off, 3)) (ht : (pc : Int) + off = (tgt : Int)) (k1 : g_Go Λ d y cc nL rt (pc + 3) lo st μ (Option.map ω X1)) (k2 : g_Go Λ d y cc nL rt tgt lo st μ (Option.map ω X2)) : g_Go Λ d y cc nL rt pc lo (.int x :: st) μ (Option.map ω (if 0 < x then X1 else X2)) :=
  g_eq (X2 := if 0 < x then Option.map ω X1 else Option.map ω X2) (by split <;> rfl) (g_if_le hd ht k1 k2)
theorem w_icmp_lt {x z : Int32} {off : Int} {tgt : Nat} {X1 X2 : Option ρ} (hd : decode cc pc = .ok (.if_icmp .lt off, 3)) (ht : (pc : Int) + off = (tgt : Int)) (k1 : g_Go Λ d y cc nL rt (pc + 3) lo st μ (Option.map ω X1)) (k2 : g_Go Λ d y cc nL rt tgt lo st μ (Option.map ω X2)) : g_Go Λ d y cc nL rt pc lo (.int z :: .int x :: st) μ (Option.map ω (if z ≤ x then X1 else X2)) :=
  g_eq (X2 := if z ≤ x then Option.map ω X1 else Option.map ω X2) (by split <;> rfl) (g_icmp_lt hd ht k1 k2)
theorem w_if_lt {x : Int32} {off : Int} {tgt : Nat} {X1 X2 : Option ρ} (hd : decode cc pc = .ok (.ifCond .lt off, 3)) (ht : (pc : Int) + off = (tgt : Int)) (k1 : g_Go Λ d y cc nL rt (pc + 3) lo st μ (Option.map ω X1)) (k2 : g_Go Λ d y cc nL rt tgt lo st μ (Option.map ω X2)) : g_Go Λ d y cc nL rt pc lo (.int x :: st) μ (Option.map ω (if 0 ≤ x then X1 else X2)) :=
  g_eq (X2 := if 0 ≤ x then Option.map ω X1 else Option.map ω X2) (by split <;> rfl) (g_if_lt hd ht k1 k2)
theorem w_icmp_eq {x z : Int32} {off : Int} {tgt : Nat} {X1 X2 : Option ρ} (hd : decode cc pc = .ok (.if_icmp .eq off, 3)) (ht : (pc : Int) + off = (tgt : Int)) (k1 : g_Go Λ d y cc nL rt tgt lo st μ (Option.map ω X1)) (k2 : g_Go Λ d y cc nL rt (pc + 3) lo st μ (Option.map ω X2)) : g_Go Λ d y cc nL rt pc lo (.int z :: .int x :: st) μ (Option.map ω (if x = z then X1 else X2)) :=
  g_eq (X2 := if x = z then Option.map ω X1 else Option.map ω X2) (by split <;> rfl) (g_icmp_eq hd ht k1 k2)
theorem w_if_eq {x : Int32} {off : Int} {tgt : Nat} {X1 X2 : Option ρ} (hd : decode cc pc = .ok (.ifCond .eq off, 3)) (ht : (pc : Int) + off = (tgt : Int)) (k1 : g_Go Λ d y cc nL rt tgt lo st μ (Option.map ω X1)) (k2 : g_Go Λ d y cc nL rt (pc + 3) lo st μ (Option.map ω X2)) : g_Go Λ d y cc nL rt pc lo (.int x :: st) μ (Option.map ω (if x = 0 then X1 else X2)) :=
  g_eq (X2 := if x = 0 then Option.map ω X1 else Option.map ω X2) (by split <;> rfl) (g_if_eq hd ht k1 k2)
theorem w_icmp_ne {x z : Int32} {off : Int} {tgt : Nat} {X1 X2 : Option ρ} (hd : decode cc pc = .ok (.if_icmp .ne off, 3)) (ht : (pc : Int) + off = (tgt : Int)) (k1 : g_Go Λ d y cc nL rt (pc + 3) lo st μ (Option.map ω X1)) (k2 : g_Go Λ d y cc nL rt tgt lo st μ (Option.map ω X2)) : g_Go Λ d y cc nL rt pc lo (.int z :: .int x :: st) μ (Option.map ω (if x = z then X1 else X2)) :=
  g_eq (X2 := if x = z then Option.map ω X1 else Option.map ω X2) (by split <;> rfl) (g_icmp_ne hd ht k1 k2)
theorem w_if_ne {x : Int32} {off : Int} {tgt : Nat} {X1 X2 : Option ρ} (hd : decode cc pc = .ok (.ifCond .ne off, 3)) (ht : (pc : Int) + off = (tgt : Int)) (k1 : g_Go Λ d y cc nL rt (pc + 3) lo st μ (Option.map ω X1)) (k2 : g_Go Λ d y cc nL rt tgt lo st μ (Option.map ω X2)) : g_Go Λ d y cc nL rt pc lo (.int x :: st) μ (Option.map ω (if x = 0 then X1 else X2)) :=
  g_eq (X2 := if x = 0 then Option.map ω X1 else Option.map ω X2) (by split <;> rfl) (g_if_ne hd ht k1 k2)
theorem w_iald {id n : Nat} {rf : Nat → Nat} {i : Int32} {K : Int32 → Option ρ} (hd : decode cc pc = .ok (.iaload, 1)) (hid : id < Λ.1) (hΛ : Λ.2 id = .inr (0, n, rf)) (k : ∀ x, g_Go Λ d y cc nL rt (pc + 1) lo (.int x :: st) μ (Option.map ω (K x))) : g_Go Λ d y cc nL rt pc lo (.int i :: .ref id :: st) μ (Option.map ω ((g_rd μ id n i).bind K)) :=
  g_eq (by unfold g_rd; split <;> rfl) (g_iald hd hid hΛ (k _))
theorem w_cald {id n : Nat} {rf : Nat → Nat} {i : Int32} {K : Int32 → Option ρ} (hd : decode cc pc = .ok (.caload, 1)) (hid : id < Λ.1) (hΛ : Λ.2 id = .inr (2, n, rf)) (k : ∀ x, g_Go Λ d y cc nL rt (pc + 1) lo (.int x :: st) μ (Option.map ω (K x))) : g_Go Λ d y cc nL rt pc lo (.int i :: .ref id :: st) μ (Option.map ω ((g_rd μ id n i).bind K)) :=
  g_eq (by unfold g_rd; split <;> rfl) (g_cald hd hid hΛ (k _))
theorem w_zald {id n : Nat} {rf : Nat → Nat} {i : Int32} {K : Int32 → Option ρ} (hd : decode cc pc = .ok (.baload, 1)) (hid : id < Λ.1) (hΛ : Λ.2 id = .inr (3, n, rf)) (k : ∀ x, g_Go Λ d y cc nL rt (pc + 1) lo (.int x :: st) μ (Option.map ω (K x))) : g_Go Λ d y cc nL rt pc lo (.int i :: .ref id :: st) μ (Option.map ω ((g_rd μ id n i).bind K)) :=
  g_eq (by unfold g_rd; split <;> rfl) (g_zald hd hid hΛ (k _))
theorem w_lald {id n : Nat} {rf : Nat → Nat} {i : Int32} {K : Int64 → Option ρ} (hd : decode cc pc = .ok (.laload, 1)) (hid : id < Λ.1) (hΛ : Λ.2 id = .inr (1, n, rf)) (k : ∀ x, g_Go Λ d y cc nL rt (pc + 1) lo (.long x :: st) μ (Option.map ω (K x))) : g_Go Λ d y cc nL rt pc lo (.int i :: .ref id :: st) μ (Option.map ω ((g_rl μ id n i).bind K)) :=
  g_eq (by unfold g_rl; split <;> rfl) (g_lald hd hid hΛ (k _))
theorem w_aald4 {id n : Nat} {rf : Nat → Nat} {i : Int32} {K : Nat → Option ρ} (hd : decode cc pc = .ok (.aaload, 1)) (hid : id < Λ.1) (hΛ : Λ.2 id = .inr (4, n, rf)) (k : ∀ j, j < n → g_Go Λ d y cc nL rt (pc + 1) lo (.ref (rf j) :: st) μ (Option.map ω (K (rf j)))) : g_Go Λ d y cc nL rt pc lo (.int i :: .ref id :: st) μ (Option.map ω ((g_rr rf n i).bind K)) :=
  g_eq (by unfold g_rr; split <;> rfl) (g_aald4 hd hid hΛ (fun h => k _ (Nat.lt_of_not_le (fun q => h (Or.inr q)))))
theorem w_aald5 {id n : Nat} {rf : Nat → Nat} {i : Int32} {K : Nat → Option ρ} (hd : decode cc pc = .ok (.aaload, 1)) (hid : id < Λ.1) (hΛ : Λ.2 id = .inr (5, n, rf)) (k : ∀ j, j < n → g_Go Λ d y cc nL rt (pc + 1) lo (.ref (rf j) :: st) μ (Option.map ω (K (rf j)))) : g_Go Λ d y cc nL rt pc lo (.int i :: .ref id :: st) μ (Option.map ω ((g_rr rf n i).bind K)) :=
  g_eq (by unfold g_rr; split <;> rfl) (g_aald5 hd hid hΛ (fun h => k _ (Nat.lt_of_not_le (fun q => h (Or.inr q)))))
theorem w_iast {id n : Nat} {rf : Nat → Nat} {i : Int32} {v : Int32} {K : g_St → Option ρ} (hd : decode cc pc = .ok (.iastore, 1)) (hid : id < Λ.1) (hΛ : Λ.2 id = .inr (0, n, rf)) (k : ∀ μ1, g_Go Λ d y cc nL rt (pc + 1) lo st μ1 (Option.map ω (K μ1))) : g_Go Λ d y cc nL rt pc lo (.int v :: .int i :: .ref id :: st) μ (Option.map ω ((g_wr μ id n i v).bind K)) :=
  g_eq (by unfold g_wr; split <;> rfl) (g_iast hd hid hΛ (k _))
theorem w_cast {id n : Nat} {rf : Nat → Nat} {i : Int32} {v : Int32} {K : g_St → Option ρ} (hd : decode cc pc = .ok (.castore, 1)) (hid : id < Λ.1) (hΛ : Λ.2 id = .inr (2, n, rf)) (k : ∀ μ1, g_Go Λ d y cc nL rt (pc + 1) lo st μ1 (Option.map ω (K μ1))) : g_Go Λ d y cc nL rt pc lo (.int v :: .int i :: .ref id :: st) μ (Option.map ω ((g_wr μ id n i (g_nh v)).bind K)) :=
  g_eq (by unfold g_wr; split <;> rfl) (g_cast hd hid hΛ (k _))
theorem w_zast {id n : Nat} {rf : Nat → Nat} {i : Int32} {v : Int32} {K : g_St → Option ρ} (hd : decode cc pc = .ok (.bastore, 1)) (hid : id < Λ.1) (hΛ : Λ.2 id = .inr (3, n, rf)) (k : ∀ μ1, g_Go Λ d y cc nL rt (pc + 1) lo st μ1 (Option.map ω (K μ1))) : g_Go Λ d y cc nL rt pc lo (.int v :: .int i :: .ref id :: st) μ (Option.map ω ((g_wr μ id n i (g_nz v)).bind K)) :=
  g_eq (by unfold g_wr; split <;> rfl) (g_zast hd hid hΛ (k _))
theorem w_last {id n : Nat} {rf : Nat → Nat} {i : Int32} {v : Int64} {K : g_St → Option ρ} (hd : decode cc pc = .ok (.lastore, 1)) (hid : id < Λ.1) (hΛ : Λ.2 id = .inr (1, n, rf)) (k : ∀ μ1, g_Go Λ d y cc nL rt (pc + 1) lo st μ1 (Option.map ω (K μ1))) : g_Go Λ d y cc nL rt pc lo (.long v :: .int i :: .ref id :: st) μ (Option.map ω ((g_wl μ id n i v).bind K)) :=
  g_eq (by unfold g_wl; split <;> rfl) (g_last hd hid hΛ (k _))
theorem w_idiv {x z : Int32} {K : Int32 → Option ρ} (hd : decode cc pc = .ok (.idiv, 1)) (k : ∀ v, g_Go Λ d y cc nL rt (pc + 1) lo (.int v :: st) μ (Option.map ω (K v))) : g_Go Λ d y cc nL rt pc lo (.int z :: .int x :: st) μ (Option.map ω ((g_dv x z).bind K)) :=
  g_eq (by unfold g_dv; split <;> rfl) (g_idiv hd (fun _ => k _))
theorem w_irem {x z : Int32} {K : Int32 → Option ρ} (hd : decode cc pc = .ok (.irem, 1)) (k : ∀ v, g_Go Λ d y cc nL rt (pc + 1) lo (.int v :: st) μ (Option.map ω (K v))) : g_Go Λ d y cc nL rt pc lo (.int z :: .int x :: st) μ (Option.map ω ((g_rm x z).bind K)) :=
  g_eq (by unfold g_rm; split <;> rfl) (g_irem hd (fun _ => k _))
theorem w_ldiv {x z : Int64} {K : Int64 → Option ρ} (hd : decode cc pc = .ok (.ldiv, 1)) (k : ∀ v, g_Go Λ d y cc nL rt (pc + 1) lo (.long v :: st) μ (Option.map ω (K v))) : g_Go Λ d y cc nL rt pc lo (.long z :: .long x :: st) μ (Option.map ω ((g_dvL x z).bind K)) :=
  g_eq (by unfold g_dvL; split <;> rfl) (g_ldiv hd (fun _ => k _))
theorem w_lrem {x z : Int64} {K : Int64 → Option ρ} (hd : decode cc pc = .ok (.lrem, 1)) (k : ∀ v, g_Go Λ d y cc nL rt (pc + 1) lo (.long v :: st) μ (Option.map ω (K v))) : g_Go Λ d y cc nL rt pc lo (.long z :: .long x :: st) μ (Option.map ω ((g_rmL x z).bind K)) :=
  g_eq (by unfold g_rmL; split <;> rfl) (g_lrem hd (fun _ => k _))
theorem w_putI {id ci k index N q0 : Nat} {fs : List (Nat × Nat)} {C : String} {T : u_T} {ty0 : Nat → FieldType} {ty : FieldType} {v : Int32} {K : g_St → Option ρ} (hd : decode cc pc = .ok (.putfield index, 3)) (cf : g_CF ci C T N ty0) (fl : g_FL y.cls index T k) (hid : id < Λ.1) (hΛ : Λ.2 id = .inl (ci, fs)) (hq : fs[k]? = some (0, q0)) (hk : k < N) (hfin : (T k).2.2.2 = false) (hty : ty0 k = ty) (hn : narrow ty (.int v) = .int v) (hft : fits ty (.int v) = true) (kk : ∀ μ1, g_Go Λ d y cc nL rt (pc + 3) lo st μ1 (Option.map ω (K μ1))) : g_Go Λ d y cc nL rt pc lo (.int v :: .ref id :: st) μ (Option.map ω ((some (g_sI μ id k v)).bind K)) :=
  g_putI hd cf fl hid hΛ hq hk hfin hty hn hft (kk _)
theorem w_putL {id ci k index N q0 : Nat} {fs : List (Nat × Nat)} {C : String} {T : u_T} {ty0 : Nat → FieldType} {v : Int64} {K : g_St → Option ρ} (hd : decode cc pc = .ok (.putfield index, 3)) (cf : g_CF ci C T N ty0) (fl : g_FL y.cls index T k) (hid : id < Λ.1) (hΛ : Λ.2 id = .inl (ci, fs)) (hq : fs[k]? = some (1, q0)) (hk : k < N) (hfin : (T k).2.2.2 = false) (hty : ty0 k = .long) (kk : ∀ μ1, g_Go Λ d y cc nL rt (pc + 3) lo st μ1 (Option.map ω (K μ1))) : g_Go Λ d y cc nL rt pc lo (.long v :: .ref id :: st) μ (Option.map ω ((some (g_sL μ id k v)).bind K)) :=
  g_putL hd cf fl hid hΛ hq hk hfin hty (kk _)
theorem w_putQ {id ci k index N q0 : Nat} {fs : List (Nat × Nat)} {C : String} {T : u_T} {ty0 : Nat → FieldType} {v : Nat} {E : String} {K : g_St → Option ρ} (hd : decode cc pc = .ok (.putfield index, 3)) (cf : g_CF ci C T N ty0) (fl : g_FL y.cls index T k) (hid : id < Λ.1) (hΛ : Λ.2 id = .inl (ci, fs)) (hq : fs[k]? = some (3, q0)) (hk : k < N) (hfin : (T k).2.2.2 = false) (hty : ty0 k = .object E) (h1 : ∀ (j : Nat) (p : Nat × Nat), j ≠ k → fs[j]? = some p → p.1 < 3 ∨ p.2 ≠ q0) (h2 : ∀ j, j ≠ id → ∀ (cj : Nat) (fj : List (Nat × Nat)), Λ.2 j = .inl (cj, fj) → ∀ p ∈ fj, p.1 < 3) (kk : g_Go Λ d y cc nL rt (pc + 3) lo st (g_sQ μ q0 v) (Option.map ω (K (g_sQ μ q0 v)))) : g_Go Λ d y cc nL rt pc lo (.ref v :: .ref id :: st) μ (Option.map ω ((some (g_sQ μ q0 v)).bind K)) :=
  g_putQ hd cf fl hid hΛ hq hk hfin hty h1 h2 kk
theorem w_istore {i : Nat} {e : Int32} {lo2 : Int32 → List (Option Value)} {K : Int32 → Option ρ} (hd : decode cc pc = .ok (.istore i, 2)) (hn : i < nL) (hp : g_np lo i = true) (h2 : ∀ x, (lo.set i (some (.int x))) = lo2 x) (k : ∀ x, g_Go Λ d y cc nL rt (pc + 2) (lo2 x) st μ (Option.map ω (K x))) : g_Go Λ d y cc nL rt pc lo (.int e :: st) μ (Option.map ω ((some e).bind K)) :=
  g_istore hd hn hp (h2 e) (k e)
theorem w_istore_n {j : Fin 4} {i : Nat} {e : Int32} {lo2 : Int32 → List (Option Value)} {K : Int32 → Option ρ} (hd : decode cc pc = .ok (.istore_n j, 1)) (hj : (j : Nat) = i) (hn : i < nL) (hp : g_np lo i = true) (h2 : ∀ x, (lo.set i (some (.int x))) = lo2 x) (k : ∀ x, g_Go Λ d y cc nL rt (pc + 1) (lo2 x) st μ (Option.map ω (K x))) : g_Go Λ d y cc nL rt pc lo (.int e :: st) μ (Option.map ω ((some e).bind K)) :=
  g_istore_n hd hj hn hp (h2 e) (k e)
theorem w_lstore {i : Nat} {e : Int64} {lo2 : Int64 → List (Option Value)} {K : Int64 → Option ρ} (hd : decode cc pc = .ok (.lstore i, 2)) (hn : i + 1 < nL) (hp : g_np lo i = true) (h2 : ∀ x, ((lo.set i (some (.long x))).set (i + 1) none) = lo2 x) (k : ∀ x, g_Go Λ d y cc nL rt (pc + 2) (lo2 x) st μ (Option.map ω (K x))) : g_Go Λ d y cc nL rt pc lo (.long e :: st) μ (Option.map ω ((some e).bind K)) :=
  g_lstore hd hn hp (h2 e) (k e)
theorem w_lstore_n {j : Fin 4} {i : Nat} {e : Int64} {lo2 : Int64 → List (Option Value)} {K : Int64 → Option ρ} (hd : decode cc pc = .ok (.lstore_n j, 1)) (hj : (j : Nat) = i) (hn : i + 1 < nL) (hp : g_np lo i = true) (h2 : ∀ x, ((lo.set i (some (.long x))).set (i + 1) none) = lo2 x) (k : ∀ x, g_Go Λ d y cc nL rt (pc + 1) (lo2 x) st μ (Option.map ω (K x))) : g_Go Λ d y cc nL rt pc lo (.long e :: st) μ (Option.map ω ((some e).bind K)) :=
  g_lstore_n hd hj hn hp (h2 e) (k e)
theorem w_iret {x : Int32} {v : ρ} (hd : decode cc pc = .ok (.ireturn, 1)) (hb : g_nr rt (some (.int x)) = some (.int x)) (hw : ω v = (some (.int x), μ)) : g_Go Λ d y cc nL rt pc lo [.int x] μ (Option.map ω (some v)) := g_eq (congrArg some hw) (g_iret hd hb)
theorem w_zret {x : Int32} {v : ρ} (hd : decode cc pc = .ok (.ireturn, 1)) (hb : rt = some .boolean) (hw : ω v = (some (.int (x &&& 1)), μ)) : g_Go Λ d y cc nL rt pc lo [.int x] μ (Option.map ω (some v)) := g_eq (congrArg some hw) (g_zret hd hb)
theorem w_lret {x : Int64} {v : ρ} (hd : decode cc pc = .ok (.lreturn, 1)) (hb : g_nr rt (some (.long x)) = some (.long x)) (hw : ω v = (some (.long x), μ)) : g_Go Λ d y cc nL rt pc lo [.long x] μ (Option.map ω (some v)) := g_eq (congrArg some hw) (g_lret hd hb)
theorem w_aret {x : Nat} {v : ρ} (hd : decode cc pc = .ok (.areturn, 1)) (hb : g_nr rt (some (.ref x)) = some (.ref x)) (hw : ω v = (some (.ref x), μ)) : g_Go Λ d y cc nL rt pc lo [.ref x] μ (Option.map ω (some v)) := g_eq (congrArg some hw) (g_aret hd hb)
theorem w_vret {v : ρ} (hd : decode cc pc = .ok (.return_, 1)) (hb : g_nr rt none = none) (hw : ω v = (none, μ)) : g_Go Λ d y cc nL rt pc lo [] μ (Option.map ω (some v)) := g_eq (congrArg some hw) (g_vret hd hb)
theorem w_none : g_Go Λ d y cc nL rt pc lo st μ (Option.map ω none) := g_none
theorem w_tsw {dflt lo' hi : Int} {offs : Array Int} {len : Nat} {x : Int32} (hd : decode cc pc = .ok (.tableswitch dflt lo' hi offs, len)) (h : ∀ (tgt : Nat), (x.toInt < lo' ∨ hi < x.toInt) ∧ (pc : Int) + dflt = (tgt : Int) ∨ (∃ off, ¬ x.toInt < lo' ∧ ¬ hi < x.toInt ∧ offs[(x.toInt - lo').toNat]? = some off ∧ (pc : Int) + off = (tgt : Int)) → g_Go Λ d y cc nL rt tgt lo st μ (Option.map ω X)) (hex : ∃ tgt : Nat, (x.toInt < lo' ∨ hi < x.toInt) ∧ (pc : Int) + dflt = (tgt : Int) ∨ (∃ off, ¬ x.toInt < lo' ∧ ¬ hi < x.toInt ∧ offs[(x.toInt - lo').toNat]? = some off ∧ (pc : Int) + off = (tgt : Int))) : g_Go Λ d y cc nL rt pc lo (.int x :: st) μ (Option.map ω X) := by
  obtain ⟨tgt, ht⟩ := hex
  have k := h tgt ht
  rcases ht with ⟨h1, h2⟩ | ⟨off, h1, h2, h3, h4⟩
  · exact g_st (fun p l e R s m args below meth c cells slots Q D tys ca ad A ls H locs hx hb _ _ kk => lv_tableOut hx hb hd h1 h2 kk) k
  · exact g_st (fun p l e R s m args below meth c cells slots Q D tys ca ad A ls H locs hx hb _ _ kk => lv_tableIn hx hb hd h1 h2 h3 h4 kk) k
theorem w_lsw {dflt : Int} {ps : Array (Int × Int)} {len : Nat} {x : Int32} {off : Int} {tgt : Nat} (hd : decode cc pc = .ok (.lookupswitch dflt ps, len)) (hp : (ps.toList.zip (ps.toList.drop 1)).all (fun (a, next) => a.1 < next.1) = true) (ho : Op.lookupswitch.offset ps.toList dflt x.toInt = off) (ht : (pc : Int) + off = (tgt : Int)) (k : g_Go Λ d y cc nL rt tgt lo st μ (Option.map ω X)) : g_Go Λ d y cc nL rt pc lo (.int x :: st) μ (Option.map ω X) :=
  g_st (fun p l e R s m args below meth c cells slots Q D tys ca ad A ls H locs hx hb _ _ kk => lv_lookup hx hb hd hp ho ht kk) k
theorem w_Vxi (as : List Value) {d2 index id ci n : Nat} {y2 : MethodName} {cc2 : ByteArray} {nL2 : Nat} {rt2 : Option FieldType} {fs : List (Nat × Nat)} {T2 : u_T} {N2 : Nat} {ty2 : Nat → FieldType} {f : Option Int32} {K : Int32 → Option ρ} {stk : List Value} (hd : decode cc pc = .ok (.invokevirtual index, 3)) (ml : g_ML y.cls index y2) (mv : g_MV y2) (mc : g_MC y2 cc2 nL2 rt2 n) (cf : g_CF ci y2.cls T2 N2 ty2) (hid : id < Λ.1) (hΛ : Λ.2 id = .inl (ci, fs)) (hn : as.length = n) (hd2 : d2 + 1 ≤ d) (hn2 : nL2 ≤ 81) (hst : (st.map fun v => v.category).sum ≤ 8) (hs : as.reverse ++ .ref id :: st = stk)
    (con : g_Con Λ d2 y2 cc2 nL2 rt2 (.ref id :: as) μ (g_xi μ f)) (k : ∀ x, g_Go Λ d y cc nL rt (pc + 3) lo (.int x :: st) μ (Option.map ω (K x))) : g_Go Λ d y cc nL rt pc lo stk μ (Option.map ω (f.bind K)) := by
  subst hs
  refine g_eq (X2 := (g_xi μ f).bind (fun q => match q.1 with | some (.int x) => Option.map ω (K x) | _ => none)) (by cases f <;> rfl) (g_callV hd ml mv mc cf hid hΛ hn hd2 hn2 hst con (fun r μ1 h => ?_))
  cases f with
  | none => cases h
  | some v => cases h; exact k _
theorem w_Sxi (as : List Value) {d2 index n : Nat} {y2 : MethodName} {cc2 : ByteArray} {nL2 : Nat} {rt2 : Option FieldType} {f : Option Int32} {K : Int32 → Option ρ} {stk : List Value} (hd : decode cc pc = .ok (.invokestatic index, 3)) (ml : g_ML y.cls index y2) (ms : Cond.static y2 ∈ g_gw) (mc : g_MC y2 cc2 nL2 rt2 n) (hn : as.length = n) (hd2 : d2 + 1 ≤ d) (hn2 : nL2 ≤ 81) (hst : (st.map fun v => v.category).sum ≤ 8) (hs : as.reverse ++ st = stk)
    (con : g_Con Λ d2 y2 cc2 nL2 rt2 as μ (g_xi μ f)) (k : ∀ x, g_Go Λ d y cc nL rt (pc + 3) lo (.int x :: st) μ (Option.map ω (K x))) : g_Go Λ d y cc nL rt pc lo stk μ (Option.map ω (f.bind K)) := by
  subst hs
  refine g_eq (X2 := (g_xi μ f).bind (fun q => match q.1 with | some (.int x) => Option.map ω (K x) | _ => none)) (by cases f <;> rfl) (g_callS hd ml ms mc hn hd2 hn2 hst con (fun r μ1 h => ?_))
  cases f with
  | none => cases h
  | some v => cases h; exact k _
theorem w_Vxl (as : List Value) {d2 index id ci n : Nat} {y2 : MethodName} {cc2 : ByteArray} {nL2 : Nat} {rt2 : Option FieldType} {fs : List (Nat × Nat)} {T2 : u_T} {N2 : Nat} {ty2 : Nat → FieldType} {f : Option Int64} {K : Int64 → Option ρ} {stk : List Value} (hd : decode cc pc = .ok (.invokevirtual index, 3)) (ml : g_ML y.cls index y2) (mv : g_MV y2) (mc : g_MC y2 cc2 nL2 rt2 n) (cf : g_CF ci y2.cls T2 N2 ty2) (hid : id < Λ.1) (hΛ : Λ.2 id = .inl (ci, fs)) (hn : as.length = n) (hd2 : d2 + 1 ≤ d) (hn2 : nL2 ≤ 81) (hst : (st.map fun v => v.category).sum ≤ 8) (hs : as.reverse ++ .ref id :: st = stk)
    (con : g_Con Λ d2 y2 cc2 nL2 rt2 (.ref id :: as) μ (g_xl μ f)) (k : ∀ x, g_Go Λ d y cc nL rt (pc + 3) lo (.long x :: st) μ (Option.map ω (K x))) : g_Go Λ d y cc nL rt pc lo stk μ (Option.map ω (f.bind K)) := by
  subst hs
  refine g_eq (X2 := (g_xl μ f).bind (fun q => match q.1 with | some (.long x) => Option.map ω (K x) | _ => none)) (by cases f <;> rfl) (g_callV hd ml mv mc cf hid hΛ hn hd2 hn2 hst con (fun r μ1 h => ?_))
  cases f with
  | none => cases h
  | some v => cases h; exact k _
theorem w_Sxl (as : List Value) {d2 index n : Nat} {y2 : MethodName} {cc2 : ByteArray} {nL2 : Nat} {rt2 : Option FieldType} {f : Option Int64} {K : Int64 → Option ρ} {stk : List Value} (hd : decode cc pc = .ok (.invokestatic index, 3)) (ml : g_ML y.cls index y2) (ms : Cond.static y2 ∈ g_gw) (mc : g_MC y2 cc2 nL2 rt2 n) (hn : as.length = n) (hd2 : d2 + 1 ≤ d) (hn2 : nL2 ≤ 81) (hst : (st.map fun v => v.category).sum ≤ 8) (hs : as.reverse ++ st = stk)
    (con : g_Con Λ d2 y2 cc2 nL2 rt2 as μ (g_xl μ f)) (k : ∀ x, g_Go Λ d y cc nL rt (pc + 3) lo (.long x :: st) μ (Option.map ω (K x))) : g_Go Λ d y cc nL rt pc lo stk μ (Option.map ω (f.bind K)) := by
  subst hs
  refine g_eq (X2 := (g_xl μ f).bind (fun q => match q.1 with | some (.long x) => Option.map ω (K x) | _ => none)) (by cases f <;> rfl) (g_callS hd ml ms mc hn hd2 hn2 hst con (fun r μ1 h => ?_))
  cases f with
  | none => cases h
  | some v => cases h; exact k _
theorem w_Vyi (as : List Value) {d2 index id ci n : Nat} {y2 : MethodName} {cc2 : ByteArray} {nL2 : Nat} {rt2 : Option FieldType} {fs : List (Nat × Nat)} {T2 : u_T} {N2 : Nat} {ty2 : Nat → FieldType} {f : Option (Int32 × g_St)} {K : (Int32 × g_St) → Option ρ} {stk : List Value} (hd : decode cc pc = .ok (.invokevirtual index, 3)) (ml : g_ML y.cls index y2) (mv : g_MV y2) (mc : g_MC y2 cc2 nL2 rt2 n) (cf : g_CF ci y2.cls T2 N2 ty2) (hid : id < Λ.1) (hΛ : Λ.2 id = .inl (ci, fs)) (hn : as.length = n) (hd2 : d2 + 1 ≤ d) (hn2 : nL2 ≤ 81) (hst : (st.map fun v => v.category).sum ≤ 8) (hs : as.reverse ++ .ref id :: st = stk)
    (con : g_Con Λ d2 y2 cc2 nL2 rt2 (.ref id :: as) μ (g_yi f)) (k : ∀ q, g_Go Λ d y cc nL rt (pc + 3) lo (.int q.1 :: st) q.2 (Option.map ω (K q))) : g_Go Λ d y cc nL rt pc lo stk μ (Option.map ω (f.bind K)) := by
  subst hs
  refine g_eq (X2 := (g_yi f).bind (fun q => match q.1 with | some (.int x) => Option.map ω (K (x, q.2)) | _ => none)) (by cases f <;> rfl) (g_callV hd ml mv mc cf hid hΛ hn hd2 hn2 hst con (fun r μ1 h => ?_))
  cases f with
  | none => cases h
  | some v => cases h; exact k _
theorem w_Syi (as : List Value) {d2 index n : Nat} {y2 : MethodName} {cc2 : ByteArray} {nL2 : Nat} {rt2 : Option FieldType} {f : Option (Int32 × g_St)} {K : (Int32 × g_St) → Option ρ} {stk : List Value} (hd : decode cc pc = .ok (.invokestatic index, 3)) (ml : g_ML y.cls index y2) (ms : Cond.static y2 ∈ g_gw) (mc : g_MC y2 cc2 nL2 rt2 n) (hn : as.length = n) (hd2 : d2 + 1 ≤ d) (hn2 : nL2 ≤ 81) (hst : (st.map fun v => v.category).sum ≤ 8) (hs : as.reverse ++ st = stk)
    (con : g_Con Λ d2 y2 cc2 nL2 rt2 as μ (g_yi f)) (k : ∀ q, g_Go Λ d y cc nL rt (pc + 3) lo (.int q.1 :: st) q.2 (Option.map ω (K q))) : g_Go Λ d y cc nL rt pc lo stk μ (Option.map ω (f.bind K)) := by
  subst hs
  refine g_eq (X2 := (g_yi f).bind (fun q => match q.1 with | some (.int x) => Option.map ω (K (x, q.2)) | _ => none)) (by cases f <;> rfl) (g_callS hd ml ms mc hn hd2 hn2 hst con (fun r μ1 h => ?_))
  cases f with
  | none => cases h
  | some v => cases h; exact k _
theorem w_Vyl (as : List Value) {d2 index id ci n : Nat} {y2 : MethodName} {cc2 : ByteArray} {nL2 : Nat} {rt2 : Option FieldType} {fs : List (Nat × Nat)} {T2 : u_T} {N2 : Nat} {ty2 : Nat → FieldType} {f : Option (Int64 × g_St)} {K : (Int64 × g_St) → Option ρ} {stk : List Value} (hd : decode cc pc = .ok (.invokevirtual index, 3)) (ml : g_ML y.cls index y2) (mv : g_MV y2) (mc : g_MC y2 cc2 nL2 rt2 n) (cf : g_CF ci y2.cls T2 N2 ty2) (hid : id < Λ.1) (hΛ : Λ.2 id = .inl (ci, fs)) (hn : as.length = n) (hd2 : d2 + 1 ≤ d) (hn2 : nL2 ≤ 81) (hst : (st.map fun v => v.category).sum ≤ 8) (hs : as.reverse ++ .ref id :: st = stk)
    (con : g_Con Λ d2 y2 cc2 nL2 rt2 (.ref id :: as) μ (g_yl f)) (k : ∀ q, g_Go Λ d y cc nL rt (pc + 3) lo (.long q.1 :: st) q.2 (Option.map ω (K q))) : g_Go Λ d y cc nL rt pc lo stk μ (Option.map ω (f.bind K)) := by
  subst hs
  refine g_eq (X2 := (g_yl f).bind (fun q => match q.1 with | some (.long x) => Option.map ω (K (x, q.2)) | _ => none)) (by cases f <;> rfl) (g_callV hd ml mv mc cf hid hΛ hn hd2 hn2 hst con (fun r μ1 h => ?_))
  cases f with
  | none => cases h
  | some v => cases h; exact k _
theorem w_Syl (as : List Value) {d2 index n : Nat} {y2 : MethodName} {cc2 : ByteArray} {nL2 : Nat} {rt2 : Option FieldType} {f : Option (Int64 × g_St)} {K : (Int64 × g_St) → Option ρ} {stk : List Value} (hd : decode cc pc = .ok (.invokestatic index, 3)) (ml : g_ML y.cls index y2) (ms : Cond.static y2 ∈ g_gw) (mc : g_MC y2 cc2 nL2 rt2 n) (hn : as.length = n) (hd2 : d2 + 1 ≤ d) (hn2 : nL2 ≤ 81) (hst : (st.map fun v => v.category).sum ≤ 8) (hs : as.reverse ++ st = stk)
    (con : g_Con Λ d2 y2 cc2 nL2 rt2 as μ (g_yl f)) (k : ∀ q, g_Go Λ d y cc nL rt (pc + 3) lo (.long q.1 :: st) q.2 (Option.map ω (K q))) : g_Go Λ d y cc nL rt pc lo stk μ (Option.map ω (f.bind K)) := by
  subst hs
  refine g_eq (X2 := (g_yl f).bind (fun q => match q.1 with | some (.long x) => Option.map ω (K (x, q.2)) | _ => none)) (by cases f <;> rfl) (g_callS hd ml ms mc hn hd2 hn2 hst con (fun r μ1 h => ?_))
  cases f with
  | none => cases h
  | some v => cases h; exact k _
theorem w_Vyv (as : List Value) {d2 index id ci n : Nat} {y2 : MethodName} {cc2 : ByteArray} {nL2 : Nat} {rt2 : Option FieldType} {fs : List (Nat × Nat)} {T2 : u_T} {N2 : Nat} {ty2 : Nat → FieldType} {f : Option g_St} {K : g_St → Option ρ} {stk : List Value} (hd : decode cc pc = .ok (.invokevirtual index, 3)) (ml : g_ML y.cls index y2) (mv : g_MV y2) (mc : g_MC y2 cc2 nL2 rt2 n) (cf : g_CF ci y2.cls T2 N2 ty2) (hid : id < Λ.1) (hΛ : Λ.2 id = .inl (ci, fs)) (hn : as.length = n) (hd2 : d2 + 1 ≤ d) (hn2 : nL2 ≤ 81) (hst : (st.map fun v => v.category).sum ≤ 8) (hs : as.reverse ++ .ref id :: st = stk)
    (con : g_Con Λ d2 y2 cc2 nL2 rt2 (.ref id :: as) μ (g_yv f)) (k : ∀ q, g_Go Λ d y cc nL rt (pc + 3) lo st q (Option.map ω (K q))) : g_Go Λ d y cc nL rt pc lo stk μ (Option.map ω (f.bind K)) := by
  subst hs
  refine g_eq (X2 := (g_yv f).bind (fun q => match q.1 with | none => Option.map ω (K q.2) | _ => none)) (by cases f <;> rfl) (g_callV hd ml mv mc cf hid hΛ hn hd2 hn2 hst con (fun r μ1 h => ?_))
  cases f with
  | none => cases h
  | some v => cases h; exact k _
theorem w_Syv (as : List Value) {d2 index n : Nat} {y2 : MethodName} {cc2 : ByteArray} {nL2 : Nat} {rt2 : Option FieldType} {f : Option g_St} {K : g_St → Option ρ} {stk : List Value} (hd : decode cc pc = .ok (.invokestatic index, 3)) (ml : g_ML y.cls index y2) (ms : Cond.static y2 ∈ g_gw) (mc : g_MC y2 cc2 nL2 rt2 n) (hn : as.length = n) (hd2 : d2 + 1 ≤ d) (hn2 : nL2 ≤ 81) (hst : (st.map fun v => v.category).sum ≤ 8) (hs : as.reverse ++ st = stk)
    (con : g_Con Λ d2 y2 cc2 nL2 rt2 as μ (g_yv f)) (k : ∀ q, g_Go Λ d y cc nL rt (pc + 3) lo st q (Option.map ω (K q))) : g_Go Λ d y cc nL rt pc lo stk μ (Option.map ω (f.bind K)) := by
  subst hs
  refine g_eq (X2 := (g_yv f).bind (fun q => match q.1 with | none => Option.map ω (K q.2) | _ => none)) (by cases f <;> rfl) (g_callS hd ml ms mc hn hd2 hn2 hst con (fun r μ1 h => ?_))
  cases f with
  | none => cases h
  | some v => cases h; exact k _
theorem w_Vyr (as : List Value) {a d2 index id ci n : Nat} {y2 : MethodName} {cc2 : ByteArray} {nL2 : Nat} {rt2 : Option FieldType} {fs : List (Nat × Nat)} {T2 : u_T} {N2 : Nat} {ty2 : Nat → FieldType} {f : Option g_St} {K : g_St → Option ρ} {stk : List Value} (hd : decode cc pc = .ok (.invokevirtual index, 3)) (ml : g_ML y.cls index y2) (mv : g_MV y2) (mc : g_MC y2 cc2 nL2 rt2 n) (cf : g_CF ci y2.cls T2 N2 ty2) (hid : id < Λ.1) (hΛ : Λ.2 id = .inl (ci, fs)) (hn : as.length = n) (hd2 : d2 + 1 ≤ d) (hn2 : nL2 ≤ 81) (hst : (st.map fun v => v.category).sum ≤ 8) (hs : as.reverse ++ .ref id :: st = stk)
    (con : g_Con Λ d2 y2 cc2 nL2 rt2 (.ref id :: as) μ (g_yr a f)) (k : ∀ q, g_Go Λ d y cc nL rt (pc + 3) lo (.ref a :: st) q (Option.map ω (K q))) : g_Go Λ d y cc nL rt pc lo stk μ (Option.map ω (f.bind K)) := by
  subst hs
  refine g_eq (X2 := (g_yr a f).bind (fun q => match q.1 with | some (.ref _) => Option.map ω (K q.2) | _ => none)) (by cases f <;> rfl) (g_callV hd ml mv mc cf hid hΛ hn hd2 hn2 hst con (fun r μ1 h => ?_))
  cases f with
  | none => cases h
  | some v => cases h; exact k _
end GoWrap
