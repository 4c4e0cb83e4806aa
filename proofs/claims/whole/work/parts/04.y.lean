/-! the reference's private methods, each with a general post -/
section
variable {c : Nat} {q : Int32} {A B S : Nat → Int32}
theorem py_per1 {post : Int32 → Prop} {j : Nat} (hc : c ≤ 7) (hj : j < c) (h : post 1) : wpY_isPerson post (nI c, q, A, B, S) (nI j) :=
  br_f (nI_pos (by omega)) (br_f (nI_ge hj (by omega)) h)
theorem py_per0 {post : Int32 → Prop} {x : Int32} (hc : c ≤ 7) (hx : ¬ ∃ j : Nat, j < c ∧ x = nI j) (h : post 0) : wpY_isPerson post (nI c, q, A, B, S) x :=
  br_c (fun _ => h) (fun h0 => br_c (fun _ => h) (fun h1 => False.elim (hx (by
    obtain ⟨j, hj, rfl⟩ := nI_of h0
    rw [nI_leI (by omega) hj] at h1
    exact ⟨j, by omega, rfl⟩))))
theorem pd_2 : (2 : Int32) = nI 2 := rfl
theorem py_gen1 {post : Int32 → Prop} {f : Int32} {g : Nat} (hg : g < 3) (h : post 1) : wpY_isGenotype post (f, q, A, B, S) (nI g) :=
  br_f (nI_pos (by omega)) (br_f (nI_nlt (a := 2) (by omega) (by decide)) h)
theorem py_gen0 {post : Int32 → Prop} {f x : Int32} (hx : ¬ ∃ j : Nat, j < 3 ∧ x = nI j) (h : post 0) : wpY_isGenotype post (f, q, A, B, S) x :=
  br_c (fun _ => h) (fun h0 => br_c (fun _ => h) (fun h1 => False.elim (hx (by
    obtain ⟨j, hj, rfl⟩ := nI_of h0
    rw [pd_2, nI_ltI (by decide) hj] at h1
    exact ⟨j, by omega, rfl⟩))))
theorem py_pow_l {post : Int32 → Prop} {f : Int32} {m : Nat} (hm : m ≤ 7) (h : post (nI (3 ^ m))) : ∀ d p : Nat, p + d = m → wY_power_4 post (nI m) f q A B S (d + 1) (nI (3 ^ p)) (nI p) := by
  intro d
  induction d with
  | zero =>
    intro p hp
    have e : p = m := by omega
    rw [e]
    exact br_t (nI_le (Nat.le_refl _) (by omega)) h
  | succ d ih =>
    intro p hp
    exact br_f (nI_ge (by omega) (by omega)) (nm_r (pd_p3' p) (nm_r (nI_1 p) (ih (p + 1) (by omega))))
theorem py_pow {post : Int32 → Prop} {f : Int32} {m : Nat} (hm : m ≤ 7) (h : post (nI (3 ^ m))) : wpY_power post (f, q, A, B, S) (nI m) :=
  ⟨m + 1, py_pow_l hm h m 0 (by omega)⟩
theorem py_dig {post : Int32 → Prop} {f : Int32} {N m : Nat} (hN : N < 2 ^ 31) (hm : m ≤ 7) (h : post (nI (pd_dg N m))) : wpY_genotype post (f, q, A, B, S) (nI N) (nI m) := by
  have h7 := pd_pow7 hm
  unfold wpY_genotype
  dsimp only
  refine py_pow hm ⟨nI_ne0 (pd_pow_pos m) (Nat.lt_of_le_of_lt h7 (by decide)), by decide, ?_⟩
  rw [pd_gen_e hN hm]
  exact h
theorem py_inh {post : Int32 → Prop} {f g a b : Int32} (h : post (pd_cw g a b)) : wpY_inherited post (f, q, A, B, S) a b g := by
  unfold pd_cw at h
  refine br_c (fun h0 => ?_) (fun h0 => br_c (fun h1 => ?_) (fun h1 => ?_))
  · rw [if_pos h0] at h
    exact h
  · rw [if_neg h0, if_pos h1] at h
    exact h
  · rw [if_neg h0, if_neg h1] at h
    exact h
theorem py_fnd {post : Int32 → Prop} {f g : Int32} (h : post (pd_fw q g)) : wpY_founded post (f, q, A, B, S) g := by
  unfold pd_fw at h
  refine br_c (fun h0 => ?_) (fun h0 => br_c (fun h1 => ?_) (fun h1 => ?_))
  · rw [if_pos h0] at h
    exact h
  · rw [if_neg h0, if_pos h1] at h
    exact h
  · rw [if_neg h0, if_neg h1] at h
    exact h
theorem py_fac {post : Int32 → Prop} {N p : Nat} (hN : N < 2 ^ 31) (hc : c ≤ 7) (hp : p < c) (hpar : pd_par A B c) (h : post (pd_fac q A B S N p)) : wpY_factor post (nI c, q, A, B, S) (nI N) (nI p) := by
  have hd := pd_dg_lt N p
  unfold wpY_factor
  dsimp only
  refine py_dig hN (by omega) ?_
  rw [pd_ix', nI_clamp (n := 3 * p + pd_dg N p) (by omega), nI_clamp (n := p) (by omega)]
  refine ⟨vp_in_nI (by omega) (by decide), nm_e ⟨vp_in_nI (by omega) (by decide), ?_⟩⟩
  rcases hpar p hp with ⟨hA, hB⟩ | ⟨a, b, ha, hb, hA, hB⟩
  · have e : pd_fac q A B S N p = S (3 * p + pd_dg N p) * pd_fw q (nI (pd_dg N p)) := by
      unfold pd_fac pd_ways
      rw [if_pos hA, Int32.mul_comm]
    rw [e] at h
    exact br_f (by rw [hA]; decide) (py_fnd h)
  · have hn : ¬ A p = -1 := by rw [hA]; exact pd_nI_m1 (by omega)
    have e : pd_fac q A B S N p = S (3 * p + pd_dg N p) * pd_cw (nI (pd_dg N p)) (nI (pd_dg N a)) (nI (pd_dg N b)) := by
      unfold pd_fac pd_ways
      rw [if_neg hn, hA, hB, nI_clamp (n := a) (by omega), nI_clamp (n := b) (by omega), Int32.mul_comm]
    rw [e] at h
    rw [hA, hB]
    exact br_t (nI_pos' (by omega)) ⟨vp_in_nI (by omega) (by decide), py_dig hN (by omega) ⟨vp_in_nI (by omega) (by decide), py_dig hN (by omega) (py_inh h)⟩⟩
theorem py_wt_l {post : Int64 → Prop} {N : Nat} (hN : N < 2 ^ 31) (hc : c ≤ 7) (hpar : pd_par A B c) (h : post (pd_wt q A B S N c)) : ∀ d p : Nat, p + d = c → wY_weight_5 post (nI N) (nI c) q A B S (d + 1) (pd_wt q A B S N p) (nI p) := by
  intro d
  induction d with
  | zero =>
    intro p hp
    have e : p = c := by omega
    rw [e]
    exact br_t (nI_le (Nat.le_refl _) (by omega)) h
  | succ d ih =>
    intro p hp
    exact br_f (nI_ge (by omega) (by omega)) (py_fac hN hc (by omega) hpar (nm_r (e' := pd_wt q A B S N (p + 1)) rfl (nm_r (nI_1 p) (ih (p + 1) (by omega)))))
theorem py_wt {post : Int64 → Prop} {N : Nat} (hN : N < 2 ^ 31) (hc : c ≤ 7) (hpar : pd_par A B c) (h : post (pd_wt q A B S N c)) : wpY_weight post (nI c, q, A, B, S) (nI N) :=
  ⟨c + 1, py_wt_l hN hc hpar h c 0 (by omega)⟩
theorem py_nz_l {post : Int32 → Prop} {N : Nat} (hN : N < 2 ^ 31) (hc : c ≤ 7) (hpar : pd_par A B c) (h1 : pd_ok q A B S N c → post 1) (h0 : ¬ pd_ok q A B S N c → post 0) : ∀ d p : Nat, p + d = c → (∀ j, j < p → ¬ pd_fac q A B S N j = 0) → wY_isPossible_2 post (nI N) (nI c) q A B S (d + 1) (nI p) := by
  intro d
  induction d with
  | zero =>
    intro p hp hz
    have e : p = c := by omega
    rw [e] at hz ⊢
    exact br_t (nI_le (Nat.le_refl _) (by omega)) (h1 hz)
  | succ d ih =>
    intro p hp hz
    refine br_f (nI_ge (by omega) (by omega)) (py_fac hN hc (by omega) hpar (br_c (fun z => h0 (fun y => y p (by omega) z)) (fun z => nm_r (nI_1 p) (ih (p + 1) (by omega) ?_))))
    intro j hj
    by_cases y : j = p
    · rw [y]
      exact z
    · exact hz j (by omega)
theorem py_nz {post : Int32 → Prop} {N : Nat} (hN : N < 2 ^ 31) (hc : c ≤ 7) (hpar : pd_par A B c) (h1 : pd_ok q A B S N c → post 1) (h0 : ¬ pd_ok q A B S N c → post 0) : wpY_isPossible post (nI c, q, A, B, S) (nI N) :=
  ⟨c + 1, py_nz_l hN hc hpar h1 h0 c 0 (by omega) (fun j hj => absurd hj (by omega))⟩
end
