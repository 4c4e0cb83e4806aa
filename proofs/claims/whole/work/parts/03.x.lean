/-! the component's private methods, each with a general post -/
section
variable {c : Nat} {q : Int32} {A B S G : Nat → Int32}
theorem px_per1 {post : Int32 → Prop} {j : Nat} (hc : c ≤ 7) (hj : j < c) (h : post 1) : wpX_isPerson post (nI c, q, A, B, S, G) (nI j) :=
  br_f (nI_pos (by omega)) (br_f (nI_ge hj (by omega)) h)
theorem px_per0 {post : Int32 → Prop} {x : Int32} (hc : c ≤ 7) (hx : ¬ ∃ j : Nat, j < c ∧ x = nI j) (h : post 0) : wpX_isPerson post (nI c, q, A, B, S, G) x :=
  br_c (fun _ => h) (fun h0 => br_c (fun _ => h) (fun h1 => False.elim (hx (by
    obtain ⟨j, hj, rfl⟩ := nI_of h0
    rw [nI_leI (by omega) hj] at h1
    exact ⟨j, by omega, rfl⟩))))
theorem px_gen1 {post : Int32 → Prop} {g : Nat} (hg : g < 3) (h : post 1) : wpX_isGenotype post (nI g) :=
  br_f (nI_pos (by omega)) (br_f (nI_ge (b := 3) hg (by decide)) h)
theorem px_gen0 {post : Int32 → Prop} {x : Int32} (hx : ¬ ∃ j : Nat, j < 3 ∧ x = nI j) (h : post 0) : wpX_isGenotype post x :=
  br_c (fun _ => h) (fun h0 => br_c (fun _ => h) (fun h1 => False.elim (hx (by
    obtain ⟨j, hj, rfl⟩ := nI_of h0
    rw [pd_3, nI_leI (by decide) hj] at h1
    exact ⟨j, by omega, rfl⟩))))
theorem px_asn_l {post : Int32 → Prop} (hc : c ≤ 7) (h : post (nI (3 ^ c))) : ∀ d p : Nat, p + d = c → wX_assignments_4 post (nI c) q A B S G (d + 1) (nI (3 ^ p)) (nI p) := by
  intro d
  induction d with
  | zero =>
    intro p hp
    have e : p = c := by omega
    rw [e]
    exact br_t (nI_le (Nat.le_refl _) (by omega)) h
  | succ d ih =>
    intro p hp
    exact br_f (nI_ge (by omega) (by omega)) (nm_r (pd_p3 p) (nm_r (nI_1 p) (ih (p + 1) (by omega))))
theorem px_asn {post : Int32 → Prop} (hc : c ≤ 7) (h : post (nI (3 ^ c))) : wpX_assignments post (nI c, q, A, B, S, G) :=
  ⟨c + 1, px_asn_l hc h c 0 (by omega)⟩
theorem px_asg_l {post : SX → Prop} {N : Nat} (hN : N < 2 ^ 31) (hc : c ≤ 7) (h : ∀ G' : Nat → Int32, (∀ j, j < c → G' j = nI (pd_dg N j)) → post (nI c, q, A, B, S, G')) : ∀ (d p : Nat) (G : Nat → Int32), p + d = c → (∀ j, j < p → G j = nI (pd_dg N j)) → wX_assign_4 post (nI c) q (d + 1) (nI (N / 3 ^ p)) (nI p) A B S G := by
  intro d
  induction d with
  | zero =>
    intro p G hp hG
    have e : p = c := by omega
    rw [e] at hG ⊢
    exact br_t (nI_le (Nat.le_refl _) (by omega)) (h G hG)
  | succ d ih =>
    intro p G hp hG
    refine br_f (nI_ge (by omega) (by omega)) ⟨by decide, vp_in_nI (by omega) (by decide), nm_r (e' := upd G p (nI (pd_dg N p))) ?_ ⟨by decide, nm_r (e' := nI (N / 3 ^ (p + 1))) ?_ (nm_r (nI_1 p) (ih (p + 1) _ (by omega) ?_))⟩⟩
    · rw [nI_clamp (by omega), pd_rem_e (pd_dl hN)]
      rfl
    · rw [pd_div_e (pd_dl hN), pd_div3]
    · intro j hj
      by_cases z : j = p
      · rw [z, pk_us]
      · rw [pk_un z]
        exact hG j (by omega)
theorem px_asg {post : SX → Prop} {N : Nat} (hN : N < 2 ^ 31) (hc : c ≤ 7) (h : ∀ G' : Nat → Int32, (∀ j, j < c → G' j = nI (pd_dg N j)) → post (nI c, q, A, B, S, G')) : wpX_assign post (nI c, q, A, B, S, G) (nI N) := by
  have w := px_asg_l hN hc h c 0 G (by omega) (fun j hj => absurd hj (by omega))
  rw [pd_div0] at w
  exact ⟨c + 1, w⟩
theorem px_isf {post : Int32 → Prop} {f : Int32} {p : Nat} (hp : p < 7) (h1 : A p = -1 → post 1) (h0 : ¬ A p = -1 → post 0) : wpX_isFounder post (f, q, A, B, S, G) (nI p) := by
  unfold wpX_isFounder
  dsimp only
  rw [nI_clamp (n := p) (by omega)]
  exact ⟨vp_in_nI hp (by decide), br_c h1 h0⟩
theorem px_fw {post : Int32 → Prop} {f g : Int32} (h : post (pd_fw q g)) : wpX_founderWays post (f, q, A, B, S, G) g := by
  unfold wpX_founderWays
  dsimp only
  unfold pd_fw at h
  refine nm_e (br_c (fun h0 => ?_) (fun h0 => br_c (fun h1 => ?_) (fun h1 => ?_)))
  · rw [if_pos h0] at h
    exact h
  · rw [if_neg h0, if_pos h1] at h
    exact h
  · rw [if_neg h0, if_neg h1] at h
    exact h
theorem px_cw {post : Int32 → Prop} {g a b : Int32} (h : post (pd_cw g a b)) : wpX_childWays post g a b := by
  unfold pd_cw at h
  refine br_c (fun h0 => ?_) (fun h0 => br_c (fun h1 => ?_) (fun h1 => ?_))
  · rw [if_pos h0] at h
    exact h
  · rw [if_neg h0, if_pos h1] at h
    exact h
  · rw [if_neg h0, if_neg h1] at h
    exact h
theorem px_fac {post : Int32 → Prop} {N p : Nat} (hc : c ≤ 7) (hp : p < c) (hpar : pd_par A B c) (hG : ∀ j, j < c → G j = nI (pd_dg N j)) (h : post (pd_fac q A B S N p)) : wpX_factor post (nI c, q, A, B, S, G) (nI p) := by
  have hd := pd_dg_lt N p
  have hend : ∀ w : Int32, w = pd_ways q A B (pd_dg N) p → wX_factor_59 post (nI p) (nI (pd_dg N p)) w (nI c) q A B S G := by
    intro w hw
    unfold wX_factor_59
    rw [pd_ix, nI_clamp (n := 3 * p + pd_dg N p) (by omega), hw]
    exact ⟨vp_in_nI (by omega) (by decide), h⟩
  unfold wpX_factor
  dsimp only
  rw [nI_clamp (n := p) (by omega)]
  refine ⟨vp_in_nI (by omega) (by decide), nm_r (hG p hp) ?_⟩
  rcases hpar p hp with ⟨hA, hB⟩ | ⟨a, b, ha, hb, hA, hB⟩
  · refine px_isf (by omega) (fun _ => br_f (by decide) (px_fw (hend _ ?_))) (fun z => absurd hA z)
    unfold pd_ways
    rw [if_pos hA]
  · have hn : ¬ A p = -1 := by rw [hA]; exact pd_nI_m1 (by omega)
    refine px_isf (by omega) (fun z => absurd z hn) (fun _ => br_t rfl ?_)
    rw [hA, hB, nI_clamp (n := a) (by omega), nI_clamp (n := b) (by omega)]
    refine ⟨vp_in_nI (by omega) (by decide), vp_in_nI (by omega) (by decide), nm_r (hG a (by omega)) ⟨vp_in_nI (by omega) (by decide), vp_in_nI (by omega) (by decide), nm_r (hG b (by omega)) (px_cw (hend _ ?_))⟩⟩
    unfold pd_ways
    rw [if_neg hn, hA, hB, nI_clamp (n := a) (by omega), nI_clamp (n := b) (by omega)]
theorem px_wt_l {post : Int64 → Prop} {N : Nat} (hc : c ≤ 7) (hpar : pd_par A B c) (hG : ∀ j, j < c → G j = nI (pd_dg N j)) (h : post (pd_wt q A B S N c)) : ∀ d p : Nat, p + d = c → wX_weight_4 post (nI c) q A B S G (d + 1) (pd_wt q A B S N p) (nI p) := by
  intro d
  induction d with
  | zero =>
    intro p hp
    have e : p = c := by omega
    rw [e]
    exact br_t (nI_le (Nat.le_refl _) (by omega)) h
  | succ d ih =>
    intro p hp
    exact br_f (nI_ge (by omega) (by omega)) (px_fac hc (by omega) hpar hG (nm_r (e' := pd_wt q A B S N (p + 1)) rfl (nm_r (nI_1 p) (ih (p + 1) (by omega)))))
theorem px_wt {post : Int64 → Prop} {N : Nat} (hc : c ≤ 7) (hpar : pd_par A B c) (hG : ∀ j, j < c → G j = nI (pd_dg N j)) (h : post (pd_wt q A B S N c)) : wpX_weight post (nI c, q, A, B, S, G) :=
  ⟨c + 1, px_wt_l hc hpar hG h c 0 (by omega)⟩
theorem px_nz_l {post : Int32 → Prop} {N : Nat} (hc : c ≤ 7) (hpar : pd_par A B c) (hG : ∀ j, j < c → G j = nI (pd_dg N j)) (h1 : pd_ok q A B S N c → post 1) (h0 : ¬ pd_ok q A B S N c → post 0) : ∀ d p : Nat, p + d = c → (∀ j, j < p → ¬ pd_fac q A B S N j = 0) → wX_noFactorIsZero_2 post (nI c) q A B S G (d + 1) (nI p) := by
  intro d
  induction d with
  | zero =>
    intro p hp hz
    have e : p = c := by omega
    rw [e] at hz ⊢
    exact br_t (nI_le (Nat.le_refl _) (by omega)) (h1 hz)
  | succ d ih =>
    intro p hp hz
    refine br_f (nI_ge (by omega) (by omega)) (px_fac hc (by omega) hpar hG (br_c (fun z => h0 (fun y => y p (by omega) z)) (fun z => nm_r (nI_1 p) (ih (p + 1) (by omega) ?_))))
    intro j hj
    by_cases y : j = p
    · rw [y]
      exact z
    · exact hz j (by omega)
theorem px_nz {post : Int32 → Prop} {N : Nat} (hc : c ≤ 7) (hpar : pd_par A B c) (hG : ∀ j, j < c → G j = nI (pd_dg N j)) (h1 : pd_ok q A B S N c → post 1) (h0 : ¬ pd_ok q A B S N c → post 0) : wpX_noFactorIsZero post (nI c, q, A, B, S, G) :=
  ⟨c + 1, px_nz_l hc hpar hG h1 h0 c 0 (by omega) (fun j hj => absurd hj (by omega))⟩
end
