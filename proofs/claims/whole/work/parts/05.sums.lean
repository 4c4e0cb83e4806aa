/-! the sums of both sides, and possible in lockstep -/
section
variable {c : Nat} {q : Int32} {A B S : Nat → Int32}
/-- what a question of the component's asks of an assignment -/
def px_Fit (c : Nat) (q : Int32) (A B S : Nat → Int32) (x g : Int32) (Q : Nat → Prop) : Prop :=
  ∀ (N : Nat) (G : Nat → Int32) (post : Int32 → Prop), (∀ j, j < c → G j = nI (pd_dg N j)) → (Q N → post 1) → (¬ Q N → post 0) → wpX_fits post (nI c, q, A, B, S, G) x g
theorem px_fit_n {g : Int32} : px_Fit c q A B S (-1) g (fun _ => True) :=
  fun _ _ _ _ h1 _ => br_t (by decide) (h1 trivial)
theorem px_fit_p {p g : Nat} (hc : c ≤ 7) (hp : p < c) (hg : g < 3) : px_Fit c q A B S (nI p) (nI g) (fun N => pd_dg N p = g) := by
  intro N G post hG h1 h0
  have hd := pd_dg_lt N p
  unfold wpX_fits
  dsimp only
  rw [nI_clamp (n := p) (by omega), hG p hp, nI_eq (by omega) (by omega)]
  exact br_f (nI_pos (by omega)) ⟨vp_in_nI (by omega) (by decide), br_c h1 h0⟩
theorem px_sum_l {post : Int64 → SX → Prop} {x1 x2 x3 x4 : Int32} {Q1 Q2 : Nat → Prop} {f : Nat → Int64} (hc : c ≤ 7) (hpar : pd_par A B c) (H1 : px_Fit c q A B S x1 x2 Q1) (H2 : px_Fit c q A B S x3 x4 Q2) (hf : ∀ N, Q1 N → Q2 N → f N = pd_wt q A B S N c) (hf1 : ∀ N, ¬ Q1 N → f N = 0) (hf2 : ∀ N, ¬ Q2 N → f N = 0) (h : ∀ G : Nat → Int32, post (pd_sum f (3 ^ c)) (nI c, q, A, B, S, G)) : ∀ (d N : Nat) (G : Nat → Int32), N + d = 3 ^ c → wX_sumOfWeights_12 post x1 x2 x3 x4 (nI (3 ^ c)) (d + 1) (pd_sum f N) (nI N) (nI c) q A B S G := by
  have h7 := pd_pow7 hc
  intro d
  induction d with
  | zero =>
    intro N G hN
    have e : N = 3 ^ c := by omega
    rw [e]
    exact br_t (nI_le (Nat.le_refl _) (by omega)) (h G)
  | succ d ih =>
    intro N G hN
    refine br_f (nI_ge (by omega) (by omega)) (px_asg (by omega) hc (fun G' hG' => ?_))
    dsimp only
    have hz : f N = 0 → wX_sumOfWeights_12 post x1 x2 x3 x4 (nI (3 ^ c)) (d + 1) (pd_sum f N) (nI (N + 1)) (nI c) q A B S G' := by
      intro z
      have w := ih (N + 1) G' (by omega)
      rw [pd_sum, z, Int64.add_zero] at w
      exact w
    refine H1 N G' _ hG' (fun q1 => br_f (by decide) (H2 N G' _ hG' (fun q2 => br_f (by decide) (px_wt hc hpar hG' (nm_r (e' := pd_sum f (N + 1)) ?_ (nm_r (nI_1 N) (ih (N + 1) G' (by omega)))))) (fun q2 => br_t rfl (nm_r (nI_1 N) (hz (hf2 N q2)))))) (fun q1 => br_t rfl (nm_r (nI_1 N) (hz (hf1 N q1))))
    rw [pd_sum, hf N q1 q2]
theorem px_sum {post : Int64 → SX → Prop} {x1 x2 x3 x4 : Int32} {G : Nat → Int32} {Q1 Q2 : Nat → Prop} (f : Nat → Int64) (hc : c ≤ 7) (hpar : pd_par A B c) (H1 : px_Fit c q A B S x1 x2 Q1) (H2 : px_Fit c q A B S x3 x4 Q2) (hf : ∀ N, Q1 N → Q2 N → f N = pd_wt q A B S N c) (hf1 : ∀ N, ¬ Q1 N → f N = 0) (hf2 : ∀ N, ¬ Q2 N → f N = 0) (h : ∀ G : Nat → Int32, post (pd_sum f (3 ^ c)) (nI c, q, A, B, S, G)) : wpX_sumOfWeights post (nI c, q, A, B, S, G) x1 x2 x3 x4 := by
  unfold wpX_sumOfWeights
  dsimp only
  exact px_asn hc ⟨3 ^ c + 1, px_sum_l hc hpar H1 H2 hf hf1 hf2 h (3 ^ c) 0 G (by omega)⟩
theorem px_sum0 {post : Int64 → SX → Prop} {G : Nat → Int32} {g h : Int32} (hc : c ≤ 7) (hpar : pd_par A B c) (hp : ∀ G : Nat → Int32, post (pd_sum (fun N => pd_wt q A B S N c) (3 ^ c)) (nI c, q, A, B, S, G)) : wpX_sumOfWeights post (nI c, q, A, B, S, G) (-1) g (-1) h :=
  px_sum _ hc hpar px_fit_n px_fit_n (fun _ _ _ => rfl) (fun _ z => absurd trivial z) (fun _ z => absurd trivial z) hp
theorem px_sum1 {post : Int64 → SX → Prop} {G : Nat → Int32} {p g : Nat} {h : Int32} (hc : c ≤ 7) (hpar : pd_par A B c) (hj : p < c) (hg : g < 3) (hp : ∀ G : Nat → Int32, post (pd_sum (pd_t1 q A B S c p g) (3 ^ c)) (nI c, q, A, B, S, G)) : wpX_sumOfWeights post (nI c, q, A, B, S, G) (nI p) (nI g) (-1) h :=
  px_sum _ hc hpar (px_fit_p hc hj hg) px_fit_n (fun _ z _ => if_pos z) (fun _ z => if_neg z) (fun _ z => absurd trivial z) hp
theorem px_sum2 {post : Int64 → SX → Prop} {G : Nat → Int32} {p g r h : Nat} (hc : c ≤ 7) (hpar : pd_par A B c) (hj : p < c) (hg : g < 3) (hr : r < c) (hh : h < 3) (hp : ∀ G : Nat → Int32, post (pd_sum (pd_t2 q A B S c p g r h) (3 ^ c)) (nI c, q, A, B, S, G)) : wpX_sumOfWeights post (nI c, q, A, B, S, G) (nI p) (nI g) (nI r) (nI h) :=
  px_sum _ hc hpar (px_fit_p hc hj hg) (px_fit_p hc hr hh) (fun _ z y => if_pos ⟨z, y⟩) (fun _ z => if_neg (fun y => z y.1)) (fun _ z => if_neg (fun y => z y.2)) hp
theorem py_lik_l {post : Int64 → Prop} (hc : c ≤ 7) (hpar : pd_par A B c) (h : post (pd_sum (fun N => pd_wt q A B S N c) (3 ^ c))) : ∀ d N : Nat, N + d = 3 ^ c → wY_likelihood_14 post (nI (3 ^ c)) (nI c) q A B S (d + 1) (pd_sum (fun N => pd_wt q A B S N c) N) (nI N) := by
  have h7 := pd_pow7 hc
  intro d
  induction d with
  | zero =>
    intro N hN
    have e : N = 3 ^ c := by omega
    rw [e]
    exact br_t (nI_le (Nat.le_refl _) (by omega)) h
  | succ d ih =>
    intro N hN
    exact br_f (nI_ge (by omega) (by omega)) (py_wt (by omega) hc hpar (nm_r (e' := pd_sum (fun N => pd_wt q A B S N c) (N + 1)) rfl (nm_r (nI_1 N) (ih (N + 1) (by omega)))))
theorem py_lik {post : Int64 → Prop} (hc : c ≤ 7) (hpar : pd_par A B c) (h : post (pd_sum (fun N => pd_wt q A B S N c) (3 ^ c))) : wpY_likelihood post (nI c, q, A, B, S) := by
  unfold wpY_likelihood
  dsimp only
  exact py_pow hc ⟨3 ^ c + 1, py_lik_l hc hpar h (3 ^ c) 0 (by omega)⟩
theorem py_two_l {post : Int64 → Prop} {p g r h : Nat} (hc : c ≤ 7) (hpar : pd_par A B c) (hj : p < c) (hg : g < 3) (hr : r < c) (hh : h < 3) (hp : post (pd_sum (pd_t2 q A B S c p g r h) (3 ^ c))) : ∀ d N : Nat, N + d = 3 ^ c → wY_shareOfTwo_51 post (nI p) (nI g) (nI r) (nI h) (nI (3 ^ c)) (nI c) q A B S (d + 1) (pd_sum (pd_t2 q A B S c p g r h) N) (nI N) := by
  have h7 := pd_pow7 hc
  intro d
  induction d with
  | zero =>
    intro N hN
    have e : N = 3 ^ c := by omega
    rw [e]
    exact br_t (nI_le (Nat.le_refl _) (by omega)) hp
  | succ d ih =>
    intro N hN
    have w := ih (N + 1) (by omega)
    have d1 := pd_dg_lt N p
    have d2 := pd_dg_lt N r
    have hz : ¬ (pd_dg N p = g ∧ pd_dg N r = h) → wY_shareOfTwo_51 post (nI p) (nI g) (nI r) (nI h) (nI (3 ^ c)) (nI c) q A B S (d + 1) (pd_sum (pd_t2 q A B S c p g r h) N) (nI (N + 1)) := by
      intro z
      rw [pd_sum, show pd_t2 q A B S c p g r h N = 0 from if_neg z, Int64.add_zero] at w
      exact w
    refine br_f (nI_ge (by omega) (by omega)) (py_dig (by omega) (by omega) (pk_eq _ _ (fun z1 => py_dig (by omega) (by omega) (pk_eq _ _ (fun z2 => py_wt (by omega) hc hpar (nm_r (e' := pd_sum (pd_t2 q A B S c p g r h) (N + 1)) ?_ (nm_r (nI_1 N) w))) (fun z2 => nm_r (nI_1 N) (hz (fun y => z2 y.2))))) (fun z1 => nm_r (nI_1 N) (hz (fun y => z1 y.1)))))
    rw [pd_sum, show pd_t2 q A B S c p g r h N = pd_wt q A B S N c from if_pos ⟨z1, z2⟩]
theorem py_two {post : Int64 → Prop} {p g r h : Nat} (hc : c ≤ 7) (hpar : pd_par A B c) (hj : p < c) (hg : g < 3) (hr : r < c) (hh : h < 3) (hp : post (pd_sum (pd_t2 q A B S c p g r h) (3 ^ c))) : wpY_shareOfTwo post (nI c, q, A, B, S) (nI p) (nI g) (nI r) (nI h) := by
  unfold wpY_shareOfTwo
  dsimp only
  exact py_per1 hc hj (br_f (by decide) (py_per1 hc hr (br_f (by decide) (py_gen1 hg (br_f (by decide) (py_gen1 hh (br_f (by decide) (py_pow hc ⟨3 ^ c + 1, py_two_l hc hpar hj hg hr hh hp (3 ^ c) 0 (by omega)⟩))))))))
theorem py_cop_l {post : Int64 → Prop} {p : Nat} (hc : c ≤ 7) (hpar : pd_par A B c) (hj : p < c) (h : post (pd_sum (pd_tc q A B S c p) (3 ^ c))) : ∀ d N : Nat, N + d = 3 ^ c → wY_copies_25 post (nI p) (nI (3 ^ c)) (nI c) q A B S (d + 1) (pd_sum (pd_tc q A B S c p) N) (nI N) := by
  have h7 := pd_pow7 hc
  intro d
  induction d with
  | zero =>
    intro N hN
    have e : N = 3 ^ c := by omega
    rw [e]
    exact br_t (nI_le (Nat.le_refl _) (by omega)) h
  | succ d ih =>
    intro N hN
    exact br_f (nI_ge (by omega) (by omega)) (py_wt (by omega) hc hpar (py_dig (by omega) (by omega) (nm_r (e' := pd_sum (pd_tc q A B S c p) (N + 1)) rfl (nm_r (nI_1 N) (ih (N + 1) (by omega))))))
theorem py_cop {post : Int64 → Prop} {p : Nat} (hc : c ≤ 7) (hpar : pd_par A B c) (hj : p < c) (h : post (pd_sum (pd_tc q A B S c p) (3 ^ c))) : wpY_copies post (nI c, q, A, B, S) (nI p) := by
  unfold wpY_copies
  dsimp only
  exact py_per1 hc hj (br_f (by decide) (py_pow hc ⟨3 ^ c + 1, py_cop_l hc hpar hj h (3 ^ c) 0 (by omega)⟩))
theorem pq_pos {p : Nat} (hc : c ≤ 7) (hpar : pd_par A B c) (hp : p < c) : ∀ (d N : Nat) (s : Int32), N + d = 3 ^ c → ∃ r : Int32, (∀ post : Int32 → SX → Prop, (∀ G : Nat → Int32, post r (nI c, q, A, B, S, G)) → ∀ G : Nat → Int32, wX_possible_20 post (nI p) (nI (3 ^ c)) (d + 1) s (nI N) (nI c) q A B S G) ∧ (∀ post : Int32 → Prop, post r → wY_possible_24 post (nI p) (nI (3 ^ c)) (nI c) q A B S (d + 1) s (nI N)) := by
  have h7 := pd_pow7 hc
  intro d
  induction d with
  | zero =>
    intro N s hN
    have e : N = 3 ^ c := by omega
    rw [e]
    exact ⟨s, fun post h G => br_t (nI_le (Nat.le_refl _) (by omega)) (h G), fun post h => br_t (nI_le (Nat.le_refl _) (by omega)) h⟩
  | succ d ih =>
    intro N s hN
    by_cases hok : pd_ok q A B S N c
    · obtain ⟨r, hX, hY⟩ := ih (N + 1) (s ||| ((1 : Int32) <<< (nI (pd_dg N p) &&& 31))) (by omega)
      refine ⟨r, fun post h G => br_f (nI_ge (by omega) (by omega)) (px_asg (by omega) hc (fun G' hG' => ?_)), fun post h => br_f (nI_ge (by omega) (by omega)) (py_nz (by omega) hc hpar (fun _ => br_f (by decide) (py_dig (by omega) (by omega) (nm_e (nm_r (nI_1 N) (hY post h))))) (fun z => absurd hok z))⟩
      dsimp only
      refine px_nz hc hpar hG' (fun _ => br_f (by decide) ⟨vp_in_nI (by omega) (by decide), nm_r (e' := s ||| ((1 : Int32) <<< (nI (pd_dg N p) &&& 31))) ?_ (nm_r (nI_1 N) (hX post h G'))⟩) (fun z => absurd hok z)
      rw [nI_clamp (n := p) (by omega), hG' p hp]
    · obtain ⟨r, hX, hY⟩ := ih (N + 1) s (by omega)
      refine ⟨r, fun post h G => br_f (nI_ge (by omega) (by omega)) (px_asg (by omega) hc (fun G' hG' => ?_)), fun post h => br_f (nI_ge (by omega) (by omega)) (py_nz (by omega) hc hpar (fun z => absurd z hok) (fun _ => br_t rfl (nm_r (nI_1 N) (hY post h))))⟩
      dsimp only
      exact px_nz hc hpar hG' (fun z => absurd z hok) (fun _ => br_t rfl (nm_r (nI_1 N) (hX post h G')))
end
