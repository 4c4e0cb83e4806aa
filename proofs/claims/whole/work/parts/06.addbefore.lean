/-! a new person, and forefathers, of both sides -/
section
variable {c : Nat} {q : Int32} {A B S G : Nat → Int32}
def pd_s1 (S : Nat → Int32) (c : Nat) : Nat → Nat → Int32
  | 0 => S
  | g + 1 => upd (pd_s1 S c g) (3 * c + g) 1
theorem pd_par_u {x y : Int32} (hpar : pd_par A B c) (hnew : (x = -1 ∧ y = -1) ∨ ∃ a b : Nat, a < c ∧ b < c ∧ x = nI a ∧ y = nI b) : pd_par (upd A c x) (upd B c y) (c + 1) := by
  intro p hp
  by_cases h : p = c
  · rw [h, pk_us, pk_us]
    exact hnew
  · rw [pk_un h, pk_un h]
    exact hpar p (by omega)
theorem px_add_l {post : Int32 → SX → Prop} (hc : c < 7) (h : post (nI c) (nI (c + 1), q, A, B, pd_s1 S c 3, G)) : ∀ d g : Nat, g + d = 3 → wX_add_34 post (nI c) (nI c) q (d + 1) (nI g) A B (pd_s1 S c g) G := by
  intro d
  induction d with
  | zero =>
    intro g hg
    have e : g = 3 := by omega
    rw [e]
    exact br_t (nI_le (Nat.le_refl 3) (by decide)) (nm_r (nI_1 c) h)
  | succ d ih =>
    intro g hg
    refine br_f (nI_ge (b := 3) (by omega) (by decide)) ?_
    rw [pd_ix, nI_clamp (n := 3 * c + g) (by omega)]
    exact ⟨vp_in_nI (by omega) (by decide), nm_r (e' := pd_s1 S c (g + 1)) rfl (nm_r (nI_1 g) (ih (g + 1) (by omega)))⟩
theorem px_add {post : Int32 → SX → Prop} {x y : Int32} (hc : c < 7) (h : post (nI c) (nI (c + 1), q, upd A c x, upd B c y, pd_s1 S c 3, G)) : wpX_add post (nI c, q, A, B, S, G) x y := by
  unfold wpX_add
  dsimp only
  rw [nI_clamp (n := c) (by omega)]
  exact br_t (nI_lt (b := 7) hc (by decide)) ⟨vp_in_nI hc (by decide), nm_e ⟨vp_in_nI hc (by decide), nm_e ⟨4, px_add_l hc h 3 0 rfl⟩⟩⟩
theorem px_add7 {post : Int32 → SX → Prop} {x y : Int32} (hc : ¬ c < 7) (hc' : c ≤ 7) (h : post (-2) (nI c, q, A, B, S, G)) : wpX_add post (nI c, q, A, B, S, G) x y :=
  br_f (nI_nlt (b := 7) (by omega) (by omega)) h
theorem py_add_l {post : Int32 → SY → Prop} (hc : c < 7) (h : post (nI c) (nI (c + 1), q, A, B, pd_s1 S c 3)) : ∀ d g : Nat, g + d = 3 → wY_add_34 post (nI c) q (d + 1) (nI g) A B (pd_s1 S c g) := by
  intro d
  induction d with
  | zero =>
    intro g hg
    have e : g = 3 := by omega
    rw [e]
    refine br_t (nI_le (Nat.le_refl 3) (by decide)) (nm_r (nI_1 c) ?_)
    rw [nI_pred]
    exact h
  | succ d ih =>
    intro g hg
    refine br_f (nI_ge (b := 3) (by omega) (by decide)) ?_
    rw [pd_ix', nI_clamp (n := 3 * c + g) (by omega)]
    exact ⟨vp_in_nI (by omega) (by decide), nm_r (e' := pd_s1 S c (g + 1)) rfl (nm_r (nI_1 g) (ih (g + 1) (by omega)))⟩
theorem pd_7 : (7 : Int32) = nI 7 := rfl
theorem py_add {post : Int32 → SY → Prop} {x y : Int32} (hc : c < 7) (h : post (nI c) (nI (c + 1), q, upd A c x, upd B c y, pd_s1 S c 3)) : wpY_add post (nI c, q, A, B, S) x y := by
  have hn : ¬ nI c = 7 := by
    rw [pd_7, nI_eq (by omega) (by decide)]
    omega
  unfold wpY_add
  dsimp only
  rw [nI_clamp (n := c) (by omega)]
  exact br_f hn ⟨vp_in_nI hc (by decide), nm_e ⟨vp_in_nI hc (by decide), nm_e ⟨4, py_add_l hc h 3 0 rfl⟩⟩⟩
theorem py_add7 {post : Int32 → SY → Prop} {x y : Int32} (hc : ¬ c < 7) (hc' : c ≤ 7) (h : post (-2) (nI c, q, A, B, S)) : wpY_add post (nI c, q, A, B, S) x y := by
  have e : c = 7 := by omega
  rw [e] at h ⊢
  exact br_t rfl h
/-! forefathers, upward -/
theorem px_hpi {post : Int32 → Prop} {p ch : Nat} {line : Int32} (hc : c ≤ 7) (hch : ch < c) (hpar : pd_par A B c) (hl : ∀ j, bt line j = true ↔ j < ch ∧ (j = p ∨ pd_an A B p j)) (h1 : pd_an A B p ch → post 1) (h0 : ¬ pd_an A B p ch → post 0) : wpX_hasParentIn post (nI c, q, A, B, S, G) (nI ch) line := by
  unfold wpX_hasParentIn
  dsimp only
  rw [nI_clamp (n := ch) (by omega)]
  rcases hpar ch hch with ⟨hA, hB⟩ | ⟨a, b, ha, hb, hA, hB⟩
  · exact px_isf (by omega) (fun _ => br_f (by decide) (h0 (pd_an_f hA))) (fun z => absurd hA z)
  · have hn : ¬ A ch = -1 := by rw [hA]; exact pd_nI_m1 (by omega)
    refine px_isf (by omega) (fun z => absurd z hn) (fun _ => br_t rfl ⟨vp_in_nI (by omega) (by decide), vp_in_nI (by omega) (by decide), nm_e ?_⟩)
    rw [hA, hB]
    have hbits := pd_b2 a b (by omega) (by omega)
    have key : (((1 : Int32) <<< (nI a &&& 31)) ||| ((1 : Int32) <<< (nI b &&& 31))) &&& line = 0 ↔ ¬ pd_an A B p ch := by
      rw [pd_and0, pd_an_c (by omega) (by omega) hA hB]
      constructor
      · intro H z
        rcases z with z | z | z | z
        · exact H a (by omega) ⟨(hbits a).mpr (Or.inl rfl), (hl a).mpr ⟨ha, Or.inl z⟩⟩
        · exact H b (by omega) ⟨(hbits b).mpr (Or.inr rfl), (hl b).mpr ⟨hb, Or.inl z⟩⟩
        · exact H a (by omega) ⟨(hbits a).mpr (Or.inl rfl), (hl a).mpr ⟨ha, Or.inr z⟩⟩
        · exact H b (by omega) ⟨(hbits b).mpr (Or.inr rfl), (hl b).mpr ⟨hb, Or.inr z⟩⟩
      · intro H i hi z
        obtain ⟨z1, z2⟩ := z
        have z3 := (hl i).mp z2
        rcases (hbits i).mp z1 with e | e
        · rw [e] at z3
          exact H (z3.2.elim (fun y => Or.inl y) (fun y => Or.inr (Or.inr (Or.inl y))))
        · rw [e] at z3
          exact H (z3.2.elim (fun y => Or.inr (Or.inl y)) (fun y => Or.inr (Or.inr (Or.inr y))))
    by_cases hz : pd_an A B p ch
    · exact br_f (fun e => key.mp e hz) (h1 hz)
    · exact br_t (key.mpr hz) (h0 hz)
theorem px_bef_l {post : Int32 → Prop} {p r : Nat} (hc : c ≤ 7) (hr : r < c) (hpr : p < r) (hpar : pd_par A B c) (h1 : pd_an A B p r → post 1) (h0 : ¬ pd_an A B p r → post 0) : ∀ (d ch : Nat) (line : Int32), ch + d = r + 1 → p < ch → (∀ j, bt line j = true ↔ j < ch ∧ (j = p ∨ pd_an A B p j)) → wX_before_32 post (nI r) (nI c) q A B S G (d + 1) line (nI ch) := by
  intro d
  induction d with
  | zero =>
    intro ch line hd hp hl
    have e : ch = r + 1 := by omega
    rw [e] at hl ⊢
    have key : bt line r = true ↔ pd_an A B p r := by
      rw [hl r]
      exact ⟨fun z => z.2.elim (fun y => by omega) (fun y => y), fun z => ⟨by omega, Or.inr z⟩⟩
    refine br_t (nI_lt (by omega) (by omega)) ?_
    by_cases hz : pd_an A B p r
    · exact br_f (fun y => (pd_bitz line r (by omega)).mp y (key.mpr hz)) (h1 hz)
    · exact br_t ((pd_bitz line r (by omega)).mpr (fun y => hz (key.mp y))) (h0 hz)
  | succ d ih =>
    intro ch line hd hp hl
    refine br_f (nI_nlt (by omega) (by omega)) (px_hpi hc (by omega) hpar hl (fun z => br_f (by decide) (nm_e (nm_r (nI_1 ch) (ih (ch + 1) _ (by omega) (by omega) ?_)))) (fun z => br_t rfl (nm_r (nI_1 ch) (ih (ch + 1) line (by omega) (by omega) ?_))))
    · intro j
      rw [b_or, Bool.or_eq_true, hl j, pd_b1' ch (by omega) j]
      constructor
      · rintro (⟨y1, y2⟩ | y)
        · exact ⟨by omega, y2⟩
        · exact ⟨by omega, Or.inr (by rw [y]; exact z)⟩
      · rintro ⟨y1, y2⟩
        rcases Nat.lt_or_ge j ch with y | y
        · exact Or.inl ⟨y, y2⟩
        · exact Or.inr (by omega)
    · intro j
      rw [hl j]
      constructor
      · rintro ⟨y1, y2⟩
        exact ⟨by omega, y2⟩
      · rintro ⟨y1, y2⟩
        rcases Nat.lt_or_ge j ch with y | y
        · exact ⟨y, y2⟩
        · have e : j = ch := by omega
          rw [e] at y2
          exact y2.elim (fun w => by omega) (fun w => absurd w z)
theorem px_bef {post : Int32 → Prop} {p r : Nat} (hc : c ≤ 7) (hp : p < c) (hr : r < c) (hpar : pd_par A B c) (h1 : pd_an A B p r → post 1) (h0 : ¬ pd_an A B p r → post 0) : wpX_before post (nI c, q, A, B, S, G) (nI p) (nI r) := by
  unfold wpX_before
  dsimp only
  refine px_per1 hc hp (br_f (by decide) (px_per1 hc hr (br_f (by decide) (pk_lt p r (fun hpr => nm_e (nm_r (nI_1 p) ⟨r - p + 1, px_bef_l hc hr hpr hpar h1 h0 (r - p) (p + 1) _ (by omega) (by omega) ?_⟩)) (fun hpr => h0 ?_)))))
  · intro j
    rw [pd_b1' p (by omega) j]
    constructor
    · intro y
      exact ⟨by omega, Or.inl y⟩
    · rintro ⟨y1, y2 | y2⟩
      · exact y2
      · have := pd_an_lt hc hpar (j + 1) j (by omega) (by omega) y2
        omega
  · intro y
    have := pd_an_lt hc hpar (r + 1) r (by omega) (by omega) y
    omega
/-! forefathers, downward -/
theorem py_ff_l {post : Int32 → Prop} {p r : Nat} (hc : c ≤ 7) (hpar : pd_par A B c) (h : ∀ set : Int32, (bt set p = true ↔ pd_an A B p r) → post set) : ∀ (i : Nat) (set : Int32), i ≤ c → ((∃ d, bt set d = true ∧ (d = p ∨ (d < i ∧ pd_an A B p d))) ↔ pd_an A B p r) → wY_forefathers_38 post (nI c) q A B S (i + 1) set (pd_pr i) := by
  intro i
  induction i with
  | zero =>
    intro set _ hs
    refine br_t (show (-1 : Int32) < 0 by decide) (h set ?_)
    rw [← hs]
    constructor
    · intro z
      exact ⟨p, z, Or.inl rfl⟩
    · rintro ⟨d, z1, z2 | z2⟩
      · rw [z2] at z1
        exact z1
      · omega
  | succ i ih =>
    intro set hi hs
    refine br_f (nI_pos (n := i) (by omega)) ?_
    have hst0 := pd_st0 (fun d => bt set d = true) (fun d => pd_an A B p d) p i
    by_cases hb : bt set i = true
    · refine br_t ((pd_test set i (by omega)).mpr hb) ⟨vp_in_nI (n := i) (by omega) (by decide), ?_⟩
      rcases hpar i (by omega) with ⟨hA, hB⟩ | ⟨a, b, ha, hb2, hA, hB⟩
      · refine br_t ?_ (nm_r (pd_pr_s i) (ih set (by omega) ((hst0 (fun z => pd_an_f hA z.2)).symm.trans hs)))
        show A (nI i).toNatClampNeg < 0
        rw [nI_clamp (by omega), hA]
        decide
      · refine br_f ?_ ⟨vp_in_nI (n := i) (by omega) (by decide), vp_in_nI (n := i) (by omega) (by decide), nm_e (nm_r (pd_pr_s i) (ih _ (by omega) (Iff.trans (Iff.symm ?_) hs)))⟩
        · show ¬ A (nI i).toNatClampNeg < 0
          rw [nI_clamp (by omega), hA]
          exact nI_pos (by omega)
        · refine pd_st1 (fun d => bt set d = true) (fun d => bt _ d = true) (fun d => pd_an A B p d) p i a b ?_ hb ha hb2 (pd_an_c (by omega) (by omega) hA hB)
          intro d
          show bt ((set ||| ((1 : Int32) <<< (A (nI i).toNatClampNeg &&& 31))) ||| ((1 : Int32) <<< (B (nI i).toNatClampNeg &&& 31))) d = true ↔ bt set d = true ∨ d = a ∨ d = b
          rw [nI_clamp (by omega), hA, hB, b_or, b_or, Bool.or_eq_true, Bool.or_eq_true, pd_b1' a (by omega) d, pd_b1' b (by omega) d, or_assoc]
    · exact br_f (fun z => hb ((pd_test set i (by omega)).mp z)) (nm_r (pd_pr_s i) (ih set (by omega) ((hst0 (fun z => hb z.1)).symm.trans hs)))
theorem py_ff {post : Int32 → Prop} {p r : Nat} (hc : c ≤ 7) (hr : r < c) (hpar : pd_par A B c) (h : ∀ set : Int32, (bt set p = true ↔ pd_an A B p r) → post set) : wpY_forefathers post (nI c, q, A, B, S) (nI r) := by
  unfold wpY_forefathers
  dsimp only
  rw [nI_clamp (n := r) (by omega)]
  refine ⟨vp_in_nI (by omega) (by decide), ?_⟩
  rcases hpar r hr with ⟨hA, hB⟩ | ⟨a, b, ha, hb, hA, hB⟩
  · refine br_f (by rw [hA]; decide) (nm_r (pd_pr_c (by omega)) ⟨c + 1, py_ff_l hc hpar h c 0 (Nat.le_refl c) ?_⟩)
    constructor
    · rintro ⟨d, z, _⟩
      rw [b_0] at z
      exact absurd z (by decide)
    · intro z
      exact absurd z (pd_an_f hA)
  · rw [hA, hB]
    refine br_t (nI_pos' (by omega)) ⟨vp_in_nI (by omega) (by decide), vp_in_nI (by omega) (by decide), nm_e (nm_r (pd_pr_c (by omega)) ⟨c + 1, py_ff_l hc hpar h c _ (Nat.le_refl c) ?_⟩)⟩
    rw [pd_an_c (by omega) (by omega) hA hB]
    have hbits := pd_b2 a b (by omega) (by omega)
    constructor
    · rintro ⟨d, z, y⟩
      rcases (hbits d).mp z with e | e
      · rw [e] at y
        exact y.elim (fun w => Or.inl w) (fun w => Or.inr (Or.inr (Or.inl w.2)))
      · rw [e] at y
        exact y.elim (fun w => Or.inr (Or.inl w)) (fun w => Or.inr (Or.inr (Or.inr w.2)))
    · intro z
      rcases z with z | z | z | z
      · exact ⟨a, (hbits a).mpr (Or.inl rfl), Or.inl z⟩
      · exact ⟨b, (hbits b).mpr (Or.inr rfl), Or.inl z⟩
      · exact ⟨a, (hbits a).mpr (Or.inl rfl), Or.inr ⟨by omega, z⟩⟩
      · exact ⟨b, (hbits b).mpr (Or.inr rfl), Or.inr ⟨by omega, z⟩⟩
theorem py_bef {post : Int32 → Prop} {p r : Nat} (hc : c ≤ 7) (hp : p < c) (hr : r < c) (hpar : pd_par A B c) (h1 : pd_an A B p r → post 1) (h0 : ¬ pd_an A B p r → post 0) : wpY_before post (nI c, q, A, B, S) (nI p) (nI r) := by
  unfold wpY_before
  dsimp only
  refine py_per1 hc hp (br_f (by decide) (py_per1 hc hr (br_f (by decide) (py_ff (p := p) hc hr hpar (fun set hs => ?_)))))
  rw [pd_test set p (by omega), hs]
  exact br_c h1 h0
end
