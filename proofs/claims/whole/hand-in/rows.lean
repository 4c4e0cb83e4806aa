section
theorem pk_us {f : Nat → Int32} {k : Nat} {x : Int32} : upd f k x k = x := if_pos rfl
theorem pk_un {f : Nat → Int32} {k j : Nat} {x : Int32} (h : j ≠ k) : upd f k x j = f j := if_neg h
theorem pk_sub {a b : Nat} (h : b ≤ a) : nI a - nI b = nI (a - b) := by
  obtain ⟨c, rfl⟩ : ∃ c, a = c + b := ⟨a - b, by omega⟩
  rw [← nI_add, Int32.add_sub_cancel, Nat.add_sub_cancel]
theorem pk_m1 (n : Nat) : nI (n + 1) + (-1) = nI n := by
  rw [← nI_1, Int32.add_assoc, show (1 : Int32) + (-1) = 0 from rfl, Int32.add_zero]
theorem pk_mul (a b : Nat) : nI a * nI b = nI (a * b) := (Int32.ofNat_mul a b).symm
theorem pk_div {a d : Nat} (ha : a < 2 ^ 31) (h0 : 0 < d) (hd : d < 2 ^ 31) : nI a / nI d = nI (a / d) := by
  apply Int32.toInt_inj.mp
  rw [lg_idiv_nonneg (by rw [nI_toInt ha]; omega) (by rw [nI_toInt hd]; omega), nI_toInt ha, nI_toInt hd, nI_toInt (Nat.lt_of_le_of_lt (Nat.div_le_self a d) ha)]
  first | rfl | exact (Int.natCast_ediv _ _).symm
theorem pk_rem {a d : Nat} (ha : a < 2 ^ 31) (h0 : 0 < d) (hd : d < 2 ^ 31) : nI a - nI a / nI d * nI d = nI (a % d) := by
  rw [pk_div ha h0 hd, pk_mul, pk_sub (Nat.div_mul_le_self a d)]
  exact congrArg nI (by have := Nat.div_add_mod' a d; omega)
theorem pk_ix (x : Int32) {n : Nat} (hn : n < 2 ^ 31) : x < 0 ∨ nI n ≤ x ∨ ∃ j : Nat, j < n ∧ x = nI j := by
  by_cases h : x < 0
  · exact Or.inl h
  · obtain ⟨j, hj, rfl⟩ := nI_of h
    by_cases h2 : j < n
    · exact Or.inr (Or.inr ⟨j, h2, rfl⟩)
    · exact Or.inr (Or.inl (nI_le (by omega) hj))
theorem pk_le {x y : Int32} {A B : Prop} (a b : Nat) (f : a ≤ b → A) (g : b < a → B) (hx : x = nI a := by rfl) (hy : y = nI b := by rfl) (ha : a < 2 ^ 31 := by omega) (hb : b < 2 ^ 31 := by omega) : (x ≤ y → A) ∧ (¬ x ≤ y → B) := by
  subst hx hy
  rw [nI_leI ha hb]
  exact ⟨f, fun z => g (by omega)⟩
theorem pk_lt {x y : Int32} {A B : Prop} (a b : Nat) (f : a < b → A) (g : b ≤ a → B) (hx : x = nI a := by rfl) (hy : y = nI b := by rfl) (ha : a < 2 ^ 31 := by omega) (hb : b < 2 ^ 31 := by omega) : (x < y → A) ∧ (¬ x < y → B) := by
  subst hx hy
  rw [nI_ltI ha hb]
  exact ⟨f, fun z => g (by omega)⟩
theorem pk_eq {x y : Int32} {A B : Prop} (a b : Nat) (f : a = b → A) (g : a ≠ b → B) (hx : x = nI a := by rfl) (hy : y = nI b := by rfl) (ha : a < 2 ^ 31 := by omega) (hb : b < 2 ^ 31 := by omega) : (x = y → A) ∧ (¬ x = y → B) := by
  subst hx hy
  rw [nI_eq ha hb]
  exact ⟨f, g⟩
theorem pk_in {x : Int32} (n N : Nat) (h : n < N) (hx : x = nI n := by rfl) (hN : N < 2 ^ 31 := by omega) : vp_in x N := by
  subst hx
  exact vp_in_nI h hN
theorem pk_cl {x : Int32} (n : Nat) (hx : x = nI n := by rfl) (h : n < 2 ^ 31 := by omega) : x.toNatClampNeg = n := by
  subst hx
  exact nI_clamp h
theorem pk_tn {n : Nat} (h : n < 2 ^ 32) : (nI n).toBitVec.toNat = n := Nat.mod_eq_of_lt h
def bt (x : Int32) (i : Nat) : Bool := x.toBitVec.getLsbD i
theorem b_ext {x y : Int32} (h : ∀ i, i < 32 → bt x i = bt y i) : x = y := Int32.toBitVec_inj.mp (BitVec.eq_of_getLsbD_eq (fun i hi => h i hi))
theorem b_or (x y : Int32) (i : Nat) : bt (x ||| y) i = (bt x i || bt y i) := by unfold bt; rw [Int32.toBitVec_or, BitVec.getLsbD_or]
theorem b_and (x y : Int32) (i : Nat) : bt (x &&& y) i = (bt x i && bt y i) := by unfold bt; rw [Int32.toBitVec_and, BitVec.getLsbD_and]
theorem b_xor (x y : Int32) (i : Nat) : bt (x ^^^ y) i = (bt x i ^^ bt y i) := by unfold bt; rw [Int32.toBitVec_xor, BitVec.getLsbD_xor]
theorem b_big {x : Int32} {i : Nat} (h : 32 ≤ i) : bt x i = false := BitVec.getLsbD_of_ge _ _ h
theorem b_0 (i : Nat) : bt 0 i = false := BitVec.getLsbD_zero
theorem s_l : ∀ n, n < 32 → ((nI n &&& 31).toBitVec.smod 32).toNat = n := by decide +kernel
theorem b_shl (n : Nat) (hn : n < 32) (x : Int32) {i : Nat} (hi : i < 32) : bt (x <<< (nI n &&& 31)) i = (decide (n ≤ i) && bt x (i - n)) := by
  unfold bt
  rw [Int32.toBitVec_shiftLeft]
  show (x.toBitVec <<< ((nI n &&& 31).toBitVec.smod 32).toNat).getLsbD i = _
  rw [s_l n hn, BitVec.getLsbD_shiftLeft]
  rcases Nat.lt_or_ge i n with h | h
  · simp [h, Nat.not_le.mpr h]
  · simp [hi, h, Nat.not_lt.mpr h]
theorem b_sshr (n : Nat) (hn : n < 32) (x : Int32) {i : Nat} (hi : i < 32) : bt (x >>> (nI n &&& 31)) i = if n + i < 32 then bt x (n + i) else bt x 31 := by
  unfold bt
  rw [Int32.toBitVec_shiftRight]
  show (x.toBitVec.sshiftRight ((nI n &&& 31).toBitVec.smod 32).toNat).getLsbD i = _
  rw [s_l n hn, BitVec.getLsbD_sshiftRight, BitVec.msb_eq_getLsbD_last]
  simp [hi]
end
section
/-! the pure picture: digits in base 3, factors, weights, sums, forefathers -/
def pd_dg (n p : Nat) : Nat := n / 3 ^ p % 3
theorem pd_dg_lt (n p : Nat) : pd_dg n p < 3 := Nat.mod_lt _ (by decide)
theorem pd_pow_pos (p : Nat) : 0 < 3 ^ p := Nat.pow_pos (by decide)
theorem pd_pow_le {p m : Nat} (h : p ≤ m) : 3 ^ p ≤ 3 ^ m := Nat.pow_le_pow_right (by decide) h
theorem pd_pow7 {p : Nat} (h : p ≤ 7) : 3 ^ p ≤ 2187 := Nat.le_trans (pd_pow_le h) (by decide)
theorem pd_div3 (n p : Nat) : n / 3 ^ p / 3 = n / 3 ^ (p + 1) := by rw [Nat.div_div_eq_div_mul, Nat.pow_succ]
theorem pd_div0 (n : Nat) : n / 3 ^ 0 = n := by rw [Nat.pow_zero, Nat.div_one]
def pd_fw (q g : Int32) : Int32 := if g = 0 then (16 - q) * (16 - q) else if g = 1 then 2 * q * (16 - q) else q * q
def pd_cw (g a b : Int32) : Int32 := if g = 0 then (2 - a) * (2 - b) else if g = 1 then a * (2 - b) + (2 - a) * b else a * b
def pd_ways (q : Int32) (A B : Nat → Int32) (d : Nat → Nat) (p : Nat) : Int32 :=
  if A p = -1 then pd_fw q (nI (d p)) else pd_cw (nI (d p)) (nI (d (A p).toNatClampNeg)) (nI (d (B p).toNatClampNeg))
def pd_fac (q : Int32) (A B S : Nat → Int32) (n p : Nat) : Int32 := pd_ways q A B (pd_dg n) p * S (3 * p + pd_dg n p)
def pd_wt (q : Int32) (A B S : Nat → Int32) (n : Nat) : Nat → Int64
  | 0 => 1
  | p + 1 => pd_wt q A B S n p * (pd_fac q A B S n p).toInt64
def pd_ok (q : Int32) (A B S : Nat → Int32) (n c : Nat) : Prop := ∀ j, j < c → ¬ pd_fac q A B S n j = 0
def pd_sum (f : Nat → Int64) : Nat → Int64
  | 0 => 0
  | n + 1 => pd_sum f n + f n
theorem pd_sum_congr {f g : Nat → Int64} : ∀ n : Nat, (∀ i, i < n → f i = g i) → pd_sum f n = pd_sum g n
  | 0, _ => rfl
  | n + 1, h => by
    rw [pd_sum, pd_sum, pd_sum_congr n (fun i hi => h i (by omega)), h n (by omega)]
theorem pd_sum_cop {f g h : Nat → Int64} (H : ∀ i, f i + 2 * g i = h i) : ∀ n : Nat, pd_sum f n + 2 * pd_sum g n = pd_sum h n
  | 0 => (by decide : (0 : Int64) + 2 * 0 = 0)
  | n + 1 => by
    rw [pd_sum, pd_sum, pd_sum, ← pd_sum_cop H n, ← H n]
    generalize pd_sum f n = a
    generalize pd_sum g n = b
    generalize f n = c
    generalize g n = d
    grind
/-- the term of one assignment in a sum that asks nothing, or genotype g of p, or also h of r -/
def pd_t2 (q : Int32) (A B S : Nat → Int32) (c p g r h : Nat) (n : Nat) : Int64 := if pd_dg n p = g ∧ pd_dg n r = h then pd_wt q A B S n c else 0
def pd_t1 (q : Int32) (A B S : Nat → Int32) (c p g : Nat) (n : Nat) : Int64 := if pd_dg n p = g then pd_wt q A B S n c else 0
theorem pd_t11 (q : Int32) (A B S : Nat → Int32) (c p g n : Nat) : pd_t2 q A B S c p g p g n = pd_t1 q A B S c p g n := by
  unfold pd_t2 pd_t1
  by_cases h : pd_dg n p = g
  · rw [if_pos h, if_pos ⟨h, h⟩]
  · rw [if_neg h, if_neg (fun z => h z.1)]
def pd_tc (q : Int32) (A B S : Nat → Int32) (c p : Nat) (n : Nat) : Int64 := pd_wt q A B S n c * (nI (pd_dg n p)).toInt64
theorem pd_cop (q : Int32) (A B S : Nat → Int32) (c p n : Nat) : pd_t1 q A B S c p 1 n + 2 * pd_t1 q A B S c p 2 n = pd_tc q A B S c p n := by
  unfold pd_t1 pd_tc
  have h3 := pd_dg_lt n p
  generalize pd_wt q A B S n c = w
  generalize pd_dg n p = d at h3 ⊢
  rw [nI_l (by omega)]
  rcases (by omega : d = 0 ∨ d = 1 ∨ d = 2) with rfl | rfl | rfl
  · rw [if_neg (by decide), if_neg (by decide), show lN 0 = 0 from by decide]
    grind
  · rw [if_pos rfl, if_neg (by decide), show lN 1 = 1 from by decide]
    grind
  · rw [if_neg (by decide), if_pos rfl, show lN 2 = 2 from by decide]
    grind
/-! forefathers -/
def pd_par (A B : Nat → Int32) (n : Nat) : Prop := ∀ p, p < n → (A p = -1 ∧ B p = -1) ∨ ∃ a b : Nat, a < p ∧ b < p ∧ A p = nI a ∧ B p = nI b
def pd_pf (A B : Nat → Int32) (p : Nat) : Nat → Nat → Prop
  | 0, _ => False
  | f + 1, c => ¬ A c = -1 ∧ ((A c).toNatClampNeg = p ∨ (B c).toNatClampNeg = p ∨ pd_pf A B p f (A c).toNatClampNeg ∨ pd_pf A B p f (B c).toNatClampNeg)
def pd_an (A B : Nat → Int32) (p c : Nat) : Prop := ∃ f, pd_pf A B p f c
theorem pd_an_iff (A B : Nat → Int32) (p c : Nat) : pd_an A B p c ↔ ¬ A c = -1 ∧ ((A c).toNatClampNeg = p ∨ (B c).toNatClampNeg = p ∨ pd_an A B p (A c).toNatClampNeg ∨ pd_an A B p (B c).toNatClampNeg) := by
  constructor
  · rintro ⟨f, h⟩
    cases f with
    | zero => exact False.elim h
    | succ f =>
      obtain ⟨h1, h2⟩ := h
      refine ⟨h1, ?_⟩
      rcases h2 with h2 | h2 | h2 | h2
      · exact Or.inl h2
      · exact Or.inr (Or.inl h2)
      · exact Or.inr (Or.inr (Or.inl ⟨f, h2⟩))
      · exact Or.inr (Or.inr (Or.inr ⟨f, h2⟩))
  · rintro ⟨h1, h2 | h2 | ⟨f, h2⟩ | ⟨f, h2⟩⟩
    · exact ⟨1, h1, Or.inl h2⟩
    · exact ⟨1, h1, Or.inr (Or.inl h2)⟩
    · exact ⟨f + 1, h1, Or.inr (Or.inr (Or.inl h2))⟩
    · exact ⟨f + 1, h1, Or.inr (Or.inr (Or.inr h2))⟩
theorem pd_nI_m1 {a : Nat} (h : a < 2 ^ 31) : ¬ nI a = -1 := by
  intro e
  exact nI_pos h (by rw [e]; decide)
/-- a founder has no forefather -/
theorem pd_an_f {A B : Nat → Int32} {p c : Nat} (h : A c = -1) : ¬ pd_an A B p c := by
  rw [pd_an_iff]
  exact fun z => z.1 h
/-- a child's forefathers are its parents and theirs -/
theorem pd_an_c {A B : Nat → Int32} {p c a b : Nat} (ha : a < 2 ^ 31) (hb : b < 2 ^ 31) (hA : A c = nI a) (hB : B c = nI b) : pd_an A B p c ↔ a = p ∨ b = p ∨ pd_an A B p a ∨ pd_an A B p b := by
  rw [pd_an_iff, hA, hB, nI_clamp ha, nI_clamp hb]
  exact ⟨fun z => z.2, fun z => ⟨pd_nI_m1 ha, z⟩⟩
theorem pd_an_lt {A B : Nat → Int32} {n : Nat} (hn : n ≤ 7) (hp : pd_par A B n) {p : Nat} : ∀ d c : Nat, c < d → c < n → pd_an A B p c → p < c := by
  intro d
  induction d with
  | zero => intro c h; omega
  | succ d ih =>
    intro c hd hc h
    rcases hp c hc with ⟨h1, _⟩ | ⟨a, b, ha, hb, hA, hB⟩
    · exact absurd h (pd_an_f h1)
    · rw [pd_an_c (by omega) (by omega) hA hB] at h
      rcases h with h | h | h | h
      · omega
      · omega
      · have := ih a (by omega) (by omega) h
        omega
      · have := ih b (by omega) (by omega) h
        omega
/-! bits -/
theorem pd_b1 : ∀ n, n < 32 → ∀ i, i < 32 → bt ((1 : Int32) <<< (nI n &&& 31)) i = decide (i = n) := by decide +kernel
theorem pd_and0 (x y : Int32) : x &&& y = 0 ↔ ∀ i, i < 32 → ¬ (bt x i = true ∧ bt y i = true) := by
  constructor
  · intro h i hi z
    have e := b_and x y i
    rw [h, b_0, z.1, z.2] at e
    exact absurd e (by decide)
  · intro h
    apply b_ext
    intro i hi
    rw [b_and, b_0]
    have hh := h i hi
    cases hx : bt x i with
    | false => rfl
    | true =>
      cases hy : bt y i with
      | false => rfl
      | true => exact absurd ⟨hx, hy⟩ hh
theorem pd_bt1 : ∀ i, i < 32 → bt 1 i = decide (i = 0) := by decide +kernel
theorem pd_one (y : Int32) : y &&& 1 = 1 ↔ bt y 0 = true := by
  constructor
  · intro h
    have e := b_and y 1 0
    rw [h, pd_bt1 0 (by decide)] at e
    cases hy : bt y 0 with
    | true => rfl
    | false => rw [hy] at e; exact absurd e (by decide)
  · intro h
    apply b_ext
    intro i hi
    rw [b_and, pd_bt1 i hi]
    by_cases z : i = 0
    · rw [z, h]; rfl
    · rw [decide_eq_false z, Bool.and_false]
theorem pd_test (x : Int32) (n : Nat) (hn : n < 32) : (x >>> (nI n &&& 31)) &&& 1 = 1 ↔ bt x n = true := by
  rw [pd_one, b_sshr n hn x (by decide), Nat.add_zero, if_pos hn]
theorem pd_b1' (n : Nat) (hn : n < 32) (i : Nat) : bt ((1 : Int32) <<< (nI n &&& 31)) i = true ↔ i = n := by
  rcases Nat.lt_or_ge i 32 with h | h
  · rw [pd_b1 n hn i h]
    exact decide_eq_true_iff
  · rw [b_big h]
    exact ⟨fun z => absurd z (by decide), fun z => by omega⟩
theorem pd_b2 (a b : Nat) (ha : a < 32) (hb : b < 32) (i : Nat) : bt (((1 : Int32) <<< (nI a &&& 31)) ||| ((1 : Int32) <<< (nI b &&& 31))) i = true ↔ i = a ∨ i = b := by
  rw [b_or, Bool.or_eq_true, pd_b1' a ha i, pd_b1' b hb i]
theorem pd_bitz (x : Int32) (r : Nat) (hr : r < 32) : x &&& ((1 : Int32) <<< (nI r &&& 31)) = 0 ↔ ¬ bt x r = true := by
  rw [pd_and0]
  constructor
  · intro H z
    exact H r hr ⟨z, (pd_b1' r hr r).mpr rfl⟩
  · intro H i hi z
    have e := (pd_b1' r hr i).mp z.2
    rw [e] at z
    exact H z.1
/-! the two steps of the downward search -/
theorem pd_st0 (T An : Nat → Prop) (p i : Nat) (hi : ¬ (T i ∧ An i)) : (∃ d, T d ∧ (d = p ∨ (d < i + 1 ∧ An d))) ↔ (∃ d, T d ∧ (d = p ∨ (d < i ∧ An d))) := by
  constructor
  · rintro ⟨d, h1, h2 | ⟨h2, h3⟩⟩
    · exact ⟨d, h1, Or.inl h2⟩
    · rcases Nat.lt_or_ge d i with h | h
      · exact ⟨d, h1, Or.inr ⟨h, h3⟩⟩
      · have e : d = i := by omega
        rw [e] at h1 h3
        exact absurd ⟨h1, h3⟩ hi
  · rintro ⟨d, h1, h2 | ⟨h2, h3⟩⟩
    · exact ⟨d, h1, Or.inl h2⟩
    · exact ⟨d, h1, Or.inr ⟨by omega, h3⟩⟩
theorem pd_st1 (T T' An : Nat → Prop) (p i a b : Nat) (hT : ∀ d, T' d ↔ T d ∨ d = a ∨ d = b) (hTi : T i) (ha : a < i) (hb : b < i) (hAn : An i ↔ a = p ∨ b = p ∨ An a ∨ An b) : (∃ d, T d ∧ (d = p ∨ (d < i + 1 ∧ An d))) ↔ (∃ d, T' d ∧ (d = p ∨ (d < i ∧ An d))) := by
  constructor
  · rintro ⟨d, h1, h2 | ⟨h2, h3⟩⟩
    · exact ⟨d, (hT d).mpr (Or.inl h1), Or.inl h2⟩
    · rcases Nat.lt_or_ge d i with h | h
      · exact ⟨d, (hT d).mpr (Or.inl h1), Or.inr ⟨h, h3⟩⟩
      · have e : d = i := by omega
        rw [e] at h3
        rcases hAn.mp h3 with z | z | z | z
        · exact ⟨a, (hT a).mpr (Or.inr (Or.inl rfl)), Or.inl z⟩
        · exact ⟨b, (hT b).mpr (Or.inr (Or.inr rfl)), Or.inl z⟩
        · exact ⟨a, (hT a).mpr (Or.inr (Or.inl rfl)), Or.inr ⟨ha, z⟩⟩
        · exact ⟨b, (hT b).mpr (Or.inr (Or.inr rfl)), Or.inr ⟨hb, z⟩⟩
  · rintro ⟨d, h1, h2⟩
    rcases (hT d).mp h1 with z | z | z
    · exact ⟨d, z, h2.elim Or.inl (fun y => Or.inr ⟨by omega, y.2⟩)⟩
    · rw [z] at h2
      exact ⟨i, hTi, Or.inr ⟨by omega, hAn.mpr (h2.elim (fun y => Or.inl y) (fun y => Or.inr (Or.inr (Or.inl y.2))))⟩⟩
    · rw [z] at h2
      exact ⟨i, hTi, Or.inr ⟨by omega, hAn.mpr (h2.elim (fun y => Or.inr (Or.inl y)) (fun y => Or.inr (Or.inr (Or.inr y.2))))⟩⟩
/-! numbers -/
theorem pd_3 : (3 : Int32) = nI 3 := rfl
theorem pd_p3 (p : Nat) : nI (3 ^ p) * 3 = nI (3 ^ (p + 1)) := by rw [pd_3, pk_mul, Nat.pow_succ]
theorem pd_p3' (p : Nat) : 3 * nI (3 ^ p) = nI (3 ^ (p + 1)) := by rw [Int32.mul_comm, pd_p3]
theorem pd_ix (p g : Nat) : nI p * 3 + nI g = nI (3 * p + g) := by rw [pd_3, pk_mul, nI_add, Nat.mul_comm]
theorem pd_ix' (p g : Nat) : 3 * nI p + nI g = nI (3 * p + g) := by rw [pd_3, pk_mul, nI_add]
theorem pd_rem_e {N : Nat} (hN : N < 2 ^ 31) : nI N - nI N / 3 * 3 = nI (N % 3) := pk_rem (d := 3) hN (by decide) (by decide)
theorem pd_div_e {N : Nat} (hN : N < 2 ^ 31) : nI N / 3 = nI (N / 3) := pk_div (d := 3) hN (by decide) (by decide)
theorem pd_dl {N p : Nat} (hN : N < 2 ^ 31) : N / 3 ^ p < 2 ^ 31 := Nat.lt_of_le_of_lt (Nat.div_le_self _ _) hN
theorem pd_gen_e {N m : Nat} (hN : N < 2 ^ 31) (hm : m ≤ 7) : nI N / nI (3 ^ m) - nI N / nI (3 ^ m) / 3 * 3 = nI (pd_dg N m) := by
  have h7 := pd_pow7 hm
  rw [pk_div hN (pd_pow_pos m) (Nat.lt_of_le_of_lt h7 (by decide)), pd_rem_e (pd_dl hN)]
  rfl
def pd_pr : Nat → Int32
  | 0 => -1
  | i + 1 => nI i
theorem pd_pr_s (i : Nat) : nI i + (-1) = pd_pr i := by
  cases i with
  | zero => decide
  | succ i => exact pk_m1 i
theorem pd_pr_c {c : Nat} (h : 0 < c) : nI c - 1 = pd_pr c := by
  obtain ⟨k, rfl⟩ : ∃ k, c = k + 1 := ⟨c - 1, by omega⟩
  exact nI_pred k
end
section
/-! the component's private methods, each with a general post -/
section
variable {c : Nat} {q : Int32} {A B S G : Nat → Int32}
theorem px_per1 {post : Int32 → Prop} {j : Nat} (hc : c ≤ 7) (hj : j < c) (h : post 1) : wpX_isPerson post (nI c, q, A, B, S, G) (nI j) :=
  br_f (nI_pos (by omega)) (br_f (nI_ge hj (by omega)) h)
theorem px_per0 {post : Int32 → Prop} {x : Int32} (hc : c ≤ 7) (hx : ¬ ∃ j : Nat, j < c ∧ x = nI j) (h : post 0) : wpX_isPerson post (nI c, q, A, B, S, G) x :=
  br_c (fun _ => h) (fun h0 => br_c (fun _ => h) (fun h1 => False.elim (hx (by
    obtain ⟨j, hj, rfl⟩ := nI_of h0
    rw [nI_leI (by omega) hj] at h1
    exact ⟨j, by omega, rfl⟩))))
theorem px_gen1 {post : Int32 → Prop} {g : Nat} (hg : g < 3) (h : post 1) : wpX_isGenotype post (nI g) :=
  br_f (nI_pos (by omega)) (br_f (nI_ge (b := 3) hg (by decide)) h)
theorem px_gen0 {post : Int32 → Prop} {x : Int32} (hx : ¬ ∃ j : Nat, j < 3 ∧ x = nI j) (h : post 0) : wpX_isGenotype post x :=
  br_c (fun _ => h) (fun h0 => br_c (fun _ => h) (fun h1 => False.elim (hx (by
    obtain ⟨j, hj, rfl⟩ := nI_of h0
    rw [pd_3, nI_leI (by decide) hj] at h1
    exact ⟨j, by omega, rfl⟩))))
theorem px_asn_l {post : Int32 → Prop} (hc : c ≤ 7) (h : post (nI (3 ^ c))) : ∀ d p : Nat, p + d = c → wX_assignments_4 post (nI c) q A B S G (d + 1) (nI (3 ^ p)) (nI p) := by
  intro d
  induction d with
  | zero =>
    intro p hp
    have e : p = c := by omega
    rw [e]
    exact br_t (nI_le (Nat.le_refl _) (by omega)) h
  | succ d ih =>
    intro p hp
    exact br_f (nI_ge (by omega) (by omega)) (nm_r (pd_p3 p) (nm_r (nI_1 p) (ih (p + 1) (by omega))))
theorem px_asn {post : Int32 → Prop} (hc : c ≤ 7) (h : post (nI (3 ^ c))) : wpX_assignments post (nI c, q, A, B, S, G) :=
  ⟨c + 1, px_asn_l hc h c 0 (by omega)⟩
theorem px_asg_l {post : SX → Prop} {N : Nat} (hN : N < 2 ^ 31) (hc : c ≤ 7) (h : ∀ G' : Nat → Int32, (∀ j, j < c → G' j = nI (pd_dg N j)) → post (nI c, q, A, B, S, G')) : ∀ (d p : Nat) (G : Nat → Int32), p + d = c → (∀ j, j < p → G j = nI (pd_dg N j)) → wX_assign_4 post (nI c) q (d + 1) (nI (N / 3 ^ p)) (nI p) A B S G := by
  intro d
  induction d with
  | zero =>
    intro p G hp hG
    have e : p = c := by omega
    rw [e] at hG ⊢
    exact br_t (nI_le (Nat.le_refl _) (by omega)) (h G hG)
  | succ d ih =>
    intro p G hp hG
    refine br_f (nI_ge (by omega) (by omega)) ⟨by decide, vp_in_nI (by omega) (by decide), nm_r (e' := upd G p (nI (pd_dg N p))) ?_ ⟨by decide, nm_r (e' := nI (N / 3 ^ (p + 1))) ?_ (nm_r (nI_1 p) (ih (p + 1) _ (by omega) ?_))⟩⟩
    · rw [nI_clamp (by omega), pd_rem_e (pd_dl hN)]
      rfl
    · rw [pd_div_e (pd_dl hN), pd_div3]
    · intro j hj
      by_cases z : j = p
      · rw [z, pk_us]
      · rw [pk_un z]
        exact hG j (by omega)
theorem px_asg {post : SX → Prop} {N : Nat} (hN : N < 2 ^ 31) (hc : c ≤ 7) (h : ∀ G' : Nat → Int32, (∀ j, j < c → G' j = nI (pd_dg N j)) → post (nI c, q, A, B, S, G')) : wpX_assign post (nI c, q, A, B, S, G) (nI N) := by
  have w := px_asg_l hN hc h c 0 G (by omega) (fun j hj => absurd hj (by omega))
  rw [pd_div0] at w
  exact ⟨c + 1, w⟩
theorem px_isf {post : Int32 → Prop} {f : Int32} {p : Nat} (hp : p < 7) (h1 : A p = -1 → post 1) (h0 : ¬ A p = -1 → post 0) : wpX_isFounder post (f, q, A, B, S, G) (nI p) := by
  unfold wpX_isFounder
  dsimp only
  rw [nI_clamp (n := p) (by omega)]
  exact ⟨vp_in_nI hp (by decide), br_c h1 h0⟩
theorem px_fw {post : Int32 → Prop} {f g : Int32} (h : post (pd_fw q g)) : wpX_founderWays post (f, q, A, B, S, G) g := by
  unfold wpX_founderWays
  dsimp only
  unfold pd_fw at h
  refine nm_e (br_c (fun h0 => ?_) (fun h0 => br_c (fun h1 => ?_) (fun h1 => ?_)))
  · rw [if_pos h0] at h
    exact h
  · rw [if_neg h0, if_pos h1] at h
    exact h
  · rw [if_neg h0, if_neg h1] at h
    exact h
theorem px_cw {post : Int32 → Prop} {g a b : Int32} (h : post (pd_cw g a b)) : wpX_childWays post g a b := by
  unfold pd_cw at h
  refine br_c (fun h0 => ?_) (fun h0 => br_c (fun h1 => ?_) (fun h1 => ?_))
  · rw [if_pos h0] at h
    exact h
  · rw [if_neg h0, if_pos h1] at h
    exact h
  · rw [if_neg h0, if_neg h1] at h
    exact h
theorem px_fac {post : Int32 → Prop} {N p : Nat} (hc : c ≤ 7) (hp : p < c) (hpar : pd_par A B c) (hG : ∀ j, j < c → G j = nI (pd_dg N j)) (h : post (pd_fac q A B S N p)) : wpX_factor post (nI c, q, A, B, S, G) (nI p) := by
  have hd := pd_dg_lt N p
  have hend : ∀ w : Int32, w = pd_ways q A B (pd_dg N) p → wX_factor_59 post (nI p) (nI (pd_dg N p)) w (nI c) q A B S G := by
    intro w hw
    unfold wX_factor_59
    rw [pd_ix, nI_clamp (n := 3 * p + pd_dg N p) (by omega), hw]
    exact ⟨vp_in_nI (by omega) (by decide), h⟩
  unfold wpX_factor
  dsimp only
  rw [nI_clamp (n := p) (by omega)]
  refine ⟨vp_in_nI (by omega) (by decide), nm_r (hG p hp) ?_⟩
  rcases hpar p hp with ⟨hA, hB⟩ | ⟨a, b, ha, hb, hA, hB⟩
  · refine px_isf (by omega) (fun _ => br_f (by decide) (px_fw (hend _ ?_))) (fun z => absurd hA z)
    unfold pd_ways
    rw [if_pos hA]
  · have hn : ¬ A p = -1 := by rw [hA]; exact pd_nI_m1 (by omega)
    refine px_isf (by omega) (fun z => absurd z hn) (fun _ => br_t rfl ?_)
    rw [hA, hB, nI_clamp (n := a) (by omega), nI_clamp (n := b) (by omega)]
    refine ⟨vp_in_nI (by omega) (by decide), vp_in_nI (by omega) (by decide), nm_r (hG a (by omega)) ⟨vp_in_nI (by omega) (by decide), vp_in_nI (by omega) (by decide), nm_r (hG b (by omega)) (px_cw (hend _ ?_))⟩⟩
    unfold pd_ways
    rw [if_neg hn, hA, hB, nI_clamp (n := a) (by omega), nI_clamp (n := b) (by omega)]
theorem px_wt_l {post : Int64 → Prop} {N : Nat} (hc : c ≤ 7) (hpar : pd_par A B c) (hG : ∀ j, j < c → G j = nI (pd_dg N j)) (h : post (pd_wt q A B S N c)) : ∀ d p : Nat, p + d = c → wX_weight_4 post (nI c) q A B S G (d + 1) (pd_wt q A B S N p) (nI p) := by
  intro d
  induction d with
  | zero =>
    intro p hp
    have e : p = c := by omega
    rw [e]
    exact br_t (nI_le (Nat.le_refl _) (by omega)) h
  | succ d ih =>
    intro p hp
    exact br_f (nI_ge (by omega) (by omega)) (px_fac hc (by omega) hpar hG (nm_r (e' := pd_wt q A B S N (p + 1)) rfl (nm_r (nI_1 p) (ih (p + 1) (by omega)))))
theorem px_wt {post : Int64 → Prop} {N : Nat} (hc : c ≤ 7) (hpar : pd_par A B c) (hG : ∀ j, j < c → G j = nI (pd_dg N j)) (h : post (pd_wt q A B S N c)) : wpX_weight post (nI c, q, A, B, S, G) :=
  ⟨c + 1, px_wt_l hc hpar hG h c 0 (by omega)⟩
theorem px_nz_l {post : Int32 → Prop} {N : Nat} (hc : c ≤ 7) (hpar : pd_par A B c) (hG : ∀ j, j < c → G j = nI (pd_dg N j)) (h1 : pd_ok q A B S N c → post 1) (h0 : ¬ pd_ok q A B S N c → post 0) : ∀ d p : Nat, p + d = c → (∀ j, j < p → ¬ pd_fac q A B S N j = 0) → wX_noFactorIsZero_2 post (nI c) q A B S G (d + 1) (nI p) := by
  intro d
  induction d with
  | zero =>
    intro p hp hz
    have e : p = c := by omega
    rw [e] at hz ⊢
    exact br_t (nI_le (Nat.le_refl _) (by omega)) (h1 hz)
  | succ d ih =>
    intro p hp hz
    refine br_f (nI_ge (by omega) (by omega)) (px_fac hc (by omega) hpar hG (br_c (fun z => h0 (fun y => y p (by omega) z)) (fun z => nm_r (nI_1 p) (ih (p + 1) (by omega) ?_))))
    intro j hj
    by_cases y : j = p
    · rw [y]
      exact z
    · exact hz j (by omega)
theorem px_nz {post : Int32 → Prop} {N : Nat} (hc : c ≤ 7) (hpar : pd_par A B c) (hG : ∀ j, j < c → G j = nI (pd_dg N j)) (h1 : pd_ok q A B S N c → post 1) (h0 : ¬ pd_ok q A B S N c → post 0) : wpX_noFactorIsZero post (nI c, q, A, B, S, G) :=
  ⟨c + 1, px_nz_l hc hpar hG h1 h0 c 0 (by omega) (fun j hj => absurd hj (by omega))⟩
end
end
section
/-! the reference's private methods, each with a general post -/
section
variable {c : Nat} {q : Int32} {A B S : Nat → Int32}
theorem py_per1 {post : Int32 → Prop} {j : Nat} (hc : c ≤ 7) (hj : j < c) (h : post 1) : wpY_isPerson post (nI c, q, A, B, S) (nI j) :=
  br_f (nI_pos (by omega)) (br_f (nI_ge hj (by omega)) h)
theorem py_per0 {post : Int32 → Prop} {x : Int32} (hc : c ≤ 7) (hx : ¬ ∃ j : Nat, j < c ∧ x = nI j) (h : post 0) : wpY_isPerson post (nI c, q, A, B, S) x :=
  br_c (fun _ => h) (fun h0 => br_c (fun _ => h) (fun h1 => False.elim (hx (by
    obtain ⟨j, hj, rfl⟩ := nI_of h0
    rw [nI_leI (by omega) hj] at h1
    exact ⟨j, by omega, rfl⟩))))
theorem pd_2 : (2 : Int32) = nI 2 := rfl
theorem py_gen1 {post : Int32 → Prop} {f : Int32} {g : Nat} (hg : g < 3) (h : post 1) : wpY_isGenotype post (f, q, A, B, S) (nI g) :=
  br_f (nI_pos (by omega)) (br_f (nI_nlt (a := 2) (by omega) (by decide)) h)
theorem py_gen0 {post : Int32 → Prop} {f x : Int32} (hx : ¬ ∃ j : Nat, j < 3 ∧ x = nI j) (h : post 0) : wpY_isGenotype post (f, q, A, B, S) x :=
  br_c (fun _ => h) (fun h0 => br_c (fun _ => h) (fun h1 => False.elim (hx (by
    obtain ⟨j, hj, rfl⟩ := nI_of h0
    rw [pd_2, nI_ltI (by decide) hj] at h1
    exact ⟨j, by omega, rfl⟩))))
theorem py_pow_l {post : Int32 → Prop} {f : Int32} {m : Nat} (hm : m ≤ 7) (h : post (nI (3 ^ m))) : ∀ d p : Nat, p + d = m → wY_power_4 post (nI m) f q A B S (d + 1) (nI (3 ^ p)) (nI p) := by
  intro d
  induction d with
  | zero =>
    intro p hp
    have e : p = m := by omega
    rw [e]
    exact br_t (nI_le (Nat.le_refl _) (by omega)) h
  | succ d ih =>
    intro p hp
    exact br_f (nI_ge (by omega) (by omega)) (nm_r (pd_p3' p) (nm_r (nI_1 p) (ih (p + 1) (by omega))))
theorem py_pow {post : Int32 → Prop} {f : Int32} {m : Nat} (hm : m ≤ 7) (h : post (nI (3 ^ m))) : wpY_power post (f, q, A, B, S) (nI m) :=
  ⟨m + 1, py_pow_l hm h m 0 (by omega)⟩
theorem py_dig {post : Int32 → Prop} {f : Int32} {N m : Nat} (hN : N < 2 ^ 31) (hm : m ≤ 7) (h : post (nI (pd_dg N m))) : wpY_genotype post (f, q, A, B, S) (nI N) (nI m) := by
  have h7 := pd_pow7 hm
  unfold wpY_genotype
  dsimp only
  refine py_pow hm ⟨nI_ne0 (pd_pow_pos m) (Nat.lt_of_le_of_lt h7 (by decide)), by decide, ?_⟩
  rw [pd_gen_e hN hm]
  exact h
theorem py_inh {post : Int32 → Prop} {f g a b : Int32} (h : post (pd_cw g a b)) : wpY_inherited post (f, q, A, B, S) a b g := by
  unfold pd_cw at h
  refine br_c (fun h0 => ?_) (fun h0 => br_c (fun h1 => ?_) (fun h1 => ?_))
  · rw [if_pos h0] at h
    exact h
  · rw [if_neg h0, if_pos h1] at h
    exact h
  · rw [if_neg h0, if_neg h1] at h
    exact h
theorem py_fnd {post : Int32 → Prop} {f g : Int32} (h : post (pd_fw q g)) : wpY_founded post (f, q, A, B, S) g := by
  unfold pd_fw at h
  refine br_c (fun h0 => ?_) (fun h0 => br_c (fun h1 => ?_) (fun h1 => ?_))
  · rw [if_pos h0] at h
    exact h
  · rw [if_neg h0, if_pos h1] at h
    exact h
  · rw [if_neg h0, if_neg h1] at h
    exact h
theorem py_fac {post : Int32 → Prop} {N p : Nat} (hN : N < 2 ^ 31) (hc : c ≤ 7) (hp : p < c) (hpar : pd_par A B c) (h : post (pd_fac q A B S N p)) : wpY_factor post (nI c, q, A, B, S) (nI N) (nI p) := by
  have hd := pd_dg_lt N p
  unfold wpY_factor
  dsimp only
  refine py_dig hN (by omega) ?_
  rw [pd_ix', nI_clamp (n := 3 * p + pd_dg N p) (by omega), nI_clamp (n := p) (by omega)]
  refine ⟨vp_in_nI (by omega) (by decide), nm_e ⟨vp_in_nI (by omega) (by decide), ?_⟩⟩
  rcases hpar p hp with ⟨hA, hB⟩ | ⟨a, b, ha, hb, hA, hB⟩
  · have e : pd_fac q A B S N p = S (3 * p + pd_dg N p) * pd_fw q (nI (pd_dg N p)) := by
      unfold pd_fac pd_ways
      rw [if_pos hA, Int32.mul_comm]
    rw [e] at h
    exact br_f (by rw [hA]; decide) (py_fnd h)
  · have hn : ¬ A p = -1 := by rw [hA]; exact pd_nI_m1 (by omega)
    have e : pd_fac q A B S N p = S (3 * p + pd_dg N p) * pd_cw (nI (pd_dg N p)) (nI (pd_dg N a)) (nI (pd_dg N b)) := by
      unfold pd_fac pd_ways
      rw [if_neg hn, hA, hB, nI_clamp (n := a) (by omega), nI_clamp (n := b) (by omega), Int32.mul_comm]
    rw [e] at h
    rw [hA, hB]
    exact br_t (nI_pos' (by omega)) ⟨vp_in_nI (by omega) (by decide), py_dig hN (by omega) ⟨vp_in_nI (by omega) (by decide), py_dig hN (by omega) (py_inh h)⟩⟩
theorem py_wt_l {post : Int64 → Prop} {N : Nat} (hN : N < 2 ^ 31) (hc : c ≤ 7) (hpar : pd_par A B c) (h : post (pd_wt q A B S N c)) : ∀ d p : Nat, p + d = c → wY_weight_5 post (nI N) (nI c) q A B S (d + 1) (pd_wt q A B S N p) (nI p) := by
  intro d
  induction d with
  | zero =>
    intro p hp
    have e : p = c := by omega
    rw [e]
    exact br_t (nI_le (Nat.le_refl _) (by omega)) h
  | succ d ih =>
    intro p hp
    exact br_f (nI_ge (by omega) (by omega)) (py_fac hN hc (by omega) hpar (nm_r (e' := pd_wt q A B S N (p + 1)) rfl (nm_r (nI_1 p) (ih (p + 1) (by omega)))))
theorem py_wt {post : Int64 → Prop} {N : Nat} (hN : N < 2 ^ 31) (hc : c ≤ 7) (hpar : pd_par A B c) (h : post (pd_wt q A B S N c)) : wpY_weight post (nI c, q, A, B, S) (nI N) :=
  ⟨c + 1, py_wt_l hN hc hpar h c 0 (by omega)⟩
theorem py_nz_l {post : Int32 → Prop} {N : Nat} (hN : N < 2 ^ 31) (hc : c ≤ 7) (hpar : pd_par A B c) (h1 : pd_ok q A B S N c → post 1) (h0 : ¬ pd_ok q A B S N c → post 0) : ∀ d p : Nat, p + d = c → (∀ j, j < p → ¬ pd_fac q A B S N j = 0) → wY_isPossible_2 post (nI N) (nI c) q A B S (d + 1) (nI p) := by
  intro d
  induction d with
  | zero =>
    intro p hp hz
    have e : p = c := by omega
    rw [e] at hz ⊢
    exact br_t (nI_le (Nat.le_refl _) (by omega)) (h1 hz)
  | succ d ih =>
    intro p hp hz
    refine br_f (nI_ge (by omega) (by omega)) (py_fac hN hc (by omega) hpar (br_c (fun z => h0 (fun y => y p (by omega) z)) (fun z => nm_r (nI_1 p) (ih (p + 1) (by omega) ?_))))
    intro j hj
    by_cases y : j = p
    · rw [y]
      exact z
    · exact hz j (by omega)
theorem py_nz {post : Int32 → Prop} {N : Nat} (hN : N < 2 ^ 31) (hc : c ≤ 7) (hpar : pd_par A B c) (h1 : pd_ok q A B S N c → post 1) (h0 : ¬ pd_ok q A B S N c → post 0) : wpY_isPossible post (nI c, q, A, B, S) (nI N) :=
  ⟨c + 1, py_nz_l hN hc hpar h1 h0 c 0 (by omega) (fun j hj => absurd hj (by omega))⟩
end
end
section
/-! the sums of both sides, and possible in lockstep -/
section
variable {c : Nat} {q : Int32} {A B S : Nat → Int32}
/-- what a question of the component's asks of an assignment -/
def px_Fit (c : Nat) (q : Int32) (A B S : Nat → Int32) (x g : Int32) (Q : Nat → Prop) : Prop :=
  ∀ (N : Nat) (G : Nat → Int32) (post : Int32 → Prop), (∀ j, j < c → G j = nI (pd_dg N j)) → (Q N → post 1) → (¬ Q N → post 0) → wpX_fits post (nI c, q, A, B, S, G) x g
theorem px_fit_n {g : Int32} : px_Fit c q A B S (-1) g (fun _ => True) :=
  fun _ _ _ _ h1 _ => br_t (by decide) (h1 trivial)
theorem px_fit_p {p g : Nat} (hc : c ≤ 7) (hp : p < c) (hg : g < 3) : px_Fit c q A B S (nI p) (nI g) (fun N => pd_dg N p = g) := by
  intro N G post hG h1 h0
  have hd := pd_dg_lt N p
  unfold wpX_fits
  dsimp only
  rw [nI_clamp (n := p) (by omega), hG p hp, nI_eq (by omega) (by omega)]
  exact br_f (nI_pos (by omega)) ⟨vp_in_nI (by omega) (by decide), br_c h1 h0⟩
theorem px_sum_l {post : Int64 → SX → Prop} {x1 x2 x3 x4 : Int32} {Q1 Q2 : Nat → Prop} {f : Nat → Int64} (hc : c ≤ 7) (hpar : pd_par A B c) (H1 : px_Fit c q A B S x1 x2 Q1) (H2 : px_Fit c q A B S x3 x4 Q2) (hf : ∀ N, Q1 N → Q2 N → f N = pd_wt q A B S N c) (hf1 : ∀ N, ¬ Q1 N → f N = 0) (hf2 : ∀ N, ¬ Q2 N → f N = 0) (h : ∀ G : Nat → Int32, post (pd_sum f (3 ^ c)) (nI c, q, A, B, S, G)) : ∀ (d N : Nat) (G : Nat → Int32), N + d = 3 ^ c → wX_sumOfWeights_12 post x1 x2 x3 x4 (nI (3 ^ c)) (d + 1) (pd_sum f N) (nI N) (nI c) q A B S G := by
  have h7 := pd_pow7 hc
  intro d
  induction d with
  | zero =>
    intro N G hN
    have e : N = 3 ^ c := by omega
    rw [e]
    exact br_t (nI_le (Nat.le_refl _) (by omega)) (h G)
  | succ d ih =>
    intro N G hN
    refine br_f (nI_ge (by omega) (by omega)) (px_asg (by omega) hc (fun G' hG' => ?_))
    dsimp only
    have hz : f N = 0 → wX_sumOfWeights_12 post x1 x2 x3 x4 (nI (3 ^ c)) (d + 1) (pd_sum f N) (nI (N + 1)) (nI c) q A B S G' := by
      intro z
      have w := ih (N + 1) G' (by omega)
      rw [pd_sum, z, Int64.add_zero] at w
      exact w
    refine H1 N G' _ hG' (fun q1 => br_f (by decide) (H2 N G' _ hG' (fun q2 => br_f (by decide) (px_wt hc hpar hG' (nm_r (e' := pd_sum f (N + 1)) ?_ (nm_r (nI_1 N) (ih (N + 1) G' (by omega)))))) (fun q2 => br_t rfl (nm_r (nI_1 N) (hz (hf2 N q2)))))) (fun q1 => br_t rfl (nm_r (nI_1 N) (hz (hf1 N q1))))
    rw [pd_sum, hf N q1 q2]
theorem px_sum {post : Int64 → SX → Prop} {x1 x2 x3 x4 : Int32} {G : Nat → Int32} {Q1 Q2 : Nat → Prop} (f : Nat → Int64) (hc : c ≤ 7) (hpar : pd_par A B c) (H1 : px_Fit c q A B S x1 x2 Q1) (H2 : px_Fit c q A B S x3 x4 Q2) (hf : ∀ N, Q1 N → Q2 N → f N = pd_wt q A B S N c) (hf1 : ∀ N, ¬ Q1 N → f N = 0) (hf2 : ∀ N, ¬ Q2 N → f N = 0) (h : ∀ G : Nat → Int32, post (pd_sum f (3 ^ c)) (nI c, q, A, B, S, G)) : wpX_sumOfWeights post (nI c, q, A, B, S, G) x1 x2 x3 x4 := by
  unfold wpX_sumOfWeights
  dsimp only
  exact px_asn hc ⟨3 ^ c + 1, px_sum_l hc hpar H1 H2 hf hf1 hf2 h (3 ^ c) 0 G (by omega)⟩
theorem px_sum0 {post : Int64 → SX → Prop} {G : Nat → Int32} {g h : Int32} (hc : c ≤ 7) (hpar : pd_par A B c) (hp : ∀ G : Nat → Int32, post (pd_sum (fun N => pd_wt q A B S N c) (3 ^ c)) (nI c, q, A, B, S, G)) : wpX_sumOfWeights post (nI c, q, A, B, S, G) (-1) g (-1) h :=
  px_sum _ hc hpar px_fit_n px_fit_n (fun _ _ _ => rfl) (fun _ z => absurd trivial z) (fun _ z => absurd trivial z) hp
theorem px_sum1 {post : Int64 → SX → Prop} {G : Nat → Int32} {p g : Nat} {h : Int32} (hc : c ≤ 7) (hpar : pd_par A B c) (hj : p < c) (hg : g < 3) (hp : ∀ G : Nat → Int32, post (pd_sum (pd_t1 q A B S c p g) (3 ^ c)) (nI c, q, A, B, S, G)) : wpX_sumOfWeights post (nI c, q, A, B, S, G) (nI p) (nI g) (-1) h :=
  px_sum _ hc hpar (px_fit_p hc hj hg) px_fit_n (fun _ z _ => if_pos z) (fun _ z => if_neg z) (fun _ z => absurd trivial z) hp
theorem px_sum2 {post : Int64 → SX → Prop} {G : Nat → Int32} {p g r h : Nat} (hc : c ≤ 7) (hpar : pd_par A B c) (hj : p < c) (hg : g < 3) (hr : r < c) (hh : h < 3) (hp : ∀ G : Nat → Int32, post (pd_sum (pd_t2 q A B S c p g r h) (3 ^ c)) (nI c, q, A, B, S, G)) : wpX_sumOfWeights post (nI c, q, A, B, S, G) (nI p) (nI g) (nI r) (nI h) :=
  px_sum _ hc hpar (px_fit_p hc hj hg) (px_fit_p hc hr hh) (fun _ z y => if_pos ⟨z, y⟩) (fun _ z => if_neg (fun y => z y.1)) (fun _ z => if_neg (fun y => z y.2)) hp
theorem py_lik_l {post : Int64 → Prop} (hc : c ≤ 7) (hpar : pd_par A B c) (h : post (pd_sum (fun N => pd_wt q A B S N c) (3 ^ c))) : ∀ d N : Nat, N + d = 3 ^ c → wY_likelihood_14 post (nI (3 ^ c)) (nI c) q A B S (d + 1) (pd_sum (fun N => pd_wt q A B S N c) N) (nI N) := by
  have h7 := pd_pow7 hc
  intro d
  induction d with
  | zero =>
    intro N hN
    have e : N = 3 ^ c := by omega
    rw [e]
    exact br_t (nI_le (Nat.le_refl _) (by omega)) h
  | succ d ih =>
    intro N hN
    exact br_f (nI_ge (by omega) (by omega)) (py_wt (by omega) hc hpar (nm_r (e' := pd_sum (fun N => pd_wt q A B S N c) (N + 1)) rfl (nm_r (nI_1 N) (ih (N + 1) (by omega)))))
theorem py_lik {post : Int64 → Prop} (hc : c ≤ 7) (hpar : pd_par A B c) (h : post (pd_sum (fun N => pd_wt q A B S N c) (3 ^ c))) : wpY_likelihood post (nI c, q, A, B, S) := by
  unfold wpY_likelihood
  dsimp only
  exact py_pow hc ⟨3 ^ c + 1, py_lik_l hc hpar h (3 ^ c) 0 (by omega)⟩
theorem py_two_l {post : Int64 → Prop} {p g r h : Nat} (hc : c ≤ 7) (hpar : pd_par A B c) (hj : p < c) (hg : g < 3) (hr : r < c) (hh : h < 3) (hp : post (pd_sum (pd_t2 q A B S c p g r h) (3 ^ c))) : ∀ d N : Nat, N + d = 3 ^ c → wY_shareOfTwo_51 post (nI p) (nI g) (nI r) (nI h) (nI (3 ^ c)) (nI c) q A B S (d + 1) (pd_sum (pd_t2 q A B S c p g r h) N) (nI N) := by
  have h7 := pd_pow7 hc
  intro d
  induction d with
  | zero =>
    intro N hN
    have e : N = 3 ^ c := by omega
    rw [e]
    exact br_t (nI_le (Nat.le_refl _) (by omega)) hp
  | succ d ih =>
    intro N hN
    have w := ih (N + 1) (by omega)
    have d1 := pd_dg_lt N p
    have d2 := pd_dg_lt N r
    have hz : ¬ (pd_dg N p = g ∧ pd_dg N r = h) → wY_shareOfTwo_51 post (nI p) (nI g) (nI r) (nI h) (nI (3 ^ c)) (nI c) q A B S (d + 1) (pd_sum (pd_t2 q A B S c p g r h) N) (nI (N + 1)) := by
      intro z
      rw [pd_sum, show pd_t2 q A B S c p g r h N = 0 from if_neg z, Int64.add_zero] at w
      exact w
    refine br_f (nI_ge (by omega) (by omega)) (py_dig (by omega) (by omega) (pk_eq _ _ (fun z1 => py_dig (by omega) (by omega) (pk_eq _ _ (fun z2 => py_wt (by omega) hc hpar (nm_r (e' := pd_sum (pd_t2 q A B S c p g r h) (N + 1)) ?_ (nm_r (nI_1 N) w))) (fun z2 => nm_r (nI_1 N) (hz (fun y => z2 y.2))))) (fun z1 => nm_r (nI_1 N) (hz (fun y => z1 y.1)))))
    rw [pd_sum, show pd_t2 q A B S c p g r h N = pd_wt q A B S N c from if_pos ⟨z1, z2⟩]
theorem py_two {post : Int64 → Prop} {p g r h : Nat} (hc : c ≤ 7) (hpar : pd_par A B c) (hj : p < c) (hg : g < 3) (hr : r < c) (hh : h < 3) (hp : post (pd_sum (pd_t2 q A B S c p g r h) (3 ^ c))) : wpY_shareOfTwo post (nI c, q, A, B, S) (nI p) (nI g) (nI r) (nI h) := by
  unfold wpY_shareOfTwo
  dsimp only
  exact py_per1 hc hj (br_f (by decide) (py_per1 hc hr (br_f (by decide) (py_gen1 hg (br_f (by decide) (py_gen1 hh (br_f (by decide) (py_pow hc ⟨3 ^ c + 1, py_two_l hc hpar hj hg hr hh hp (3 ^ c) 0 (by omega)⟩))))))))
theorem py_cop_l {post : Int64 → Prop} {p : Nat} (hc : c ≤ 7) (hpar : pd_par A B c) (hj : p < c) (h : post (pd_sum (pd_tc q A B S c p) (3 ^ c))) : ∀ d N : Nat, N + d = 3 ^ c → wY_copies_25 post (nI p) (nI (3 ^ c)) (nI c) q A B S (d + 1) (pd_sum (pd_tc q A B S c p) N) (nI N) := by
  have h7 := pd_pow7 hc
  intro d
  induction d with
  | zero =>
    intro N hN
    have e : N = 3 ^ c := by omega
    rw [e]
    exact br_t (nI_le (Nat.le_refl _) (by omega)) h
  | succ d ih =>
    intro N hN
    exact br_f (nI_ge (by omega) (by omega)) (py_wt (by omega) hc hpar (py_dig (by omega) (by omega) (nm_r (e' := pd_sum (pd_tc q A B S c p) (N + 1)) rfl (nm_r (nI_1 N) (ih (N + 1) (by omega))))))
theorem py_cop {post : Int64 → Prop} {p : Nat} (hc : c ≤ 7) (hpar : pd_par A B c) (hj : p < c) (h : post (pd_sum (pd_tc q A B S c p) (3 ^ c))) : wpY_copies post (nI c, q, A, B, S) (nI p) := by
  unfold wpY_copies
  dsimp only
  exact py_per1 hc hj (br_f (by decide) (py_pow hc ⟨3 ^ c + 1, py_cop_l hc hpar hj h (3 ^ c) 0 (by omega)⟩))
theorem pq_pos {p : Nat} (hc : c ≤ 7) (hpar : pd_par A B c) (hp : p < c) : ∀ (d N : Nat) (s : Int32), N + d = 3 ^ c → ∃ r : Int32, (∀ post : Int32 → SX → Prop, (∀ G : Nat → Int32, post r (nI c, q, A, B, S, G)) → ∀ G : Nat → Int32, wX_possible_20 post (nI p) (nI (3 ^ c)) (d + 1) s (nI N) (nI c) q A B S G) ∧ (∀ post : Int32 → Prop, post r → wY_possible_24 post (nI p) (nI (3 ^ c)) (nI c) q A B S (d + 1) s (nI N)) := by
  have h7 := pd_pow7 hc
  intro d
  induction d with
  | zero =>
    intro N s hN
    have e : N = 3 ^ c := by omega
    rw [e]
    exact ⟨s, fun post h G => br_t (nI_le (Nat.le_refl _) (by omega)) (h G), fun post h => br_t (nI_le (Nat.le_refl _) (by omega)) h⟩
  | succ d ih =>
    intro N s hN
    by_cases hok : pd_ok q A B S N c
    · obtain ⟨r, hX, hY⟩ := ih (N + 1) (s ||| ((1 : Int32) <<< (nI (pd_dg N p) &&& 31))) (by omega)
      refine ⟨r, fun post h G => br_f (nI_ge (by omega) (by omega)) (px_asg (by omega) hc (fun G' hG' => ?_)), fun post h => br_f (nI_ge (by omega) (by omega)) (py_nz (by omega) hc hpar (fun _ => br_f (by decide) (py_dig (by omega) (by omega) (nm_e (nm_r (nI_1 N) (hY post h))))) (fun z => absurd hok z))⟩
      dsimp only
      refine px_nz hc hpar hG' (fun _ => br_f (by decide) ⟨vp_in_nI (by omega) (by decide), nm_r (e' := s ||| ((1 : Int32) <<< (nI (pd_dg N p) &&& 31))) ?_ (nm_r (nI_1 N) (hX post h G'))⟩) (fun z => absurd hok z)
      rw [nI_clamp (n := p) (by omega), hG' p hp]
    · obtain ⟨r, hX, hY⟩ := ih (N + 1) s (by omega)
      refine ⟨r, fun post h G => br_f (nI_ge (by omega) (by omega)) (px_asg (by omega) hc (fun G' hG' => ?_)), fun post h => br_f (nI_ge (by omega) (by omega)) (py_nz (by omega) hc hpar (fun z => absurd z hok) (fun _ => br_t rfl (nm_r (nI_1 N) (hY post h))))⟩
      dsimp only
      exact px_nz hc hpar hG' (fun z => absurd z hok) (fun _ => br_t rfl (nm_r (nI_1 N) (hX post h G')))
end
end
section
/-! a new person, and forefathers, of both sides -/
section
variable {c : Nat} {q : Int32} {A B S G : Nat → Int32}
def pd_s1 (S : Nat → Int32) (c : Nat) : Nat → Nat → Int32
  | 0 => S
  | g + 1 => upd (pd_s1 S c g) (3 * c + g) 1
theorem pd_par_u {x y : Int32} (hpar : pd_par A B c) (hnew : (x = -1 ∧ y = -1) ∨ ∃ a b : Nat, a < c ∧ b < c ∧ x = nI a ∧ y = nI b) : pd_par (upd A c x) (upd B c y) (c + 1) := by
  intro p hp
  by_cases h : p = c
  · rw [h, pk_us, pk_us]
    exact hnew
  · rw [pk_un h, pk_un h]
    exact hpar p (by omega)
theorem px_add_l {post : Int32 → SX → Prop} (hc : c < 7) (h : post (nI c) (nI (c + 1), q, A, B, pd_s1 S c 3, G)) : ∀ d g : Nat, g + d = 3 → wX_add_34 post (nI c) (nI c) q (d + 1) (nI g) A B (pd_s1 S c g) G := by
  intro d
  induction d with
  | zero =>
    intro g hg
    have e : g = 3 := by omega
    rw [e]
    exact br_t (nI_le (Nat.le_refl 3) (by decide)) (nm_r (nI_1 c) h)
  | succ d ih =>
    intro g hg
    refine br_f (nI_ge (b := 3) (by omega) (by decide)) ?_
    rw [pd_ix, nI_clamp (n := 3 * c + g) (by omega)]
    exact ⟨vp_in_nI (by omega) (by decide), nm_r (e' := pd_s1 S c (g + 1)) rfl (nm_r (nI_1 g) (ih (g + 1) (by omega)))⟩
theorem px_add {post : Int32 → SX → Prop} {x y : Int32} (hc : c < 7) (h : post (nI c) (nI (c + 1), q, upd A c x, upd B c y, pd_s1 S c 3, G)) : wpX_add post (nI c, q, A, B, S, G) x y := by
  unfold wpX_add
  dsimp only
  rw [nI_clamp (n := c) (by omega)]
  exact br_t (nI_lt (b := 7) hc (by decide)) ⟨vp_in_nI hc (by decide), nm_e ⟨vp_in_nI hc (by decide), nm_e ⟨4, px_add_l hc h 3 0 rfl⟩⟩⟩
theorem px_add7 {post : Int32 → SX → Prop} {x y : Int32} (hc : ¬ c < 7) (hc' : c ≤ 7) (h : post (-2) (nI c, q, A, B, S, G)) : wpX_add post (nI c, q, A, B, S, G) x y :=
  br_f (nI_nlt (b := 7) (by omega) (by omega)) h
theorem py_add_l {post : Int32 → SY → Prop} (hc : c < 7) (h : post (nI c) (nI (c + 1), q, A, B, pd_s1 S c 3)) : ∀ d g : Nat, g + d = 3 → wY_add_34 post (nI c) q (d + 1) (nI g) A B (pd_s1 S c g) := by
  intro d
  induction d with
  | zero =>
    intro g hg
    have e : g = 3 := by omega
    rw [e]
    refine br_t (nI_le (Nat.le_refl 3) (by decide)) (nm_r (nI_1 c) ?_)
    rw [nI_pred]
    exact h
  | succ d ih =>
    intro g hg
    refine br_f (nI_ge (b := 3) (by omega) (by decide)) ?_
    rw [pd_ix', nI_clamp (n := 3 * c + g) (by omega)]
    exact ⟨vp_in_nI (by omega) (by decide), nm_r (e' := pd_s1 S c (g + 1)) rfl (nm_r (nI_1 g) (ih (g + 1) (by omega)))⟩
theorem pd_7 : (7 : Int32) = nI 7 := rfl
theorem py_add {post : Int32 → SY → Prop} {x y : Int32} (hc : c < 7) (h : post (nI c) (nI (c + 1), q, upd A c x, upd B c y, pd_s1 S c 3)) : wpY_add post (nI c, q, A, B, S) x y := by
  have hn : ¬ nI c = 7 := by
    rw [pd_7, nI_eq (by omega) (by decide)]
    omega
  unfold wpY_add
  dsimp only
  rw [nI_clamp (n := c) (by omega)]
  exact br_f hn ⟨vp_in_nI hc (by decide), nm_e ⟨vp_in_nI hc (by decide), nm_e ⟨4, py_add_l hc h 3 0 rfl⟩⟩⟩
theorem py_add7 {post : Int32 → SY → Prop} {x y : Int32} (hc : ¬ c < 7) (hc' : c ≤ 7) (h : post (-2) (nI c, q, A, B, S)) : wpY_add post (nI c, q, A, B, S) x y := by
  have e : c = 7 := by omega
  rw [e] at h ⊢
  exact br_t rfl h
/-! forefathers, upward -/
theorem px_hpi {post : Int32 → Prop} {p ch : Nat} {line : Int32} (hc : c ≤ 7) (hch : ch < c) (hpar : pd_par A B c) (hl : ∀ j, bt line j = true ↔ j < ch ∧ (j = p ∨ pd_an A B p j)) (h1 : pd_an A B p ch → post 1) (h0 : ¬ pd_an A B p ch → post 0) : wpX_hasParentIn post (nI c, q, A, B, S, G) (nI ch) line := by
  unfold wpX_hasParentIn
  dsimp only
  rw [nI_clamp (n := ch) (by omega)]
  rcases hpar ch hch with ⟨hA, hB⟩ | ⟨a, b, ha, hb, hA, hB⟩
  · exact px_isf (by omega) (fun _ => br_f (by decide) (h0 (pd_an_f hA))) (fun z => absurd hA z)
  · have hn : ¬ A ch = -1 := by rw [hA]; exact pd_nI_m1 (by omega)
    refine px_isf (by omega) (fun z => absurd z hn) (fun _ => br_t rfl ⟨vp_in_nI (by omega) (by decide), vp_in_nI (by omega) (by decide), nm_e ?_⟩)
    rw [hA, hB]
    have hbits := pd_b2 a b (by omega) (by omega)
    have key : (((1 : Int32) <<< (nI a &&& 31)) ||| ((1 : Int32) <<< (nI b &&& 31))) &&& line = 0 ↔ ¬ pd_an A B p ch := by
      rw [pd_and0, pd_an_c (by omega) (by omega) hA hB]
      constructor
      · intro H z
        rcases z with z | z | z | z
        · exact H a (by omega) ⟨(hbits a).mpr (Or.inl rfl), (hl a).mpr ⟨ha, Or.inl z⟩⟩
        · exact H b (by omega) ⟨(hbits b).mpr (Or.inr rfl), (hl b).mpr ⟨hb, Or.inl z⟩⟩
        · exact H a (by omega) ⟨(hbits a).mpr (Or.inl rfl), (hl a).mpr ⟨ha, Or.inr z⟩⟩
        · exact H b (by omega) ⟨(hbits b).mpr (Or.inr rfl), (hl b).mpr ⟨hb, Or.inr z⟩⟩
      · intro H i hi z
        obtain ⟨z1, z2⟩ := z
        have z3 := (hl i).mp z2
        rcases (hbits i).mp z1 with e | e
        · rw [e] at z3
          exact H (z3.2.elim (fun y => Or.inl y) (fun y => Or.inr (Or.inr (Or.inl y))))
        · rw [e] at z3
          exact H (z3.2.elim (fun y => Or.inr (Or.inl y)) (fun y => Or.inr (Or.inr (Or.inr y))))
    by_cases hz : pd_an A B p ch
    · exact br_f (fun e => key.mp e hz) (h1 hz)
    · exact br_t (key.mpr hz) (h0 hz)
theorem px_bef_l {post : Int32 → Prop} {p r : Nat} (hc : c ≤ 7) (hr : r < c) (hpr : p < r) (hpar : pd_par A B c) (h1 : pd_an A B p r → post 1) (h0 : ¬ pd_an A B p r → post 0) : ∀ (d ch : Nat) (line : Int32), ch + d = r + 1 → p < ch → (∀ j, bt line j = true ↔ j < ch ∧ (j = p ∨ pd_an A B p j)) → wX_before_32 post (nI r) (nI c) q A B S G (d + 1) line (nI ch) := by
  intro d
  induction d with
  | zero =>
    intro ch line hd hp hl
    have e : ch = r + 1 := by omega
    rw [e] at hl ⊢
    have key : bt line r = true ↔ pd_an A B p r := by
      rw [hl r]
      exact ⟨fun z => z.2.elim (fun y => by omega) (fun y => y), fun z => ⟨by omega, Or.inr z⟩⟩
    refine br_t (nI_lt (by omega) (by omega)) ?_
    by_cases hz : pd_an A B p r
    · exact br_f (fun y => (pd_bitz line r (by omega)).mp y (key.mpr hz)) (h1 hz)
    · exact br_t ((pd_bitz line r (by omega)).mpr (fun y => hz (key.mp y))) (h0 hz)
  | succ d ih =>
    intro ch line hd hp hl
    refine br_f (nI_nlt (by omega) (by omega)) (px_hpi hc (by omega) hpar hl (fun z => br_f (by decide) (nm_e (nm_r (nI_1 ch) (ih (ch + 1) _ (by omega) (by omega) ?_)))) (fun z => br_t rfl (nm_r (nI_1 ch) (ih (ch + 1) line (by omega) (by omega) ?_))))
    · intro j
      rw [b_or, Bool.or_eq_true, hl j, pd_b1' ch (by omega) j]
      constructor
      · rintro (⟨y1, y2⟩ | y)
        · exact ⟨by omega, y2⟩
        · exact ⟨by omega, Or.inr (by rw [y]; exact z)⟩
      · rintro ⟨y1, y2⟩
        rcases Nat.lt_or_ge j ch with y | y
        · exact Or.inl ⟨y, y2⟩
        · exact Or.inr (by omega)
    · intro j
      rw [hl j]
      constructor
      · rintro ⟨y1, y2⟩
        exact ⟨by omega, y2⟩
      · rintro ⟨y1, y2⟩
        rcases Nat.lt_or_ge j ch with y | y
        · exact ⟨y, y2⟩
        · have e : j = ch := by omega
          rw [e] at y2
          exact y2.elim (fun w => by omega) (fun w => absurd w z)
theorem px_bef {post : Int32 → Prop} {p r : Nat} (hc : c ≤ 7) (hp : p < c) (hr : r < c) (hpar : pd_par A B c) (h1 : pd_an A B p r → post 1) (h0 : ¬ pd_an A B p r → post 0) : wpX_before post (nI c, q, A, B, S, G) (nI p) (nI r) := by
  unfold wpX_before
  dsimp only
  refine px_per1 hc hp (br_f (by decide) (px_per1 hc hr (br_f (by decide) (pk_lt p r (fun hpr => nm_e (nm_r (nI_1 p) ⟨r - p + 1, px_bef_l hc hr hpr hpar h1 h0 (r - p) (p + 1) _ (by omega) (by omega) ?_⟩)) (fun hpr => h0 ?_)))))
  · intro j
    rw [pd_b1' p (by omega) j]
    constructor
    · intro y
      exact ⟨by omega, Or.inl y⟩
    · rintro ⟨y1, y2 | y2⟩
      · exact y2
      · have := pd_an_lt hc hpar (j + 1) j (by omega) (by omega) y2
        omega
  · intro y
    have := pd_an_lt hc hpar (r + 1) r (by omega) (by omega) y
    omega
/-! forefathers, downward -/
theorem py_ff_l {post : Int32 → Prop} {p r : Nat} (hc : c ≤ 7) (hpar : pd_par A B c) (h : ∀ set : Int32, (bt set p = true ↔ pd_an A B p r) → post set) : ∀ (i : Nat) (set : Int32), i ≤ c → ((∃ d, bt set d = true ∧ (d = p ∨ (d < i ∧ pd_an A B p d))) ↔ pd_an A B p r) → wY_forefathers_38 post (nI c) q A B S (i + 1) set (pd_pr i) := by
  intro i
  induction i with
  | zero =>
    intro set _ hs
    refine br_t (show (-1 : Int32) < 0 by decide) (h set ?_)
    rw [← hs]
    constructor
    · intro z
      exact ⟨p, z, Or.inl rfl⟩
    · rintro ⟨d, z1, z2 | z2⟩
      · rw [z2] at z1
        exact z1
      · omega
  | succ i ih =>
    intro set hi hs
    refine br_f (nI_pos (n := i) (by omega)) ?_
    have hst0 := pd_st0 (fun d => bt set d = true) (fun d => pd_an A B p d) p i
    by_cases hb : bt set i = true
    · refine br_t ((pd_test set i (by omega)).mpr hb) ⟨vp_in_nI (n := i) (by omega) (by decide), ?_⟩
      rcases hpar i (by omega) with ⟨hA, hB⟩ | ⟨a, b, ha, hb2, hA, hB⟩
      · refine br_t ?_ (nm_r (pd_pr_s i) (ih set (by omega) ((hst0 (fun z => pd_an_f hA z.2)).symm.trans hs)))
        show A (nI i).toNatClampNeg < 0
        rw [nI_clamp (by omega), hA]
        decide
      · refine br_f ?_ ⟨vp_in_nI (n := i) (by omega) (by decide), vp_in_nI (n := i) (by omega) (by decide), nm_e (nm_r (pd_pr_s i) (ih _ (by omega) (Iff.trans (Iff.symm ?_) hs)))⟩
        · show ¬ A (nI i).toNatClampNeg < 0
          rw [nI_clamp (by omega), hA]
          exact nI_pos (by omega)
        · refine pd_st1 (fun d => bt set d = true) (fun d => bt _ d = true) (fun d => pd_an A B p d) p i a b ?_ hb ha hb2 (pd_an_c (by omega) (by omega) hA hB)
          intro d
          show bt ((set ||| ((1 : Int32) <<< (A (nI i).toNatClampNeg &&& 31))) ||| ((1 : Int32) <<< (B (nI i).toNatClampNeg &&& 31))) d = true ↔ bt set d = true ∨ d = a ∨ d = b
          rw [nI_clamp (by omega), hA, hB, b_or, b_or, Bool.or_eq_true, Bool.or_eq_true, pd_b1' a (by omega) d, pd_b1' b (by omega) d, or_assoc]
    · exact br_f (fun z => hb ((pd_test set i (by omega)).mp z)) (nm_r (pd_pr_s i) (ih set (by omega) ((hst0 (fun z => hb z.1)).symm.trans hs)))
theorem py_ff {post : Int32 → Prop} {p r : Nat} (hc : c ≤ 7) (hr : r < c) (hpar : pd_par A B c) (h : ∀ set : Int32, (bt set p = true ↔ pd_an A B p r) → post set) : wpY_forefathers post (nI c, q, A, B, S) (nI r) := by
  unfold wpY_forefathers
  dsimp only
  rw [nI_clamp (n := r) (by omega)]
  refine ⟨vp_in_nI (by omega) (by decide), ?_⟩
  rcases hpar r hr with ⟨hA, hB⟩ | ⟨a, b, ha, hb, hA, hB⟩
  · refine br_f (by rw [hA]; decide) (nm_r (pd_pr_c (by omega)) ⟨c + 1, py_ff_l hc hpar h c 0 (Nat.le_refl c) ?_⟩)
    constructor
    · rintro ⟨d, z, _⟩
      rw [b_0] at z
      exact absurd z (by decide)
    · intro z
      exact absurd z (pd_an_f hA)
  · rw [hA, hB]
    refine br_t (nI_pos' (by omega)) ⟨vp_in_nI (by omega) (by decide), vp_in_nI (by omega) (by decide), nm_e (nm_r (pd_pr_c (by omega)) ⟨c + 1, py_ff_l hc hpar h c _ (Nat.le_refl c) ?_⟩)⟩
    rw [pd_an_c (by omega) (by omega) hA hB]
    have hbits := pd_b2 a b (by omega) (by omega)
    constructor
    · rintro ⟨d, z, y⟩
      rcases (hbits d).mp z with e | e
      · rw [e] at y
        exact y.elim (fun w => Or.inl w) (fun w => Or.inr (Or.inr (Or.inl w.2)))
      · rw [e] at y
        exact y.elim (fun w => Or.inr (Or.inl w)) (fun w => Or.inr (Or.inr (Or.inr w.2)))
    · intro z
      rcases z with z | z | z | z
      · exact ⟨a, (hbits a).mpr (Or.inl rfl), Or.inl z⟩
      · exact ⟨b, (hbits b).mpr (Or.inr rfl), Or.inl z⟩
      · exact ⟨a, (hbits a).mpr (Or.inl rfl), Or.inr ⟨by omega, z⟩⟩
      · exact ⟨b, (hbits b).mpr (Or.inr rfl), Or.inr ⟨by omega, z⟩⟩
theorem py_bef {post : Int32 → Prop} {p r : Nat} (hc : c ≤ 7) (hp : p < c) (hr : r < c) (hpar : pd_par A B c) (h1 : pd_an A B p r → post 1) (h0 : ¬ pd_an A B p r → post 0) : wpY_before post (nI c, q, A, B, S) (nI p) (nI r) := by
  unfold wpY_before
  dsimp only
  refine py_per1 hc hp (br_f (by decide) (py_per1 hc hr (br_f (by decide) (py_ff (p := p) hc hr hpar (fun set hs => ?_)))))
  rw [pd_test set p (by omega), hs]
  exact br_c h1 h0
end
end
section
/-! the relation: the same persons, parents, sights and frequency; parents come before their children -/
def i_Rel (_ : Nat) (u : SX) (v : SY) : Prop :=
  ∃ (n : Nat) (q : Int32) (A B S G : Nat → Int32), n ≤ 7 ∧ pd_par A B n ∧ u = (nI n, q, A, B, S, G) ∧ v = (nI n, q, A, B, S)
theorem i_up {k : Nat} {u : SX} {v : SY} (h : i_Rel k u v) : i_Rel (k + 5) u v := h
theorem i_mk {k n : Nat} {q : Int32} {A B S G : Nat → Int32} (hn : n ≤ 7) (hp : pd_par A B n) : i_Rel k (nI n, q, A, B, S, G) (nI n, q, A, B, S) := ⟨n, q, A, B, S, G, hn, hp, rfl, rfl⟩
theorem i_vc0 : wpX_init (fun u => wpY_init (fun v => i_Rel 0 u v)) :=
  ⟨0, 8, fun _ => 0, fun _ => 0, fun _ => 0, fun _ => 0, by decide, fun p hp => absurd hp (by omega), rfl, rfl⟩
theorem i_vc_founder {k : Nat} {u : SX} {v : SY} (I : i_Rel k u v) (hk : k + 5 ≤ 2560) : wpX_founder (fun r u' => wpY_founder (fun r' v' => r' = r ∧ i_Rel (k + 5) u' v') v) u := by
  obtain ⟨n, q, A, B, S, G, hn, hp, rfl, rfl⟩ := I
  unfold wpX_founder wpY_founder
  dsimp only
  by_cases h : n < 7
  · exact px_add h (py_add h ⟨rfl, i_mk (by omega) (pd_par_u hp (Or.inl ⟨rfl, rfl⟩))⟩)
  · exact px_add7 h hn (py_add7 h hn ⟨rfl, i_mk hn hp⟩)
theorem i_vc_child {k : Nat} {u : SX} {v : SY} (I : i_Rel k u v) (hk : k + 5 ≤ 2560) (v1 : Int32) (v2 : Int32) : wpX_child (fun r u' => wpY_child (fun r' v' => r' = r ∧ i_Rel (k + 5) u' v') v v1 v2) u v1 v2 := by
  obtain ⟨n, q, A, B, S, G, hn, hp, rfl, rfl⟩ := I
  unfold wpX_child wpY_child
  dsimp only
  by_cases h1 : ∃ j : Nat, j < n ∧ v1 = nI j
  · obtain ⟨a, ha, rfl⟩ := h1
    by_cases h2 : ∃ j : Nat, j < n ∧ v2 = nI j
    · obtain ⟨b, hb, rfl⟩ := h2
      refine px_per1 hn ha (br_f (by decide) (px_per1 hn hb (br_f (by decide) ?_)))
      by_cases e : nI a = nI b
      · exact br_t e (py_per1 hn ha (br_f (by decide) (py_per1 hn hb (br_f (by decide) (br_t e ⟨rfl, i_mk hn hp⟩)))))
      · refine br_f e ?_
        by_cases h : n < 7
        · exact px_add h (py_per1 hn ha (br_f (by decide) (py_per1 hn hb (br_f (by decide) (br_f e (py_add h ⟨rfl, i_mk (by omega) (pd_par_u hp (Or.inr ⟨a, b, ha, hb, rfl, rfl⟩))⟩))))))
        · exact px_add7 h hn (py_per1 hn ha (br_f (by decide) (py_per1 hn hb (br_f (by decide) (br_f e (py_add7 h hn ⟨rfl, i_mk hn hp⟩))))))
    · exact px_per1 hn ha (br_f (by decide) (px_per0 hn h2 (br_t rfl (py_per1 hn ha (br_f (by decide) (py_per0 hn h2 (br_t rfl ⟨rfl, i_mk hn hp⟩)))))))
  · exact px_per0 hn h1 (br_t rfl (py_per0 hn h1 (br_t rfl ⟨rfl, i_mk hn hp⟩)))
theorem i_vc_remove {k : Nat} {u : SX} {v : SY} (I : i_Rel k u v) (hk : k + 5 ≤ 2560) : wpX_remove (fun r u' => wpY_remove (fun r' v' => r' = r ∧ i_Rel (k + 5) u' v') v) u := by
  obtain ⟨n, q, A, B, S, G, hn, hp, rfl, rfl⟩ := I
  unfold wpX_remove wpY_remove
  dsimp only
  cases n with
  | zero => exact br_t rfl (br_t rfl ⟨rfl, i_mk hn hp⟩)
  | succ m =>
    have hz : ¬ nI (m + 1) = 0 := nI_ne0 (by omega) (by omega)
    exact br_f hz (nm_r (nI_pred m) (br_f hz (nm_r (nI_pred m) ⟨rfl, i_mk (by omega) (fun p h => hp p (by omega))⟩)))
theorem i_vc_persons {k : Nat} {u : SX} {v : SY} (I : i_Rel k u v) (hk : k + 5 ≤ 2560) : wpX_persons (fun r => wpY_persons (fun r' => r' = r ∧ i_Rel (k + 5) u v) v) u := by
  obtain ⟨n, q, A, B, S, G, hn, hp, rfl, rfl⟩ := I
  exact ⟨rfl, i_mk hn hp⟩
theorem i_vc_frequency {k : Nat} {u : SX} {v : SY} (I : i_Rel k u v) (hk : k + 5 ≤ 2560) (v1 : Int32) : wpX_frequency (fun r u' => wpY_frequency (fun r' v' => r' = r ∧ i_Rel (k + 5) u' v') v v1) u v1 := by
  obtain ⟨n, q, A, B, S, G, hn, hp, rfl, rfl⟩ := I
  unfold wpX_frequency wpY_frequency
  dsimp only
  by_cases h0 : v1 < 0
  · exact br_t h0 (br_t h0 ⟨rfl, i_mk hn hp⟩)
  · by_cases h1 : v1 ≤ 16
    · exact br_f h0 (br_t h1 (br_f h0 (br_t h1 ⟨rfl, i_mk hn hp⟩)))
    · exact br_f h0 (br_f h1 (br_f h0 (br_f h1 ⟨rfl, i_mk hn hp⟩)))
theorem i_vc_see {k : Nat} {u : SX} {v : SY} (I : i_Rel k u v) (hk : k + 5 ≤ 2560) (v1 : Int32) (v2 : Int32) (v3 : Int32) : wpX_see (fun r u' => wpY_see (fun r' v' => r' = r ∧ i_Rel (k + 5) u' v') v v1 v2 v3) u v1 v2 v3 := by
  obtain ⟨n, q, A, B, S, G, hn, hp, rfl, rfl⟩ := I
  unfold wpX_see wpY_see
  dsimp only
  by_cases h1 : ∃ j : Nat, j < n ∧ v1 = nI j
  · obtain ⟨a, ha, rfl⟩ := h1
    by_cases h2 : ∃ j : Nat, j < 3 ∧ v2 = nI j
    · obtain ⟨g, hg, rfl⟩ := h2
      rw [pd_ix, pd_ix', nI_clamp (n := 3 * a + g) (by omega)]
      refine px_per1 hn ha (br_f (by decide) (px_gen1 hg (br_f (by decide) ?_)))
      by_cases h3 : v3 < 0
      · exact br_t h3 (py_per1 hn ha (br_f (by decide) (py_gen1 hg (br_f (by decide) (br_t h3 ⟨rfl, i_mk hn hp⟩)))))
      · by_cases h5 : v3 ≤ 5
        · have hi : vp_in (nI (3 * a + g)) 21 := vp_in_nI (by omega) (by decide)
          refine br_f h3 (br_t h5 (nm_e ⟨hi, nm_e ⟨hi, nm_e ?_⟩⟩))
          rw [nI_clamp (n := 3 * a + g) (by omega)]
          exact py_per1 hn ha (br_f (by decide) (py_gen1 hg (br_f (by decide) (br_f h3 (br_t h5 ⟨hi, nm_e ⟨hi, nm_e ⟨rfl, i_mk hn hp⟩⟩⟩)))))
        · exact br_f h3 (br_f h5 (py_per1 hn ha (br_f (by decide) (py_gen1 hg (br_f (by decide) (br_f h3 (br_f h5 ⟨rfl, i_mk hn hp⟩)))))))
    · exact px_per1 hn ha (br_f (by decide) (px_gen0 h2 (br_t rfl (py_per1 hn ha (br_f (by decide) (py_gen0 h2 (br_t rfl ⟨rfl, i_mk hn hp⟩)))))))
  · exact px_per0 hn h1 (br_t rfl (py_per0 hn h1 (br_t rfl ⟨rfl, i_mk hn hp⟩)))
theorem i_vc_seen {k : Nat} {u : SX} {v : SY} (I : i_Rel k u v) (hk : k + 5 ≤ 2560) (v1 : Int32) (v2 : Int32) : wpX_seen (fun r => wpY_seen (fun r' => r' = r ∧ i_Rel (k + 5) u v) v v1 v2) u v1 v2 := by
  obtain ⟨n, q, A, B, S, G, hn, hp, rfl, rfl⟩ := I
  unfold wpX_seen wpY_seen
  dsimp only
  by_cases h1 : ∃ j : Nat, j < n ∧ v1 = nI j
  · obtain ⟨a, ha, rfl⟩ := h1
    by_cases h2 : ∃ j : Nat, j < 3 ∧ v2 = nI j
    · obtain ⟨g, hg, rfl⟩ := h2
      have hi : vp_in (nI (3 * a + g)) 21 := vp_in_nI (by omega) (by decide)
      rw [pd_ix, pd_ix']
      exact px_per1 hn ha (br_f (by decide) (px_gen1 hg (br_f (by decide) ⟨hi, py_per1 hn ha (br_f (by decide) (py_gen1 hg (br_f (by decide) ⟨hi, rfl, i_mk hn hp⟩)))⟩)))
    · exact px_per1 hn ha (br_f (by decide) (px_gen0 h2 (br_t rfl (py_per1 hn ha (br_f (by decide) (py_gen0 h2 (br_t rfl ⟨rfl, i_mk hn hp⟩)))))))
  · exact px_per0 hn h1 (br_t rfl (py_per0 hn h1 (br_t rfl ⟨rfl, i_mk hn hp⟩)))
theorem i_vc_likelihood {k : Nat} {u : SX} {v : SY} (I : i_Rel k u v) (hk : k + 5 ≤ 2560) : wpX_likelihood (fun r u' => wpY_likelihood (fun r' => r' = r ∧ i_Rel (k + 5) u' v) v) u := by
  obtain ⟨n, q, A, B, S, G, hn, hp, rfl, rfl⟩ := I
  unfold wpX_likelihood
  dsimp only
  exact px_sum0 hn hp (fun G' => py_lik hn hp ⟨rfl, i_mk hn hp⟩)
theorem i_vc_share {k : Nat} {u : SX} {v : SY} (I : i_Rel k u v) (hk : k + 5 ≤ 2560) (v1 : Int32) (v2 : Int32) : wpX_share (fun r u' => wpY_share (fun r' => r' = r ∧ i_Rel (k + 5) u' v) v v1 v2) u v1 v2 := by
  obtain ⟨n, q, A, B, S, G, hn, hp, rfl, rfl⟩ := I
  unfold wpX_share wpY_share
  dsimp only
  by_cases h1 : ∃ j : Nat, j < n ∧ v1 = nI j
  · obtain ⟨a, ha, rfl⟩ := h1
    by_cases h2 : ∃ j : Nat, j < 3 ∧ v2 = nI j
    · obtain ⟨g, hg, rfl⟩ := h2
      exact px_per1 hn ha (br_f (by decide) (px_gen1 hg (br_f (by decide) (px_sum1 hn hp ha hg (fun G' => py_two hn hp ha hg ha hg ⟨pd_sum_congr _ (fun i _ => pd_t11 _ _ _ _ _ _ _ i), i_mk hn hp⟩)))))
    · refine px_per1 hn ha (br_f (by decide) (px_gen0 h2 (br_t rfl ?_)))
      unfold wpY_shareOfTwo
      dsimp only
      exact py_per1 hn ha (br_f (by decide) (py_per1 hn ha (br_f (by decide) (py_gen0 h2 (br_t rfl ⟨rfl, i_mk hn hp⟩)))))
  · refine px_per0 hn h1 (br_t rfl ?_)
    unfold wpY_shareOfTwo
    dsimp only
    exact py_per0 hn h1 (br_t rfl ⟨rfl, i_mk hn hp⟩)
theorem i_vc_shareOfTwo {k : Nat} {u : SX} {v : SY} (I : i_Rel k u v) (hk : k + 5 ≤ 2560) (v1 : Int32) (v2 : Int32) (v3 : Int32) (v4 : Int32) : wpX_shareOfTwo (fun r u' => wpY_shareOfTwo (fun r' => r' = r ∧ i_Rel (k + 5) u' v) v v1 v2 v3 v4) u v1 v2 v3 v4 := by
  obtain ⟨n, q, A, B, S, G, hn, hp, rfl, rfl⟩ := I
  unfold wpX_shareOfTwo
  dsimp only
  by_cases h1 : ∃ j : Nat, j < n ∧ v1 = nI j
  · obtain ⟨a, ha, rfl⟩ := h1
    by_cases h3 : ∃ j : Nat, j < n ∧ v3 = nI j
    · obtain ⟨b, hb, rfl⟩ := h3
      by_cases h2 : ∃ j : Nat, j < 3 ∧ v2 = nI j
      · obtain ⟨g, hg, rfl⟩ := h2
        by_cases h4 : ∃ j : Nat, j < 3 ∧ v4 = nI j
        · obtain ⟨h, hh, rfl⟩ := h4
          exact px_per1 hn ha (br_f (by decide) (px_gen1 hg (br_f (by decide) (px_per1 hn hb (br_f (by decide) (px_gen1 hh (br_f (by decide) (px_sum2 hn hp ha hg hb hh (fun G' => py_two hn hp ha hg hb hh ⟨rfl, i_mk hn hp⟩)))))))))
        · refine px_per1 hn ha (br_f (by decide) (px_gen1 hg (br_f (by decide) (px_per1 hn hb (br_f (by decide) (px_gen0 h4 (br_t rfl ?_)))))))
          unfold wpY_shareOfTwo
          dsimp only
          exact py_per1 hn ha (br_f (by decide) (py_per1 hn hb (br_f (by decide) (py_gen1 hg (br_f (by decide) (py_gen0 h4 (br_t rfl ⟨rfl, i_mk hn hp⟩)))))))
      · refine px_per1 hn ha (br_f (by decide) (px_gen0 h2 (br_t rfl ?_)))
        unfold wpY_shareOfTwo
        dsimp only
        exact py_per1 hn ha (br_f (by decide) (py_per1 hn hb (br_f (by decide) (py_gen0 h2 (br_t rfl ⟨rfl, i_mk hn hp⟩)))))
    · have hy : wpY_shareOfTwo (fun r' => r' = 0 ∧ i_Rel (k + 5) (nI n, q, A, B, S, G) (nI n, q, A, B, S)) (nI n, q, A, B, S) (nI a) v2 v3 v4 := by
        unfold wpY_shareOfTwo
        dsimp only
        exact py_per1 hn ha (br_f (by decide) (py_per0 hn h3 (br_t rfl ⟨rfl, i_mk hn hp⟩)))
      by_cases h2 : ∃ j : Nat, j < 3 ∧ v2 = nI j
      · obtain ⟨g, hg, rfl⟩ := h2
        exact px_per1 hn ha (br_f (by decide) (px_gen1 hg (br_f (by decide) (px_per0 hn h3 (br_t rfl hy)))))
      · exact px_per1 hn ha (br_f (by decide) (px_gen0 h2 (br_t rfl hy)))
  · refine px_per0 hn h1 (br_t rfl ?_)
    unfold wpY_shareOfTwo
    dsimp only
    exact py_per0 hn h1 (br_t rfl ⟨rfl, i_mk hn hp⟩)
theorem i_vc_copies {k : Nat} {u : SX} {v : SY} (I : i_Rel k u v) (hk : k + 5 ≤ 2560) (v1 : Int32) : wpX_copies (fun r u' => wpY_copies (fun r' => r' = r ∧ i_Rel (k + 5) u' v) v v1) u v1 := by
  obtain ⟨n, q, A, B, S, G, hn, hp, rfl, rfl⟩ := I
  unfold wpX_copies
  dsimp only
  by_cases h1 : ∃ j : Nat, j < n ∧ v1 = nI j
  · obtain ⟨a, ha, rfl⟩ := h1
    exact px_per1 hn ha (br_f (by decide) (px_sum1 (g := 1) hn hp ha (by decide) (fun G' => px_sum1 (g := 2) hn hp ha (by decide) (fun G'' => py_cop hn hp ha ⟨(pd_sum_cop (pd_cop q A B S n a) (3 ^ n)).symm, i_mk hn hp⟩))))
  · refine px_per0 hn h1 (br_t rfl ?_)
    unfold wpY_copies
    dsimp only
    exact py_per0 hn h1 (br_t rfl ⟨rfl, i_mk hn hp⟩)
theorem i_vc_possible {k : Nat} {u : SX} {v : SY} (I : i_Rel k u v) (hk : k + 5 ≤ 2560) (v1 : Int32) : wpX_possible (fun r u' => wpY_possible (fun r' => r' = r ∧ i_Rel (k + 5) u' v) v v1) u v1 := by
  obtain ⟨n, q, A, B, S, G, hn, hp, rfl, rfl⟩ := I
  unfold wpX_possible wpY_possible
  dsimp only
  by_cases h1 : ∃ j : Nat, j < n ∧ v1 = nI j
  · obtain ⟨a, ha, rfl⟩ := h1
    obtain ⟨r, hX, hY⟩ := pq_pos (q := q) (S := S) hn hp ha (3 ^ n) 0 0 (by omega)
    refine px_per1 hn ha (br_f (by decide) (px_asn hn ⟨3 ^ n + 1, hX _ (fun G' => ?_) G⟩))
    exact py_per1 hn ha (br_f (by decide) (py_pow hn ⟨3 ^ n + 1, hY _ ⟨rfl, i_mk hn hp⟩⟩))
  · exact px_per0 hn h1 (br_t rfl (py_per0 hn h1 (br_t rfl ⟨rfl, i_mk hn hp⟩)))
theorem i_vc_before {k : Nat} {u : SX} {v : SY} (I : i_Rel k u v) (hk : k + 5 ≤ 2560) (v1 : Int32) (v2 : Int32) : wpX_before (fun r => wpY_before (fun r' => r' = r ∧ i_Rel (k + 5) u v) v v1 v2) u v1 v2 := by
  obtain ⟨n, q, A, B, S, G, hn, hp, rfl, rfl⟩ := I
  by_cases h1 : ∃ j : Nat, j < n ∧ v1 = nI j
  · obtain ⟨a, ha, rfl⟩ := h1
    by_cases h2 : ∃ j : Nat, j < n ∧ v2 = nI j
    · obtain ⟨b, hb, rfl⟩ := h2
      exact px_bef hn ha hb hp (fun z => py_bef hn ha hb hp (fun _ => ⟨rfl, i_mk hn hp⟩) (fun y => absurd z y)) (fun z => py_bef hn ha hb hp (fun y => absurd y z) (fun _ => ⟨rfl, i_mk hn hp⟩))
    · unfold wpX_before wpY_before
      dsimp only
      exact px_per1 hn ha (br_f (by decide) (px_per0 hn h2 (br_t rfl (py_per1 hn ha (br_f (by decide) (py_per0 hn h2 (br_t rfl ⟨rfl, i_mk hn hp⟩)))))))
  · unfold wpX_before wpY_before
    dsimp only
    exact px_per0 hn h1 (br_t rfl (py_per0 hn h1 (br_t rfl ⟨rfl, i_mk hn hp⟩)))
end
