/-! the relation: the same persons, parents, sights and frequency; parents come before their children -/
def i_Rel (_ : Nat) (u : SX) (v : SY) : Prop :=
  ∃ (n : Nat) (q : Int32) (A B S G : Nat → Int32), n ≤ 7 ∧ pd_par A B n ∧ u = (nI n, q, A, B, S, G) ∧ v = (nI n, q, A, B, S)
theorem i_up {k : Nat} {u : SX} {v : SY} (h : i_Rel k u v) : i_Rel (k + 5) u v := h
theorem i_mk {k n : Nat} {q : Int32} {A B S G : Nat → Int32} (hn : n ≤ 7) (hp : pd_par A B n) : i_Rel k (nI n, q, A, B, S, G) (nI n, q, A, B, S) := ⟨n, q, A, B, S, G, hn, hp, rfl, rfl⟩
theorem i_vc0 : wpX_init (fun u => wpY_init (fun v => i_Rel 0 u v)) :=
  ⟨0, 8, fun _ => 0, fun _ => 0, fun _ => 0, fun _ => 0, by decide, fun p hp => absurd hp (by omega), rfl, rfl⟩
theorem i_vc_founder {k : Nat} {u : SX} {v : SY} (I : i_Rel k u v) (hk : k + 5 ≤ 2560) : wpX_founder (fun r u' => wpY_founder (fun r' v' => r' = r ∧ i_Rel (k + 5) u' v') v) u := by
  obtain ⟨n, q, A, B, S, G, hn, hp, rfl, rfl⟩ := I
  unfold wpX_founder wpY_founder
  dsimp only
  by_cases h : n < 7
  · exact px_add h (py_add h ⟨rfl, i_mk (by omega) (pd_par_u hp (Or.inl ⟨rfl, rfl⟩))⟩)
  · exact px_add7 h hn (py_add7 h hn ⟨rfl, i_mk hn hp⟩)
theorem i_vc_child {k : Nat} {u : SX} {v : SY} (I : i_Rel k u v) (hk : k + 5 ≤ 2560) (v1 : Int32) (v2 : Int32) : wpX_child (fun r u' => wpY_child (fun r' v' => r' = r ∧ i_Rel (k + 5) u' v') v v1 v2) u v1 v2 := by
  obtain ⟨n, q, A, B, S, G, hn, hp, rfl, rfl⟩ := I
  unfold wpX_child wpY_child
  dsimp only
  by_cases h1 : ∃ j : Nat, j < n ∧ v1 = nI j
  · obtain ⟨a, ha, rfl⟩ := h1
    by_cases h2 : ∃ j : Nat, j < n ∧ v2 = nI j
    · obtain ⟨b, hb, rfl⟩ := h2
      refine px_per1 hn ha (br_f (by decide) (px_per1 hn hb (br_f (by decide) ?_)))
      by_cases e : nI a = nI b
      · exact br_t e (py_per1 hn ha (br_f (by decide) (py_per1 hn hb (br_f (by decide) (br_t e ⟨rfl, i_mk hn hp⟩)))))
      · refine br_f e ?_
        by_cases h : n < 7
        · exact px_add h (py_per1 hn ha (br_f (by decide) (py_per1 hn hb (br_f (by decide) (br_f e (py_add h ⟨rfl, i_mk (by omega) (pd_par_u hp (Or.inr ⟨a, b, ha, hb, rfl, rfl⟩))⟩))))))
        · exact px_add7 h hn (py_per1 hn ha (br_f (by decide) (py_per1 hn hb (br_f (by decide) (br_f e (py_add7 h hn ⟨rfl, i_mk hn hp⟩))))))
    · exact px_per1 hn ha (br_f (by decide) (px_per0 hn h2 (br_t rfl (py_per1 hn ha (br_f (by decide) (py_per0 hn h2 (br_t rfl ⟨rfl, i_mk hn hp⟩)))))))
  · exact px_per0 hn h1 (br_t rfl (py_per0 hn h1 (br_t rfl ⟨rfl, i_mk hn hp⟩)))
theorem i_vc_remove {k : Nat} {u : SX} {v : SY} (I : i_Rel k u v) (hk : k + 5 ≤ 2560) : wpX_remove (fun r u' => wpY_remove (fun r' v' => r' = r ∧ i_Rel (k + 5) u' v') v) u := by
  obtain ⟨n, q, A, B, S, G, hn, hp, rfl, rfl⟩ := I
  unfold wpX_remove wpY_remove
  dsimp only
  cases n with
  | zero => exact br_t rfl (br_t rfl ⟨rfl, i_mk hn hp⟩)
  | succ m =>
    have hz : ¬ nI (m + 1) = 0 := nI_ne0 (by omega) (by omega)
    exact br_f hz (nm_r (nI_pred m) (br_f hz (nm_r (nI_pred m) ⟨rfl, i_mk (by omega) (fun p h => hp p (by omega))⟩)))
theorem i_vc_persons {k : Nat} {u : SX} {v : SY} (I : i_Rel k u v) (hk : k + 5 ≤ 2560) : wpX_persons (fun r => wpY_persons (fun r' => r' = r ∧ i_Rel (k + 5) u v) v) u := by
  obtain ⟨n, q, A, B, S, G, hn, hp, rfl, rfl⟩ := I
  exact ⟨rfl, i_mk hn hp⟩
theorem i_vc_frequency {k : Nat} {u : SX} {v : SY} (I : i_Rel k u v) (hk : k + 5 ≤ 2560) (v1 : Int32) : wpX_frequency (fun r u' => wpY_frequency (fun r' v' => r' = r ∧ i_Rel (k + 5) u' v') v v1) u v1 := by
  obtain ⟨n, q, A, B, S, G, hn, hp, rfl, rfl⟩ := I
  unfold wpX_frequency wpY_frequency
  dsimp only
  by_cases h0 : v1 < 0
  · exact br_t h0 (br_t h0 ⟨rfl, i_mk hn hp⟩)
  · by_cases h1 : v1 ≤ 16
    · exact br_f h0 (br_t h1 (br_f h0 (br_t h1 ⟨rfl, i_mk hn hp⟩)))
    · exact br_f h0 (br_f h1 (br_f h0 (br_f h1 ⟨rfl, i_mk hn hp⟩)))
theorem i_vc_see {k : Nat} {u : SX} {v : SY} (I : i_Rel k u v) (hk : k + 5 ≤ 2560) (v1 : Int32) (v2 : Int32) (v3 : Int32) : wpX_see (fun r u' => wpY_see (fun r' v' => r' = r ∧ i_Rel (k + 5) u' v') v v1 v2 v3) u v1 v2 v3 := by
  obtain ⟨n, q, A, B, S, G, hn, hp, rfl, rfl⟩ := I
  unfold wpX_see wpY_see
  dsimp only
  by_cases h1 : ∃ j : Nat, j < n ∧ v1 = nI j
  · obtain ⟨a, ha, rfl⟩ := h1
    by_cases h2 : ∃ j : Nat, j < 3 ∧ v2 = nI j
    · obtain ⟨g, hg, rfl⟩ := h2
      rw [pd_ix, pd_ix', nI_clamp (n := 3 * a + g) (by omega)]
      refine px_per1 hn ha (br_f (by decide) (px_gen1 hg (br_f (by decide) ?_)))
      by_cases h3 : v3 < 0
      · exact br_t h3 (py_per1 hn ha (br_f (by decide) (py_gen1 hg (br_f (by decide) (br_t h3 ⟨rfl, i_mk hn hp⟩)))))
      · by_cases h5 : v3 ≤ 5
        · have hi : vp_in (nI (3 * a + g)) 21 := vp_in_nI (by omega) (by decide)
          refine br_f h3 (br_t h5 (nm_e ⟨hi, nm_e ⟨hi, nm_e ?_⟩⟩))
          rw [nI_clamp (n := 3 * a + g) (by omega)]
          exact py_per1 hn ha (br_f (by decide) (py_gen1 hg (br_f (by decide) (br_f h3 (br_t h5 ⟨hi, nm_e ⟨hi, nm_e ⟨rfl, i_mk hn hp⟩⟩⟩)))))
        · exact br_f h3 (br_f h5 (py_per1 hn ha (br_f (by decide) (py_gen1 hg (br_f (by decide) (br_f h3 (br_f h5 ⟨rfl, i_mk hn hp⟩)))))))
    · exact px_per1 hn ha (br_f (by decide) (px_gen0 h2 (br_t rfl (py_per1 hn ha (br_f (by decide) (py_gen0 h2 (br_t rfl ⟨rfl, i_mk hn hp⟩)))))))
  · exact px_per0 hn h1 (br_t rfl (py_per0 hn h1 (br_t rfl ⟨rfl, i_mk hn hp⟩)))
theorem i_vc_seen {k : Nat} {u : SX} {v : SY} (I : i_Rel k u v) (hk : k + 5 ≤ 2560) (v1 : Int32) (v2 : Int32) : wpX_seen (fun r => wpY_seen (fun r' => r' = r ∧ i_Rel (k + 5) u v) v v1 v2) u v1 v2 := by
  obtain ⟨n, q, A, B, S, G, hn, hp, rfl, rfl⟩ := I
  unfold wpX_seen wpY_seen
  dsimp only
  by_cases h1 : ∃ j : Nat, j < n ∧ v1 = nI j
  · obtain ⟨a, ha, rfl⟩ := h1
    by_cases h2 : ∃ j : Nat, j < 3 ∧ v2 = nI j
    · obtain ⟨g, hg, rfl⟩ := h2
      have hi : vp_in (nI (3 * a + g)) 21 := vp_in_nI (by omega) (by decide)
      rw [pd_ix, pd_ix']
      exact px_per1 hn ha (br_f (by decide) (px_gen1 hg (br_f (by decide) ⟨hi, py_per1 hn ha (br_f (by decide) (py_gen1 hg (br_f (by decide) ⟨hi, rfl, i_mk hn hp⟩)))⟩)))
    · exact px_per1 hn ha (br_f (by decide) (px_gen0 h2 (br_t rfl (py_per1 hn ha (br_f (by decide) (py_gen0 h2 (br_t rfl ⟨rfl, i_mk hn hp⟩)))))))
  · exact px_per0 hn h1 (br_t rfl (py_per0 hn h1 (br_t rfl ⟨rfl, i_mk hn hp⟩)))
theorem i_vc_likelihood {k : Nat} {u : SX} {v : SY} (I : i_Rel k u v) (hk : k + 5 ≤ 2560) : wpX_likelihood (fun r u' => wpY_likelihood (fun r' => r' = r ∧ i_Rel (k + 5) u' v) v) u := by
  obtain ⟨n, q, A, B, S, G, hn, hp, rfl, rfl⟩ := I
  unfold wpX_likelihood
  dsimp only
  exact px_sum0 hn hp (fun G' => py_lik hn hp ⟨rfl, i_mk hn hp⟩)
theorem i_vc_share {k : Nat} {u : SX} {v : SY} (I : i_Rel k u v) (hk : k + 5 ≤ 2560) (v1 : Int32) (v2 : Int32) : wpX_share (fun r u' => wpY_share (fun r' => r' = r ∧ i_Rel (k + 5) u' v) v v1 v2) u v1 v2 := by
  obtain ⟨n, q, A, B, S, G, hn, hp, rfl, rfl⟩ := I
  unfold wpX_share wpY_share
  dsimp only
  by_cases h1 : ∃ j : Nat, j < n ∧ v1 = nI j
  · obtain ⟨a, ha, rfl⟩ := h1
    by_cases h2 : ∃ j : Nat, j < 3 ∧ v2 = nI j
    · obtain ⟨g, hg, rfl⟩ := h2
      exact px_per1 hn ha (br_f (by decide) (px_gen1 hg (br_f (by decide) (px_sum1 hn hp ha hg (fun G' => py_two hn hp ha hg ha hg ⟨pd_sum_congr _ (fun i _ => pd_t11 _ _ _ _ _ _ _ i), i_mk hn hp⟩)))))
    · refine px_per1 hn ha (br_f (by decide) (px_gen0 h2 (br_t rfl ?_)))
      unfold wpY_shareOfTwo
      dsimp only
      exact py_per1 hn ha (br_f (by decide) (py_per1 hn ha (br_f (by decide) (py_gen0 h2 (br_t rfl ⟨rfl, i_mk hn hp⟩)))))
  · refine px_per0 hn h1 (br_t rfl ?_)
    unfold wpY_shareOfTwo
    dsimp only
    exact py_per0 hn h1 (br_t rfl ⟨rfl, i_mk hn hp⟩)
theorem i_vc_shareOfTwo {k : Nat} {u : SX} {v : SY} (I : i_Rel k u v) (hk : k + 5 ≤ 2560) (v1 : Int32) (v2 : Int32) (v3 : Int32) (v4 : Int32) : wpX_shareOfTwo (fun r u' => wpY_shareOfTwo (fun r' => r' = r ∧ i_Rel (k + 5) u' v) v v1 v2 v3 v4) u v1 v2 v3 v4 := by
  obtain ⟨n, q, A, B, S, G, hn, hp, rfl, rfl⟩ := I
  unfold wpX_shareOfTwo
  dsimp only
  by_cases h1 : ∃ j : Nat, j < n ∧ v1 = nI j
  · obtain ⟨a, ha, rfl⟩ := h1
    by_cases h3 : ∃ j : Nat, j < n ∧ v3 = nI j
    · obtain ⟨b, hb, rfl⟩ := h3
      by_cases h2 : ∃ j : Nat, j < 3 ∧ v2 = nI j
      · obtain ⟨g, hg, rfl⟩ := h2
        by_cases h4 : ∃ j : Nat, j < 3 ∧ v4 = nI j
        · obtain ⟨h, hh, rfl⟩ := h4
          exact px_per1 hn ha (br_f (by decide) (px_gen1 hg (br_f (by decide) (px_per1 hn hb (br_f (by decide) (px_gen1 hh (br_f (by decide) (px_sum2 hn hp ha hg hb hh (fun G' => py_two hn hp ha hg hb hh ⟨rfl, i_mk hn hp⟩)))))))))
        · refine px_per1 hn ha (br_f (by decide) (px_gen1 hg (br_f (by decide) (px_per1 hn hb (br_f (by decide) (px_gen0 h4 (br_t rfl ?_)))))))
          unfold wpY_shareOfTwo
          dsimp only
          exact py_per1 hn ha (br_f (by decide) (py_per1 hn hb (br_f (by decide) (py_gen1 hg (br_f (by decide) (py_gen0 h4 (br_t rfl ⟨rfl, i_mk hn hp⟩)))))))
      · refine px_per1 hn ha (br_f (by decide) (px_gen0 h2 (br_t rfl ?_)))
        unfold wpY_shareOfTwo
        dsimp only
        exact py_per1 hn ha (br_f (by decide) (py_per1 hn hb (br_f (by decide) (py_gen0 h2 (br_t rfl ⟨rfl, i_mk hn hp⟩)))))
    · have hy : wpY_shareOfTwo (fun r' => r' = 0 ∧ i_Rel (k + 5) (nI n, q, A, B, S, G) (nI n, q, A, B, S)) (nI n, q, A, B, S) (nI a) v2 v3 v4 := by
        unfold wpY_shareOfTwo
        dsimp only
        exact py_per1 hn ha (br_f (by decide) (py_per0 hn h3 (br_t rfl ⟨rfl, i_mk hn hp⟩)))
      by_cases h2 : ∃ j : Nat, j < 3 ∧ v2 = nI j
      · obtain ⟨g, hg, rfl⟩ := h2
        exact px_per1 hn ha (br_f (by decide) (px_gen1 hg (br_f (by decide) (px_per0 hn h3 (br_t rfl hy)))))
      · exact px_per1 hn ha (br_f (by decide) (px_gen0 h2 (br_t rfl hy)))
  · refine px_per0 hn h1 (br_t rfl ?_)
    unfold wpY_shareOfTwo
    dsimp only
    exact py_per0 hn h1 (br_t rfl ⟨rfl, i_mk hn hp⟩)
theorem i_vc_copies {k : Nat} {u : SX} {v : SY} (I : i_Rel k u v) (hk : k + 5 ≤ 2560) (v1 : Int32) : wpX_copies (fun r u' => wpY_copies (fun r' => r' = r ∧ i_Rel (k + 5) u' v) v v1) u v1 := by
  obtain ⟨n, q, A, B, S, G, hn, hp, rfl, rfl⟩ := I
  unfold wpX_copies
  dsimp only
  by_cases h1 : ∃ j : Nat, j < n ∧ v1 = nI j
  · obtain ⟨a, ha, rfl⟩ := h1
    exact px_per1 hn ha (br_f (by decide) (px_sum1 (g := 1) hn hp ha (by decide) (fun G' => px_sum1 (g := 2) hn hp ha (by decide) (fun G'' => py_cop hn hp ha ⟨(pd_sum_cop (pd_cop q A B S n a) (3 ^ n)).symm, i_mk hn hp⟩))))
  · refine px_per0 hn h1 (br_t rfl ?_)
    unfold wpY_copies
    dsimp only
    exact py_per0 hn h1 (br_t rfl ⟨rfl, i_mk hn hp⟩)
theorem i_vc_possible {k : Nat} {u : SX} {v : SY} (I : i_Rel k u v) (hk : k + 5 ≤ 2560) (v1 : Int32) : wpX_possible (fun r u' => wpY_possible (fun r' => r' = r ∧ i_Rel (k + 5) u' v) v v1) u v1 := by
  obtain ⟨n, q, A, B, S, G, hn, hp, rfl, rfl⟩ := I
  unfold wpX_possible wpY_possible
  dsimp only
  by_cases h1 : ∃ j : Nat, j < n ∧ v1 = nI j
  · obtain ⟨a, ha, rfl⟩ := h1
    obtain ⟨r, hX, hY⟩ := pq_pos (q := q) (S := S) hn hp ha (3 ^ n) 0 0 (by omega)
    refine px_per1 hn ha (br_f (by decide) (px_asn hn ⟨3 ^ n + 1, hX _ (fun G' => ?_) G⟩))
    exact py_per1 hn ha (br_f (by decide) (py_pow hn ⟨3 ^ n + 1, hY _ ⟨rfl, i_mk hn hp⟩⟩))
  · exact px_per0 hn h1 (br_t rfl (py_per0 hn h1 (br_t rfl ⟨rfl, i_mk hn hp⟩)))
theorem i_vc_before {k : Nat} {u : SX} {v : SY} (I : i_Rel k u v) (hk : k + 5 ≤ 2560) (v1 : Int32) (v2 : Int32) : wpX_before (fun r => wpY_before (fun r' => r' = r ∧ i_Rel (k + 5) u v) v v1 v2) u v1 v2 := by
  obtain ⟨n, q, A, B, S, G, hn, hp, rfl, rfl⟩ := I
  by_cases h1 : ∃ j : Nat, j < n ∧ v1 = nI j
  · obtain ⟨a, ha, rfl⟩ := h1
    by_cases h2 : ∃ j : Nat, j < n ∧ v2 = nI j
    · obtain ⟨b, hb, rfl⟩ := h2
      exact px_bef hn ha hb hp (fun z => py_bef hn ha hb hp (fun _ => ⟨rfl, i_mk hn hp⟩) (fun y => absurd z y)) (fun z => py_bef hn ha hb hp (fun y => absurd y z) (fun _ => ⟨rfl, i_mk hn hp⟩))
    · unfold wpX_before wpY_before
      dsimp only
      exact px_per1 hn ha (br_f (by decide) (px_per0 hn h2 (br_t rfl (py_per1 hn ha (br_f (by decide) (py_per0 hn h2 (br_t rfl ⟨rfl, i_mk hn hp⟩)))))))
  · unfold wpX_before wpY_before
    dsimp only
    exact px_per0 hn h1 (br_t rfl (py_per0 hn h1 (br_t rfl ⟨rfl, i_mk hn hp⟩)))
