theorem i_vc_query {k : Nat} {u : SX} {v : SY} (I : i_Rel k u v) (hk : k + 2 ≤ 1024) : wpX_query (fun r => wpY_query (fun r' => r' = r ∧ i_Rel (k + 2) u v) v) u := by
  have R := i_up I
  obtain ⟨M, n, p, d, pl, vl, li, le, va, po, K, Q, rfl, rfl, HX, HY, hp, hq⟩ := I
  have lp := gx_pt_lt hp
  have hn := HX.1
  have hr := gt_ct_le HX (p + 1)
  unfold wpX_query
  dsimp only
  rw [nI_1]
  refine gw_cb HX (p + 1) (by omega) (pk_le n (gt_ct M (p + 1)) (fun z => ?_) (fun z => ⟨vp_in_nI (by omega) (by omega), ?_⟩))
  · refine gv_query HY hp hq (fun j hj a b => absurd z ?_) (fun _ => ⟨rfl, R⟩)
    have := (gz_lst HX (HY.2.2.1 j hj) (show p + 1 ≤ Q j from a)).1
    omega
  · rw [nI_clamp (by omega)]
    have hM := HX.2.2.1 _ z
    have g2 := gz_lst2 HX z
    obtain ⟨x, hx, ex⟩ := HY.2.2.2.2.1 _ _ hM
    refine gv_query HY hp hq (fun j hj a b => ⟨?_, R⟩) (fun b => absurd (b x hx) ?_)
    · have g1 := (gz_lst HX (HY.2.2.1 j hj) (show p + 1 ≤ Q j from a)).2
      have g3 := b x hx (by omega)
      have e : Q j = K (gt_ct M (p + 1)) := by omega
      have hj2 := HY.2.2.1 j hj
      rw [e, hM] at hj2
      exact (Option.some.inj hj2).symm
    · omega
theorem i_vc_before {k : Nat} {u : SX} {v : SY} (I : i_Rel k u v) (hk : k + 2 ≤ 1024) : wpX_before (fun r => wpY_before (fun r' => r' = r ∧ i_Rel (k + 2) u v) v) u := by
  have R := i_up I
  obtain ⟨M, n, p, d, pl, vl, li, le, va, po, K, Q, rfl, rfl, HX, HY, hp, hq⟩ := I
  have lp := gx_pt_lt hp
  unfold wpX_before
  dsimp only
  exact gw_cb HX p (by omega) (gv_before HY hp hq ⟨rfl, R⟩)
theorem i_vc_count {k : Nat} {u : SX} {v : SY} (I : i_Rel k u v) (hk : k + 2 ≤ 1024) : wpX_count (fun r => wpY_count (fun r' => r' = r ∧ i_Rel (k + 2) u v) v) u := by
  have R := i_up I
  obtain ⟨M, n, p, d, pl, vl, li, le, va, po, K, Q, rfl, rfl, HX, HY, hp, hq⟩ := I
  exact ⟨rfl, R⟩
