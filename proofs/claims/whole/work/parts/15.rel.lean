/-- both states hold one map M from places to values, and one pointer: X by rising place, Y in any order -/
def i_Rel (_k : Nat) (u : SX) (v : SY) : Prop := ∃ (M : Nat → Option Int32) (n p d : Nat) (pl vl li le va po : Nat → Int32) (K Q : Nat → Nat), u = (nI n, nI p, nI d, pl, vl) ∧ v = (nI n, nI d, li, le, va, po) ∧ gt_X M n pl vl K ∧ gy_Y M n li le va Q ∧ gx_pt d p ∧ gy_p po d p
theorem i_up {k : Nat} {u : SX} {v : SY} (h : i_Rel k u v) : i_Rel (k + 2) u v := h
theorem gr_mk {M : Nat → Option Int32} {n p d : Nat} {pl vl li le va po : Nat → Int32} {K Q : Nat → Nat} (k : Nat) (HX : gt_X M n pl vl K) (HY : gy_Y M n li le va Q) (hp : gx_pt d p) (hq : gy_p po d p) : i_Rel k (nI n, nI p, nI d, pl, vl) (nI n, nI d, li, le, va, po) := ⟨M, n, p, d, pl, vl, li, le, va, po, K, Q, rfl, rfl, HX, HY, hp, hq⟩
/-- the same with two counts of one map -/
theorem gr_mk2 {M : Nat → Option Int32} {n m p d : Nat} {pl vl li le va po : Nat → Int32} {K Q : Nat → Nat} (k : Nat) (HX : gt_X M n pl vl K) (HY : gy_Y M m li le va Q) (hp : gx_pt d p) (hq : gy_p po d p) : i_Rel k (nI n, nI p, nI d, pl, vl) (nI m, nI d, li, le, va, po) := by
  have e1 := gt_rkN HX (Nat.le_refl 2097152)
  have e2 := gy_ctN HY
  have e : m = n := by omega
  subst e
  exact gr_mk k HX HY hp hq
theorem i_vc0 : wpX_init (fun u => wpY_init (fun v => i_Rel 0 u v)) := by
  refine ⟨fun _ => none, 0, 0, 0, fun _ => 0, fun _ => 0, fun _ => 0, fun _ => 0, fun _ => 0, fun _ => 0, fun _ => 0, fun _ => 0, rfl, rfl, ?_, ?_, Or.inl ⟨rfl, rfl⟩, fun k hk => absurd hk (by omega)⟩
  · exact ⟨by omega, fun i hi => absurd hi (by omega), fun i hi => absurd hi (by omega), fun i j _ hj => absurd hj (by omega), fun c v h => (by simp at h), fun c v h => (by simp at h)⟩
  · exact ⟨by omega, fun i hi => absurd hi (by omega), fun i hi => absurd hi (by omega), fun i j _ hj => absurd hj (by omega), fun c v h => (by simp at h), fun c v h => (by simp at h)⟩
theorem i_vc_down {k : Nat} {u : SX} {v : SY} (I : i_Rel k u v) (hk : k + 2 ≤ 1024) (v1 : Int32) : wpX_down (fun r u' => wpY_down (fun r' v' => r' = r ∧ i_Rel (k + 2) u' v') v v1) u v1 := by
  obtain ⟨M, n, p, d, pl, vl, li, le, va, po, K, Q, rfl, rfl, HX, HY, hp, hq⟩ := I
  have hd := gx_pt_d hp
  unfold wpX_down wpY_down
  dsimp only
  refine gw_is (fun hno => br_t rfl (gv_is (fun _ => br_t rfl ⟨rfl, gr_mk _ HX HY hp hq⟩) (fun w => absurd w hno))) (fun t t1 t2 e => br_f gv_1 ?_)
  subst e
  refine pk_eq d 3 (fun z => gv_is (fun w => absurd ⟨gx_m50 t1 t2, gx_p50 t2⟩ w) (fun _ => br_f gv_1 (br_t (by rw [z]; rfl) ⟨rfl, gr_mk _ HX HY hp hq⟩))) (fun z => nm_r (nI_1 d) (gw_sp (by omega) (nm_r (e' := nI (p + t * gx_sp (d + 1))) (by rw [gx_back, pk_mul, nI_add]) (gv_is (fun w => absurd ⟨gx_m50 t1 t2, gx_p50 t2⟩ w) (fun _ => br_f gv_1 (pk_eq d 3 (fun y => absurd y z) (fun _ => ⟨vp_in_nI (by omega) (by omega), nm_e (nm_r (nI_1 d) ⟨rfl, ?_⟩)⟩)))))))
  rw [nI_clamp (by omega)]
  refine gr_mk _ HX HY (gx_pt_dn hp (by omega) t1 t2) (fun x hx => ?_)
  rw [gz_dnk hp (by omega) t1 t2 hx]
  by_cases y : x = d
  · rw [y, pk_us, if_pos rfl]
  · rw [pk_un y, if_neg y]; exact hq x (by omega)
theorem i_vc_up {k : Nat} {u : SX} {v : SY} (I : i_Rel k u v) (hk : k + 2 ≤ 1024) : wpX_up (fun r u' => wpY_up (fun r' v' => r' = r ∧ i_Rel (k + 2) u' v') v) u := by
  obtain ⟨M, n, p, d, pl, vl, li, le, va, po, K, Q, rfl, rfl, HX, HY, hp, hq⟩ := I
  have hd := gx_pt_d hp
  have lp := gx_pt_lt hp
  unfold wpX_up wpY_up
  dsimp only
  cases d with
  | zero => exact br_t rfl (br_t rfl ⟨rfl, gr_mk _ HX HY hp hq⟩)
  | succ d =>
    refine br_f (nI_ne0 (by omega) (by omega)) (gw_par (by omega) (by omega) (nm_r (nI_pred d) (br_f (nI_ne0 (by omega) (by omega)) (nm_r (nI_pred d) ⟨rfl, gr_mk _ HX HY (gx_pt_up hp) (fun x hx => ?_)⟩))))
    rw [gz_upk hp hx]; exact hq x (by omega)
theorem i_vc_turn {k : Nat} {u : SX} {v : SY} (I : i_Rel k u v) (hk : k + 2 ≤ 1024) (v1 : Int32) : wpX_turn (fun r u' => wpY_turn (fun r' v' => r' = r ∧ i_Rel (k + 2) u' v') v v1) u v1 := by
  obtain ⟨M, n, p, d, pl, vl, li, le, va, po, K, Q, rfl, rfl, HX, HY, hp, hq⟩ := I
  have hd := gx_pt_d hp
  have lp := gx_pt_lt hp
  unfold wpX_turn wpY_turn
  dsimp only
  cases d with
  | zero => exact br_t rfl (br_t rfl ⟨rfl, gr_mk _ HX HY hp hq⟩)
  | succ d =>
    have hs : 0 < gx_sp (d + 1) := Nat.two_pow_pos _
    have hg := gx_pt_g hp
    have e0 : nI (d + 1) = 0 ↔ False := ⟨fun z => nI_ne0 (by omega) (by omega) z, False.elim⟩
    refine br_f (nI_ne0 (by omega) (by omega)) (gw_is (fun hno => br_t rfl (br_f (nI_ne0 (by omega) (by omega)) (gv_is (fun _ => br_t rfl ⟨rfl, gr_mk _ HX HY hp hq⟩) (fun w => absurd w hno)))) (fun t t1 t2 e => br_f gv_1 ?_))
    subst e
    rw [nI_pred]
    refine gw_sa (by omega) hd (gw_ds (by omega) hd (nm_r (e' := nI (gx_sb (d + 1) p t)) (gx_move (by omega)) (br_f (nI_ne0 (by omega) (by omega)) (gv_is (fun w => absurd ⟨gx_m50 t1 t2, gx_p50 t2⟩ w) (fun _ => br_f gv_1 ⟨vp_in_nI (by omega) (by omega), nm_e ⟨vp_in_nI (by omega) (by omega), nm_e ⟨?_, ?_⟩⟩⟩)))))
    · rw [nI_clamp (by omega), hq d (by omega), gz_dgsp (by omega) (by omega)]
    · rw [nI_clamp (by omega)]
      refine gr_mk _ HX HY (gx_sb_pt hp t1 t2) (fun x hx => ?_)
      rw [gz_sbk hp t1 t2 hx]
      by_cases y : x = d
      · rw [y, pk_us, if_pos rfl]
      · rw [pk_un y, if_neg y]; exact hq x hx
theorem gr_set0 {n : Nat} {li le va po : Nat → Int32} {w : Int32} {post : Int32 → SY → Prop} (h : post (-3) (nI n, nI 0, li, le, va, po)) : wpY_set post (nI n, nI 0, li, le, va, po) w := by
  unfold wpY_set
  dsimp only
  exact br_t rfl h
theorem i_vc_set {k : Nat} {u : SX} {v : SY} (I : i_Rel k u v) (hk : k + 2 ≤ 1024) (v1 : Int32) : wpX_set (fun r u' => wpY_set (fun r' v' => r' = r ∧ i_Rel (k + 2) u' v') v v1) u v1 := by
  obtain ⟨M, n, p, d, pl, vl, li, le, va, po, K, Q, rfl, rfl, HX, HY, hp, hq⟩ := I
  have hd := gx_pt_d hp
  have lp := gx_pt_lt hp
  unfold wpX_set
  dsimp only
  cases d with
  | zero => exact br_t rfl (gr_set0 ⟨rfl, gr_mk _ HX HY hp hq⟩)
  | succ d =>
    refine br_f (nI_ne0 (by omega) (by omega)) (gw_store HX p (gx_pt_ok hp) v1 (fun w hw vl' H' => ?_) (fun hN h60 => ?_) (fun hN h60 pl' vl' K' H' => ?_))
    · exact gv_set HY hp hq v1 (fun w' _ va' Y' => ⟨rfl, gr_mk _ H' Y' hp hq⟩) (fun hN => absurd (hw.symm.trans hN) (by simp)) (fun hN => absurd (hw.symm.trans hN) (by simp))
    · exact gv_set HY hp hq v1 (fun w' hw => absurd (hw.symm.trans hN) (by simp)) (fun _ _ => ⟨rfl, gr_mk _ HX HY hp hq⟩) (fun _ h => absurd h60 (by omega))
    · exact gv_set HY hp hq v1 (fun w' hw => absurd (hw.symm.trans hN) (by simp)) (fun _ h => absurd h60 (by omega)) (fun _ _ li' le' va' Q' Y' => ⟨rfl, gr_mk _ H' Y' hp hq⟩)
theorem i_vc_increment {k : Nat} {u : SX} {v : SY} (I : i_Rel k u v) (hk : k + 2 ≤ 1024) (v1 : Int32) : wpX_increment (fun r u' => wpY_increment (fun r' v' => r' = r ∧ i_Rel (k + 2) u' v') v v1) u v1 := by
  obtain ⟨M, n, p, d, pl, vl, li, le, va, po, K, Q, rfl, rfl, HX, HY, hp, hq⟩ := I
  have hd := gx_pt_d hp
  have lp := gx_pt_lt hp
  unfold wpX_increment wpY_increment
  dsimp only
  cases d with
  | zero => exact br_t rfl (gv_value HY hp hq (nm_e (gr_set0 (br_f (by decide) ⟨rfl, gr_mk _ HX HY hp hq⟩))))
  | succ d =>
    have hs : 0 < gx_sp (d + 1) := Nat.two_pow_pos _
    refine br_f (nI_ne0 (by omega) (by omega)) (gw_va HX p (by omega) (nm_e (gw_store HX p (gx_pt_ok hp) _ (fun w hw vl' H' => br_f (by decide) ?_) (fun hN h60 => br_t rfl ?_) (fun hN h60 pl' vl' K' H' => br_f (by decide) ?_))))
    · exact gv_value HY hp hq (nm_e (gv_set HY hp hq _ (fun w' _ va' Y' => br_t (by decide) ⟨rfl, gr_mk _ H' Y' hp hq⟩) (fun hN => absurd (hw.symm.trans hN) (by simp)) (fun hN => absurd (hw.symm.trans hN) (by simp))))
    · exact gv_value HY hp hq (nm_e (gv_set HY hp hq _ (fun w' hw => absurd (hw.symm.trans hN) (by simp)) (fun _ _ => br_f (by decide) ⟨rfl, gr_mk _ HX HY hp hq⟩) (fun _ h => absurd h60 (by omega))))
    · exact gv_value HY hp hq (nm_e (gv_set HY hp hq _ (fun w' hw => absurd (hw.symm.trans hN) (by simp)) (fun _ h => absurd h60 (by omega)) (fun _ _ li' le' va' Q' Y' => br_t (by decide) ⟨rfl, gr_mk _ H' Y' hp hq⟩)))
theorem i_vc_kill {k : Nat} {u : SX} {v : SY} (I : i_Rel k u v) (hk : k + 2 ≤ 1024) : wpX_kill (fun r u' => wpY_kill (fun r' v' => r' = r ∧ i_Rel (k + 2) u' v') v) u := by
  obtain ⟨M, n, p, d, pl, vl, li, le, va, po, K, Q, rfl, rfl, HX, HY, hp, hq⟩ := I
  have hd := gx_pt_d hp
  have lp := gx_pt_lt hp
  have hn := HX.1
  have m1 : gt_ct M p ≤ gt_ct M (p + gx_sp d) := gt_cn_mono _ (by omega)
  have m2 := gt_ct_le HX (p + gx_sp d)
  unfold wpX_kill
  dsimp only
  refine gw_cb HX p (by omega) (gw_cw HX p d (by omega) hd ⟨n + 1, gw_kill (gt_ct M p) (gt_ct M (p + gx_sp d) - gt_ct M p) hn (by omega) (fun pl' vl' a b => ?_) (n + 1) (gt_ct M p) pl vl (Nat.le_refl _) (by omega) (by omega) (fun i hi => (gt_del_l hi).symm) (fun i hi => (gt_del_l hi).symm) (fun _ _ => rfl) (fun _ _ => rfl)⟩)
  have H' := gt_X_cut HX (Nat.le_add_right p (gx_sp d)) rfl rfl a b
  refine gv_kill HY hp hq (fun l la ea ua Q' hl Y' => ⟨?_, gr_mk2 _ H' Y' hp hq⟩)
  have e1 := gt_rkN H' (Nat.le_refl 2097152)
  have e2 := gy_ctN Y'
  exact congrArg nI (by omega)
theorem i_vc_merge {k : Nat} {u : SX} {v : SY} (I : i_Rel k u v) (hk : k + 2 ≤ 1024) (v1 : Int32) : wpX_merge (fun r u' => wpY_merge (fun r' v' => r' = r ∧ i_Rel (k + 2) u' v') v v1) u v1 := by
  obtain ⟨M, n, p, d, pl, vl, li, le, va, po, K, Q, rfl, rfl, HX, HY, hp, hq⟩ := I
  have hd := gx_pt_d hp
  have lp := gx_pt_lt hp
  have hn := HX.1
  unfold wpX_merge
  dsimp only
  cases d with
  | zero =>
    refine br_t rfl ?_
    unfold wpY_merge
    dsimp only
    exact br_t rfl ⟨rfl, gr_mk _ HX HY hp hq⟩
  | succ d =>
    have hs : 0 < gx_sp (d + 1) := Nat.two_pow_pos _
    have hg := gx_pt_g hp
    refine br_f (nI_ne0 (by omega) (by omega)) (gw_is (fun hno => br_t rfl ?_) (fun t t1 t2 e => br_f gv_1 ?_))
    · unfold wpY_merge
      dsimp only
      exact br_f (nI_ne0 (by omega) (by omega)) (gv_is (fun _ => br_t rfl ⟨rfl, gr_mk _ HX HY hp hq⟩) (fun w => absurd w hno))
    · subst e
      have l2 := gx_pt_lt (gx_sb_pt hp t1 t2)
      have hD : ∀ c, p ≤ c → nI c + (nI t - 51 - (nI (p / gx_sp (d + 1) % 128) - 51)) * nI (gx_sp (d + 1)) = nI (c + gx_sb (d + 1) p t - p) := fun c hc => by
        rw [gx_move (by omega), gx_sb_mv hp hc]
      have hms := gt_ms_le M p (gx_sb (d + 1) p t) (gx_sp (d + 1))
      have m2 := gt_ct_le HX (p + gx_sp (d + 1))
      refine gw_ds (by omega) hd (gw_cw HX p (d + 1) (by omega) hd (gw_miss HX hp t1 t2 hD ?_))
      rw [nI_add]
      refine pk_le _ 60 (fun z => ?_) (fun z => gv_merge HY hp hq t1 t2 (fun _ => ⟨rfl, gr_mk _ HX HY hp hq⟩) (fun w => absurd w (by omega))) rfl rfl (by omega) (by omega)
      refine ⟨gt_ct M (p + gx_sp (d + 1)) - gt_ct M p + 1, gw_cr HX hD (gx_sb_dj hp t1 t2) l2 lp (fun c h1 h2 h3 => gx_sb_ok hp t1 t2 h1 h2 h3) z (fun n' pl' vl' K' H' => gv_merge HY hp hq t1 t2 (fun w => absurd z w) (fun _ n2 li' le' va' Q' Y' => ⟨rfl, gr_mk2 _ H' Y' hp hq⟩)) _ 0 p n pl vl K ?_ (Nat.le_refl _) (by omega) rfl (Nat.zero_le _) (by omega)⟩
      rw [gt_mg_0]; exact HX
