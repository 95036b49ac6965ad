/-! X's merge and the looks that name a subscript -/
section
variable {M : Nat → Option Int32} {n : Nat} {pl vl : Nat → Int32} {K : Nat → Nat} {fp fd D : Int32} {p q e : Nat}
theorem gw_cm (H : gt_X M n pl vl K) (hD : ∀ c, p ≤ c → nI c + D = nI (c + q - p)) (hq : q + e ≤ 2097152) (hp : p + e ≤ 2097152) {post : Int32 → Prop} (h : post (nI (gt_ms M p q e))) : ∀ f b i, p ≤ b → b ≤ p + e → gt_ct M b = i → n - i < f → wX_countMissing_25 post D (nI (p + e)) (nI n) fp fd pl vl f (nI (gt_ms M p q (b - p))) (nI i) := by
  have hn := H.1
  have hend : ∀ b, p ≤ b → b ≤ p + e → gt_ct M (p + e) = gt_ct M b → post (nI (gt_ms M p q (b - p))) := by
    intro b b1 b2 eq
    have g := gt_ms_gap (q := q) b1 b2 (gt_ct_gap eq)
    rw [show p + e - p = e by omega] at g
    rw [← g]; exact h
  intro f
  induction f with
  | zero => intro b i _ _ _ h4; omega
  | succ f ih =>
    intro b i b1 b2 hi hf
    have m1 : gt_ct M b ≤ gt_ct M (p + e) := gt_cn_mono _ b2
    have m2 := gt_ct_le H (p + e)
    refine pk_le n i (fun z => hend b b1 b2 (by omega)) (fun z => ⟨vp_in_nI (by omega) (by omega), ?_⟩)
    have hk := gt_K_lt H z
    have hr := gt_rkK H z
    have e1 : pl (nI i).toNatClampNeg = nI (K i) := by rw [nI_clamp (by omega)]; exact H.2.1 i z
    have bK : b ≤ K i := by
      have := ((gt_rk H b).2 i z)
      omega
    refine pk_le (p + e) (K i) (fun w => hend b b1 b2 ?_) (fun w => ⟨vp_in_nI (by omega) (by omega), ?_⟩) rfl e1 (by omega) (by omega)
    · have m3 : gt_ct M (p + e) ≤ gt_ct M (K i) := gt_cn_mono _ w
      omega
    · rw [e1, hD (K i) (by omega)]
      have g := gt_ms_gap (q := q) b1 bK (gt_ct_gap (show gt_ct M (K i) = gt_ct M b by omega))
      have hM := H.2.2.1 i z
      have hc1 : gt_ct M (K i + 1) = i + 1 := by
        have : gt_ct M (K i + 1) = gt_ct M (K i) + 1 := gt_cn_t (gt_has_s hM)
        omega
      refine gw_hv H (K i + q - p) (by omega) (fun hN => br_t rfl (nm_r ?_ (nm_r (nI_1 i) (ih (K i + 1) (i + 1) (by omega) (by omega) hc1 (by omega))))) (fun v hS => br_f (by decide) (nm_r (nI_1 i) ?_))
      · rw [nI_1, gt_ms_f (by omega) (gt_has_s hM) (gt_has_n hN), g]
      · have := ih (K i + 1) (i + 1) (by omega) (by omega) hc1 (by omega)
        rw [gt_ms_t (by omega) (gt_has_s hM) (gt_has_s hS), g] at this
        exact this
theorem gw_miss (H : gt_X M n pl vl K) {d t : Nat} (h : gx_pt (d + 1) p) (h1 : 1 ≤ t) (h2 : t ≤ 101) (hD : ∀ c, p ≤ c → nI c + D = nI (c + gx_sb (d + 1) p t - p)) {post : Int32 → Prop} (k : post (nI (gt_ms M p (gx_sb (d + 1) p t) (gx_sp (d + 1))))) : wpX_countMissing post (nI n, nI p, nI (d + 1), pl, vl) D := by
  have hl := gx_pt_lt h
  have hl2 := gx_pt_lt (gx_sb_pt h h1 h2)
  have hd := gx_pt_d h
  unfold wpX_countMissing
  dsimp only
  refine gw_sp hd (nm_r (nI_add _ _) (gw_cb H p (by omega) ⟨n + 1, ?_⟩))
  have := gw_cm (fp := nI p) (fd := nI (d + 1)) H hD hl2 hl k (n + 1) p (gt_ct M p) (Nat.le_refl _) (by omega) rfl (by omega)
  rw [Nat.sub_self] at this
  exact this
theorem gw_cr (H0 : gt_X M n pl vl K) (hD : ∀ c, p ≤ c → nI c + D = nI (c + q - p)) (hd : q = p ∨ q + e ≤ p ∨ p + e ≤ q) (hq : q + e ≤ 2097152) (hp : p + e ≤ 2097152) (hok : ∀ c, gt_ok c → p ≤ c → c < p + e → gt_ok (c + q - p)) (hr : n + gt_ms M p q e ≤ 60) {post : SX → Prop} (h : ∀ n' pl' vl' K', gt_X (gt_mg M p q (p + e)) n' pl' vl' K' → post (nI n', nI p, fd, pl', vl')) : ∀ f i b n' pl' vl' K', gt_X (gt_mg M p q b) n' pl' vl' K' → p ≤ b → b ≤ p + e → gt_ct M b = gt_ct M p + i → i ≤ gt_ct M (p + e) - gt_ct M p → gt_ct M (p + e) - gt_ct M p - i < f → wX_copyRun_2 post (nI (gt_ct M (p + e) - gt_ct M p)) D f (nI i) (nI n') (nI p) fd pl' vl' := by
  have hn := H0.1
  have m2 := gt_ct_le H0 (p + e)
  have m1 : gt_ct M p ≤ gt_ct M (p + e) := gt_cn_mono _ (by omega)
  intro f
  induction f with
  | zero => intro i b n' pl' vl' K' _ _ _ _ _ h4; omega
  | succ f ih =>
    intro i b n' pl' vl' K' H b1 b2 hi hle hf
    have hn' := H.1
    refine pk_le (gt_ct M (p + e) - gt_ct M p) i (fun z => ?_) (fun z => ?_)
    · have g := gt_mg_gap (M := M) (p := p) (q := q) b2 (gt_ct_gap (show gt_ct M (p + e) = gt_ct M b by omega))
      rw [← g] at H
      exact h _ _ _ _ H
    · obtain ⟨c, v, c1, c2, c3, c4, c5, c6, c7, c8, c9⟩ := gt_mg_step hd b1 b2 hi (by omega) H
      have hcM : gt_ct M (c + 1) = gt_ct M p + (i + 1) := by
        have : gt_ct M (c + 1) = gt_ct M c + 1 := gt_cn_t (gt_has_s c3)
        omega
      have hco := H0.2.2.2.2.2 c v c3
      have e1 : pl' (nI (gt_ct (gt_mg M p q b) p + i)).toNatClampNeg = nI c := by rw [nI_clamp (by omega), H.2.1 _ c6, c7]
      have e2 : vl' (nI (gt_ct (gt_mg M p q b) p + i)).toNatClampNeg = v := by rw [nI_clamp (by omega)]; exact c8
      refine gw_cb H p (by omega) (nm_r (nI_add _ _) (pk_le n' (gt_ct (gt_mg M p q b) p + i) (fun w => absurd w (by omega)) (fun w => ⟨vp_in_nI (by omega) (by omega), vp_in_nI (by omega) (by omega), ?_⟩)))
      rw [e1, e2, hD c (by omega)]
      refine gw_store H (c + q - p) (hok c hco (by omega) c2) v (fun w _ vl2 H2 => nm_r (nI_1 i) ?_) (fun hN h60 => ?_) (fun hN _ pl2 vl2 K2 H2 => nm_r (nI_1 i) ?_)
      · rw [← c9] at H2
        exact ih (i + 1) (c + 1) _ _ _ _ H2 (by omega) (by omega) hcM (by omega) (by omega)
      · have H3 := H
        rw [c5] at H3 hN
        have := gt_mg_room (e := e) H0 H3 (by omega) c2 hq c3 hr hN
        omega
      · rw [← c9] at H2
        exact ih (i + 1) (c + 1) _ _ _ _ H2 (by omega) (by omega) hcM (by omega) (by omega)
theorem gw_ch (H : gt_X M n pl vl K) {post : Int32 → Prop} (k P l : Nat) (hk : k < 2 ^ 31) (hl : l < 3) (hP : P + gx_sp l ≤ 2097152) (h1 : k < n → P < K k → K k < P + gx_sp l → post (nI (K k / gx_sp (l + 1) % 128) - 51)) (h0 : ¬ (k < n ∧ P < K k ∧ K k < P + gx_sp l) → post (-100)) : wpX_childSubscript post (nI n, fp, fd, pl, vl) (nI k) (nI P) (nI l) := by
  have hn := H.1
  unfold wpX_childSubscript
  dsimp only
  refine br_f (nI_pos hk) (pk_lt k n (fun z => ⟨vp_in_nI (by omega) (by omega), ?_⟩) (fun z => h0 (fun w => by omega)))
  have hK := gt_K_lt H z
  have e1 : pl (nI k).toNatClampNeg = nI (K k) := by rw [nI_clamp (by omega)]; exact H.2.1 k z
  refine nm_r e1 (pk_le (K k) P (fun w => h0 (fun y => by omega)) (fun w => gw_sp (by omega) ?_))
  rw [nI_add]
  refine pk_lt (K k) (P + gx_sp l) (fun y => ?_) (fun y => h0 (fun x => by omega))
  rw [nI_1]
  exact gw_sa (by omega) (by omega) (h1 z w y)
theorem gw_ch0 {post : Int32 → Prop} {u P l : Int32} (h : post (-100)) : wpX_childSubscript post (u, fp, fd, pl, vl) (nI 0 - 1) P l := by
  unfold wpX_childSubscript
  dsimp only
  exact br_t (by decide) h
end
