/-! X's walks, each with a general post -/
theorem gw_sp {l : Nat} (h : l ≤ 3) {post : Int32 → Prop} (hp : post (nI (gx_sp l))) : wpX_span post (nI l) := by
  unfold wpX_span wpX_bitsBelow
  dsimp only
  rw [gx_bits h, gx_span h]
  exact hp
theorem gw_sa {c l : Nat} (hc : c < 2 ^ 31) (h : l ≤ 3) {post : Int32 → Prop} (hp : post (nI (c / gx_sp l % 128) - 51)) : wpX_subscriptAt post (nI c) (nI l) := by
  unfold wpX_subscriptAt wpX_bitsBelow
  rw [gx_bits h]
  exact nm_r (gx_dig hc h) hp
theorem gw_par {p d : Nat} (hp : p < 2 ^ 31) (hd : d < 3) {post : Int32 → Prop} {fu : Int32} {pl vl : Nat → Int32} (k : post (nI (p / gx_sp d * gx_sp d))) : wpX_parentOfPointer post (fu, nI p, nI (d + 1), pl, vl) := by
  unfold wpX_parentOfPointer wpX_bitsBelow
  dsimp only
  rw [nI_pred, gx_bits (by omega), gx_par hp (by omega)]
  exact k
theorem gw_ds {p d t : Nat} (hp : p < 2 ^ 31) (hd : d ≤ 3) {post : Int32 → Prop} {fu : Int32} {pl vl : Nat → Int32} (k : post (((nI t - 51) - (nI (p / gx_sp d % 128) - 51)) * nI (gx_sp d))) : wpX_distanceToSibling post (fu, nI p, nI d, pl, vl) (nI t - 51) := by
  unfold wpX_distanceToSibling
  dsimp only
  exact gw_sa hp hd (gw_sp hd k)
theorem gw_is {s : Int32} {post : Int32 → Prop} (h0 : ¬ (-50 ≤ s ∧ s ≤ 50) → post 0) (h1 : ∀ t, 1 ≤ t → t ≤ 101 → s = nI t - 51 → post 1) : wpX_isSubscript post s := by
  unfold wpX_isSubscript
  by_cases a : s < -50
  · exact br_t a (h0 (fun z => absurd z.1 (Int32.not_le.mpr a)))
  · refine br_f a ?_
    by_cases b : 50 < s
    · exact br_t b (h0 (fun z => absurd z.2 (Int32.not_le.mpr b)))
    · refine br_f b ?_
      obtain ⟨t, t1, t2, e⟩ := gx_sub (Int32.not_lt.mp a) (Int32.not_lt.mp b)
      exact h1 t t1 t2 e
section
variable {M : Nat → Option Int32} {n : Nat} {pl vl : Nat → Int32} {K : Nat → Nat} {fp fd : Int32}
theorem gw_cb (H : gt_X M n pl vl K) {post : Int32 → Prop} (c : Nat) (hc : c < 2 ^ 31) (h : post (nI (gt_ct M c))) : wpX_countBefore post (nI n, fp, fd, pl, vl) (nI c) := by
  obtain ⟨r1, r2⟩ := gt_rk H c
  have hn := H.1
  have L : ∀ f i, i ≤ gt_ct M c → gt_ct M c - i < f → wX_countBefore_2 post (nI c) (nI n) fp fd pl vl f (nI i) := by
    intro f
    induction f with
    | zero => intro i _ h2; omega
    | succ f ih =>
      intro i h1 h2
      refine pk_le n i (fun z => ?_) (fun z => ⟨vp_in_nI (by omega) (by omega), ?_⟩)
      · have e : i = gt_ct M c := by omega
        rw [e]; exact h
      · have hk := gt_K_lt H z
        have e : pl (nI i).toNatClampNeg = nI (K i) := by rw [nI_clamp (by omega)]; exact H.2.1 i z
        have r3 := r2 i z
        refine pk_le c (K i) (fun w => ?_) (fun w => nm_r (nI_1 i) (ih (i + 1) (by omega) (by omega))) rfl e (by omega) (by omega)
        have e2 : i = gt_ct M c := by omega
        rw [e2]; exact h
  exact ⟨gt_ct M c + 1, L _ 0 (Nat.zero_le _) (by omega)⟩
theorem gw_cw (H : gt_X M n pl vl K) {post : Int32 → Prop} (c l : Nat) (hc : c + gx_sp l < 2 ^ 31) (hl : l ≤ 3) (h : post (nI (gt_ct M (c + gx_sp l) - gt_ct M c))) : wpX_countWithin post (nI n, fp, fd, pl, vl) (nI c) (nI l) := by
  unfold wpX_countWithin
  dsimp only
  refine gw_sp hl (nm_r (nI_add _ _) (gw_cb H _ hc (gw_cb H c (by omega) ?_)))
  rw [pk_sub (show gt_ct M c ≤ gt_ct M (c + gx_sp l) from gt_cn_mono _ (by omega))]
  exact h
theorem gw_st (H : gt_X M n pl vl K) {post : Int32 → Prop} (c : Nat) (hc : c < 2 ^ 31) (h0 : M c = none → post 0) (h1 : ∀ v, M c = some v → post 1) : wpX_standsAt post (nI n, fp, fd, pl, vl) (nI c) (nI (gt_ct M c)) := by
  have hn := H.1
  have hr := gt_ct_le H c
  unfold wpX_standsAt
  dsimp only
  cases hM : M c with
  | none =>
    have nn := gt_nat H hM
    refine pk_le n (gt_ct M c) (fun _ => h0 hM) (fun z => ⟨vp_in_nI (by omega) (by omega), ?_⟩)
    have hk := gt_K_lt H z
    have e : pl (nI (gt_ct M c)).toNatClampNeg = nI (K (gt_ct M c)) := by rw [nI_clamp (by omega)]; exact H.2.1 _ z
    exact pk_eq (K (gt_ct M c)) c (fun w => absurd ⟨z, w⟩ nn) (fun _ => h0 hM) e rfl (by omega) hc
  | some v =>
    obtain ⟨a1, a2, a3⟩ := gt_at H hM
    have e : pl (nI (gt_ct M c)).toNatClampNeg = nI c := by rw [nI_clamp (by omega), H.2.1 _ a1, a2]
    exact pk_le n (gt_ct M c) (fun z => absurd z (by omega)) (fun z => ⟨vp_in_nI (by omega) (by omega), br_t e (h1 v hM)⟩)
theorem gw_hv (H : gt_X M n pl vl K) {post : Int32 → Prop} (c : Nat) (hc : c < 2 ^ 31) (h0 : M c = none → post 0) (h1 : ∀ v, M c = some v → post 1) : wpX_hasValue post (nI n, fp, fd, pl, vl) (nI c) := by
  unfold wpX_hasValue
  dsimp only
  exact gw_cb H c hc (gw_st H c hc (fun e => ⟨rfl, h0 e⟩) (fun v e => ⟨rfl, h1 v e⟩))
theorem gw_va (H : gt_X M n pl vl K) {post : Int32 → Prop} (c : Nat) (hc : c < 2 ^ 31) (h : post ((M c).getD 0)) : wpX_valueAt post (nI n, fp, fd, pl, vl) (nI c) := by
  have hn := H.1
  unfold wpX_valueAt
  dsimp only
  refine gw_cb H c hc (gw_st H c hc (fun e => br_t rfl ?_) (fun v e => br_f (by decide) ?_))
  · rw [e] at h; exact h
  · obtain ⟨a1, a2, a3⟩ := gt_at H e
    refine ⟨vp_in_nI (by omega) (by omega), ?_⟩
    rw [nI_clamp (by omega), a3]
    rw [e] at h; exact h
/-- the shift up: what stands at i and above goes one up, then the new one in its place -/
theorem gw_up {post : Int32 → SX → Prop} (c v : Int32) (k : Nat) (hn : n < 60) (hk : k ≤ n) (h : ∀ pl' vl', (∀ i, i < n + 1 → pl' i = gt_ins pl k c i) → (∀ i, i < n + 1 → vl' i = gt_ins vl k v i) → post 0 (nI (n + 1), fp, fd, pl', vl')) : ∀ f j (pa va : Nat → Int32), k ≤ j → j ≤ n → j - k < f → (∀ i, i < n + 1 → i ≤ j → pa i = pl i) → (∀ i, i < n + 1 → i ≤ j → va i = vl i) → (∀ i, i < n + 1 → j < i → pa i = pl (i - 1)) → (∀ i, i < n + 1 → j < i → va i = vl (i - 1)) → wX_store_42 post c v (nI k) (nI n) fp fd f (nI j) pa va := by
  intro f
  induction f with
  | zero => intro j pa va h1 h2 h3; omega
  | succ f ih =>
    intro j pa va h1 h2 h3 p1 v1 p2 v2
    refine pk_le j k (fun z => ?_) (fun z => ?_)
    · have e : j = k := by omega
      subst e
      refine ⟨vp_in_nI (by omega) (by omega), nm_e ⟨vp_in_nI (by omega) (by omega), nm_e (nm_r (nI_1 n) ?_)⟩⟩
      rw [nI_clamp (by omega)]
      refine h _ _ (fun i hi => ?_) (fun i hi => ?_)
      · by_cases a : i < j
        · rw [gt_ins_l a, pk_un (by omega)]; exact p1 i hi (by omega)
        · by_cases b : i = j
          · rw [b, gt_ins_s, pk_us]
          · rw [gt_ins_g (by omega), pk_un b]; exact p2 i hi (by omega)
      · by_cases a : i < j
        · rw [gt_ins_l a, pk_un (by omega)]; exact v1 i hi (by omega)
        · by_cases b : i = j
          · rw [b, gt_ins_s, pk_us]
          · rw [gt_ins_g (by omega), pk_un b]; exact v2 i hi (by omega)
    · obtain ⟨j, rfl⟩ : ∃ j', j = j' + 1 := ⟨j - 1, by omega⟩
      rw [nI_pred]
      refine ⟨vp_in_nI (by omega) (by omega), vp_in_nI (by omega) (by omega), nm_e ⟨vp_in_nI (by omega) (by omega), vp_in_nI (by omega) (by omega), nm_e (nm_r (pk_m1 j) ?_)⟩⟩
      rw [nI_clamp (by omega), nI_clamp (by omega)]
      refine ih j _ _ (by omega) (by omega) (by omega) (fun i a b => ?_) (fun i a b => ?_) (fun i a b => ?_) (fun i a b => ?_)
      · rw [pk_un (by omega)]; exact p1 i a (by omega)
      · rw [pk_un (by omega)]; exact v1 i a (by omega)
      · by_cases e : i = j + 1
        · rw [e, pk_us]; exact p1 j (by omega) (by omega)
        · rw [pk_un e]; exact p2 i a (by omega)
      · by_cases e : i = j + 1
        · rw [e, pk_us]; exact v1 j (by omega) (by omega)
        · rw [pk_un e]; exact v2 i a (by omega)
theorem gw_store (H : gt_X M n pl vl K) {post : Int32 → SX → Prop} (c : Nat) (hc : gt_ok c) (v : Int32) (hs : ∀ w, M c = some w → ∀ vl', gt_X (gt_up M c v) n pl vl' K → post 1 (nI n, fp, fd, pl, vl')) (hf : M c = none → n = 60 → post (-2) (nI n, fp, fd, pl, vl)) (hi : M c = none → n < 60 → ∀ pl' vl' K', gt_X (gt_up M c v) (n + 1) pl' vl' K' → post 0 (nI (n + 1), fp, fd, pl', vl')) : wpX_store post (nI n, fp, fd, pl, vl) (nI c) v := by
  have hn := H.1
  have hl := gt_ok_lt hc
  have hr := gt_ct_le H c
  unfold wpX_store
  dsimp only
  refine gw_cb H c (by omega) (gw_st H c (by omega) (fun e => br_t rfl ?_) (fun w e => br_f (by decide) ?_))
  · refine pk_lt n 60 (fun z => ?_) (fun z => hf e (by omega))
    refine ⟨n + 1, gw_up (nI c) v (gt_ct M c) z hr (fun pl' vl' a b => hi e z pl' vl' _ (gt_X_ins H e hc z v a b)) (n + 1) n pl vl hr (Nat.le_refl _) (by omega) (fun _ _ _ => rfl) (fun _ _ _ => rfl) (fun i a b => absurd b (by omega)) (fun i a b => absurd b (by omega))⟩
  · obtain ⟨a1, a2, a3⟩ := gt_at H e
    refine ⟨vp_in_nI (by omega) (by omega), nm_e ?_⟩
    rw [nI_clamp (by omega)]
    exact hs w e _ (gt_X_set H e v)
/-- kill's shift down -/
theorem gw_kill {post : Int32 → SX → Prop} (a m : Nat) (hn : n ≤ 60) (ham : a + m ≤ n) (h : ∀ pl' vl', (∀ i, i < n - m → pl' i = gt_del pl a m i) → (∀ i, i < n - m → vl' i = gt_del vl a m i) → post (nI m) (nI (n - m), fp, fd, pl', vl')) : ∀ f j (pa va : Nat → Int32), a ≤ j → j + m ≤ n → n - (j + m) < f → (∀ i, i < j → pa i = gt_del pl a m i) → (∀ i, i < j → va i = gt_del vl a m i) → (∀ i, j ≤ i → pa i = pl i) → (∀ i, j ≤ i → va i = vl i) → wX_kill_24 post (nI m) (nI n) fp fd f (nI j) pa va := by
  intro f
  induction f with
  | zero => intro j pa va h1 h2 h3; omega
  | succ f ih =>
    intro j pa va h1 h2 h3 p1 v1 p2 v2
    unfold wX_kill_24
    rw [nI_add]
    refine pk_le n (j + m) (fun z => ?_) (fun z => ?_)
    · refine nm_r (pk_sub (by omega)) (h pa va (fun i hi => p1 i (by omega)) (fun i hi => v1 i (by omega)))
    · refine ⟨vp_in_nI (by omega) (by omega), vp_in_nI (by omega) (by omega), nm_e ⟨vp_in_nI (by omega) (by omega), vp_in_nI (by omega) (by omega), nm_e (nm_r (nI_1 j) ?_)⟩⟩
      rw [nI_clamp (by omega), nI_clamp (by omega)]
      refine ih (j + 1) _ _ (by omega) (by omega) (by omega) (fun i hi => ?_) (fun i hi => ?_) (fun i hi => ?_) (fun i hi => ?_)
      · by_cases e : i = j
        · rw [e, pk_us, gt_del_g (by omega)]; exact p2 _ (by omega)
        · rw [pk_un e]; exact p1 i (by omega)
      · by_cases e : i = j
        · rw [e, pk_us, gt_del_g (by omega)]; exact v2 _ (by omega)
        · rw [pk_un e]; exact v1 i (by omega)
      · rw [pk_un (by omega)]; exact p2 i (by omega)
      · rw [pk_un (by omega)]; exact v2 i (by omega)
end
