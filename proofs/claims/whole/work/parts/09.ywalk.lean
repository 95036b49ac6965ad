/-! Y's walks, each with a general post -/
theorem gv_3 : (3 : Int32) = nI 3 := by decide +kernel
theorem gv_ix (i j : Nat) : nI i * 3 + nI j = nI (i * 3 + j) := by rw [gv_3, pk_mul, nI_add]
theorem gv_51 : (-51 : Int32) = nI 0 - 51 := by decide +kernel
theorem gv_m1 : ¬ (0 : Int32) ≤ -1 := by decide
theorem gv_1 : ¬ (1 : Int32) = 0 := by decide
theorem gv_is {s : Int32} {u : SY} {post : Int32 → Prop} (h0 : ¬ (-50 ≤ s ∧ s ≤ 50) → post 0) (h1 : -50 ≤ s ∧ s ≤ 50 → post 1) : wpY_isSubscript post u s := by
  obtain ⟨a, b, c, d, e, f⟩ := u
  unfold wpY_isSubscript
  dsimp only
  by_cases a : s < -50
  · exact br_t a (h0 (fun z => absurd z.1 (Int32.not_le.mpr a)))
  · refine br_f a ?_
    by_cases b : 50 < s
    · exact br_t b (h0 (fun z => absurd z.2 (Int32.not_le.mpr b)))
    · exact br_f b (h1 ⟨Int32.not_lt.mp a, Int32.not_lt.mp b⟩)
section
variable {li le va po : Nat → Int32} {fn fd : Int32} {d p : Nat}
theorem gv_bg {post : Int32 → Prop} {i c k : Nat} (hA : gy_at li le i c) (hc : gt_ok c) (hi : i < 60) (hp : gx_pt d p) (hq : gy_p po d p) (hk : k ≤ d) (h1 : c / gx_sp k = p / gx_sp k → post 1) (h0 : ¬ c / gx_sp k = p / gx_sp k → post 0) : wpY_begins post (fn, fd, li, le, va, po) (nI i) (nI k) := by
  have hd := gx_pt_d hp
  have hl := gt_ok_lt hc
  have hl2 := gx_pt_lt hp
  have hs : 0 < gx_sp d := Nat.two_pow_pos _
  have hb := gy_len_b c
  have pre := gy_pre (c := c) (p := p) (k := k) hl (by omega) (by omega)
  unfold wpY_begins
  dsimp only
  refine ⟨vp_in_nI hi (by omega), pk_le k (gy_len c) (fun z => ?_) (fun z => h0 (fun e => ?_)) rfl (by rw [nI_clamp (by omega)]; exact hA.1) (by omega) (by omega)⟩
  · have L : ∀ f j, j ≤ k → k - j < f → (∀ x, x < j → gy_dg c x = gy_dg p x) → wY_begins_14 post (nI i) (nI k) fn fd li le va po f (nI j) := by
      intro f
      induction f with
      | zero => intro j _ h2; omega
      | succ f ih =>
        intro j j1 j2 hx
        unfold wY_begins_14
        rw [gv_ix]
        refine pk_le k j (fun w => h1 (pre.mp (fun x hx' => hx x (by omega)))) (fun w => ⟨vp_in_nI (by omega) (by omega), vp_in_nI (by omega) (by omega), ?_⟩)
        have e1 : li (nI (i * 3 + j)).toNatClampNeg = nI (gy_dg c j) - 51 := by rw [nI_clamp (by omega)]; exact hA.2 j (by omega)
        have e2 : po (nI j).toNatClampNeg = nI (gy_dg p j) - 51 := by rw [nI_clamp (by omega)]; exact hq j (by omega)
        have b1 := gy_dg_b hc (k := j) (by omega)
        have b2 := gy_pd_b hp (k := j) (by omega)
        rw [e1, e2, gx_eq (by omega) (by omega)]
        refine br_c (fun y => nm_r (nI_1 j) (ih (j + 1) (by omega) (by omega) (fun x hx' => ?_))) (fun y => h0 (fun t => y (pre.mpr t j w)))
        by_cases t : x = j
        · rw [t]; exact y
        · exact hx x (by omega)
    exact ⟨k + 1, L (k + 1) 0 (Nat.zero_le _) (by omega) (fun x hx => absurd hx (by omega))⟩
  · have := gy_pre_len hl hp hk e
    omega
end
section
variable {M : Nat → Option Int32} {n : Nat} {li le va po : Nat → Int32} {Q : Nat → Nat} {d p : Nat}
theorem gv_here (H : gy_Y M n li le va Q) (hp : gx_pt d p) (hq : gy_p po d p) {post : Int32 → Prop} (h1 : ∀ i, i < n → Q i = p → post (nI i)) (h0 : (∀ i, i < n → Q i ≠ p) → post (-1)) : wpY_here post (nI n, nI d, li, le, va, po) := by
  have hn := H.1
  have hd := gx_pt_d hp
  have L : ∀ f i, i ≤ n → n - i < f → (∀ j, j < i → Q j ≠ p) → wY_here_2 post (nI n) (nI d) li le va po f (nI i) := by
    intro f
    induction f with
    | zero => intro i _ h2; omega
    | succ f ih =>
      intro i i1 i2 hx
      unfold wY_here_2
      refine pk_le n i (fun z => h0 (fun j hj => hx j (by omega))) (fun z => ⟨vp_in_nI (by omega) (by omega), ?_⟩)
      have hA := H.2.1 i z
      have hok := gy_Q_ok H z
      have hb := gy_len_b (Q i)
      have go : Q i ≠ p → wY_here_2 post (nI n) (nI d) li le va po f (nI (i + 1)) := fun ne => ih (i + 1) (by omega) (by omega) (fun j hj => by
        by_cases t : j = i
        · rw [t]; exact ne
        · exact hx j (by omega))
      refine pk_eq (gy_len (Q i)) d (fun e => ?_) (fun e => nm_r (nI_1 i) (go (fun t => ?_))) (by rw [nI_clamp (by omega)]; exact hA.1) rfl (by omega) (by omega)
      · refine gv_bg hA hok (by omega) hp hq (Nat.le_refl d) (fun y => br_f gv_1 (h1 i z ?_)) (fun y => br_t rfl (nm_r (nI_1 i) (go (fun t => y (by rw [t])))))
        have lp := gx_pt_lt hp
        have hs : 0 < gx_sp d := Nat.two_pow_pos _
        have pre := (gy_pre (gt_ok_lt hok) (by omega : p < 2097152) hd).mpr y
        have okp : gt_ok p := by
          obtain ⟨d', rfl⟩ : ∃ d', d = d' + 1 := ⟨d - 1, by omega⟩
          exact gx_pt_ok hp
        exact gy_ext hok okp (by rw [e, gy_len_pt okp hp]) (fun k hk => pre k (by omega))
      · rw [t] at hok e
        exact e (gy_len_pt hok hp)
  exact ⟨n + 1, L _ 0 (Nat.zero_le _) (by omega) (fun j hj => absurd hj (by omega))⟩
theorem gv_value (H : gy_Y M n li le va Q) (hp : gx_pt d p) (hq : gy_p po d p) {post : Int32 → Prop} (h : post ((M p).getD 0)) : wpY_value post (nI n, nI d, li, le, va, po) := by
  have hn := H.1
  unfold wpY_value
  dsimp only
  refine gv_here H hp hq (fun i hi e => br_t (nI_pos' (by omega)) ⟨vp_in_nI (by omega) (by omega), ?_⟩) (fun hno => br_f gv_m1 ?_)
  · have := H.2.2.1 i hi
    rw [e] at this
    rw [this] at h
    rw [nI_clamp (by omega)]; exact h
  · cases e : M p with
    | none => rw [e] at h; exact h
    | some v =>
      obtain ⟨i, hi, ei⟩ := H.2.2.2.2.1 p v e
      exact absurd ei (hno i hi)
theorem gv_set0 (H : gy_Y M n li le va Q) (hp : gx_pt (d + 1) p) (hq : gy_p po (d + 1) p) (v : Int32) (hN : M p = none) (hn : n < 60) {post : Int32 → SY → Prop} (h : ∀ li' le' va' Q', gy_Y (gt_up M p v) (n + 1) li' le' va' Q' → post 0 (nI (n + 1), nI (d + 1), li', le', va', po)) : ∀ f k (la : Nat → Int32), k ≤ d + 1 → d + 1 - k < f → (∀ x, x < n * 3 → la x = li x) → (∀ x, x < k → la (n * 3 + x) = po x) → wY_set_46 post v (nI n) (nI (d + 1)) f (nI k) la le va po := by
  have hd := gx_pt_d hp
  intro f
  induction f with
  | zero => intro k la _ h2; omega
  | succ f ih =>
    intro k la k1 k2 a1 a2
    unfold wY_set_46
    rw [gv_ix]
    refine pk_le (d + 1) k (fun z => ⟨vp_in_nI (by omega) (by omega), nm_e ⟨vp_in_nI (by omega) (by omega), nm_e (nm_r (nI_1 n) ?_)⟩⟩) (fun z => ⟨vp_in_nI (by omega) (by omega), vp_in_nI (by omega) (by omega), nm_e (nm_r (nI_1 k) ?_)⟩)
    · rw [nI_clamp (by omega)]
      have okp := gx_pt_ok hp
      refine h _ _ _ _ (gy_Y_new H hN okp hn a1 (fun i hi => pk_un (by omega)) (fun i hi => pk_un (by omega)) ⟨?_, fun x hx => ?_⟩ pk_us)
      · rw [pk_us, gy_len_pt okp hp]
      · rw [gy_len_pt okp hp] at hx
        rw [a2 x (by omega)]; exact hq x hx
    · rw [nI_clamp (by omega), nI_clamp (by omega)]
      refine ih (k + 1) _ (by omega) (by omega) (fun x hx => ?_) (fun x hx => ?_)
      · rw [pk_un (by omega)]; exact a1 x hx
      · by_cases t : x = k
        · rw [t, pk_us]
        · rw [pk_un (by omega)]; exact a2 x (by omega)
theorem gv_set (H : gy_Y M n li le va Q) (hp : gx_pt (d + 1) p) (hq : gy_p po (d + 1) p) (v : Int32) {post : Int32 → SY → Prop} (hs : ∀ w, M p = some w → ∀ va', gy_Y (gt_up M p v) n li le va' Q → post 1 (nI n, nI (d + 1), li, le, va', po)) (hf : M p = none → n = 60 → post (-2) (nI n, nI (d + 1), li, le, va, po)) (hi : M p = none → n < 60 → ∀ li' le' va' Q', gy_Y (gt_up M p v) (n + 1) li' le' va' Q' → post 0 (nI (n + 1), nI (d + 1), li', le', va', po)) : wpY_set post (nI n, nI (d + 1), li, le, va, po) v := by
  have hn := H.1
  have hd := gx_pt_d hp
  unfold wpY_set
  dsimp only
  refine br_f (nI_ne0 (by omega) (by omega)) (gv_here H hp hq (fun i hi' e => br_t (nI_pos' (by omega)) ?_) (fun hno => br_f gv_m1 ?_))
  · refine br_f (nI_pos (by omega)) ⟨vp_in_nI (by omega) (by omega), nm_e ?_⟩
    rw [nI_clamp (by omega)]
    have hM := H.2.2.1 i hi'
    have hY := gy_Y_set H hi' v
    rw [e] at hM hY
    exact hs _ hM _ hY
  · have hN : M p = none := by
      cases e : M p with
      | none => rfl
      | some w =>
        obtain ⟨i, hi', ei⟩ := H.2.2.2.2.1 p w e
        exact absurd ei (hno i hi')
    refine pk_eq n 60 (fun e => hf hN e) (fun e => br_t (by decide) ⟨d + 2, gv_set0 H hp hq v hN (by omega) (hi hN (by omega)) (d + 2) 0 li (Nat.zero_le _) (by omega) (fun _ _ => rfl) (fun x hx => absurd hx (by omega))⟩)
end
