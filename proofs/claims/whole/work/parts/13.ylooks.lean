/-! Y's looks -/
theorem gy_len_rng {c p d : Nat} (hk : gt_ok c) (h : gx_pt d p) (h1 : p ≤ c) (h2 : c < p + gx_sp d) : gy_len c ≤ d ↔ c = p := by
  have hd := gx_pt_d h
  have a := gy_len_c c
  revert h h2
  refine gx_4 (P := fun d => gx_pt d p → c < p + gx_sp d → (gy_len c ≤ d ↔ c = p)) hd ?_ ?_ ?_ ?_
  · rw [gx_sp0]; unfold gx_pt; unfold gt_ok at hk; omega
  · rw [gx_sp1]; unfold gx_pt; unfold gt_ok at hk; omega
  · rw [gx_sp2]; unfold gx_pt; unfold gt_ok at hk; omega
  · rw [gx_sp3]; unfold gx_pt; unfold gt_ok at hk; omega
theorem gy_lex {a b k : Nat} (ha : a < 2097152) (hb : b < 2097152) (hk : k < 3) (h : ∀ x, x < k → gy_dg a x = gy_dg b x) (hl : gy_dg a k < gy_dg b k) : a < b := by
  revert h hl
  refine gy_3 (P := fun k => (∀ x, x < k → gy_dg a x = gy_dg b x) → gy_dg a k < gy_dg b k → a < b) hk ?_ ?_ ?_
  · intro _ hl
    rw [gy_dg0, gy_dg0] at hl; omega
  · intro h hl
    have h0 := h 0 (by omega)
    rw [gy_dg0, gy_dg0] at h0
    rw [gy_dg1, gy_dg1] at hl; omega
  · intro h hl
    have h0 := h 0 (by omega)
    have h1 := h 1 (by omega)
    rw [gy_dg0, gy_dg0] at h0
    rw [gy_dg1, gy_dg1] at h1
    rw [gy_dg2, gy_dg2] at hl; omega
theorem gy_all {a b : Nat} (ha : a < 2097152) (hb : b < 2097152) (h : ∀ x, x < 3 → gy_dg a x = gy_dg b x) : a = b := by
  have := (gy_pre ha hb (Nat.le_refl 3)).mp h
  rw [gx_sp3] at this
  omega
def gv_b (b : Bool) : Int32 := if b = true then 10 else 0
section
variable {M : Nat → Option Int32} {n : Nat} {li le va po : Nat → Int32} {Q : Nat → Nat} {d p : Nat}
theorem gv_data (H : gy_Y M n li le va Q) (hp : gx_pt d p) (hq : gy_p po d p) {post : Int32 → Prop} (h : ∀ b : Bool, (b = true ↔ ∃ c, gt_has M c = true ∧ p < c ∧ c < p + gx_sp d) → post (gv_b b + (if gt_has M p = true then 1 else 0))) : wpY_data post (nI n, nI d, li, le, va, po) := by
  have hn := H.1
  have hd := gx_pt_d hp
  have L : ∀ f i (b : Bool), i ≤ n → n - i < f → (b = true ↔ ∃ j, j < i ∧ p < Q j ∧ Q j < p + gx_sp d) → wY_data_4 post (nI n) (nI d) li le va po f (gv_b b) (nI i) := by
    intro f
    induction f with
    | zero => intro i b _ h2; omega
    | succ f ih =>
      intro i b i1 i2
      have j1 : i < n → i + 1 ≤ n ∧ n - (i + 1) < f := fun z => ⟨by omega, by omega⟩
      intro hb
      unfold wY_data_4
      refine pk_le n i (fun z => ?_) (fun z => ?_)
      · have hb2 : b = true ↔ ∃ c, gt_has M c = true ∧ p < c ∧ c < p + gx_sp d := by
          rw [hb]
          constructor
          · rintro ⟨j, hj, a1, a2⟩
            exact ⟨Q j, gt_has_s (H.2.2.1 j (by omega)), a1, a2⟩
          · rintro ⟨c, a0, a1, a2⟩
            obtain ⟨v, hv⟩ := gt_has_t a0
            obtain ⟨j, hj, ej⟩ := H.2.2.2.2.1 c v hv
            exact ⟨j, by omega, by omega, by omega⟩
        have K := h b hb2
        refine gv_here H hp hq (fun j hj e => br_f (nI_pos (by omega)) ?_) (fun hno => br_t (by decide) ?_)
        · have : gt_has M p = true := by rw [← e]; exact gt_has_s (H.2.2.1 j hj)
          rw [if_pos this] at K; exact K
        · have : ¬ gt_has M p = true := fun w => by
            obtain ⟨v, hv⟩ := gt_has_t w
            obtain ⟨j, hj, ej⟩ := H.2.2.2.2.1 p v hv
            exact hno j hj ej
          rw [if_neg this, Int32.add_zero] at K; exact K
      · have hA := H.2.1 i z
        have hok := gy_Q_ok H z
        have hbl := gy_len_b (Q i)
        have same : ¬ (p < Q i ∧ Q i < p + gx_sp d) → wY_data_4 post (nI n) (nI d) li le va po f (gv_b b) (nI (i + 1)) := fun no => by
          refine ih (i + 1) b (j1 z).1 (j1 z).2 (hb.trans ⟨?_, ?_⟩)
          · rintro ⟨j, hj, a⟩; exact ⟨j, by omega, a⟩
          · rintro ⟨j, hj, a⟩
            by_cases t : j = i
            · rw [t] at a; exact absurd a no
            · exact ⟨j, by omega, a⟩
        refine gv_bg hA hok (by omega) hp hq (Nat.le_refl d) (fun y => br_f gv_1 ⟨vp_in_nI (by omega) (by omega), ?_⟩) (fun y => br_t rfl (nm_r (nI_1 i) (same (fun w => ?_))))
        · rw [gy_rng hp] at y
          have lr := gy_len_rng hok hp y.1 y.2
          refine pk_le (gy_len (Q i)) d (fun w => nm_r (nI_1 i) (same (fun t => ?_))) (fun w => nm_r (nI_1 i) ?_) (by rw [nI_clamp (by omega)]; exact hA.1) rfl (by omega) (by omega)
          · have := lr.mp w; omega
          · have ne : Q i ≠ p := fun t => by
              have := lr.mpr t
              omega
            exact ih (i + 1) true (j1 z).1 (j1 z).2 ⟨fun _ => ⟨i, by omega, by omega, y.2⟩, fun _ => rfl⟩
        · rw [gy_rng hp] at y
          exact y ⟨by omega, w.2⟩
  exact ⟨n + 1, L (n + 1) 0 false (Nat.zero_le _) (by omega) ⟨fun z => absurd z (by decide), fun ⟨j, hj, _⟩ => absurd hj (by omega)⟩⟩
theorem gv_n100 {t : Nat} (h : t < 2 ^ 30) : ¬ nI t - 51 = -100 := fun e => by
  have := gx_ti h
  rw [e, show (-100 : Int32).toInt = -100 by decide] at this
  omega
theorem gv_near (H : gy_Y M n li le va Q) (hp : gx_pt d p) (hq : gy_p po d p) {k g : Nat} (hk : k ≤ d) (hk3 : k < 3) (hg : g ≤ 101) {w : Int32} {W : Nat → Nat → Prop} (hW : ∀ a b, a ≤ 101 → b ≤ 101 → (((nI a - 51) - (nI b - 51)) * w ≤ 0 ↔ ¬ W a b)) (hT : ∀ a b c, W a b → ¬ W a c → ¬ W b c) (hI : ∀ a, ¬ W a a) {post : Int32 → Prop} (h1 : ∀ j, j < n → Q j / gx_sp k = p / gx_sp k → k < gy_len (Q j) → W (gy_dg (Q j) k) g → (∀ x, x < n → Q x / gx_sp k = p / gx_sp k → k < gy_len (Q x) → W (gy_dg (Q x) k) g → ¬ W (gy_dg (Q j) k) (gy_dg (Q x) k)) → post (nI (gy_dg (Q j) k) - 51)) (h0 : (∀ x, x < n → Q x / gx_sp k = p / gx_sp k → k < gy_len (Q x) → ¬ W (gy_dg (Q x) k) g) → post (-100)) : wpY_nearest post (nI n, nI d, li, le, va, po) (nI k) (nI g - 51) w := by
  have hn := H.1
  have L : ∀ f i (b : Int32), i ≤ n → n - i < f → ((b = -100 ∧ ∀ x, x < i → Q x / gx_sp k = p / gx_sp k → k < gy_len (Q x) → ¬ W (gy_dg (Q x) k) g) ∨ (∃ j, j < i ∧ Q j / gx_sp k = p / gx_sp k ∧ k < gy_len (Q j) ∧ W (gy_dg (Q j) k) g ∧ b = nI (gy_dg (Q j) k) - 51 ∧ (∀ x, x < i → Q x / gx_sp k = p / gx_sp k → k < gy_len (Q x) → W (gy_dg (Q x) k) g → ¬ W (gy_dg (Q j) k) (gy_dg (Q x) k)))) → wY_nearest_7 post (nI k) (nI g - 51) w (nI n) (nI d) li le va po f b (nI i) := by
    intro f
    induction f with
    | zero => intro i b _ h2; omega
    | succ f ih =>
      intro i b i1 i2 hb
      unfold wY_nearest_7
      rw [gv_ix i k]
      refine pk_le n i (fun z => ?_) (fun z => ⟨vp_in_nI (by omega) (by omega), fun x6 e6 => ?_⟩)
      · rcases hb with ⟨rfl, a⟩ | ⟨j, a1, a2, a3, a4, rfl, a5⟩
        · exact h0 (fun x hx => a x (by omega))
        · exact h1 j (by omega) a2 a3 a4 (fun x hx => a5 x (by omega))
      · have hA := H.2.1 i z
        have hok := gy_Q_ok H z
        have hbl := gy_len_b (Q i)
        have bi := gy_dg_b hok hk3
        have same : ¬ (Q i / gx_sp k = p / gx_sp k ∧ k < gy_len (Q i) ∧ W (gy_dg (Q i) k) g) → wY_nearest_63 post (wY_nearest_7 post (nI k) (nI g - 51) w (nI n) (nI d) li le va po f) (nI k) (nI g - 51) w b (nI i) x6 (nI n) (nI d) li le va po := fun no => by
          unfold wY_nearest_63 wY_nearest_64
          refine br_t rfl (nm_r (nI_1 i) (ih (i + 1) b (by omega) (by omega) ?_))
          rcases hb with ⟨eb, a⟩ | ⟨j, a1, a2, a3, a4, eb, a5⟩
          · refine Or.inl ⟨eb, fun x hx b1 b2 b3 => ?_⟩
            by_cases t : x = i
            · rw [t] at b1 b2 b3; exact no ⟨b1, b2, b3⟩
            · exact a x (by omega) b1 b2 b3
          · refine Or.inr ⟨j, by omega, a2, a3, a4, eb, fun x hx b1 b2 b3 => ?_⟩
            by_cases t : x = i
            · rw [t] at b1 b2 b3; exact absurd ⟨b1, b2, b3⟩ no
            · exact a5 x (by omega) b1 b2 b3
        refine gv_bg hA hok (by omega) hp hq hk (fun y => br_f gv_1 ⟨vp_in_nI (by omega) (by omega), ?_⟩) (fun y => br_t rfl (same (fun t => y t.1)))
        refine pk_le (gy_len (Q i)) k (fun v => same (fun t => by omega)) (fun v => ?_) (by rw [nI_clamp (by omega)]; exact hA.1) rfl (by omega) (by omega)
        have e7 : x6 = nI (gy_dg (Q i) k) - 51 := by rw [e6, nI_clamp (by omega)]; exact hA.2 k v
        subst e7
        rw [hW _ _ bi hg]
        refine br_c (fun s => same (fun t => s t.2.2)) (fun s => ?_)
        have s : W (gy_dg (Q i) k) g := Classical.not_not.mp s
        have new : (∀ x, x < i → Q x / gx_sp k = p / gx_sp k → k < gy_len (Q x) → W (gy_dg (Q x) k) g → ¬ W (gy_dg (Q i) k) (gy_dg (Q x) k)) → wY_nearest_7 post (nI k) (nI g - 51) w (nI n) (nI d) li le va po f (nI (gy_dg (Q i) k) - 51) (nI (i + 1)) := fun a => ih (i + 1) _ (by omega) (by omega) (Or.inr ⟨i, by omega, y, v, s, rfl, fun x hx b1 b2 b3 => by
          by_cases t : x = i
          · rw [t]; exact hI _
          · exact a x (by omega) b1 b2 b3⟩)
        unfold wY_nearest_64
        refine br_f gv_1 ?_
        rcases hb with ⟨eb, a⟩ | ⟨j, a1, a2, a3, a4, eb, a5⟩
        · exact br_t eb (nm_r (nI_1 i) (new (fun x hx b1 b2 b3 => absurd b3 (a x hx b1 b2))))
        · have bj := gy_dg_b (gy_Q_ok H (show j < n by omega)) hk3
          rw [eb]
          refine br_f (gv_n100 (by omega)) ?_
          rw [hW _ _ bj bi]
          refine br_c (fun r => nm_r (nI_1 i) (ih (i + 1) _ (by omega) (by omega) (Or.inr ⟨j, by omega, a2, a3, a4, rfl, fun x hx b1 b2 b3 => ?_⟩))) (fun r => nm_r (nI_1 i) (new (fun x hx b1 b2 b3 => hT _ _ _ (Classical.not_not.mp r) (a5 x hx b1 b2 b3))))
          by_cases t : x = i
          · rw [t]; exact r
          · exact a5 x (by omega) b1 b2 b3
  exact ⟨n + 1, L (n + 1) 0 (-100) (Nat.zero_le _) (by omega) (Or.inl ⟨rfl, fun x hx => absurd hx (by omega)⟩)⟩
theorem gv_order (hp : gx_pt d p) (hq : gy_p po d p) {i c : Nat} {fn : Int32} (hA : gy_at li le i c) (hc : gt_ok c) (hi : i < 60) {post : Int32 → Prop} (h1 : c < p → post (-1)) (h2 : c = p → post 0) (h3 : p < c → post 1) : wpY_order post (fn, nI d, li, le, va, po) (nI i) := by
  have hd := gx_pt_d hp
  have lc := gt_ok_lt hc
  have lp := gx_pt_lt hp
  have hs : 0 < gx_sp d := Nat.two_pow_pos _
  have hb := gy_len_b c
  have L : ∀ f k, k ≤ 3 → 3 - k < f → (∀ x, x < k → gy_dg c x = gy_dg p x) → wY_order_2 post (nI i) fn (nI d) li le va po f (nI k) := by
    intro f
    induction f with
    | zero => intro k _ h2; omega
    | succ f ih =>
      intro k k1 k2 hx
      unfold wY_order_2
      rw [gv_ix i k]
      refine pk_le 3 k (fun z => h2 (gy_all lc (by omega) (fun x hx' => hx x (by omega)))) (fun z => ⟨vp_in_nI (by omega) (by omega), ?_⟩)
      have bc := gy_dg_b hc (k := k) (by omega)
      have bp := gy_pd_b hp (k := k) (by omega)
      have S : wY_order_52 post (wY_order_2 post (nI i) fn (nI d) li le va po f) (nI i) (nI k) (nI (gy_dg c k) - 51) (nI (gy_dg p k) - 51) fn (nI d) li le va po := by
        unfold wY_order_52
        rw [gx_eq (by omega) (by omega), gx_le (by omega) (by omega)]
        refine br_c (fun y => nm_r (nI_1 k) (ih (k + 1) (by omega) (by omega) (fun x hx' => ?_))) (fun y => br_c (fun w => h3 (gy_lex (by omega) lc z (fun x hx' => (hx x hx').symm) (by omega))) (fun w => h1 (gy_lex lc (by omega) z hx (by omega))))
        by_cases t : x = k
        · rw [t]; exact y
        · exact hx x (by omega)
      have R : wY_order_32 post (wY_order_2 post (nI i) fn (nI d) li le va po f) (nI i) (nI k) (nI (gy_dg c k) - 51) fn (nI d) li le va po := by
        unfold wY_order_32
        refine pk_le d k (fun y => ?_) (fun y => ⟨vp_in_nI (by omega) (by omega), ?_⟩)
        · rw [gy_pd_out hp y z, ← gv_51] at S; exact S
        · rw [nI_clamp (by omega), hq k y]; exact S
      refine pk_le (gy_len c) k (fun y => ?_) (fun y => ⟨vp_in_nI (by omega) (by omega), ?_⟩) (by rw [nI_clamp (by omega)]; exact hA.1) rfl (by omega) (by omega)
      · rw [gy_dg_out y z, ← gv_51] at R; exact R
      · rw [nI_clamp (by omega), hA.2 k y]; exact R
  exact ⟨4, L 4 0 (by omega) (by omega) (fun x hx => absurd hx (by omega))⟩
theorem gv_earlier {i j a b : Nat} {fn fd : Int32} (hA : gy_at li le i a) (hB : gy_at li le j b) (ha : gt_ok a) (hb : gt_ok b) (hi : i < 60) (hj : j < 60) {post : Int32 → Prop} (h1 : a < b → post 1) (h0 : ¬ a < b → post 0) : wpY_earlier post (fn, fd, li, le, va, po) (nI i) (nI j) := by
  have la := gt_ok_lt ha
  have lb := gt_ok_lt hb
  have ba := gy_len_b a
  have bb := gy_len_b b
  have L : ∀ f k, k ≤ 3 → 3 - k < f → (∀ x, x < k → gy_dg a x = gy_dg b x) → wY_earlier_2 post (nI i) (nI j) fn fd li le va po f (nI k) := by
    intro f
    induction f with
    | zero => intro k _ h2; omega
    | succ f ih =>
      intro k k1 k2 hx
      unfold wY_earlier_2
      rw [gv_ix i k]
      refine pk_le 3 k (fun z => h0 (fun t => ?_)) (fun z => ⟨vp_in_nI (by omega) (by omega), ?_⟩)
      · have := gy_all la lb (fun x hx' => hx x (by omega))
        omega
      have b1 := gy_dg_b ha (k := k) (by omega)
      have b2 := gy_dg_b hb (k := k) (by omega)
      have S : wY_earlier_59 post (wY_earlier_2 post (nI i) (nI j) fn fd li le va po f) (nI i) (nI j) (nI k) (nI (gy_dg a k) - 51) (nI (gy_dg b k) - 51) fn fd li le va po := by
        unfold wY_earlier_59
        rw [gx_eq (by omega) (by omega), gx_le (by omega) (by omega)]
        refine br_c (fun y => nm_r (nI_1 k) (ih (k + 1) (by omega) (by omega) (fun x hx' => ?_))) (fun y => br_c (fun w => h0 ?_) (fun w => h1 (gy_lex la lb z hx (by omega))))
        · by_cases t : x = k
          · rw [t]; exact y
          · exact hx x (by omega)
        · have := gy_lex lb la z (fun x hx' => (hx x hx').symm) (by omega)
          omega
      have R : wY_earlier_32 post (wY_earlier_2 post (nI i) (nI j) fn fd li le va po f) (nI i) (nI j) (nI k) (nI (gy_dg a k) - 51) fn fd li le va po := by
        unfold wY_earlier_32
        rw [gv_ix j k]
        refine ⟨vp_in_nI (by omega) (by omega), pk_le (gy_len b) k (fun y => ?_) (fun y => ⟨vp_in_nI (by omega) (by omega), ?_⟩) (by rw [nI_clamp (by omega)]; exact hB.1) rfl (by omega) (by omega)⟩
        · rw [gy_dg_out y z, ← gv_51] at S; exact S
        · rw [nI_clamp (by omega), hB.2 k y]; exact S
      refine pk_le (gy_len a) k (fun y => ?_) (fun y => ⟨vp_in_nI (by omega) (by omega), ?_⟩) (by rw [nI_clamp (by omega)]; exact hA.1) rfl (by omega) (by omega)
      · rw [gy_dg_out y z, ← gv_51] at R; exact R
      · rw [nI_clamp (by omega), hA.2 k y]; exact R
  exact ⟨4, L 4 0 (by omega) (by omega) (fun x hx => absurd hx (by omega))⟩
theorem gv_query (H : gy_Y M n li le va Q) (hp : gx_pt d p) (hq : gy_p po d p) {post : Int32 → Prop} (h1 : ∀ j, j < n → p < Q j → (∀ x, x < n → p < Q x → Q j ≤ Q x) → post (va j)) (h0 : (∀ x, x < n → ¬ p < Q x) → post 0) : wpY_query post (nI n, nI d, li, le, va, po) := by
  have hn := H.1
  have L : ∀ f i (b : Int32), i ≤ n → n - i < f → ((b = -1 ∧ ∀ x, x < i → ¬ p < Q x) ∨ (∃ j, j < i ∧ b = nI j ∧ p < Q j ∧ ∀ x, x < i → p < Q x → Q j ≤ Q x)) → wY_query_4 post (nI n) (nI d) li le va po f b (nI i) := by
    intro f
    induction f with
    | zero => intro i b _ h2; omega
    | succ f ih =>
      intro i b i1 i2 hb
      unfold wY_query_4
      refine pk_le n i (fun z => ?_) (fun z => ?_)
      · rcases hb with ⟨rfl, a⟩ | ⟨j, a1, rfl, a2, a3⟩
        · exact br_f gv_m1 (h0 (fun x hx => a x (by omega)))
        · refine br_t (nI_pos' (by omega)) ⟨vp_in_nI (by omega) (by omega), ?_⟩
          rw [nI_clamp (by omega)]
          exact h1 j (by omega) a2 (fun x hx => a3 x (by omega))
      · have same : ¬ p < Q i → wY_query_4 post (nI n) (nI d) li le va po f b (nI (i + 1)) := fun no => by
          refine ih (i + 1) b (by omega) (by omega) ?_
          rcases hb with ⟨eb, a⟩ | ⟨j, a1, eb, a2, a3⟩
          · refine Or.inl ⟨eb, fun x hx => ?_⟩
            by_cases t : x = i
            · rw [t]; exact no
            · exact a x (by omega)
          · refine Or.inr ⟨j, by omega, eb, a2, fun x hx b1 => ?_⟩
            by_cases t : x = i
            · rw [t] at b1; exact absurd b1 no
            · exact a3 x (by omega) b1
        have hA := H.2.1 i z
        have hok := gy_Q_ok H z
        refine gv_order hp hq hA hok (by omega) (fun y => br_t (by decide) (nm_r (nI_1 i) (same (by omega)))) (fun y => br_t (by decide) (nm_r (nI_1 i) (same (by omega)))) (fun y => br_f (by decide) ?_)
        rcases hb with ⟨eb, a⟩ | ⟨j, a1, eb, a2, a3⟩
        · rw [eb]
          refine br_t (by decide) (nm_r (nI_1 i) (ih (i + 1) _ (by omega) (by omega) (Or.inr ⟨i, by omega, rfl, y, fun x hx b1 => ?_⟩)))
          by_cases t : x = i
          · rw [t]; exact Nat.le_refl _
          · exact absurd b1 (a x (by omega))
        · rw [eb]
          have hj : j < n := by omega
          refine br_f (nI_pos (by omega)) (gv_earlier hA (H.2.1 j hj) hok (gy_Q_ok H hj) (by omega) (by omega) (fun w => br_f gv_1 (nm_r (nI_1 i) (ih (i + 1) _ (by omega) (by omega) (Or.inr ⟨i, by omega, rfl, y, fun x hx b1 => ?_⟩)))) (fun w => br_t rfl (nm_r (nI_1 i) (ih (i + 1) _ (by omega) (by omega) (Or.inr ⟨j, by omega, rfl, a2, fun x hx b1 => ?_⟩)))))
          · by_cases t : x = i
            · rw [t]; exact Nat.le_refl _
            · have := a3 x (by omega) b1
              omega
          · by_cases t : x = i
            · rw [t]; omega
            · exact a3 x (by omega) b1
  exact ⟨n + 1, L (n + 1) 0 (-1) (Nat.zero_le _) (by omega) (Or.inl ⟨rfl, fun x hx => absurd hx (by omega)⟩)⟩
theorem gv_before (H : gy_Y M n li le va Q) (hp : gx_pt d p) (hq : gy_p po d p) {post : Int32 → Prop} (h : post (nI (gt_ct M p))) : wpY_before post (nI n, nI d, li, le, va, po) := by
  have hn := H.1
  have lp := gx_pt_lt hp
  have c1 : gt_cn (fun i => decide (Q i < p)) n = gt_ct M p := by
    have e1 := gy_ct H (fun c => decide (c < p))
    have e2 : gt_cn (fun c => gt_has M c && decide (c < p)) 2097152 = gt_cn (fun c => gt_has M c && decide (c < p)) p := gt_cn_same (by omega) (fun c a b => by
      show (gt_has M c && decide (c < p)) = false
      rw [decide_eq_false (by omega), Bool.and_false])
    have e3 : gt_cn (fun c => gt_has M c && decide (c < p)) p = gt_ct M p := gt_cn_eq (fun c hc => by
      show (gt_has M c && decide (c < p)) = gt_has M c
      rw [decide_eq_true hc, Bool.and_true])
    exact e1.trans (e2.trans e3)
  have L : ∀ f i, i ≤ n → n - i < f → wY_before_4 post (nI n) (nI d) li le va po f (nI (gt_cn (fun i => decide (Q i < p)) i)) (nI i) := by
    intro f
    induction f with
    | zero => intro i _ h2; omega
    | succ f ih =>
      intro i i1 i2
      unfold wY_before_4
      refine pk_le n i (fun z => ?_) (fun z => ?_)
      · have e : i = n := by omega
        rw [e, c1]; exact h
      · have I := ih (i + 1) (by omega) (by omega)
        have no : ¬ Q i < p → wY_before_4 post (nI n) (nI d) li le va po f (nI (gt_cn (fun i => decide (Q i < p)) i)) (nI (i + 1)) := fun y => by
          rw [gt_cn_f (f := fun i => decide (Q i < p)) (decide_eq_false y)] at I
          exact I
        refine gv_order hp hq (H.2.1 i z) (gy_Q_ok H z) (by omega) (fun y => br_f gv_m1 (nm_r (nI_1 _) (nm_r (nI_1 i) ?_))) (fun y => br_t (by decide) (nm_r (nI_1 i) (no (by omega)))) (fun y => br_t (by decide) (nm_r (nI_1 i) (no (by omega))))
        rw [gt_cn_t (f := fun i => decide (Q i < p)) (decide_eq_true y)] at I
        exact I
  exact ⟨n + 1, L (n + 1) 0 (Nat.zero_le _) (by omega)⟩
end
