/-! Y's merge: the twin, the copy of a node, both loops -/
theorem gt_cn_sub {f g : Nat → Bool} (h : ∀ c, f c = true → g c = true) (n : Nat) : gt_cn f n ≤ gt_cn g n := by
  induction n with
  | zero => exact Nat.le_refl _
  | succ n ih =>
    cases e : f n with
    | false =>
      have := gt_cn_mono g (a := n) (b := n + 1) (by omega)
      rw [gt_cn_f e]; omega
    | true => rw [gt_cn_t e, gt_cn_t (h n e)]; omega
theorem gt_cn_subs {f g : Nat → Bool} (h : ∀ c, f c = true → g c = true) {x : Nat} (hf : f x = false) (hg : g x = true) : ∀ n, x < n → gt_cn f n < gt_cn g n := by
  intro n
  induction n with
  | zero => intro hx; omega
  | succ n ih =>
    intro hx
    by_cases e : x = n
    · rw [e] at hf hg
      have := gt_cn_sub h n
      rw [gt_cn_f hf, gt_cn_t hg]; omega
    · have := ih (by omega)
      cases k : f n with
      | false =>
        have := gt_cn_mono g (a := n) (b := n + 1) (by omega)
        rw [gt_cn_f k]; omega
      | true => rw [gt_cn_t k, gt_cn_t (h n k)]; omega
theorem gt_cn_win (F : Nat → Bool) (p e : Nat) {B : Nat} (hB : p + e ≤ B) : gt_cn (fun c => F c && decide (p ≤ c ∧ c < p + e)) B = gt_cn (fun j => F (p + j)) e := by
  have e1 : gt_cn (fun c => F c && decide (p ≤ c ∧ c < p + e)) B = gt_cn (fun c => F c && decide (p ≤ c ∧ c < p + e)) (p + e) := gt_cn_same hB (fun c h1 h2 => by
    show (F c && decide (p ≤ c ∧ c < p + e)) = false
    rw [decide_eq_false (by omega), Bool.and_false])
  have e2 : gt_cn (fun c => F c && decide (p ≤ c ∧ c < p + e)) p = gt_cn (fun c => F c && decide (p ≤ c ∧ c < p + e)) 0 := gt_cn_same (Nat.zero_le _) (fun c h1 h2 => by
    show (F c && decide (p ≤ c ∧ c < p + e)) = false
    rw [decide_eq_false (by omega), Bool.and_false])
  have e3 : gt_cn (fun c => F c && decide (p ≤ c ∧ c < p + e)) 0 = 0 := rfl
  rw [e1, gt_cn_add, e2, e3, Nat.zero_add]
  refine gt_cn_eq (fun j hj => ?_)
  show (F (p + j) && decide (p ≤ p + j ∧ p + j < p + e)) = F (p + j)
  rw [decide_eq_true (by omega), Bool.and_true]
theorem gy_sb_len {d p t c : Nat} (h : gx_pt (d + 1) p) (h1 : 1 ≤ t) (h2 : t ≤ 101) (hk : gt_ok c) (hc : p ≤ c) (he : c < p + gx_sp (d + 1)) : gy_len (c + gx_sb (d + 1) p t - p) = gy_len c := by
  have hd := gx_pt_d h
  have a := gy_len_c c
  have b := gy_len_c (c + gx_sb (d + 1) p t - p)
  revert b
  unfold gx_sb
  have : d = 0 ∨ d = 1 ∨ d = 2 := by omega
  rcases this with e | e | e <;> subst e
  · rw [gx_sp1] at he ⊢; unfold gx_pt at h; unfold gt_ok at hk; omega
  · rw [gx_sp2] at he ⊢; unfold gx_pt at h; unfold gt_ok at hk; omega
  · rw [gx_sp3] at he ⊢; unfold gx_pt at h; unfold gt_ok at hk; omega
theorem gy_sb_dg {d p t c k : Nat} (h : gx_pt (d + 1) p) (h1 : 1 ≤ t) (h2 : t ≤ 101) (hk : gt_ok c) (hc : p ≤ c) (he : c < p + gx_sp (d + 1)) (h3 : k < 3) : gy_dg (c + gx_sb (d + 1) p t - p) k = if k = d then t else gy_dg c k := by
  have hd := gx_pt_d h
  unfold gx_sb
  have : d = 0 ∨ d = 1 ∨ d = 2 := by omega
  refine gy_3 (P := fun k => gy_dg (c + (p + t * gx_sp (d + 1) - p / gx_sp (d + 1) % 128 * gx_sp (d + 1)) - p) k = if k = d then t else gy_dg c k) h3 ?_ ?_ ?_
  · rcases this with e | e | e <;> subst e
    · rw [gx_sp1] at he ⊢; rw [gy_dg0, if_pos rfl]; unfold gx_pt at h; unfold gt_ok at hk; omega
    · rw [gx_sp2] at he ⊢; rw [gy_dg0, if_neg (by decide), gy_dg0]; unfold gx_pt at h; unfold gt_ok at hk; omega
    · rw [gx_sp3] at he ⊢; rw [gy_dg0, if_neg (by decide), gy_dg0]; unfold gx_pt at h; unfold gt_ok at hk; omega
  · rcases this with e | e | e <;> subst e
    · rw [gx_sp1] at he ⊢; rw [gy_dg1, if_neg (by decide), gy_dg1]; unfold gx_pt at h; unfold gt_ok at hk; omega
    · rw [gx_sp2] at he ⊢; rw [gy_dg1, if_pos rfl]; unfold gx_pt at h; unfold gt_ok at hk; omega
    · rw [gx_sp3] at he ⊢; rw [gy_dg1, if_neg (by decide), gy_dg1]; unfold gx_pt at h; unfold gt_ok at hk; omega
  · rcases this with e | e | e <;> subst e
    · rw [gx_sp1] at he ⊢; rw [gy_dg2, if_neg (by decide), gy_dg2]; unfold gx_pt at h; unfold gt_ok at hk; omega
    · rw [gx_sp2] at he ⊢; rw [gy_dg2, if_neg (by decide), gy_dg2]; unfold gx_pt at h; unfold gt_ok at hk; omega
    · rw [gx_sp3] at he ⊢; rw [gy_dg2, if_pos rfl]; unfold gx_pt at h; unfold gt_ok at hk; omega
section
variable {M : Nat → Option Int32} {n : Nat} {li le va po : Nat → Int32} {Q : Nat → Nat} {d p : Nat} {fd : Int32}
theorem gv_twin (H : gy_Y M n li le va Q) {i t tc : Nat} (hi : i < n) (htc : gt_ok tc) (hl : gy_len tc = gy_len (Q i)) (hdg : ∀ k, k < 3 → gy_dg tc k = if k = d then t else gy_dg (Q i) k) (hd : d < 3) {post : Int32 → Prop} (h1 : ∀ j, j < n → Q j = tc → post (nI j)) (h0 : (∀ j, j < n → Q j ≠ tc) → post (-1)) : wpY_twin post (nI n, fd, li, le, va, po) (nI i) (nI d) (nI t - 51) := by
  have hn := H.1
  have hAi := H.2.1 i hi
  have hbi := gy_len_b (Q i)
  have eli : le (nI i).toNatClampNeg = nI (gy_len (Q i)) := by rw [nI_clamp (by omega)]; exact hAi.1
  -- the inner loop once 'same' is lost
  have Z : ∀ (J : Int32 → Prop) (j : Nat), J (nI (j + 1)) → ∀ f k, k ≤ gy_len (Q i) → gy_len (Q i) - k < f → wY_twin_38 post J (nI i) (nI d) (nI t - 51) (nI j) (nI n) fd li le va po f 0 (nI k) := by
    intro J j hJ f
    induction f with
    | zero => intro k _ h2; omega
    | succ f ih =>
      intro k k1 k2
      unfold wY_twin_38
      refine ⟨vp_in_nI (by omega) (by omega), pk_le (gy_len (Q i)) k (fun z => br_t rfl (nm_r (nI_1 j) hJ)) (fun z => br_t rfl (nm_r (nI_1 k) (ih (k + 1) (by omega) (by omega)))) eli rfl (by omega) (by omega)⟩
  have O : ∀ (J : Int32 → Prop) (j : Nat), j < n → gy_len (Q j) = gy_len (Q i) → (Q j ≠ tc → J (nI (j + 1))) → ∀ f k, k ≤ gy_len (Q i) → gy_len (Q i) - k < f → (∀ x, x < k → gy_dg (Q j) x = gy_dg tc x) → wY_twin_38 post J (nI i) (nI d) (nI t - 51) (nI j) (nI n) fd li le va po f 1 (nI k) := by
    intro J j hj hlj hJ f
    have hAj := H.2.1 j hj
    have okj := gy_Q_ok H hj
    have oki := gy_Q_ok H hi
    induction f with
    | zero => intro k _ h2; omega
    | succ f ih =>
      intro k k1 k2 hx
      unfold wY_twin_38
      rw [gv_ix j k, gv_ix i k]
      refine ⟨vp_in_nI (by omega) (by omega), pk_le (gy_len (Q i)) k (fun z => br_f gv_1 (h1 j hj (gy_ext okj htc (by omega) (fun x hx' => hx x (by omega))))) (fun z => br_f gv_1 ⟨vp_in_nI (by omega) (by omega), ?_⟩) eli rfl (by omega) (by omega)⟩
      have e1 : li (nI (j * 3 + k)).toNatClampNeg = nI (gy_dg (Q j) k) - 51 := by rw [nI_clamp (by omega)]; exact hAj.2 k (by omega)
      have e2 : li (nI (i * 3 + k)).toNatClampNeg = nI (gy_dg (Q i) k) - 51 := by rw [nI_clamp (by omega)]; exact hAi.2 k (by omega)
      have b1 := gy_dg_b okj (k := k) (by omega)
      have b2 := gy_dg_b htc (k := k) (by omega)
      have e3 := hdg k (by omega)
      have S : wY_twin_87 post J (wY_twin_38 post J (nI i) (nI d) (nI t - 51) (nI j) (nI n) fd li le va po f) (nI i) (nI d) (nI t - 51) (nI j) (nI k) (nI (gy_dg tc k) - 51) (nI (gy_dg (Q j) k) - 51) (nI n) fd li le va po := by
        unfold wY_twin_87
        rw [gx_eq (by omega) (by omega)]
        refine br_c (fun y => nm_r (nI_1 k) (ih (k + 1) (by omega) (by omega) (fun x hx' => ?_))) (fun y => nm_r (nI_1 k) (Z J j (hJ (fun t => y (by rw [t]))) f (k + 1) (by omega) (by omega)))
        by_cases w : x = k
        · rw [w]; exact y
        · exact hx x (by omega)
      rw [e1, e2]
      refine pk_eq k d (fun y => ?_) (fun y => ⟨vp_in_nI (by omega) (by omega), ?_⟩)
      · rw [if_pos y] at e3; rw [e3] at S; exact S
      · rw [if_neg y] at e3; rw [e3] at S; exact S
  have L : ∀ f j, j ≤ n → n - j < f → (∀ x, x < j → Q x ≠ tc) → wY_twin_3 post (nI i) (nI d) (nI t - 51) (nI n) fd li le va po f (nI j) := by
    intro f
    induction f with
    | zero => intro j _ h2; omega
    | succ f ih =>
      intro j j1 j2 hx
      unfold wY_twin_3
      refine pk_le n j (fun z => h0 (fun x hx' => hx x (by omega))) (fun z => ⟨vp_in_nI (by omega) (by omega), vp_in_nI (by omega) (by omega), ?_⟩)
      have hAj := H.2.1 j z
      have hbj := gy_len_b (Q j)
      have go : Q j ≠ tc → wY_twin_3 post (nI i) (nI d) (nI t - 51) (nI n) fd li le va po f (nI (j + 1)) := fun ne => ih (j + 1) (by omega) (by omega) (fun x hx' => by
        by_cases w : x = j
        · rw [w]; exact ne
        · exact hx x (by omega))
      exact pk_eq (gy_len (Q j)) (gy_len (Q i)) (fun y => ⟨4, O _ j z y go 4 0 (by omega) (by omega) (fun x hx' => absurd hx' (by omega))⟩) (fun y => ⟨4, Z _ j (go (fun w => y (by rw [w]; exact hl))) 4 0 (by omega) (by omega)⟩) (by rw [nI_clamp (by omega)]; exact hAj.1) eli (by omega) (by omega)
  exact ⟨n + 1, L (n + 1) 0 (Nat.zero_le _) (by omega) (fun x hx => absurd hx (by omega))⟩
theorem gv_place (H : gy_Y M n li le va Q) {i t tc : Nat} (hi : i < n) (htc : gt_ok tc) (hl : gy_len tc = gy_len (Q i)) (hdg : ∀ k, k < 3 → gy_dg tc k = if k = d then t else gy_dg (Q i) k) (hd : d < 3) (hr : M tc = none → n < 60) {post : SY → Prop} (h : ∀ n' li' le' va' Q', gy_Y (gt_up M tc (va i)) n' li' le' va' Q' → (∀ j, j < n → Q' j = Q j) → n ≤ n' → post (nI n', nI (d + 1), li', le', va', po)) : wpY_place post (nI n, nI (d + 1), li, le, va, po) (nI i) (nI t - 51) := by
  have hn := H.1
  have hAi := H.2.1 i hi
  have hbi := gy_len_b (Q i)
  unfold wpY_place
  dsimp only
  rw [nI_pred]
  refine gv_twin H hi htc hl hdg hd (fun j hj e => br_t (nI_pos' (by omega)) ⟨vp_in_nI (by omega) (by omega), vp_in_nI (by omega) (by omega), nm_e ?_⟩) (fun hno => br_f gv_m1 ⟨4, ?_⟩)
  · rw [nI_clamp (by omega), nI_clamp (by omega)]
    have hY := gy_Y_set H hj (va i)
    rw [e] at hY
    exact h _ _ _ _ _ hY (fun _ _ => rfl) (Nat.le_refl _)
  · have hN : M tc = none := by
      cases e : M tc with
      | none => rfl
      | some w =>
        obtain ⟨j, hj, ej⟩ := H.2.2.2.2.1 tc w e
        exact absurd ej (hno j hj)
    have h60 := hr hN
    have L : ∀ f k (la : Nat → Int32), k ≤ 3 → 3 - k < f → (∀ x, x < n * 3 → la x = li x) → (∀ y, y < k → la (n * 3 + y) = if y = d then nI t - 51 else li (i * 3 + y)) → wY_place_25 post (nI i) (nI t - 51) (nI n) (nI n) (nI (d + 1)) f (nI k) la le va po := by
      intro f
      induction f with
      | zero => intro k la _ h2; omega
      | succ f ih =>
        intro k la k1 k2 a1 a2
        unfold wY_place_25
        rw [gv_ix n k, gv_ix i k, nI_pred]
        refine pk_le 3 k (fun z => ⟨vp_in_nI (by omega) (by omega), vp_in_nI (by omega) (by omega), nm_e (nm_r (nI_1 n) ⟨vp_in_nI (by omega) (by omega), vp_in_nI (by omega) (by omega), nm_e ?_⟩)⟩) (fun z => pk_eq k d (fun y => ⟨vp_in_nI (by omega) (by omega), nm_e (nm_r (nI_1 k) ?_)⟩) (fun y => ⟨vp_in_nI (by omega) (by omega), vp_in_nI (by omega) (by omega), nm_e (nm_r (nI_1 k) ?_)⟩))
        · rw [nI_clamp (by omega), nI_clamp (by omega)]
          refine h _ _ _ _ _ (gy_Y_new H hN htc h60 a1 (fun j hj => pk_un (by omega)) (fun j hj => pk_un (by omega)) ⟨?_, fun x hx => ?_⟩ pk_us) (fun j hj => gy_q_n (by omega)) (by omega)
          · rw [pk_us, hl]; exact hAi.1
          · rw [a2 x (by omega), hdg x (by omega)]
            by_cases w : x = d
            · rw [if_pos w, if_pos w]
            · rw [if_neg w, if_neg w]; exact hAi.2 x (by omega)
        · rw [nI_clamp (by omega)]
          refine ih (k + 1) _ (by omega) (by omega) (fun x hx => ?_) (fun x hx => ?_)
          · rw [pk_un (by omega)]; exact a1 x hx
          · by_cases w : x = k
            · rw [w, pk_us, if_pos y]
            · rw [pk_un (by omega)]; exact a2 x (by omega)
        · rw [nI_clamp (by omega), nI_clamp (by omega)]
          refine ih (k + 1) _ (by omega) (by omega) (fun x hx => ?_) (fun x hx => ?_)
          · rw [pk_un (by omega)]; exact a1 x hx
          · by_cases w : x = k
            · rw [w, pk_us, if_neg y]; exact a1 _ (by omega)
            · rw [pk_un (by omega)]; exact a2 x (by omega)
    exact L 4 0 li (by omega) (by omega) (fun _ _ => rfl) (fun y hy => absurd hy (by omega))
end
