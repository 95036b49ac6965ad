/-! Y's kill -/
section
variable {la ea ua po : Nat → Int32} {fn fd : Int32}
theorem gv_kc {post : Int32 → SY → Prop} {J : Int32 → Int32 → (Nat → Int32) → (Nat → Int32) → (Nat → Int32) → (Nat → Int32) → Prop} {l i : Nat} (hl : l ≤ i) (hi : i < 60) (h : ∀ lb : Nat → Int32, (∀ x, x < l * 3 → lb x = la x) → (∀ x, i * 3 + 3 ≤ x → lb x = la x) → (∀ k, k < 3 → lb (l * 3 + k) = la (i * 3 + k)) → J (nI (l + 1)) (nI (i + 1)) lb (upd ea l (ea i)) (upd ua l (ua i)) po) : ∀ f k (lb : Nat → Int32), k ≤ 3 → 3 - k < f → (∀ x, x < l * 3 → lb x = la x) → (∀ x, i * 3 ≤ x → lb x = la x) → (∀ y, y < k → lb (l * 3 + y) = la (i * 3 + y)) → wY_kill_26 post J (nI l) (nI i) fn fd f (nI k) lb ea ua po := by
  intro f
  induction f with
  | zero => intro k lb _ h2; omega
  | succ f ih =>
    intro k lb k1 k2 a1 a2 a3
    unfold wY_kill_26
    rw [gv_ix i k, gv_ix l k]
    refine pk_le 3 k (fun z => ⟨vp_in_nI (by omega) (by omega), vp_in_nI (by omega) (by omega), nm_e ⟨vp_in_nI (by omega) (by omega), vp_in_nI (by omega) (by omega), nm_e (nm_r (nI_1 l) (nm_r (nI_1 i) ?_))⟩⟩) (fun z => ⟨vp_in_nI (by omega) (by omega), vp_in_nI (by omega) (by omega), nm_e (nm_r (nI_1 k) ?_)⟩)
    · rw [nI_clamp (by omega), nI_clamp (by omega)]
      exact h lb a1 (fun x hx => a2 x (by omega)) (fun y hy => a3 y (by omega))
    · rw [nI_clamp (by omega), nI_clamp (by omega)]
      refine ih (k + 1) _ (by omega) (by omega) (fun x hx => ?_) (fun x hx => ?_) (fun y hy => ?_)
      · rw [pk_un (by omega)]; exact a1 x hx
      · by_cases t : x = l * 3 + k
        · have e : l = i := by omega
          rw [t, pk_us, e]; exact a2 _ (by omega)
        · rw [pk_un t]; exact a2 x hx
      · by_cases t : y = k
        · rw [t, pk_us]; exact a2 _ (by omega)
        · rw [pk_un (by omega)]; exact a3 y (by omega)
end
section
variable {M : Nat → Option Int32} {n : Nat} {li le va po : Nat → Int32} {Q : Nat → Nat} {d p : Nat}
theorem gv_kill (H : gy_Y M n li le va Q) (hp : gx_pt d p) (hq : gy_p po d p) {post : Int32 → SY → Prop} (h : ∀ l la ea ua Q', l ≤ n → gy_Y (gt_cut M p (p + gx_sp d)) l la ea ua Q' → post (nI (n - l)) (nI l, nI d, la, ea, ua, po)) : wpY_kill post (nI n, nI d, li, le, va, po) := by
  have hn := H.1
  have L : ∀ f i l (la ea ua : Nat → Int32) (s : Nat → Nat), i ≤ n → n - i < f → l ≤ i →
      (∀ j, j < l → gy_at la ea j (Q (s j)) ∧ ua j = va (s j) ∧ s j < i ∧ ¬ (p ≤ Q (s j) ∧ Q (s j) < p + gx_sp d)) →
      (∀ a b, a < b → b < l → s a < s b) → (∀ x, x < i → ¬ (p ≤ Q x ∧ Q x < p + gx_sp d) → ∃ j, j < l ∧ s j = x) →
      (∀ x, i * 3 ≤ x → la x = li x) → (∀ x, i ≤ x → ea x = le x) → (∀ x, i ≤ x → ua x = va x) →
      wY_kill_4 post (nI n) (nI d) f (nI l) (nI i) la ea ua po := by
    intro f
    induction f with
    | zero => intro i l la ea ua s _ h2; omega
    | succ f ih =>
      intro i l la ea ua s i1 i2 hli A B C D1 D2 D3
      unfold wY_kill_4
      refine pk_le n i (fun z => nm_r (pk_sub (by omega)) ?_) (fun z => ?_)
      · refine h l la ea ua (fun j => Q (s j)) (by omega) ⟨by omega, fun j hj => (A j hj).1, fun j hj => ?_, fun a b ab hb => ?_, fun c v hc => ?_, fun c v hc => ?_⟩
        · obtain ⟨_, a2, a3, a4⟩ := A j hj
          show gt_cut M p (p + gx_sp d) (Q (s j)) = some (ua j)
          rw [gt_cut_o a4, a2]; exact H.2.2.1 _ (by omega)
        · exact H.2.2.2.1 _ _ (B a b ab hb) (by have := (A b hb).2.2.1; omega)
        · by_cases w : p ≤ c ∧ c < p + gx_sp d
          · rw [gt_cut_i w] at hc; exact absurd hc (by simp)
          · rw [gt_cut_o w] at hc
            obtain ⟨x, hx, ex⟩ := H.2.2.2.2.1 c v hc
            obtain ⟨j, hj, ej⟩ := C x (by omega) (by rw [ex]; exact w)
            exact ⟨j, hj, (congrArg Q ej).trans ex⟩
        · by_cases w : p ≤ c ∧ c < p + gx_sp d
          · rw [gt_cut_i w] at hc; exact absurd hc (by simp)
          · rw [gt_cut_o w] at hc; exact H.2.2.2.2.2 c v hc
      · have hA0 := H.2.1 i z
        have hb := gy_len_b (Q i)
        have hA : gy_at la ea i (Q i) := ⟨by rw [D2 i (Nat.le_refl _)]; exact hA0.1, fun k hk => by rw [D1 _ (by omega)]; exact hA0.2 k hk⟩
        refine gv_bg hA (gy_Q_ok H z) (by omega) hp hq (Nat.le_refl d) (fun y => br_f gv_1 (nm_r (nI_1 i) ?_)) (fun y => br_t rfl ⟨4, ?_⟩)
        · rw [gy_rng hp] at y
          refine ih (i + 1) l la ea ua s (by omega) (by omega) (by omega) (fun j hj => ?_) B (fun x hx hr => ?_) (fun x hx => D1 x (by omega)) (fun x hx => D2 x (by omega)) (fun x hx => D3 x (by omega))
          · obtain ⟨a1, a2, a3, a4⟩ := A j hj
            exact ⟨a1, a2, by omega, a4⟩
          · by_cases t : x = i
            · rw [t] at hr; exact absurd y hr
            · exact C x (by omega) hr
        · rw [gy_rng hp] at y
          refine gv_kc hli (by omega) (fun lb b1 b2 b3 => ?_) 4 0 la (by omega) (by omega) (fun _ _ => rfl) (fun _ _ => rfl) (fun x hx => absurd hx (by omega))
          refine ih (i + 1) (l + 1) lb _ _ (gy_q s l i) (by omega) (by omega) (by omega) (fun j hj => ?_) (fun a b ab hb => ?_) (fun x hx hr => ?_) (fun x hx => ?_) (fun x hx => ?_) (fun x hx => ?_)
          · by_cases t : j = l
            · rw [t, gy_q_s, pk_us]
              exact ⟨⟨by rw [pk_us]; exact hA.1, fun k hk => by rw [b3 k (by omega)]; exact hA.2 k hk⟩, D3 i (Nat.le_refl _), by omega, y⟩
            · rw [gy_q_n t, pk_un t]
              obtain ⟨a1, a2, a3, a4⟩ := A j (by omega)
              have hb2 := gy_len_b (Q (s j))
              exact ⟨⟨by rw [pk_un t]; exact a1.1, fun k hk => by rw [b1 _ (by omega)]; exact a1.2 k hk⟩, a2, by omega, a4⟩
          · rw [gy_q_n (by omega : a ≠ l)]
            by_cases t : b = l
            · rw [t, gy_q_s]; exact (A a (by omega)).2.2.1
            · rw [gy_q_n t]; exact B a b ab (by omega)
          · by_cases t : x = i
            · exact ⟨l, by omega, by rw [gy_q_s, t]⟩
            · obtain ⟨j, hj, ej⟩ := C x (by omega) hr
              exact ⟨j, by omega, by rw [gy_q_n (by omega)]; exact ej⟩
          · rw [b2 x (by omega)]; exact D1 x (by omega)
          · rw [pk_un (by omega)]; exact D2 x (by omega)
          · rw [pk_un (by omega)]; exact D3 x (by omega)
  exact ⟨n + 1, L (n + 1) 0 0 li le va (fun _ => 0) (Nat.zero_le _) (by omega) (Nat.le_refl _) (fun j hj => absurd hj (by omega)) (fun a b _ hb => absurd hb (by omega)) (fun x hx => absurd hx (by omega)) (fun _ _ => rfl) (fun _ _ => rfl) (fun _ _ => rfl)⟩
end
