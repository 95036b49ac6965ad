/-! Y's nodes: digits and lengths of a code -/
def gy_dg (c k : Nat) : Nat := if k = 0 then c / 16384 else if k = 1 then c / 128 % 128 else c % 128
def gy_len (c : Nat) : Nat := if c % 128 ≠ 0 then 3 else if c / 128 % 128 ≠ 0 then 2 else 1
theorem gy_dg0 (c : Nat) : gy_dg c 0 = c / 16384 := rfl
theorem gy_dg1 (c : Nat) : gy_dg c 1 = c / 128 % 128 := rfl
theorem gy_dg2 (c : Nat) : gy_dg c 2 = c % 128 := rfl
theorem gy_len_c (c : Nat) : (c % 128 ≠ 0 ∧ gy_len c = 3) ∨ (c % 128 = 0 ∧ c / 128 % 128 ≠ 0 ∧ gy_len c = 2) ∨ (c % 128 = 0 ∧ c / 128 % 128 = 0 ∧ gy_len c = 1) := by
  unfold gy_len
  by_cases a : c % 128 ≠ 0
  · exact Or.inl ⟨a, if_pos a⟩
  · by_cases b : c / 128 % 128 ≠ 0
    · exact Or.inr (Or.inl ⟨by omega, b, by rw [if_neg a, if_pos b]⟩)
    · exact Or.inr (Or.inr ⟨by omega, by omega, by rw [if_neg a, if_neg b]⟩)
theorem gy_3 {k : Nat} {P : Nat → Prop} (h : k < 3) (h0 : P 0) (h1 : P 1) (h2 : P 2) : P k := by
  have : k = 0 ∨ k = 1 ∨ k = 2 := by omega
  rcases this with e | e | e <;> rw [e] <;> assumption
theorem gy_len_b (c : Nat) : 1 ≤ gy_len c ∧ gy_len c ≤ 3 := by
  have := gy_len_c c; omega
theorem gy_dg_b {c k : Nat} (h : gt_ok c) (hk : k < 3) : gy_dg c k ≤ 101 := by
  refine gy_3 (P := fun k => gy_dg c k ≤ 101) hk ?_ ?_ ?_
  · rw [gy_dg0]; unfold gt_ok at h; omega
  · rw [gy_dg1]; unfold gt_ok at h; omega
  · rw [gy_dg2]; unfold gt_ok at h; omega
theorem gy_dg_in {c k : Nat} (h : gt_ok c) (hk : k < gy_len c) : 1 ≤ gy_dg c k := by
  have hl := gy_len_c c
  have h3 : k < 3 := by omega
  revert hk
  refine gy_3 (P := fun k => k < gy_len c → 1 ≤ gy_dg c k) h3 ?_ ?_ ?_
  · rw [gy_dg0]; unfold gt_ok at h; omega
  · rw [gy_dg1]; unfold gt_ok at h; omega
  · rw [gy_dg2]; unfold gt_ok at h; omega
theorem gy_dg_out {c k : Nat} (hk : gy_len c ≤ k) (h3 : k < 3) : gy_dg c k = 0 := by
  have hl := gy_len_c c
  revert hk
  refine gy_3 (P := fun k => gy_len c ≤ k → gy_dg c k = 0) h3 ?_ ?_ ?_
  · omega
  · rw [gy_dg1]; omega
  · rw [gy_dg2]; omega
theorem gy_pd_b {d p k : Nat} (h : gx_pt d p) (hk : k < 3) : gy_dg p k ≤ 101 := by
  refine gy_3 (P := fun k => gy_dg p k ≤ 101) hk ?_ ?_ ?_
  · rw [gy_dg0]; unfold gx_pt at h; omega
  · rw [gy_dg1]; unfold gx_pt at h; omega
  · rw [gy_dg2]; unfold gx_pt at h; omega
theorem gy_pd_in {d p k : Nat} (h : gx_pt d p) (hk : k < d) : 1 ≤ gy_dg p k := by
  have hd := gx_pt_d h
  have h3 : k < 3 := by omega
  revert hk
  refine gy_3 (P := fun k => k < d → 1 ≤ gy_dg p k) h3 ?_ ?_ ?_
  · rw [gy_dg0]; unfold gx_pt at h; omega
  · rw [gy_dg1]; unfold gx_pt at h; omega
  · rw [gy_dg2]; unfold gx_pt at h; omega
theorem gy_pd_out {d p k : Nat} (h : gx_pt d p) (hk : d ≤ k) (h3 : k < 3) : gy_dg p k = 0 := by
  revert hk
  refine gy_3 (P := fun k => d ≤ k → gy_dg p k = 0) h3 ?_ ?_ ?_
  · rw [gy_dg0]; unfold gx_pt at h; omega
  · rw [gy_dg1]; unfold gx_pt at h; omega
  · rw [gy_dg2]; unfold gx_pt at h; omega
theorem gy_len_pt {d p : Nat} (hk : gt_ok p) (h : gx_pt d p) : gy_len p = d := by
  have := gy_len_c p
  unfold gx_pt at h; unfold gt_ok at hk; omega
/-- the first k digits alike -/
theorem gy_pre {c p k : Nat} (hc : c < 2097152) (hp : p < 2097152) (hk : k ≤ 3) : (∀ x, x < k → gy_dg c x = gy_dg p x) ↔ c / gx_sp k = p / gx_sp k := by
  refine gx_4 (P := fun k => (∀ x, x < k → gy_dg c x = gy_dg p x) ↔ c / gx_sp k = p / gx_sp k) hk ?_ ?_ ?_ ?_
  · rw [gx_sp0]
    exact ⟨fun _ => by omega, fun _ x hx => absurd hx (by omega)⟩
  · rw [gx_sp1]
    constructor
    · intro h
      have h0 := h 0 (by omega)
      rw [gy_dg0, gy_dg0] at h0; omega
    · intro h x hx
      have e : x = 0 := by omega
      rw [e, gy_dg0, gy_dg0]; omega
  · rw [gx_sp2]
    constructor
    · intro h
      have h0 := h 0 (by omega)
      have h1 := h 1 (by omega)
      rw [gy_dg0, gy_dg0] at h0
      rw [gy_dg1, gy_dg1] at h1; omega
    · intro h x hx
      have e : x = 0 ∨ x = 1 := by omega
      rcases e with e | e
      · rw [e, gy_dg0, gy_dg0]; omega
      · rw [e, gy_dg1, gy_dg1]; omega
  · rw [gx_sp3]
    constructor
    · intro h
      have h0 := h 0 (by omega)
      have h1 := h 1 (by omega)
      have h2 := h 2 (by omega)
      rw [gy_dg0, gy_dg0] at h0
      rw [gy_dg1, gy_dg1] at h1
      rw [gy_dg2, gy_dg2] at h2; omega
    · intro h x hx
      have e : c = p := by omega
      rw [e]
theorem gy_ext {a b : Nat} (ha : gt_ok a) (hb : gt_ok b) (hl : gy_len a = gy_len b) (h : ∀ k, k < gy_len a → gy_dg a k = gy_dg b k) : a = b := by
  have la := gt_ok_lt ha
  have lb := gt_ok_lt hb
  have hh : ∀ x, x < 3 → gy_dg a x = gy_dg b x := fun x hx => by
    by_cases z : x < gy_len a
    · exact h x z
    · rw [gy_dg_out (by omega) hx, gy_dg_out (by omega) hx]
  have := (gy_pre la lb (Nat.le_refl 3)).mp hh
  rw [gx_sp3] at this
  omega
/-- a beginning of k digits wants k digits -/
theorem gy_pre_len {c p d k : Nat} (hc : c < 2097152) (h : gx_pt d p) (hk : k ≤ d) (e : c / gx_sp k = p / gx_sp k) : k ≤ gy_len c := by
  have hl := gx_pt_lt h
  have hd := gx_pt_d h
  have hs : 0 < gx_sp d := Nat.two_pow_pos _
  by_cases z : k = 0
  · omega
  · have e1 := (gy_pre hc (by omega) (by omega)).mpr e (k - 1) (by omega)
    have e2 := gy_pd_in h (k := k - 1) (by omega)
    by_cases y : k ≤ gy_len c
    · exact y
    · have := gy_dg_out (c := c) (k := k - 1) (by omega) (by omega)
      omega
/-- beginning with the pointer's list: the range of its places -/
theorem gy_rng {c p d : Nat} (h : gx_pt d p) : c / gx_sp d = p / gx_sp d ↔ p ≤ c ∧ c < p + gx_sp d := by
  have hd := gx_pt_d h
  revert h
  refine gx_4 (P := fun d => gx_pt d p → (c / gx_sp d = p / gx_sp d ↔ p ≤ c ∧ c < p + gx_sp d)) hd ?_ ?_ ?_ ?_
  · rw [gx_sp0]; unfold gx_pt; omega
  · rw [gx_sp1]; unfold gx_pt; omega
  · rw [gx_sp2]; unfold gx_pt; omega
  · rw [gx_sp3]; unfold gx_pt; omega
/-- node i of Y's arrays has the code c -/
def gy_at (li le : Nat → Int32) (i c : Nat) : Prop := le i = nI (gy_len c) ∧ ∀ k, k < gy_len c → li (i * 3 + k) = nI (gy_dg c k) - 51
def gy_Y (M : Nat → Option Int32) (n : Nat) (li le va : Nat → Int32) (Q : Nat → Nat) : Prop :=
  n ≤ 60 ∧ (∀ i, i < n → gy_at li le i (Q i)) ∧ (∀ i, i < n → M (Q i) = some (va i)) ∧ (∀ i j, i < j → j < n → Q i ≠ Q j) ∧ (∀ c v, M c = some v → ∃ i, i < n ∧ Q i = c) ∧ (∀ c v, M c = some v → gt_ok c)
def gy_p (po : Nat → Int32) (d p : Nat) : Prop := ∀ k, k < d → po k = nI (gy_dg p k) - 51
theorem gy_Q_ok {M : Nat → Option Int32} {n : Nat} {li le va : Nat → Int32} {Q : Nat → Nat} (H : gy_Y M n li le va Q) {i : Nat} (hi : i < n) : gt_ok (Q i) := H.2.2.2.2.2 _ _ (H.2.2.1 i hi)
/-- counting over the nodes is counting over the places -/
theorem gy_cn (f : Nat → Bool) (Q : Nat → Nat) (B : Nat) : ∀ (m : Nat) (h : Nat → Bool), (∀ i, i < m → Q i < B) → (∀ i j, i < j → j < m → Q i ≠ Q j) → (∀ c, h c = true ↔ ∃ i, i < m ∧ Q i = c) → gt_cn (fun i => f (Q i)) m = gt_cn (fun c => h c && f c) B := by
  intro m
  induction m with
  | zero =>
    intro h _ _ h3
    have : gt_cn (fun c => h c && f c) B = gt_cn (fun c => h c && f c) 0 := gt_cn_same (Nat.zero_le _) (fun c _ _ => by
      show (h c && f c) = false
      cases e : h c with
      | false => rfl
      | true => obtain ⟨i, hi, _⟩ := (h3 c).mp e; omega)
    rw [this]; rfl
  | succ m ih =>
    intro h h1 h2 h3
    have hq : h (Q m) = true := (h3 _).mpr ⟨m, by omega, rfl⟩
    have I := ih (fun c => h c && !decide (c = Q m)) (fun i hi => h1 i (by omega)) (fun i j a b => h2 i j a (by omega)) (fun c => ?_)
    · show gt_cn (fun i => f (Q i)) m + (if f (Q m) = true then 1 else 0) = _
      rw [I]
      cases e : f (Q m) with
      | true =>
        have := gt_cn_new (f := fun c => (h c && !decide (c = Q m)) && f c) (g := fun c => h c && f c) (p := Q m) (n := B) (fun c z => by simp [z]) (by simp) (by simp [hq, e])
        rw [this, if_pos (h1 m (by omega)), if_pos rfl]
      | false =>
        rw [if_neg (by decide), Nat.add_zero]
        refine gt_cn_eq (fun c _ => ?_)
        show ((h c && !decide (c = Q m)) && f c) = (h c && f c)
        by_cases z : c = Q m
        · rw [z, e]; simp
        · simp [z]
    · constructor
      · intro z
        have z : (h c && !decide (c = Q m)) = true := z
        simp at z
        obtain ⟨i, hi, e⟩ := (h3 c).mp z.1
        exact ⟨i, by have : i ≠ m := fun t => z.2 (by rw [← e, t]); omega, e⟩
      · rintro ⟨i, hi, e⟩
        have a1 : h c = true := (h3 c).mpr ⟨i, by omega, e⟩
        have a2 : c ≠ Q m := by rw [← e]; exact h2 i m hi (by omega)
        simp [a1, a2]
theorem gy_ct {M : Nat → Option Int32} {n : Nat} {li le va : Nat → Int32} {Q : Nat → Nat} (H : gy_Y M n li le va Q) (f : Nat → Bool) : gt_cn (fun i => f (Q i)) n = gt_cn (fun c => gt_has M c && f c) 2097152 := by
  refine gy_cn f Q 2097152 n (gt_has M) (fun i hi => gt_ok_lt (gy_Q_ok H hi)) H.2.2.2.1 (fun c => ⟨fun z => ?_, ?_⟩)
  · obtain ⟨v, hv⟩ := gt_has_t z
    exact H.2.2.2.2.1 c v hv
  · rintro ⟨i, hi, e⟩
    rw [← e]; exact gt_has_s (H.2.2.1 i hi)
theorem gy_ctN {M : Nat → Option Int32} {n : Nat} {li le va : Nat → Int32} {Q : Nat → Nat} (H : gy_Y M n li le va Q) : gt_ct M 2097152 = n := by
  have e1 := gy_ct H (fun _ => true)
  have e2 : gt_cn (fun c => gt_has M c && true) 2097152 = gt_ct M 2097152 := gt_cn_eq (fun c _ => by simp)
  have e3 : ∀ k, gt_cn (fun _ => true) k = k := fun k => by
    induction k with
    | zero => rfl
    | succ k ih => rw [gt_cn_t rfl, ih]
  rw [e3] at e1
  rw [← e2]; exact e1.symm
/-- a value changed -/
theorem gy_Y_set {M : Nat → Option Int32} {n : Nat} {li le va : Nat → Int32} {Q : Nat → Nat} (H : gy_Y M n li le va Q) {i : Nat} (hi : i < n) (v : Int32) : gy_Y (gt_up M (Q i) v) n li le (upd va i v) Q := by
  obtain ⟨h1, h2, h3, h4, h5, h6⟩ := H
  refine ⟨h1, h2, ?_, h4, ?_, ?_⟩
  · intro j hj
    by_cases e : j = i
    · rw [e, gt_up_s, pk_us]
    · have : Q j ≠ Q i := by
        rcases Nat.lt_or_gt_of_ne e with z | z
        · exact h4 j i z hi
        · exact fun t => h4 i j z hj t.symm
      rw [gt_up_n this, pk_un e]; exact h3 j hj
  · intro c w e
    by_cases z : c = Q i
    · exact ⟨i, hi, z.symm⟩
    · rw [gt_up_n z] at e; exact h5 c w e
  · intro c w e
    by_cases z : c = Q i
    · rw [z]; exact h6 _ _ (h3 i hi)
    · rw [gt_up_n z] at e; exact h6 c w e
def gy_q (Q : Nat → Nat) (n c : Nat) : Nat → Nat := fun i => if i = n then c else Q i
theorem gy_q_s {Q : Nat → Nat} {n c : Nat} : gy_q Q n c n = c := if_pos rfl
theorem gy_q_n {Q : Nat → Nat} {n c i : Nat} (h : i ≠ n) : gy_q Q n c i = Q i := if_neg h
/-- a node more -/
theorem gy_Y_new {M : Nat → Option Int32} {n : Nat} {li le va li' le' va' : Nat → Int32} {Q : Nat → Nat} (H : gy_Y M n li le va Q) {c : Nat} (h : M c = none) (hc : gt_ok c) (hn : n < 60) {v : Int32} (a1 : ∀ x, x < n * 3 → li' x = li x) (a2 : ∀ i, i < n → le' i = le i) (a3 : ∀ i, i < n → va' i = va i) (a4 : gy_at li' le' n c) (a5 : va' n = v) : gy_Y (gt_up M c v) (n + 1) li' le' va' (gy_q Q n c) := by
  obtain ⟨h1, h2, h3, h4, h5, h6⟩ := H
  have nc : ∀ i, i < n → Q i ≠ c := fun i hi e => by
    have := h3 i hi
    rw [e, h] at this
    exact absurd this (by simp)
  refine ⟨by omega, ?_, ?_, ?_, ?_, ?_⟩
  · intro i hi
    by_cases e : i = n
    · rw [e, gy_q_s]; exact a4
    · rw [gy_q_n e]
      obtain ⟨b1, b2⟩ := h2 i (by omega)
      refine ⟨by rw [a2 i (by omega)]; exact b1, fun k hk => ?_⟩
      have := gy_len_b (Q i)
      rw [a1 _ (by omega)]; exact b2 k hk
  · intro i hi
    by_cases e : i = n
    · rw [e, gy_q_s, gt_up_s, a5]
    · rw [gy_q_n e, gt_up_n (nc i (by omega)), a3 i (by omega)]; exact h3 i (by omega)
  · intro i j hij hj
    rw [gy_q_n (by omega : i ≠ n)]
    by_cases e : j = n
    · rw [e, gy_q_s]; exact nc i (by omega)
    · rw [gy_q_n e]; exact h4 i j hij (by omega)
  · intro x w e
    by_cases z : x = c
    · exact ⟨n, by omega, by rw [gy_q_s, z]⟩
    · rw [gt_up_n z] at e
      obtain ⟨i, hi, ei⟩ := h5 x w e
      exact ⟨i, by omega, by rw [gy_q_n (by omega)]; exact ei⟩
  · intro x w e
    by_cases z : x = c
    · rw [z]; exact hc
    · rw [gt_up_n z] at e; exact h6 x w e
