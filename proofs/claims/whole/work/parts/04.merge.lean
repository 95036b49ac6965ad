/-! the counts of a merge -/
theorem gt_ct_gap {M : Nat → Option Int32} {a c : Nat} (h : gt_ct M c = gt_ct M a) : ∀ x, a ≤ x → x < c → gt_has M x = false := by
  intro x h1 h2
  cases e : gt_has M x with
  | false => rfl
  | true =>
    have a1 : gt_ct M a ≤ gt_ct M x := gt_cn_mono _ h1
    have a2 : gt_ct M x < gt_ct M c := gt_cn_lt h2 e
    omega
theorem gt_ms_s (M : Nat → Option Int32) (p q k : Nat) : gt_ms M p q (k + 1) = gt_ms M p q k + (if (gt_has M (p + k) && !gt_has M (q + k)) = true then 1 else 0) := rfl
theorem gt_ms_gap {M : Nat → Option Int32} {p q a b : Nat} (hp : p ≤ a) (h : a ≤ b) (hn : ∀ c, a ≤ c → c < b → gt_has M c = false) : gt_ms M p q (b - p) = gt_ms M p q (a - p) := by
  refine gt_cn_same (by omega) (fun c h1 h2 => ?_)
  show (gt_has M (p + c) && !gt_has M (q + c)) = false
  rw [hn (p + c) (by omega) (by omega)]
  rfl
theorem gt_ms_t {M : Nat → Option Int32} {p q c : Nat} (hp : p ≤ c) (hc : gt_has M c = true) (hq : gt_has M (c + q - p) = true) : gt_ms M p q (c + 1 - p) = gt_ms M p q (c - p) := by
  have e : c + 1 - p = (c - p) + 1 := by omega
  rw [e, gt_ms_s, show p + (c - p) = c by omega, show q + (c - p) = c + q - p by omega, hc, hq, if_neg (by decide)]
  rfl
theorem gt_ms_f {M : Nat → Option Int32} {p q c : Nat} (hp : p ≤ c) (hc : gt_has M c = true) (hq : gt_has M (c + q - p) = false) : gt_ms M p q (c + 1 - p) = gt_ms M p q (c - p) + 1 := by
  have e : c + 1 - p = (c - p) + 1 := by omega
  rw [e, gt_ms_s, show p + (c - p) = c by omega, show q + (c - p) = c + q - p by omega, hc, hq, if_pos (by decide)]
theorem gt_ms_mono (M : Nat → Option Int32) (p q : Nat) {a b : Nat} (h : a ≤ b) : gt_ms M p q a ≤ gt_ms M p q b := gt_cn_mono _ h
theorem gt_ms_le (M : Nat → Option Int32) (p q k : Nat) : gt_ct M p + gt_ms M p q k ≤ gt_ct M (p + k) := by
  induction k with
  | zero => exact Nat.le_refl _
  | succ k ih =>
    have e : gt_ct M (p + (k + 1)) = gt_ct M (p + k) + (if gt_has M (p + k) = true then 1 else 0) := rfl
    rw [gt_ms_s, e]
    cases gt_has M (p + k) with
    | false => rw [Bool.false_and, if_neg (by decide)]; omega
    | true =>
      rw [if_pos rfl]
      split <;> omega
theorem gt_mg_ct (M : Nat → Option Int32) (p q : Nat) {B : Nat} : ∀ k, q + k ≤ B → gt_ct (gt_mg M p q (p + k)) B = gt_ct M B + gt_ms M p q k := by
  intro k
  induction k with
  | zero => intro _; rw [Nat.add_zero, gt_mg_0]; rfl
  | succ k ih =>
    intro hB
    have ih := ih (by omega)
    cases e : gt_has M (p + k) with
    | false =>
      have g1 : gt_mg M p q (p + (k + 1)) = gt_mg M p q (p + k) := gt_mg_gap (by omega) (fun c h1 h2 => by
        have : c = p + k := by omega
        rw [this]; exact e)
      rw [g1, ih, gt_ms_s, e, Bool.false_and, if_neg (by decide)]
      rfl
    | true =>
      obtain ⟨v, hv⟩ := gt_has_t e
      have g1 : gt_mg M p q (p + (k + 1)) = gt_up (gt_mg M p q (p + k)) (q + k) v := by
        rw [← Nat.add_assoc, gt_mg_s (by omega) hv, show p + k + q - p = q + k by omega]
      have g2 : gt_mg M p q (p + k) (q + k) = M (q + k) := gt_mg_o (fun z => by have := z.2.1; omega)
      rw [g1, gt_ms_s, e, Bool.true_and]
      cases e2 : gt_has M (q + k) with
      | true =>
        rw [if_neg (by decide), Nat.add_zero, ← ih]
        refine gt_cn_eq (fun c _ => ?_)
        by_cases z : c = q + k
        · rw [z]
          have a1 : gt_has (gt_up (gt_mg M p q (p + k)) (q + k) v) (q + k) = true := gt_has_s gt_up_s
          obtain ⟨w, hw⟩ := gt_has_t e2
          have a2 : gt_has (gt_mg M p q (p + k)) (q + k) = true := gt_has_s (g2.trans hw)
          rw [a1, a2]
        · unfold gt_has; rw [gt_up_n z]
      | false =>
        rw [if_pos (by decide), ← Nat.add_assoc, ← ih]
        have a1 : gt_has (gt_up (gt_mg M p q (p + k)) (q + k) v) (q + k) = true := gt_has_s gt_up_s
        have a2 : gt_has (gt_mg M p q (p + k)) (q + k) = false := gt_has_n (g2.trans (gt_has_f e2))
        have a3 := gt_cn_new (f := gt_has (gt_mg M p q (p + k))) (g := gt_has (gt_up (gt_mg M p q (p + k)) (q + k) v)) (p := q + k) (n := B) (fun c z => by unfold gt_has; rw [gt_up_n z]) a2 a1
        rw [if_pos (by omega)] at a3
        exact a3
/-- within the source, ranks keep their distance to its start -/
theorem gt_mg_rk {M : Nat → Option Int32} {p q b e j : Nat} (hd : q = p ∨ q + e ≤ p ∨ p + e ≤ q) (hb : b ≤ p + e) (hj : j ≤ e) : gt_ct (gt_mg M p q b) (p + j) + gt_ct M p = gt_ct M (p + j) + gt_ct (gt_mg M p q b) p := by
  have e1 : gt_ct (gt_mg M p q b) (p + j) = gt_ct (gt_mg M p q b) p + gt_cn (fun i => gt_has (gt_mg M p q b) (p + i)) j := gt_cn_add _ _ _
  have e2 : gt_ct M (p + j) = gt_ct M p + gt_cn (fun i => gt_has M (p + i)) j := gt_cn_add _ _ _
  have e3 : gt_cn (fun i => gt_has (gt_mg M p q b) (p + i)) j = gt_cn (fun i => gt_has M (p + i)) j := by
    refine gt_cn_eq (fun c hc => ?_)
    show gt_has (gt_mg M p q b) (p + c) = gt_has M (p + c)
    have : gt_mg M p q b (p + c) = M (p + c) := by
      rcases hd with hd | hd | hd
      · rw [hd, gt_mg_id]
      · exact gt_mg_out hb (by omega)
      · exact gt_mg_out hb (by omega)
    unfold gt_has; rw [this]
  omega
theorem gt_mg_src {M : Nat → Option Int32} {p q b e c : Nat} (hd : q = p ∨ q + e ≤ p ∨ p + e ≤ q) (hb : b ≤ p + e) (h1 : p ≤ c) (h2 : c < p + e) : gt_mg M p q b c = M c := by
  rcases hd with hd | hd | hd
  · rw [hd, gt_mg_id]
  · exact gt_mg_out hb (by omega)
  · exact gt_mg_out hb (by omega)
/-- the next one of the run: its place, its value, where it stands now, and what its copy makes -/
theorem gt_mg_step {M : Nat → Option Int32} {p q e b i n' : Nat} {pl vl : Nat → Int32} {K : Nat → Nat} (hd : q = p ∨ q + e ≤ p ∨ p + e ≤ q) (hpb : p ≤ b) (hb : b ≤ p + e) (hi : gt_ct M b = gt_ct M p + i) (hl : gt_ct M p + i < gt_ct M (p + e)) (H : gt_X (gt_mg M p q b) n' pl vl K) : ∃ c v, b ≤ c ∧ c < p + e ∧ M c = some v ∧ gt_ct M c = gt_ct M p + i ∧ gt_mg M p q b = gt_mg M p q c ∧ gt_ct (gt_mg M p q b) p + i < n' ∧ K (gt_ct (gt_mg M p q b) p + i) = c ∧ vl (gt_ct (gt_mg M p q b) p + i) = v ∧ gt_mg M p q (c + 1) = gt_up (gt_mg M p q b) (c + q - p) v := by
  have hlt : gt_ct M b < gt_ct M (p + e) := by omega
  obtain ⟨c, c1, c2, c3, c4⟩ := gt_cn_ex hlt
  have c4 : gt_ct M c = gt_ct M b := c4
  obtain ⟨v, hv⟩ := gt_has_t c3
  have g := gt_mg_gap (M := M) (p := p) (q := q) c1 (gt_ct_gap c4)
  have s : gt_mg M p q b c = some v := (gt_mg_src hd hb (by omega) c2).trans hv
  obtain ⟨a1, a2, a3⟩ := gt_at H s
  have r := gt_mg_rk (M := M) (b := b) (j := c - p) hd hb (by omega)
  rw [show p + (c - p) = c by omega] at r
  have e1 : gt_ct (gt_mg M p q b) c = gt_ct (gt_mg M p q b) p + i := by omega
  rw [e1] at a1 a2 a3
  refine ⟨c, v, c1, c2, hv, by omega, g.symm, a1, a2, a3, ?_⟩
  rw [gt_mg_s (by omega) hv, g]
/-- there is room for the next copy -/
theorem gt_mg_room {M : Nat → Option Int32} {p q e c n n' : Nat} {v : Int32} {pl vl pl' vl' : Nat → Int32} {K K' : Nat → Nat} (H0 : gt_X M n pl vl K) (H : gt_X (gt_mg M p q c) n' pl' vl' K') (hpc : p ≤ c) (hc : c < p + e) (hq : q + e ≤ 2097152) (hv : M c = some v) (hr : n + gt_ms M p q e ≤ 60) (hN : gt_mg M p q c (c + q - p) = none) : n' < 60 := by
  have e1 := gt_mg_ct M p q (B := 2097152) (c - p) (by omega)
  rw [show p + (c - p) = c by omega] at e1
  have e2 := gt_rkN H (b := 2097152) (Nat.le_refl _)
  have e3 := gt_rkN H0 (b := 2097152) (Nat.le_refl _)
  have o : gt_mg M p q c (c + q - p) = M (c + q - p) := gt_mg_o (fun z => by have := z.2.1; omega)
  have f := gt_ms_f hpc (gt_has_s hv) (gt_has_n (o.symm.trans hN))
  have m := gt_ms_mono M p q (a := c + 1 - p) (b := e) (by omega)
  omega
