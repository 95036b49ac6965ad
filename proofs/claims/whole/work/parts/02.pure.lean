/-! counting: how many c below a bound satisfy f -/
def gt_cn (f : Nat → Bool) : Nat → Nat
  | 0 => 0
  | n + 1 => gt_cn f n + (if f n = true then 1 else 0)
theorem gt_cn_s (f : Nat → Bool) (n : Nat) : gt_cn f (n + 1) = gt_cn f n + (if f n = true then 1 else 0) := rfl
theorem gt_cn_t {f : Nat → Bool} {n : Nat} (h : f n = true) : gt_cn f (n + 1) = gt_cn f n + 1 := by
  rw [gt_cn_s, if_pos h]
theorem gt_cn_f {f : Nat → Bool} {n : Nat} (h : f n = false) : gt_cn f (n + 1) = gt_cn f n := by
  rw [gt_cn_s, if_neg (by rw [h]; decide)]; rfl
theorem gt_cn_mono (f : Nat → Bool) {a b : Nat} (h : a ≤ b) : gt_cn f a ≤ gt_cn f b := by
  induction b with
  | zero =>
    have e : a = 0 := by omega
    rw [e]; exact Nat.le_refl _
  | succ b ih =>
    by_cases e : a = b + 1
    · rw [e]; exact Nat.le_refl _
    · have := ih (by omega)
      rw [gt_cn_s]; omega
theorem gt_cn_eq {f g : Nat → Bool} {n : Nat} (h : ∀ c, c < n → f c = g c) : gt_cn f n = gt_cn g n := by
  induction n with
  | zero => rfl
  | succ n ih =>
    rw [gt_cn_s, gt_cn_s, ih (fun c hc => h c (by omega)), h n (by omega)]
theorem gt_cn_add (f : Nat → Bool) (a b : Nat) : gt_cn f (a + b) = gt_cn f a + gt_cn (fun j => f (a + j)) b := by
  induction b with
  | zero => rfl
  | succ b ih =>
    rw [← Nat.add_assoc, gt_cn_s, gt_cn_s, ih, Nat.add_assoc]
theorem gt_cn_same {f : Nat → Bool} {a b : Nat} (h : a ≤ b) (hn : ∀ c, a ≤ c → c < b → f c = false) : gt_cn f b = gt_cn f a := by
  induction b with
  | zero =>
    have e : a = 0 := by omega
    rw [e]
  | succ b ih =>
    by_cases e : a = b + 1
    · rw [e]
    · rw [gt_cn_f (hn b (by omega) (by omega)), ih (by omega) (fun c h1 h2 => hn c h1 (by omega))]
theorem gt_cn_lt {f : Nat → Bool} {a b : Nat} (h : a < b) (ha : f a = true) : gt_cn f a < gt_cn f b := by
  have := gt_cn_mono f (a := a + 1) (b := b) h
  rw [gt_cn_t ha] at this
  omega
/-- a count that grew met one -/
theorem gt_cn_ex {f : Nat → Bool} {a b : Nat} (h : gt_cn f a < gt_cn f b) : ∃ c, a ≤ c ∧ c < b ∧ f c = true ∧ gt_cn f c = gt_cn f a := by
  induction b with
  | zero => exact absurd h (by show ¬ gt_cn f a < 0; omega)
  | succ b ih =>
    by_cases hl : gt_cn f a < gt_cn f b
    · obtain ⟨c, h1, h2, h3, h4⟩ := ih hl
      exact ⟨c, h1, by omega, h3, h4⟩
    · have hb : a ≤ b := by
        by_cases z : a ≤ b
        · exact z
        · have := gt_cn_mono f (a := b + 1) (b := a) (by omega)
          omega
      have hm := gt_cn_mono f hb
      cases e : f b with
      | false => rw [gt_cn_f e] at h; omega
      | true => exact ⟨b, hb, by omega, e, by omega⟩
/-- a fresh point more -/
theorem gt_cn_new {f g : Nat → Bool} {p n : Nat} (h : ∀ c, c ≠ p → g c = f c) (hf : f p = false) (hg : g p = true) : gt_cn g n = gt_cn f n + (if p < n then 1 else 0) := by
  induction n with
  | zero => rw [if_neg (by omega)]; rfl
  | succ n ih =>
    by_cases e : n = p
    · subst e
      rw [gt_cn_t hg, gt_cn_f hf, ih, if_neg (Nat.lt_irrefl n), if_pos (Nat.lt_succ_self n)]
    · have e2 : (if p < n + 1 then 1 else 0) = (if p < n then 1 else 0) := by
        by_cases z : p < n
        · rw [if_pos z, if_pos (Nat.lt_succ_of_lt z)]
        · rw [if_neg z, if_neg (by omega)]
      rw [e2]
      cases k : f n with
      | true => rw [gt_cn_t k, gt_cn_t ((h n e).trans k), ih]; omega
      | false => rw [gt_cn_f k, gt_cn_f ((h n e).trans k), ih]
/-! a map from places to values -/
def gt_has (M : Nat → Option Int32) (c : Nat) : Bool := (M c).isSome
def gt_ct (M : Nat → Option Int32) (b : Nat) : Nat := gt_cn (gt_has M) b
theorem gt_has_s {M : Nat → Option Int32} {c : Nat} {v : Int32} (h : M c = some v) : gt_has M c = true := by
  unfold gt_has; rw [h]; rfl
theorem gt_has_n {M : Nat → Option Int32} {c : Nat} (h : M c = none) : gt_has M c = false := by
  unfold gt_has; rw [h]; rfl
theorem gt_has_t {M : Nat → Option Int32} {c : Nat} (h : gt_has M c = true) : ∃ v, M c = some v := by
  unfold gt_has at h
  cases e : M c with
  | none => rw [e] at h; exact absurd h (by decide)
  | some v => exact ⟨v, rfl⟩
theorem gt_has_f {M : Nat → Option Int32} {c : Nat} (h : gt_has M c = false) : M c = none := by
  cases e : M c with
  | none => rfl
  | some v => rw [gt_has_s e] at h; exact absurd h (by decide)
def gt_up (M : Nat → Option Int32) (c : Nat) (v : Int32) : Nat → Option Int32 := fun x => if x = c then some v else M x
theorem gt_up_s {M : Nat → Option Int32} {c : Nat} {v : Int32} : gt_up M c v c = some v := if_pos rfl
theorem gt_up_n {M : Nat → Option Int32} {c x : Nat} {v : Int32} (h : x ≠ c) : gt_up M c v x = M x := if_neg h
/-- the code of a node: one to three digits of 1 to 101 -/
def gt_ok (c : Nat) : Prop := 1 ≤ c / 16384 ∧ c / 16384 ≤ 101 ∧ c / 128 % 128 ≤ 101 ∧ c % 128 ≤ 101 ∧ (c / 128 % 128 = 0 → c % 128 = 0)
theorem gt_ok_lt {c : Nat} (h : gt_ok c) : c < 2097152 := by
  unfold gt_ok at h; omega
/-- X's arrays hold M, by rising place -/
def gt_X (M : Nat → Option Int32) (n : Nat) (pl vl : Nat → Int32) (K : Nat → Nat) : Prop :=
  n ≤ 60 ∧ (∀ i, i < n → pl i = nI (K i)) ∧ (∀ i, i < n → M (K i) = some (vl i)) ∧ (∀ i j, i < j → j < n → K i < K j) ∧ (∀ c v, M c = some v → ∃ i, i < n ∧ K i = c) ∧ (∀ c v, M c = some v → gt_ok c)
theorem gt_rk {M : Nat → Option Int32} {n : Nat} {pl vl : Nat → Int32} {K : Nat → Nat} (H : gt_X M n pl vl K) (c : Nat) : gt_ct M c ≤ n ∧ ∀ i, i < n → (K i < c ↔ i < gt_ct M c) := by
  obtain ⟨-, -, hv, hs, he, -⟩ := H
  induction c with
  | zero => exact ⟨Nat.zero_le _, fun i _ => ⟨fun z => absurd z (by omega), fun z => absurd z (by show ¬ i < 0; omega)⟩⟩
  | succ c ih =>
    obtain ⟨h1, h2⟩ := ih
    cases e : M c with
    | none =>
      have ec : gt_ct M (c + 1) = gt_ct M c := gt_cn_f (gt_has_n e)
      rw [ec]
      refine ⟨h1, fun i hi => ?_⟩
      rw [← h2 i hi]
      have : K i ≠ c := fun z => by
        have := hv i hi
        rw [z, e] at this
        exact absurd this (by simp)
      omega
    | some v =>
      have ec : gt_ct M (c + 1) = gt_ct M c + 1 := gt_cn_t (gt_has_s e)
      obtain ⟨j, hj, ej⟩ := he c v e
      have e1 : ¬ j < gt_ct M c := fun z => by
        have := (h2 j hj).mpr z
        omega
      have e2 : ¬ gt_ct M c < j := fun z => by
        have := hs _ _ z hj
        have := (h2 (gt_ct M c) (by omega)).mp (by omega)
        omega
      have e3 : j = gt_ct M c := by omega
      rw [ec]
      refine ⟨by omega, fun i hi => ?_⟩
      have h3 := h2 i hi
      have h4 : i < j → K i < K j := fun z => hs i j z hj
      have h5 : j < i → K j < K i := fun z => hs j i z hi
      have h6 : i = j → K i = K j := fun z => by rw [z]
      constructor
      · intro z; omega
      · intro z; omega
theorem gt_rkK {M : Nat → Option Int32} {n : Nat} {pl vl : Nat → Int32} {K : Nat → Nat} (H : gt_X M n pl vl K) {i : Nat} (hi : i < n) : gt_ct M (K i) = i := by
  obtain ⟨h1, h2⟩ := gt_rk H (K i)
  have h3 := h2 i hi
  by_cases z : gt_ct M (K i) < i
  · have h4 := H.2.2.2.1 _ _ z hi
    have h5 := (h2 _ (by omega)).mp h4
    omega
  · omega
theorem gt_rkN {M : Nat → Option Int32} {n : Nat} {pl vl : Nat → Int32} {K : Nat → Nat} (H : gt_X M n pl vl K) {b : Nat} (hb : 2097152 ≤ b) : gt_ct M b = n := by
  obtain ⟨h1, h2⟩ := gt_rk H b
  by_cases z : gt_ct M b < n
  · have h3 := H.2.2.1 _ z
    have h4 := gt_ok_lt (H.2.2.2.2.2 _ _ h3)
    have h5 := (h2 _ z).mp (by omega)
    omega
  · omega
/-- the place c has a value: it stands at its rank -/
theorem gt_at {M : Nat → Option Int32} {n : Nat} {pl vl : Nat → Int32} {K : Nat → Nat} (H : gt_X M n pl vl K) {c : Nat} {v : Int32} (h : M c = some v) : gt_ct M c < n ∧ K (gt_ct M c) = c ∧ vl (gt_ct M c) = v := by
  obtain ⟨i, hi, e⟩ := H.2.2.2.2.1 c v h
  have e2 : gt_ct M c = i := by rw [← e]; exact gt_rkK H hi
  rw [e2]
  refine ⟨hi, e, ?_⟩
  have := H.2.2.1 i hi
  rw [e, h] at this
  exact (Option.some.inj this).symm
theorem gt_nat {M : Nat → Option Int32} {n : Nat} {pl vl : Nat → Int32} {K : Nat → Nat} (H : gt_X M n pl vl K) {c : Nat} (h : M c = none) : ¬ (gt_ct M c < n ∧ K (gt_ct M c) = c) := by
  rintro ⟨h1, h2⟩
  have := H.2.2.1 _ h1
  rw [h2, h] at this
  exact absurd this (by simp)
theorem gt_K_lt {M : Nat → Option Int32} {n : Nat} {pl vl : Nat → Int32} {K : Nat → Nat} (H : gt_X M n pl vl K) {i : Nat} (hi : i < n) : K i < 2097152 := gt_ok_lt (H.2.2.2.2.2 _ _ (H.2.2.1 i hi))
theorem gt_ct_le {M : Nat → Option Int32} {n : Nat} {pl vl : Nat → Int32} {K : Nat → Nat} (H : gt_X M n pl vl K) (c : Nat) : gt_ct M c ≤ n := (gt_rk H c).1
