section
/-! rows of kit/rows/PURE-ROWS, as they stand there -/
theorem pk_us {f : Nat → Int32} {k : Nat} {x : Int32} : upd f k x k = x := if_pos rfl
theorem pk_un {f : Nat → Int32} {k j : Nat} {x : Int32} (h : j ≠ k) : upd f k x j = f j := if_neg h
theorem pk_sub {a b : Nat} (h : b ≤ a) : nI a - nI b = nI (a - b) := by
  obtain ⟨c, rfl⟩ : ∃ c, a = c + b := ⟨a - b, by omega⟩
  rw [← nI_add, Int32.add_sub_cancel, Nat.add_sub_cancel]
theorem pk_m1 (n : Nat) : nI (n + 1) + (-1) = nI n := by
  rw [← nI_1, Int32.add_assoc, show (1 : Int32) + (-1) = 0 from rfl, Int32.add_zero]
theorem pk_mul (a b : Nat) : nI a * nI b = nI (a * b) := (Int32.ofNat_mul a b).symm
theorem pk_sub_toInt {a b : Nat} (ha : a < 2 ^ 30) (hb : b < 2 ^ 30) : (nI a - nI b).toInt = (a : Int) - b := by
  rw [Int32.toInt_sub, nI_toInt (by omega), nI_toInt (by omega)]
  exact Int.bmod_eq_of_le (by omega) (by omega)
theorem pk_sneg {a b : Nat} (hb : b < 2 ^ 30) (h : a < b) : nI a - nI b < 0 := by
  rw [Int32.lt_iff_toInt_lt, pk_sub_toInt (by omega) hb, show (0 : Int32).toInt = 0 from by decide]
  omega
theorem pk_le {x y : Int32} {A B : Prop} (a b : Nat) (f : a ≤ b → A) (g : b < a → B) (hx : x = nI a := by rfl) (hy : y = nI b := by rfl) (ha : a < 2 ^ 31 := by omega) (hb : b < 2 ^ 31 := by omega) : (x ≤ y → A) ∧ (¬ x ≤ y → B) := by
  subst hx hy
  rw [nI_leI ha hb]
  exact ⟨f, fun z => g (by omega)⟩
theorem pk_lt {x y : Int32} {A B : Prop} (a b : Nat) (f : a < b → A) (g : b ≤ a → B) (hx : x = nI a := by rfl) (hy : y = nI b := by rfl) (ha : a < 2 ^ 31 := by omega) (hb : b < 2 ^ 31 := by omega) : (x < y → A) ∧ (¬ x < y → B) := by
  subst hx hy
  rw [nI_ltI ha hb]
  exact ⟨f, fun z => g (by omega)⟩
theorem pk_eq {x y : Int32} {A B : Prop} (a b : Nat) (f : a = b → A) (g : a ≠ b → B) (hx : x = nI a := by rfl) (hy : y = nI b := by rfl) (ha : a < 2 ^ 31 := by omega) (hb : b < 2 ^ 31 := by omega) : (x = y → A) ∧ (¬ x = y → B) := by
  subst hx hy
  rw [nI_eq ha hb]
  exact ⟨f, g⟩
theorem pk_in {x : Int32} (n N : Nat) (h : n < N) (hx : x = nI n := by rfl) (hN : N < 2 ^ 31 := by omega) : vp_in x N := by
  subst hx
  exact vp_in_nI h hN
theorem pk_cl {x : Int32} (n : Nat) (hx : x = nI n := by rfl) (h : n < 2 ^ 31 := by omega) : x.toNatClampNeg = n := by
  subst hx
  exact nI_clamp h
theorem pk_tn {n : Nat} (h : n < 2 ^ 32) : (nI n).toBitVec.toNat = n := Nat.mod_eq_of_lt h
theorem pk_and (x : Int32) {m : Int32} (k : Nat) (hm : m.toBitVec.toNat = 2 ^ k - 1) : x &&& m = nI (x.toBitVec.toNat % 2 ^ k) := by
  apply Int32.toBitVec_inj.mp
  apply BitVec.eq_of_toNat_eq
  rw [Int32.toBitVec_and, BitVec.toNat_and, hm, Nat.and_two_pow_sub_one_eq_mod]
  show _ = (BitVec.ofNat 32 _).toNat
  rw [BitVec.toNat_ofNat]
  exact (Nat.mod_eq_of_lt (Nat.lt_of_le_of_lt (Nat.mod_le _ _) x.toBitVec.isLt)).symm
theorem pk_andN {n : Nat} (h : n < 2 ^ 32) {m : Int32} (k : Nat) (hm : m.toBitVec.toNat = 2 ^ k - 1) : nI n &&& m = nI (n % 2 ^ k) := by
  rw [pk_and _ k hm, pk_tn h]
theorem pk_shl (a s : Int32) (k : Nat) (hs : (s.toBitVec.smod 32).toNat = k) : (a <<< s).toBitVec.toNat = a.toBitVec.toNat * 2 ^ k % 2 ^ 32 := by
  show (a.toBitVec <<< (s.toBitVec.smod 32).toNat).toNat = _
  rw [hs, BitVec.toNat_shiftLeft, Nat.shiftLeft_eq]
theorem pk_shlN {n : Nat} (s : Int32) (k : Nat) (hs : (s.toBitVec.smod 32).toNat = k) (h : n * 2 ^ k < 2 ^ 32) : nI n <<< s = nI (n * 2 ^ k) := by
  apply Int32.toBitVec_inj.mp
  apply BitVec.eq_of_toNat_eq
  have hn : n < 2 ^ 32 := Nat.lt_of_le_of_lt (Nat.le_mul_of_pos_right n (Nat.two_pow_pos k)) h
  rw [pk_shl _ _ k hs, pk_tn hn, pk_tn h, Nat.mod_eq_of_lt h]
theorem pk_shr (a s : Int32) (k : Nat) (hs : (s.toBitVec.smod 32).toNat = k) : (a >>> s).toInt = a.toInt >>> k := by
  show (a.toBitVec.sshiftRight (s.toBitVec.smod 32).toNat).toInt = _
  rw [hs, BitVec.toInt_sshiftRight]
  rfl
theorem pk_shrN {n : Nat} (h : n < 2 ^ 31) (s : Int32) (k : Nat) (hs : (s.toBitVec.smod 32).toNat = k) : nI n >>> s = nI (n / 2 ^ k) := by
  apply Int32.toInt_inj.mp
  have h2 : n / 2 ^ k ≤ n := Nat.div_le_self _ _
  rw [pk_shr _ _ k hs, nI_toInt h, nI_toInt (by omega), Int.shiftRight_eq_div_pow]
  rfl
end
section
/-! counting: how many c below a bound satisfy f -/
def gt_cn (f : Nat → Bool) : Nat → Nat
  | 0 => 0
  | n + 1 => gt_cn f n + (if f n = true then 1 else 0)
theorem gt_cn_s (f : Nat → Bool) (n : Nat) : gt_cn f (n + 1) = gt_cn f n + (if f n = true then 1 else 0) := rfl
theorem gt_cn_t {f : Nat → Bool} {n : Nat} (h : f n = true) : gt_cn f (n + 1) = gt_cn f n + 1 := by
  rw [gt_cn_s, if_pos h]
theorem gt_cn_f {f : Nat → Bool} {n : Nat} (h : f n = false) : gt_cn f (n + 1) = gt_cn f n := by
  rw [gt_cn_s, if_neg (by rw [h]; decide)]; rfl
theorem gt_cn_mono (f : Nat → Bool) {a b : Nat} (h : a ≤ b) : gt_cn f a ≤ gt_cn f b := by
  induction b with
  | zero =>
    have e : a = 0 := by omega
    rw [e]; exact Nat.le_refl _
  | succ b ih =>
    by_cases e : a = b + 1
    · rw [e]; exact Nat.le_refl _
    · have := ih (by omega)
      rw [gt_cn_s]; omega
theorem gt_cn_eq {f g : Nat → Bool} {n : Nat} (h : ∀ c, c < n → f c = g c) : gt_cn f n = gt_cn g n := by
  induction n with
  | zero => rfl
  | succ n ih =>
    rw [gt_cn_s, gt_cn_s, ih (fun c hc => h c (by omega)), h n (by omega)]
theorem gt_cn_add (f : Nat → Bool) (a b : Nat) : gt_cn f (a + b) = gt_cn f a + gt_cn (fun j => f (a + j)) b := by
  induction b with
  | zero => rfl
  | succ b ih =>
    rw [← Nat.add_assoc, gt_cn_s, gt_cn_s, ih, Nat.add_assoc]
theorem gt_cn_same {f : Nat → Bool} {a b : Nat} (h : a ≤ b) (hn : ∀ c, a ≤ c → c < b → f c = false) : gt_cn f b = gt_cn f a := by
  induction b with
  | zero =>
    have e : a = 0 := by omega
    rw [e]
  | succ b ih =>
    by_cases e : a = b + 1
    · rw [e]
    · rw [gt_cn_f (hn b (by omega) (by omega)), ih (by omega) (fun c h1 h2 => hn c h1 (by omega))]
theorem gt_cn_lt {f : Nat → Bool} {a b : Nat} (h : a < b) (ha : f a = true) : gt_cn f a < gt_cn f b := by
  have := gt_cn_mono f (a := a + 1) (b := b) h
  rw [gt_cn_t ha] at this
  omega
/-- a count that grew met one -/
theorem gt_cn_ex {f : Nat → Bool} {a b : Nat} (h : gt_cn f a < gt_cn f b) : ∃ c, a ≤ c ∧ c < b ∧ f c = true ∧ gt_cn f c = gt_cn f a := by
  induction b with
  | zero => exact absurd h (by show ¬ gt_cn f a < 0; omega)
  | succ b ih =>
    by_cases hl : gt_cn f a < gt_cn f b
    · obtain ⟨c, h1, h2, h3, h4⟩ := ih hl
      exact ⟨c, h1, by omega, h3, h4⟩
    · have hb : a ≤ b := by
        by_cases z : a ≤ b
        · exact z
        · have := gt_cn_mono f (a := b + 1) (b := a) (by omega)
          omega
      have hm := gt_cn_mono f hb
      cases e : f b with
      | false => rw [gt_cn_f e] at h; omega
      | true => exact ⟨b, hb, by omega, e, by omega⟩
/-- a fresh point more -/
theorem gt_cn_new {f g : Nat → Bool} {p n : Nat} (h : ∀ c, c ≠ p → g c = f c) (hf : f p = false) (hg : g p = true) : gt_cn g n = gt_cn f n + (if p < n then 1 else 0) := by
  induction n with
  | zero => rw [if_neg (by omega)]; rfl
  | succ n ih =>
    by_cases e : n = p
    · subst e
      rw [gt_cn_t hg, gt_cn_f hf, ih, if_neg (Nat.lt_irrefl n), if_pos (Nat.lt_succ_self n)]
    · have e2 : (if p < n + 1 then 1 else 0) = (if p < n then 1 else 0) := by
        by_cases z : p < n
        · rw [if_pos z, if_pos (Nat.lt_succ_of_lt z)]
        · rw [if_neg z, if_neg (by omega)]
      rw [e2]
      cases k : f n with
      | true => rw [gt_cn_t k, gt_cn_t ((h n e).trans k), ih]; omega
      | false => rw [gt_cn_f k, gt_cn_f ((h n e).trans k), ih]
/-! a map from places to values -/
def gt_has (M : Nat → Option Int32) (c : Nat) : Bool := (M c).isSome
def gt_ct (M : Nat → Option Int32) (b : Nat) : Nat := gt_cn (gt_has M) b
theorem gt_has_s {M : Nat → Option Int32} {c : Nat} {v : Int32} (h : M c = some v) : gt_has M c = true := by
  unfold gt_has; rw [h]; rfl
theorem gt_has_n {M : Nat → Option Int32} {c : Nat} (h : M c = none) : gt_has M c = false := by
  unfold gt_has; rw [h]; rfl
theorem gt_has_t {M : Nat → Option Int32} {c : Nat} (h : gt_has M c = true) : ∃ v, M c = some v := by
  unfold gt_has at h
  cases e : M c with
  | none => rw [e] at h; exact absurd h (by decide)
  | some v => exact ⟨v, rfl⟩
theorem gt_has_f {M : Nat → Option Int32} {c : Nat} (h : gt_has M c = false) : M c = none := by
  cases e : M c with
  | none => rfl
  | some v => rw [gt_has_s e] at h; exact absurd h (by decide)
def gt_up (M : Nat → Option Int32) (c : Nat) (v : Int32) : Nat → Option Int32 := fun x => if x = c then some v else M x
theorem gt_up_s {M : Nat → Option Int32} {c : Nat} {v : Int32} : gt_up M c v c = some v := if_pos rfl
theorem gt_up_n {M : Nat → Option Int32} {c x : Nat} {v : Int32} (h : x ≠ c) : gt_up M c v x = M x := if_neg h
/-- the code of a node: one to three digits of 1 to 101 -/
def gt_ok (c : Nat) : Prop := 1 ≤ c / 16384 ∧ c / 16384 ≤ 101 ∧ c / 128 % 128 ≤ 101 ∧ c % 128 ≤ 101 ∧ (c / 128 % 128 = 0 → c % 128 = 0)
theorem gt_ok_lt {c : Nat} (h : gt_ok c) : c < 2097152 := by
  unfold gt_ok at h; omega
/-- X's arrays hold M, by rising place -/
def gt_X (M : Nat → Option Int32) (n : Nat) (pl vl : Nat → Int32) (K : Nat → Nat) : Prop :=
  n ≤ 60 ∧ (∀ i, i < n → pl i = nI (K i)) ∧ (∀ i, i < n → M (K i) = some (vl i)) ∧ (∀ i j, i < j → j < n → K i < K j) ∧ (∀ c v, M c = some v → ∃ i, i < n ∧ K i = c) ∧ (∀ c v, M c = some v → gt_ok c)
theorem gt_rk {M : Nat → Option Int32} {n : Nat} {pl vl : Nat → Int32} {K : Nat → Nat} (H : gt_X M n pl vl K) (c : Nat) : gt_ct M c ≤ n ∧ ∀ i, i < n → (K i < c ↔ i < gt_ct M c) := by
  obtain ⟨-, -, hv, hs, he, -⟩ := H
  induction c with
  | zero => exact ⟨Nat.zero_le _, fun i _ => ⟨fun z => absurd z (by omega), fun z => absurd z (by show ¬ i < 0; omega)⟩⟩
  | succ c ih =>
    obtain ⟨h1, h2⟩ := ih
    cases e : M c with
    | none =>
      have ec : gt_ct M (c + 1) = gt_ct M c := gt_cn_f (gt_has_n e)
      rw [ec]
      refine ⟨h1, fun i hi => ?_⟩
      rw [← h2 i hi]
      have : K i ≠ c := fun z => by
        have := hv i hi
        rw [z, e] at this
        exact absurd this (by simp)
      omega
    | some v =>
      have ec : gt_ct M (c + 1) = gt_ct M c + 1 := gt_cn_t (gt_has_s e)
      obtain ⟨j, hj, ej⟩ := he c v e
      have e1 : ¬ j < gt_ct M c := fun z => by
        have := (h2 j hj).mpr z
        omega
      have e2 : ¬ gt_ct M c < j := fun z => by
        have := hs _ _ z hj
        have := (h2 (gt_ct M c) (by omega)).mp (by omega)
        omega
      have e3 : j = gt_ct M c := by omega
      rw [ec]
      refine ⟨by omega, fun i hi => ?_⟩
      have h3 := h2 i hi
      have h4 : i < j → K i < K j := fun z => hs i j z hj
      have h5 : j < i → K j < K i := fun z => hs j i z hi
      have h6 : i = j → K i = K j := fun z => by rw [z]
      constructor
      · intro z; omega
      · intro z; omega
theorem gt_rkK {M : Nat → Option Int32} {n : Nat} {pl vl : Nat → Int32} {K : Nat → Nat} (H : gt_X M n pl vl K) {i : Nat} (hi : i < n) : gt_ct M (K i) = i := by
  obtain ⟨h1, h2⟩ := gt_rk H (K i)
  have h3 := h2 i hi
  by_cases z : gt_ct M (K i) < i
  · have h4 := H.2.2.2.1 _ _ z hi
    have h5 := (h2 _ (by omega)).mp h4
    omega
  · omega
theorem gt_rkN {M : Nat → Option Int32} {n : Nat} {pl vl : Nat → Int32} {K : Nat → Nat} (H : gt_X M n pl vl K) {b : Nat} (hb : 2097152 ≤ b) : gt_ct M b = n := by
  obtain ⟨h1, h2⟩ := gt_rk H b
  by_cases z : gt_ct M b < n
  · have h3 := H.2.2.1 _ z
    have h4 := gt_ok_lt (H.2.2.2.2.2 _ _ h3)
    have h5 := (h2 _ z).mp (by omega)
    omega
  · omega
/-- the place c has a value: it stands at its rank -/
theorem gt_at {M : Nat → Option Int32} {n : Nat} {pl vl : Nat → Int32} {K : Nat → Nat} (H : gt_X M n pl vl K) {c : Nat} {v : Int32} (h : M c = some v) : gt_ct M c < n ∧ K (gt_ct M c) = c ∧ vl (gt_ct M c) = v := by
  obtain ⟨i, hi, e⟩ := H.2.2.2.2.1 c v h
  have e2 : gt_ct M c = i := by rw [← e]; exact gt_rkK H hi
  rw [e2]
  refine ⟨hi, e, ?_⟩
  have := H.2.2.1 i hi
  rw [e, h] at this
  exact (Option.some.inj this).symm
theorem gt_nat {M : Nat → Option Int32} {n : Nat} {pl vl : Nat → Int32} {K : Nat → Nat} (H : gt_X M n pl vl K) {c : Nat} (h : M c = none) : ¬ (gt_ct M c < n ∧ K (gt_ct M c) = c) := by
  rintro ⟨h1, h2⟩
  have := H.2.2.1 _ h1
  rw [h2, h] at this
  exact absurd this (by simp)
theorem gt_K_lt {M : Nat → Option Int32} {n : Nat} {pl vl : Nat → Int32} {K : Nat → Nat} (H : gt_X M n pl vl K) {i : Nat} (hi : i < n) : K i < 2097152 := gt_ok_lt (H.2.2.2.2.2 _ _ (H.2.2.1 i hi))
theorem gt_ct_le {M : Nat → Option Int32} {n : Nat} {pl vl : Nat → Int32} {K : Nat → Nat} (H : gt_X M n pl vl K) (c : Nat) : gt_ct M c ≤ n := (gt_rk H c).1
end
section
/-! what X's stores do to the map -/
theorem gt_X_set {M : Nat → Option Int32} {n : Nat} {pl vl : Nat → Int32} {K : Nat → Nat} (H : gt_X M n pl vl K) {c : Nat} {w : Int32} (h : M c = some w) (v : Int32) : gt_X (gt_up M c v) n pl (upd vl (gt_ct M c) v) K := by
  obtain ⟨h1, h2, h3, h4, h5, h6⟩ := H
  obtain ⟨a1, a2, a3⟩ := gt_at (⟨h1, h2, h3, h4, h5, h6⟩ : gt_X M n pl vl K) h
  refine ⟨h1, h2, ?_, h4, ?_, ?_⟩
  · intro i hi
    by_cases z : i = gt_ct M c
    · rw [z, a2, gt_up_s]
      exact congrArg some (if_pos rfl).symm
    · have n1 : K i ≠ c := fun e => by
        have : gt_ct M (K i) = i := gt_rkK (⟨h1, h2, h3, h4, h5, h6⟩ : gt_X M n pl vl K) hi
        rw [e] at this
        exact z this.symm
      rw [gt_up_n n1, h3 i hi]
      exact congrArg some (if_neg z).symm
  · intro x y e
    by_cases z : x = c
    · rw [z]; exact ⟨_, a1, a2⟩
    · rw [gt_up_n z] at e
      exact h5 x y e
  · intro x y e
    by_cases z : x = c
    · rw [z]; exact h6 c w h
    · rw [gt_up_n z] at e
      exact h6 x y e
def gt_ins {α : Type} (f : Nat → α) (k : Nat) (x : α) : Nat → α := fun i => if i < k then f i else if i = k then x else f (i - 1)
theorem gt_ins_l {α : Type} {f : Nat → α} {k : Nat} {x : α} {i : Nat} (h : i < k) : gt_ins f k x i = f i := if_pos h
theorem gt_ins_s {α : Type} {f : Nat → α} {k : Nat} {x : α} : gt_ins f k x k = x := by
  unfold gt_ins; rw [if_neg (by omega), if_pos rfl]
theorem gt_ins_g {α : Type} {f : Nat → α} {k : Nat} {x : α} {i : Nat} (h : k < i) : gt_ins f k x i = f (i - 1) := by
  unfold gt_ins; rw [if_neg (by omega), if_neg (by omega)]
theorem gt_X_ins {M : Nat → Option Int32} {n : Nat} {pl vl : Nat → Int32} {K : Nat → Nat} (H : gt_X M n pl vl K) {c : Nat} (h : M c = none) (hc : gt_ok c) (hn : n < 60) (v : Int32) {pl' vl' : Nat → Int32} (hp : ∀ i, i < n + 1 → pl' i = gt_ins pl (gt_ct M c) (nI c) i) (hw : ∀ i, i < n + 1 → vl' i = gt_ins vl (gt_ct M c) v i) : gt_X (gt_up M c v) (n + 1) pl' vl' (gt_ins K (gt_ct M c) c) := by
  obtain ⟨r1, r2⟩ := gt_rk H c
  obtain ⟨h1, h2, h3, h4, h5, h6⟩ := H
  have nc : ∀ i, i < n → K i ≠ c := fun i hi e => by
    have := h3 i hi
    rw [e, h] at this
    exact absurd this (by simp)
  refine ⟨by omega, ?_, ?_, ?_, ?_, ?_⟩
  · intro i hi
    rw [hp i hi]
    by_cases a : i < gt_ct M c
    · rw [gt_ins_l a, gt_ins_l a]; exact h2 i (by omega)
    · by_cases b : i = gt_ct M c
      · rw [b, gt_ins_s, gt_ins_s]
      · rw [gt_ins_g (by omega), gt_ins_g (by omega)]; exact h2 _ (by omega)
  · intro i hi
    rw [hw i hi]
    by_cases a : i < gt_ct M c
    · rw [gt_ins_l a, gt_ins_l a, gt_up_n (nc i (by omega))]; exact h3 i (by omega)
    · by_cases b : i = gt_ct M c
      · rw [b, gt_ins_s, gt_ins_s, gt_up_s]
      · rw [gt_ins_g (by omega), gt_ins_g (by omega), gt_up_n (nc _ (by omega))]; exact h3 _ (by omega)
  · intro i j hij hj
    by_cases a : j < gt_ct M c
    · rw [gt_ins_l a, gt_ins_l (by omega)]; exact h4 i j hij (by omega)
    · by_cases b : j = gt_ct M c
      · rw [b, gt_ins_s, gt_ins_l (by omega)]; exact (r2 i (by omega)).mpr (by omega)
      · rw [gt_ins_g (k := gt_ct M c) (i := j) (by omega)]
        have hjn : ¬ K (j - 1) < c := fun z => by
          have := (r2 (j - 1) (by omega)).mp z
          omega
        by_cases a2 : i < gt_ct M c
        · rw [gt_ins_l a2]
          have := (r2 i (by omega)).mpr a2
          omega
        · by_cases b2 : i = gt_ct M c
          · rw [b2, gt_ins_s]
            have := nc (j - 1) (by omega)
            omega
          · rw [gt_ins_g (by omega)]
            exact h4 _ _ (by omega) (by omega)
  · intro x y e
    by_cases z : x = c
    · rw [z]; exact ⟨gt_ct M c, by omega, gt_ins_s⟩
    · rw [gt_up_n z] at e
      obtain ⟨i, hi, ei⟩ := h5 x y e
      by_cases a : i < gt_ct M c
      · exact ⟨i, by omega, by rw [gt_ins_l a]; exact ei⟩
      · exact ⟨i + 1, by omega, by rw [gt_ins_g (by omega)]; exact ei⟩
  · intro x y e
    by_cases z : x = c
    · rw [z]; exact hc
    · rw [gt_up_n z] at e
      exact h6 x y e
/-- a range of places taken away -/
def gt_cut (M : Nat → Option Int32) (p e : Nat) : Nat → Option Int32 := fun c => if p ≤ c ∧ c < e then none else M c
theorem gt_cut_i {M : Nat → Option Int32} {p e c : Nat} (h : p ≤ c ∧ c < e) : gt_cut M p e c = none := if_pos h
theorem gt_cut_o {M : Nat → Option Int32} {p e c : Nat} (h : ¬ (p ≤ c ∧ c < e)) : gt_cut M p e c = M c := if_neg h
def gt_del {α : Type} (f : Nat → α) (k m : Nat) : Nat → α := fun i => if i < k then f i else f (i + m)
theorem gt_del_l {α : Type} {f : Nat → α} {k m i : Nat} (h : i < k) : gt_del f k m i = f i := if_pos h
theorem gt_del_g {α : Type} {f : Nat → α} {k m i : Nat} (h : ¬ i < k) : gt_del f k m i = f (i + m) := if_neg h
theorem gt_X_cut {M : Nat → Option Int32} {n : Nat} {pl vl : Nat → Int32} {K : Nat → Nat} (H : gt_X M n pl vl K) {p e a m : Nat} (hpe : p ≤ e) (ha : a = gt_ct M p) (hm : m = gt_ct M e - gt_ct M p) {pl' vl' : Nat → Int32} (hp : ∀ i, i < n - m → pl' i = gt_del pl a m i) (hw : ∀ i, i < n - m → vl' i = gt_del vl a m i) : gt_X (gt_cut M p e) (n - m) pl' vl' (gt_del K a m) := by
  obtain ⟨r1, r2⟩ := gt_rk H p
  obtain ⟨q1, q2⟩ := gt_rk H e
  have hmo : gt_ct M p ≤ gt_ct M e := gt_cn_mono _ hpe
  rw [← ha] at r1 r2
  have q3 : gt_ct M e = a + m := by omega
  rw [q3] at q1 q2
  obtain ⟨h1, h2, h3, h4, h5, h6⟩ := H
  refine ⟨by omega, ?_, ?_, ?_, ?_, ?_⟩
  · intro i hi
    rw [hp i hi]
    by_cases z : i < a
    · rw [gt_del_l z, gt_del_l z]; exact h2 i (by omega)
    · rw [gt_del_g z, gt_del_g z]; exact h2 _ (by omega)
  · intro i hi
    rw [hw i hi]
    by_cases z : i < a
    · have := (r2 i (by omega)).mpr z
      rw [gt_del_l z, gt_del_l z, gt_cut_o (by omega)]; exact h3 i (by omega)
    · have : ¬ K (i + m) < e := fun y => by
        have := (q2 (i + m) (by omega)).mp y
        omega
      rw [gt_del_g z, gt_del_g z, gt_cut_o (by omega)]; exact h3 _ (by omega)
  · intro i j hij hj
    by_cases z : j < a
    · rw [gt_del_l z, gt_del_l (by omega)]; exact h4 i j hij (by omega)
    · rw [gt_del_g z]
      by_cases y : i < a
      · rw [gt_del_l y]; exact h4 _ _ (by omega) (by omega)
      · rw [gt_del_g y]; exact h4 _ _ (by omega) (by omega)
  · intro x y ex
    by_cases z : p ≤ x ∧ x < e
    · rw [gt_cut_i z] at ex; exact absurd ex (by simp)
    · rw [gt_cut_o z] at ex
      obtain ⟨i, hi, ei⟩ := h5 x y ex
      by_cases w : i < a
      · exact ⟨i, by omega, by rw [gt_del_l w]; exact ei⟩
      · have s1 : ¬ K i < p := fun t => w ((r2 i hi).mp t)
        have s2 : ¬ i < a + m := fun t => by
          have := (q2 i hi).mpr t
          omega
        refine ⟨i - m, by omega, ?_⟩
        rw [gt_del_g (by omega), Nat.sub_add_cancel (by omega)]
        exact ei
  · intro x y ex
    by_cases z : p ≤ x ∧ x < e
    · rw [gt_cut_i z] at ex; exact absurd ex (by simp)
    · rw [gt_cut_o z] at ex
      exact h6 x y ex
/-! merge: what lies in p .. b is copied to q .. -/
def gt_mg (M : Nat → Option Int32) (p q b : Nat) : Nat → Option Int32 := fun c => if q ≤ c ∧ c + p < q + b ∧ gt_has M (c + p - q) = true then M (c + p - q) else M c
theorem gt_mg_i {M : Nat → Option Int32} {p q b c : Nat} (h : q ≤ c ∧ c + p < q + b ∧ gt_has M (c + p - q) = true) : gt_mg M p q b c = M (c + p - q) := if_pos h
theorem gt_mg_o {M : Nat → Option Int32} {p q b c : Nat} (h : ¬ (q ≤ c ∧ c + p < q + b ∧ gt_has M (c + p - q) = true)) : gt_mg M p q b c = M c := if_neg h
theorem gt_mg_0 (M : Nat → Option Int32) (p q : Nat) : gt_mg M p q p = M := funext fun c => gt_mg_o (fun z => by have := z.1; have := z.2.1; omega)
theorem gt_mg_gap {M : Nat → Option Int32} {p q a b : Nat} (h : a ≤ b) (hn : ∀ c, a ≤ c → c < b → gt_has M c = false) : gt_mg M p q b = gt_mg M p q a := by
  funext c
  by_cases z : q ≤ c ∧ c + p < q + a ∧ gt_has M (c + p - q) = true
  · rw [gt_mg_i z, gt_mg_i ⟨z.1, by omega, z.2.2⟩]
  · rw [gt_mg_o z]
    by_cases y : q ≤ c ∧ c + p < q + b ∧ gt_has M (c + p - q) = true
    · have : ¬ c + p < q + a := fun t => z ⟨y.1, t, y.2.2⟩
      have := hn (c + p - q) (by omega) (by omega)
      rw [this] at y
      exact absurd y.2.2 (by decide)
    · rw [gt_mg_o y]
theorem gt_mg_s {M : Nat → Option Int32} {p q b : Nat} {v : Int32} (hb : p ≤ b) (hv : M b = some v) : gt_mg M p q (b + 1) = gt_up (gt_mg M p q b) (b + q - p) v := by
  funext c
  by_cases z : c = b + q - p
  · rw [z, gt_up_s]
    have e : b + q - p + p - q = b := by omega
    rw [gt_mg_i ⟨by omega, by omega, by rw [e]; exact gt_has_s hv⟩, e, hv]
  · rw [gt_up_n z]
    by_cases y : q ≤ c ∧ c + p < q + b ∧ gt_has M (c + p - q) = true
    · rw [gt_mg_i y, gt_mg_i ⟨y.1, by omega, y.2.2⟩]
    · rw [gt_mg_o y, gt_mg_o]
      rintro ⟨y1, y2, y3⟩
      exact y ⟨y1, by omega, y3⟩
/-- merge onto itself changes nothing -/
theorem gt_mg_id (M : Nat → Option Int32) (p b : Nat) : gt_mg M p p b = M := by
  funext c
  by_cases y : p ≤ c ∧ c + p < p + b ∧ gt_has M (c + p - p) = true
  · rw [gt_mg_i y, Nat.add_sub_cancel]
  · rw [gt_mg_o y]
/-- outside of the target nothing changes -/
theorem gt_mg_out {M : Nat → Option Int32} {p q b e c : Nat} (hb : b ≤ p + e) (h : ¬ (q ≤ c ∧ c < q + e)) : gt_mg M p q b c = M c := gt_mg_o (fun z => by have := z.1; have := z.2.1; omega)
/-- how many of p .. b are new at q .. -/
def gt_ms (M : Nat → Option Int32) (p q k : Nat) : Nat := gt_cn (fun j => gt_has M (p + j) && !gt_has M (q + j)) k
end
section
/-! the counts of a merge -/
theorem gt_ct_gap {M : Nat → Option Int32} {a c : Nat} (h : gt_ct M c = gt_ct M a) : ∀ x, a ≤ x → x < c → gt_has M x = false := by
  intro x h1 h2
  cases e : gt_has M x with
  | false => rfl
  | true =>
    have a1 : gt_ct M a ≤ gt_ct M x := gt_cn_mono _ h1
    have a2 : gt_ct M x < gt_ct M c := gt_cn_lt h2 e
    omega
theorem gt_ms_s (M : Nat → Option Int32) (p q k : Nat) : gt_ms M p q (k + 1) = gt_ms M p q k + (if (gt_has M (p + k) && !gt_has M (q + k)) = true then 1 else 0) := rfl
theorem gt_ms_gap {M : Nat → Option Int32} {p q a b : Nat} (hp : p ≤ a) (h : a ≤ b) (hn : ∀ c, a ≤ c → c < b → gt_has M c = false) : gt_ms M p q (b - p) = gt_ms M p q (a - p) := by
  refine gt_cn_same (by omega) (fun c h1 h2 => ?_)
  show (gt_has M (p + c) && !gt_has M (q + c)) = false
  rw [hn (p + c) (by omega) (by omega)]
  rfl
theorem gt_ms_t {M : Nat → Option Int32} {p q c : Nat} (hp : p ≤ c) (hc : gt_has M c = true) (hq : gt_has M (c + q - p) = true) : gt_ms M p q (c + 1 - p) = gt_ms M p q (c - p) := by
  have e : c + 1 - p = (c - p) + 1 := by omega
  rw [e, gt_ms_s, show p + (c - p) = c by omega, show q + (c - p) = c + q - p by omega, hc, hq, if_neg (by decide)]
  rfl
theorem gt_ms_f {M : Nat → Option Int32} {p q c : Nat} (hp : p ≤ c) (hc : gt_has M c = true) (hq : gt_has M (c + q - p) = false) : gt_ms M p q (c + 1 - p) = gt_ms M p q (c - p) + 1 := by
  have e : c + 1 - p = (c - p) + 1 := by omega
  rw [e, gt_ms_s, show p + (c - p) = c by omega, show q + (c - p) = c + q - p by omega, hc, hq, if_pos (by decide)]
theorem gt_ms_mono (M : Nat → Option Int32) (p q : Nat) {a b : Nat} (h : a ≤ b) : gt_ms M p q a ≤ gt_ms M p q b := gt_cn_mono _ h
theorem gt_ms_le (M : Nat → Option Int32) (p q k : Nat) : gt_ct M p + gt_ms M p q k ≤ gt_ct M (p + k) := by
  induction k with
  | zero => exact Nat.le_refl _
  | succ k ih =>
    have e : gt_ct M (p + (k + 1)) = gt_ct M (p + k) + (if gt_has M (p + k) = true then 1 else 0) := rfl
    rw [gt_ms_s, e]
    cases gt_has M (p + k) with
    | false => rw [Bool.false_and, if_neg (by decide)]; omega
    | true =>
      rw [if_pos rfl]
      split <;> omega
theorem gt_mg_ct (M : Nat → Option Int32) (p q : Nat) {B : Nat} : ∀ k, q + k ≤ B → gt_ct (gt_mg M p q (p + k)) B = gt_ct M B + gt_ms M p q k := by
  intro k
  induction k with
  | zero => intro _; rw [Nat.add_zero, gt_mg_0]; rfl
  | succ k ih =>
    intro hB
    have ih := ih (by omega)
    cases e : gt_has M (p + k) with
    | false =>
      have g1 : gt_mg M p q (p + (k + 1)) = gt_mg M p q (p + k) := gt_mg_gap (by omega) (fun c h1 h2 => by
        have : c = p + k := by omega
        rw [this]; exact e)
      rw [g1, ih, gt_ms_s, e, Bool.false_and, if_neg (by decide)]
      rfl
    | true =>
      obtain ⟨v, hv⟩ := gt_has_t e
      have g1 : gt_mg M p q (p + (k + 1)) = gt_up (gt_mg M p q (p + k)) (q + k) v := by
        rw [← Nat.add_assoc, gt_mg_s (by omega) hv, show p + k + q - p = q + k by omega]
      have g2 : gt_mg M p q (p + k) (q + k) = M (q + k) := gt_mg_o (fun z => by have := z.2.1; omega)
      rw [g1, gt_ms_s, e, Bool.true_and]
      cases e2 : gt_has M (q + k) with
      | true =>
        rw [if_neg (by decide), Nat.add_zero, ← ih]
        refine gt_cn_eq (fun c _ => ?_)
        by_cases z : c = q + k
        · rw [z]
          have a1 : gt_has (gt_up (gt_mg M p q (p + k)) (q + k) v) (q + k) = true := gt_has_s gt_up_s
          obtain ⟨w, hw⟩ := gt_has_t e2
          have a2 : gt_has (gt_mg M p q (p + k)) (q + k) = true := gt_has_s (g2.trans hw)
          rw [a1, a2]
        · unfold gt_has; rw [gt_up_n z]
      | false =>
        rw [if_pos (by decide), ← Nat.add_assoc, ← ih]
        have a1 : gt_has (gt_up (gt_mg M p q (p + k)) (q + k) v) (q + k) = true := gt_has_s gt_up_s
        have a2 : gt_has (gt_mg M p q (p + k)) (q + k) = false := gt_has_n (g2.trans (gt_has_f e2))
        have a3 := gt_cn_new (f := gt_has (gt_mg M p q (p + k))) (g := gt_has (gt_up (gt_mg M p q (p + k)) (q + k) v)) (p := q + k) (n := B) (fun c z => by unfold gt_has; rw [gt_up_n z]) a2 a1
        rw [if_pos (by omega)] at a3
        exact a3
/-- within the source, ranks keep their distance to its start -/
theorem gt_mg_rk {M : Nat → Option Int32} {p q b e j : Nat} (hd : q = p ∨ q + e ≤ p ∨ p + e ≤ q) (hb : b ≤ p + e) (hj : j ≤ e) : gt_ct (gt_mg M p q b) (p + j) + gt_ct M p = gt_ct M (p + j) + gt_ct (gt_mg M p q b) p := by
  have e1 : gt_ct (gt_mg M p q b) (p + j) = gt_ct (gt_mg M p q b) p + gt_cn (fun i => gt_has (gt_mg M p q b) (p + i)) j := gt_cn_add _ _ _
  have e2 : gt_ct M (p + j) = gt_ct M p + gt_cn (fun i => gt_has M (p + i)) j := gt_cn_add _ _ _
  have e3 : gt_cn (fun i => gt_has (gt_mg M p q b) (p + i)) j = gt_cn (fun i => gt_has M (p + i)) j := by
    refine gt_cn_eq (fun c hc => ?_)
    show gt_has (gt_mg M p q b) (p + c) = gt_has M (p + c)
    have : gt_mg M p q b (p + c) = M (p + c) := by
      rcases hd with hd | hd | hd
      · rw [hd, gt_mg_id]
      · exact gt_mg_out hb (by omega)
      · exact gt_mg_out hb (by omega)
    unfold gt_has; rw [this]
  omega
theorem gt_mg_src {M : Nat → Option Int32} {p q b e c : Nat} (hd : q = p ∨ q + e ≤ p ∨ p + e ≤ q) (hb : b ≤ p + e) (h1 : p ≤ c) (h2 : c < p + e) : gt_mg M p q b c = M c := by
  rcases hd with hd | hd | hd
  · rw [hd, gt_mg_id]
  · exact gt_mg_out hb (by omega)
  · exact gt_mg_out hb (by omega)
/-- the next one of the run: its place, its value, where it stands now, and what its copy makes -/
theorem gt_mg_step {M : Nat → Option Int32} {p q e b i n' : Nat} {pl vl : Nat → Int32} {K : Nat → Nat} (hd : q = p ∨ q + e ≤ p ∨ p + e ≤ q) (hpb : p ≤ b) (hb : b ≤ p + e) (hi : gt_ct M b = gt_ct M p + i) (hl : gt_ct M p + i < gt_ct M (p + e)) (H : gt_X (gt_mg M p q b) n' pl vl K) : ∃ c v, b ≤ c ∧ c < p + e ∧ M c = some v ∧ gt_ct M c = gt_ct M p + i ∧ gt_mg M p q b = gt_mg M p q c ∧ gt_ct (gt_mg M p q b) p + i < n' ∧ K (gt_ct (gt_mg M p q b) p + i) = c ∧ vl (gt_ct (gt_mg M p q b) p + i) = v ∧ gt_mg M p q (c + 1) = gt_up (gt_mg M p q b) (c + q - p) v := by
  have hlt : gt_ct M b < gt_ct M (p + e) := by omega
  obtain ⟨c, c1, c2, c3, c4⟩ := gt_cn_ex hlt
  have c4 : gt_ct M c = gt_ct M b := c4
  obtain ⟨v, hv⟩ := gt_has_t c3
  have g := gt_mg_gap (M := M) (p := p) (q := q) c1 (gt_ct_gap c4)
  have s : gt_mg M p q b c = some v := (gt_mg_src hd hb (by omega) c2).trans hv
  obtain ⟨a1, a2, a3⟩ := gt_at H s
  have r := gt_mg_rk (M := M) (b := b) (j := c - p) hd hb (by omega)
  rw [show p + (c - p) = c by omega] at r
  have e1 : gt_ct (gt_mg M p q b) c = gt_ct (gt_mg M p q b) p + i := by omega
  rw [e1] at a1 a2 a3
  refine ⟨c, v, c1, c2, hv, by omega, g.symm, a1, a2, a3, ?_⟩
  rw [gt_mg_s (by omega) hv, g]
/-- there is room for the next copy -/
theorem gt_mg_room {M : Nat → Option Int32} {p q e c n n' : Nat} {v : Int32} {pl vl pl' vl' : Nat → Int32} {K K' : Nat → Nat} (H0 : gt_X M n pl vl K) (H : gt_X (gt_mg M p q c) n' pl' vl' K') (hpc : p ≤ c) (hc : c < p + e) (hq : q + e ≤ 2097152) (hv : M c = some v) (hr : n + gt_ms M p q e ≤ 60) (hN : gt_mg M p q c (c + q - p) = none) : n' < 60 := by
  have e1 := gt_mg_ct M p q (B := 2097152) (c - p) (by omega)
  rw [show p + (c - p) = c by omega] at e1
  have e2 := gt_rkN H (b := 2097152) (Nat.le_refl _)
  have e3 := gt_rkN H0 (b := 2097152) (Nat.le_refl _)
  have o : gt_mg M p q c (c + q - p) = M (c + q - p) := gt_mg_o (fun z => by have := z.2.1; omega)
  have f := gt_ms_f hpc (gt_has_s hv) (gt_has_n (o.symm.trans hN))
  have m := gt_ms_mono M p q (a := c + 1 - p) (b := e) (by omega)
  omega
end
section
/-! X's numbers: bits below a level, spans, digits, parents, siblings -/
def gx_sp (l : Nat) : Nat := 2 ^ ((3 - l) * 7)
theorem gx_sp0 : gx_sp 0 = 2097152 := by decide
theorem gx_sp1 : gx_sp 1 = 16384 := by decide
theorem gx_sp2 : gx_sp 2 = 128 := by decide
theorem gx_sp3 : gx_sp 3 = 1 := by decide
theorem gx_4 {l : Nat} {P : Nat → Prop} (h : l ≤ 3) (h0 : P 0) (h1 : P 1) (h2 : P 2) (h3 : P 3) : P l := by
  have : l = 0 ∨ l = 1 ∨ l = 2 ∨ l = 3 := by omega
  rcases this with e | e | e | e <;> rw [e] <;> assumption
theorem gx_bits {l : Nat} (h : l ≤ 3) : (3 - nI l) * 7 = nI ((3 - l) * 7) :=
  gx_4 (P := fun l => (3 - nI l) * 7 = nI ((3 - l) * 7)) h (by decide +kernel) (by decide +kernel) (by decide +kernel) (by decide +kernel)
theorem gx_cnt {l : Nat} (h : l ≤ 3) : ((nI ((3 - l) * 7) &&& 31).toBitVec.smod 32).toNat = (3 - l) * 7 :=
  gx_4 (P := fun l => ((nI ((3 - l) * 7) &&& 31).toBitVec.smod 32).toNat = (3 - l) * 7) h (by decide +kernel) (by decide +kernel) (by decide +kernel) (by decide +kernel)
theorem gx_span {l : Nat} (h : l ≤ 3) : (1 : Int32) <<< (nI ((3 - l) * 7) &&& 31) = nI (gx_sp l) :=
  gx_4 (P := fun l => (1 : Int32) <<< (nI ((3 - l) * 7) &&& 31) = nI (gx_sp l)) h (by decide +kernel) (by decide +kernel) (by decide +kernel) (by decide +kernel)
theorem gx_127 : (127 : Int32).toBitVec.toNat = 2 ^ 7 - 1 := by decide
theorem gx_dig {c l : Nat} (hc : c < 2 ^ 31) (h : l ≤ 3) : (nI c >>> (nI ((3 - l) * 7) &&& 31)) &&& 127 = nI (c / gx_sp l % 128) := by
  unfold gx_sp
  have e : c / 2 ^ ((3 - l) * 7) ≤ c := Nat.div_le_self _ _
  rw [pk_shrN hc _ ((3 - l) * 7) (gx_cnt h), pk_andN (show c / 2 ^ ((3 - l) * 7) < 2 ^ 32 by omega) 7 gx_127]
theorem gx_par {c l : Nat} (hc : c < 2 ^ 31) (h : l ≤ 3) : (nI c >>> (nI ((3 - l) * 7) &&& 31)) <<< (nI ((3 - l) * 7) &&& 31) = nI (c / gx_sp l * gx_sp l) := by
  unfold gx_sp
  have e : c / 2 ^ ((3 - l) * 7) * 2 ^ ((3 - l) * 7) ≤ c := Nat.div_mul_le_self _ _
  rw [pk_shrN hc _ ((3 - l) * 7) (gx_cnt h), pk_shlN _ ((3 - l) * 7) (gx_cnt h) (show c / 2 ^ ((3 - l) * 7) * 2 ^ ((3 - l) * 7) < 2 ^ 32 by omega)]
theorem gx_51 : (51 : Int32) = nI 51 := by decide +kernel
theorem gx_sub {s : Int32} (h1 : -50 ≤ s) (h2 : s ≤ 50) : ∃ t : Nat, 1 ≤ t ∧ t ≤ 101 ∧ s = nI t - 51 := by
  rw [Int32.le_iff_toInt_le] at h1 h2
  have e1 : (-50 : Int32).toInt = -50 := by decide
  have e2 : (50 : Int32).toInt = 50 := by decide
  rw [e1] at h1
  rw [e2] at h2
  refine ⟨(s.toInt + 51).toNat, by omega, by omega, ?_⟩
  apply Int32.toInt_inj.mp
  rw [gx_51, pk_sub_toInt (by omega) (by omega)]
  omega
theorem gx_ti {t : Nat} (h : t < 2 ^ 30) : (nI t - 51).toInt = (t : Int) - 51 := by
  rw [gx_51, pk_sub_toInt h (by omega)]
  rfl
theorem gx_lt {a b : Nat} (ha : a < 2 ^ 30) (hb : b < 2 ^ 30) : nI a - 51 < nI b - 51 ↔ a < b := by
  rw [Int32.lt_iff_toInt_lt, gx_ti ha, gx_ti hb]; omega
theorem gx_le {a b : Nat} (ha : a < 2 ^ 30) (hb : b < 2 ^ 30) : nI a - 51 ≤ nI b - 51 ↔ a ≤ b := by
  rw [Int32.le_iff_toInt_le, gx_ti ha, gx_ti hb]; omega
theorem gx_eq {a b : Nat} (ha : a < 2 ^ 30) (hb : b < 2 ^ 30) : nI a - 51 = nI b - 51 ↔ a = b := by
  rw [← Int32.toInt_inj, gx_ti ha, gx_ti hb]; omega
theorem gx_m50 {t : Nat} (h1 : 1 ≤ t) (h : t ≤ 101) : -50 ≤ nI t - 51 := by
  rw [Int32.le_iff_toInt_le, gx_ti (by omega), show (-50 : Int32).toInt = -50 by decide]; omega
theorem gx_p50 {t : Nat} (h : t ≤ 101) : nI t - 51 ≤ 50 := by
  rw [Int32.le_iff_toInt_le, gx_ti (by omega), show (50 : Int32).toInt = 50 by decide]; omega
theorem gx_back (t : Nat) : nI t - 51 + 51 = nI t := by grind
/-- a place moved by the distance to a sibling -/
theorem gx_move {c t g w : Nat} (h : g * w ≤ c + t * w) : nI c + ((nI t - 51) - (nI g - 51)) * nI w = nI (c + t * w - g * w) := by
  rw [← pk_sub h, ← nI_add, ← pk_mul, ← pk_mul]
  grind
/-- a pointer of d digits -/
def gx_pt (d p : Nat) : Prop := (d = 0 ∧ p = 0) ∨ (d = 1 ∧ p % 16384 = 0 ∧ 1 ≤ p / 16384 ∧ p / 16384 ≤ 101) ∨ (d = 2 ∧ p % 128 = 0 ∧ 1 ≤ p / 128 % 128 ∧ p / 128 % 128 ≤ 101 ∧ 1 ≤ p / 16384 ∧ p / 16384 ≤ 101) ∨ (d = 3 ∧ 1 ≤ p % 128 ∧ p % 128 ≤ 101 ∧ 1 ≤ p / 128 % 128 ∧ p / 128 % 128 ≤ 101 ∧ 1 ≤ p / 16384 ∧ p / 16384 ≤ 101)
theorem gx_pt_d {d p : Nat} (h : gx_pt d p) : d ≤ 3 := by unfold gx_pt at h; omega
theorem gx_pt_lt {d p : Nat} (h : gx_pt d p) : p + gx_sp d ≤ 2097152 := by
  have hd := gx_pt_d h
  revert h
  refine gx_4 (P := fun d => gx_pt d p → p + gx_sp d ≤ 2097152) hd ?_ ?_ ?_ ?_
  · rw [gx_sp0]; unfold gx_pt; omega
  · rw [gx_sp1]; unfold gx_pt; omega
  · rw [gx_sp2]; unfold gx_pt; omega
  · rw [gx_sp3]; unfold gx_pt; omega
theorem gx_pt_dn {d p t : Nat} (h : gx_pt d p) (hd : d < 3) (h1 : 1 ≤ t) (h2 : t ≤ 101) : gx_pt (d + 1) (p + t * gx_sp (d + 1)) := by
  have : d = 0 ∨ d = 1 ∨ d = 2 := by omega
  rcases this with e | e | e <;> subst e
  · rw [gx_sp1]; unfold gx_pt at h ⊢; omega
  · rw [gx_sp2]; unfold gx_pt at h ⊢; omega
  · rw [gx_sp3]; unfold gx_pt at h ⊢; omega
theorem gx_pt_up {d p : Nat} (h : gx_pt (d + 1) p) : gx_pt d (p / gx_sp d * gx_sp d) := by
  have hd := gx_pt_d h
  have : d = 0 ∨ d = 1 ∨ d = 2 := by omega
  rcases this with e | e | e <;> subst e
  · rw [gx_sp0]; unfold gx_pt at h ⊢; omega
  · rw [gx_sp1]; unfold gx_pt at h ⊢; omega
  · rw [gx_sp2]; unfold gx_pt at h ⊢; omega
/-- the last digit -/
theorem gx_pt_g {d p : Nat} (h : gx_pt (d + 1) p) : 1 ≤ p / gx_sp (d + 1) % 128 ∧ p / gx_sp (d + 1) % 128 ≤ 101 ∧ p / gx_sp (d + 1) % 128 * gx_sp (d + 1) ≤ p := by
  have hd := gx_pt_d h
  have : d = 0 ∨ d = 1 ∨ d = 2 := by omega
  rcases this with e | e | e <;> subst e
  · rw [gx_sp1]; unfold gx_pt at h; omega
  · rw [gx_sp2]; unfold gx_pt at h; omega
  · rw [gx_sp3]; unfold gx_pt at h; omega
/-- the sibling with last digit t -/
def gx_sb (d p t : Nat) : Nat := p + t * gx_sp d - p / gx_sp d % 128 * gx_sp d
theorem gx_sb_pt {d p t : Nat} (h : gx_pt (d + 1) p) (h1 : 1 ≤ t) (h2 : t ≤ 101) : gx_pt (d + 1) (gx_sb (d + 1) p t) := by
  have hd := gx_pt_d h
  unfold gx_sb
  have : d = 0 ∨ d = 1 ∨ d = 2 := by omega
  rcases this with e | e | e <;> subst e
  · rw [gx_sp1]; unfold gx_pt at h ⊢; omega
  · rw [gx_sp2]; unfold gx_pt at h ⊢; omega
  · rw [gx_sp3]; unfold gx_pt at h ⊢; omega
theorem gx_sb_dj {d p t : Nat} (h : gx_pt (d + 1) p) (h1 : 1 ≤ t) (h2 : t ≤ 101) : gx_sb (d + 1) p t = p ∨ gx_sb (d + 1) p t + gx_sp (d + 1) ≤ p ∨ p + gx_sp (d + 1) ≤ gx_sb (d + 1) p t := by
  have hd := gx_pt_d h
  unfold gx_sb
  have : d = 0 ∨ d = 1 ∨ d = 2 := by omega
  rcases this with e | e | e <;> subst e
  · rw [gx_sp1]; unfold gx_pt at h; omega
  · rw [gx_sp2]; unfold gx_pt at h; omega
  · rw [gx_sp3]; unfold gx_pt at h; omega
theorem gx_sb_mv {d p t c : Nat} (h : gx_pt (d + 1) p) (hc : p ≤ c) : c + t * gx_sp (d + 1) - p / gx_sp (d + 1) % 128 * gx_sp (d + 1) = c + gx_sb (d + 1) p t - p := by
  have := (gx_pt_g h).2.2
  unfold gx_sb
  omega
theorem gx_sb_ok {d p t c : Nat} (h : gx_pt (d + 1) p) (h1 : 1 ≤ t) (h2 : t ≤ 101) (hk : gt_ok c) (hc : p ≤ c) (he : c < p + gx_sp (d + 1)) : gt_ok (c + gx_sb (d + 1) p t - p) := by
  have hd := gx_pt_d h
  unfold gx_sb
  have : d = 0 ∨ d = 1 ∨ d = 2 := by omega
  rcases this with e | e | e <;> subst e
  · rw [gx_sp1] at he ⊢; unfold gx_pt at h; unfold gt_ok at hk ⊢; omega
  · rw [gx_sp2] at he ⊢; unfold gx_pt at h; unfold gt_ok at hk ⊢; omega
  · rw [gx_sp3] at he ⊢; unfold gx_pt at h; unfold gt_ok at hk ⊢; omega
theorem gx_pt_ok {d p : Nat} (h : gx_pt (d + 1) p) : gt_ok p := by
  unfold gx_pt at h; unfold gt_ok; omega
end
section
/-! X's walks, each with a general post -/
theorem gw_sp {l : Nat} (h : l ≤ 3) {post : Int32 → Prop} (hp : post (nI (gx_sp l))) : wpX_span post (nI l) := by
  unfold wpX_span wpX_bitsBelow
  dsimp only
  rw [gx_bits h, gx_span h]
  exact hp
theorem gw_sa {c l : Nat} (hc : c < 2 ^ 31) (h : l ≤ 3) {post : Int32 → Prop} (hp : post (nI (c / gx_sp l % 128) - 51)) : wpX_subscriptAt post (nI c) (nI l) := by
  unfold wpX_subscriptAt wpX_bitsBelow
  rw [gx_bits h]
  exact nm_r (gx_dig hc h) hp
theorem gw_par {p d : Nat} (hp : p < 2 ^ 31) (hd : d < 3) {post : Int32 → Prop} {fu : Int32} {pl vl : Nat → Int32} (k : post (nI (p / gx_sp d * gx_sp d))) : wpX_parentOfPointer post (fu, nI p, nI (d + 1), pl, vl) := by
  unfold wpX_parentOfPointer wpX_bitsBelow
  dsimp only
  rw [nI_pred, gx_bits (by omega), gx_par hp (by omega)]
  exact k
theorem gw_ds {p d t : Nat} (hp : p < 2 ^ 31) (hd : d ≤ 3) {post : Int32 → Prop} {fu : Int32} {pl vl : Nat → Int32} (k : post (((nI t - 51) - (nI (p / gx_sp d % 128) - 51)) * nI (gx_sp d))) : wpX_distanceToSibling post (fu, nI p, nI d, pl, vl) (nI t - 51) := by
  unfold wpX_distanceToSibling
  dsimp only
  exact gw_sa hp hd (gw_sp hd k)
theorem gw_is {s : Int32} {post : Int32 → Prop} (h0 : ¬ (-50 ≤ s ∧ s ≤ 50) → post 0) (h1 : ∀ t, 1 ≤ t → t ≤ 101 → s = nI t - 51 → post 1) : wpX_isSubscript post s := by
  unfold wpX_isSubscript
  by_cases a : s < -50
  · exact br_t a (h0 (fun z => absurd z.1 (Int32.not_le.mpr a)))
  · refine br_f a ?_
    by_cases b : 50 < s
    · exact br_t b (h0 (fun z => absurd z.2 (Int32.not_le.mpr b)))
    · refine br_f b ?_
      obtain ⟨t, t1, t2, e⟩ := gx_sub (Int32.not_lt.mp a) (Int32.not_lt.mp b)
      exact h1 t t1 t2 e
section
variable {M : Nat → Option Int32} {n : Nat} {pl vl : Nat → Int32} {K : Nat → Nat} {fp fd : Int32}
theorem gw_cb (H : gt_X M n pl vl K) {post : Int32 → Prop} (c : Nat) (hc : c < 2 ^ 31) (h : post (nI (gt_ct M c))) : wpX_countBefore post (nI n, fp, fd, pl, vl) (nI c) := by
  obtain ⟨r1, r2⟩ := gt_rk H c
  have hn := H.1
  have L : ∀ f i, i ≤ gt_ct M c → gt_ct M c - i < f → wX_countBefore_2 post (nI c) (nI n) fp fd pl vl f (nI i) := by
    intro f
    induction f with
    | zero => intro i _ h2; omega
    | succ f ih =>
      intro i h1 h2
      refine pk_le n i (fun z => ?_) (fun z => ⟨vp_in_nI (by omega) (by omega), ?_⟩)
      · have e : i = gt_ct M c := by omega
        rw [e]; exact h
      · have hk := gt_K_lt H z
        have e : pl (nI i).toNatClampNeg = nI (K i) := by rw [nI_clamp (by omega)]; exact H.2.1 i z
        have r3 := r2 i z
        refine pk_le c (K i) (fun w => ?_) (fun w => nm_r (nI_1 i) (ih (i + 1) (by omega) (by omega))) rfl e (by omega) (by omega)
        have e2 : i = gt_ct M c := by omega
        rw [e2]; exact h
  exact ⟨gt_ct M c + 1, L _ 0 (Nat.zero_le _) (by omega)⟩
theorem gw_cw (H : gt_X M n pl vl K) {post : Int32 → Prop} (c l : Nat) (hc : c + gx_sp l < 2 ^ 31) (hl : l ≤ 3) (h : post (nI (gt_ct M (c + gx_sp l) - gt_ct M c))) : wpX_countWithin post (nI n, fp, fd, pl, vl) (nI c) (nI l) := by
  unfold wpX_countWithin
  dsimp only
  refine gw_sp hl (nm_r (nI_add _ _) (gw_cb H _ hc (gw_cb H c (by omega) ?_)))
  rw [pk_sub (show gt_ct M c ≤ gt_ct M (c + gx_sp l) from gt_cn_mono _ (by omega))]
  exact h
theorem gw_st (H : gt_X M n pl vl K) {post : Int32 → Prop} (c : Nat) (hc : c < 2 ^ 31) (h0 : M c = none → post 0) (h1 : ∀ v, M c = some v → post 1) : wpX_standsAt post (nI n, fp, fd, pl, vl) (nI c) (nI (gt_ct M c)) := by
  have hn := H.1
  have hr := gt_ct_le H c
  unfold wpX_standsAt
  dsimp only
  cases hM : M c with
  | none =>
    have nn := gt_nat H hM
    refine pk_le n (gt_ct M c) (fun _ => h0 hM) (fun z => ⟨vp_in_nI (by omega) (by omega), ?_⟩)
    have hk := gt_K_lt H z
    have e : pl (nI (gt_ct M c)).toNatClampNeg = nI (K (gt_ct M c)) := by rw [nI_clamp (by omega)]; exact H.2.1 _ z
    exact pk_eq (K (gt_ct M c)) c (fun w => absurd ⟨z, w⟩ nn) (fun _ => h0 hM) e rfl (by omega) hc
  | some v =>
    obtain ⟨a1, a2, a3⟩ := gt_at H hM
    have e : pl (nI (gt_ct M c)).toNatClampNeg = nI c := by rw [nI_clamp (by omega), H.2.1 _ a1, a2]
    exact pk_le n (gt_ct M c) (fun z => absurd z (by omega)) (fun z => ⟨vp_in_nI (by omega) (by omega), br_t e (h1 v hM)⟩)
theorem gw_hv (H : gt_X M n pl vl K) {post : Int32 → Prop} (c : Nat) (hc : c < 2 ^ 31) (h0 : M c = none → post 0) (h1 : ∀ v, M c = some v → post 1) : wpX_hasValue post (nI n, fp, fd, pl, vl) (nI c) := by
  unfold wpX_hasValue
  dsimp only
  exact gw_cb H c hc (gw_st H c hc (fun e => ⟨rfl, h0 e⟩) (fun v e => ⟨rfl, h1 v e⟩))
theorem gw_va (H : gt_X M n pl vl K) {post : Int32 → Prop} (c : Nat) (hc : c < 2 ^ 31) (h : post ((M c).getD 0)) : wpX_valueAt post (nI n, fp, fd, pl, vl) (nI c) := by
  have hn := H.1
  unfold wpX_valueAt
  dsimp only
  refine gw_cb H c hc (gw_st H c hc (fun e => br_t rfl ?_) (fun v e => br_f (by decide) ?_))
  · rw [e] at h; exact h
  · obtain ⟨a1, a2, a3⟩ := gt_at H e
    refine ⟨vp_in_nI (by omega) (by omega), ?_⟩
    rw [nI_clamp (by omega), a3]
    rw [e] at h; exact h
/-- the shift up: what stands at i and above goes one up, then the new one in its place -/
theorem gw_up {post : Int32 → SX → Prop} (c v : Int32) (k : Nat) (hn : n < 60) (hk : k ≤ n) (h : ∀ pl' vl', (∀ i, i < n + 1 → pl' i = gt_ins pl k c i) → (∀ i, i < n + 1 → vl' i = gt_ins vl k v i) → post 0 (nI (n + 1), fp, fd, pl', vl')) : ∀ f j (pa va : Nat → Int32), k ≤ j → j ≤ n → j - k < f → (∀ i, i < n + 1 → i ≤ j → pa i = pl i) → (∀ i, i < n + 1 → i ≤ j → va i = vl i) → (∀ i, i < n + 1 → j < i → pa i = pl (i - 1)) → (∀ i, i < n + 1 → j < i → va i = vl (i - 1)) → wX_store_42 post c v (nI k) (nI n) fp fd f (nI j) pa va := by
  intro f
  induction f with
  | zero => intro j pa va h1 h2 h3; omega
  | succ f ih =>
    intro j pa va h1 h2 h3 p1 v1 p2 v2
    refine pk_le j k (fun z => ?_) (fun z => ?_)
    · have e : j = k := by omega
      subst e
      refine ⟨vp_in_nI (by omega) (by omega), nm_e ⟨vp_in_nI (by omega) (by omega), nm_e (nm_r (nI_1 n) ?_)⟩⟩
      rw [nI_clamp (by omega)]
      refine h _ _ (fun i hi => ?_) (fun i hi => ?_)
      · by_cases a : i < j
        · rw [gt_ins_l a, pk_un (by omega)]; exact p1 i hi (by omega)
        · by_cases b : i = j
          · rw [b, gt_ins_s, pk_us]
          · rw [gt_ins_g (by omega), pk_un b]; exact p2 i hi (by omega)
      · by_cases a : i < j
        · rw [gt_ins_l a, pk_un (by omega)]; exact v1 i hi (by omega)
        · by_cases b : i = j
          · rw [b, gt_ins_s, pk_us]
          · rw [gt_ins_g (by omega), pk_un b]; exact v2 i hi (by omega)
    · obtain ⟨j, rfl⟩ : ∃ j', j = j' + 1 := ⟨j - 1, by omega⟩
      rw [nI_pred]
      refine ⟨vp_in_nI (by omega) (by omega), vp_in_nI (by omega) (by omega), nm_e ⟨vp_in_nI (by omega) (by omega), vp_in_nI (by omega) (by omega), nm_e (nm_r (pk_m1 j) ?_)⟩⟩
      rw [nI_clamp (by omega), nI_clamp (by omega)]
      refine ih j _ _ (by omega) (by omega) (by omega) (fun i a b => ?_) (fun i a b => ?_) (fun i a b => ?_) (fun i a b => ?_)
      · rw [pk_un (by omega)]; exact p1 i a (by omega)
      · rw [pk_un (by omega)]; exact v1 i a (by omega)
      · by_cases e : i = j + 1
        · rw [e, pk_us]; exact p1 j (by omega) (by omega)
        · rw [pk_un e]; exact p2 i a (by omega)
      · by_cases e : i = j + 1
        · rw [e, pk_us]; exact v1 j (by omega) (by omega)
        · rw [pk_un e]; exact v2 i a (by omega)
theorem gw_store (H : gt_X M n pl vl K) {post : Int32 → SX → Prop} (c : Nat) (hc : gt_ok c) (v : Int32) (hs : ∀ w, M c = some w → ∀ vl', gt_X (gt_up M c v) n pl vl' K → post 1 (nI n, fp, fd, pl, vl')) (hf : M c = none → n = 60 → post (-2) (nI n, fp, fd, pl, vl)) (hi : M c = none → n < 60 → ∀ pl' vl' K', gt_X (gt_up M c v) (n + 1) pl' vl' K' → post 0 (nI (n + 1), fp, fd, pl', vl')) : wpX_store post (nI n, fp, fd, pl, vl) (nI c) v := by
  have hn := H.1
  have hl := gt_ok_lt hc
  have hr := gt_ct_le H c
  unfold wpX_store
  dsimp only
  refine gw_cb H c (by omega) (gw_st H c (by omega) (fun e => br_t rfl ?_) (fun w e => br_f (by decide) ?_))
  · refine pk_lt n 60 (fun z => ?_) (fun z => hf e (by omega))
    refine ⟨n + 1, gw_up (nI c) v (gt_ct M c) z hr (fun pl' vl' a b => hi e z pl' vl' _ (gt_X_ins H e hc z v a b)) (n + 1) n pl vl hr (Nat.le_refl _) (by omega) (fun _ _ _ => rfl) (fun _ _ _ => rfl) (fun i a b => absurd b (by omega)) (fun i a b => absurd b (by omega))⟩
  · obtain ⟨a1, a2, a3⟩ := gt_at H e
    refine ⟨vp_in_nI (by omega) (by omega), nm_e ?_⟩
    rw [nI_clamp (by omega)]
    exact hs w e _ (gt_X_set H e v)
/-- kill's shift down -/
theorem gw_kill {post : Int32 → SX → Prop} (a m : Nat) (hn : n ≤ 60) (ham : a + m ≤ n) (h : ∀ pl' vl', (∀ i, i < n - m → pl' i = gt_del pl a m i) → (∀ i, i < n - m → vl' i = gt_del vl a m i) → post (nI m) (nI (n - m), fp, fd, pl', vl')) : ∀ f j (pa va : Nat → Int32), a ≤ j → j + m ≤ n → n - (j + m) < f → (∀ i, i < j → pa i = gt_del pl a m i) → (∀ i, i < j → va i = gt_del vl a m i) → (∀ i, j ≤ i → pa i = pl i) → (∀ i, j ≤ i → va i = vl i) → wX_kill_24 post (nI m) (nI n) fp fd f (nI j) pa va := by
  intro f
  induction f with
  | zero => intro j pa va h1 h2 h3; omega
  | succ f ih =>
    intro j pa va h1 h2 h3 p1 v1 p2 v2
    unfold wX_kill_24
    rw [nI_add]
    refine pk_le n (j + m) (fun z => ?_) (fun z => ?_)
    · refine nm_r (pk_sub (by omega)) (h pa va (fun i hi => p1 i (by omega)) (fun i hi => v1 i (by omega)))
    · refine ⟨vp_in_nI (by omega) (by omega), vp_in_nI (by omega) (by omega), nm_e ⟨vp_in_nI (by omega) (by omega), vp_in_nI (by omega) (by omega), nm_e (nm_r (nI_1 j) ?_)⟩⟩
      rw [nI_clamp (by omega), nI_clamp (by omega)]
      refine ih (j + 1) _ _ (by omega) (by omega) (by omega) (fun i hi => ?_) (fun i hi => ?_) (fun i hi => ?_) (fun i hi => ?_)
      · by_cases e : i = j
        · rw [e, pk_us, gt_del_g (by omega)]; exact p2 _ (by omega)
        · rw [pk_un e]; exact p1 i (by omega)
      · by_cases e : i = j
        · rw [e, pk_us, gt_del_g (by omega)]; exact v2 _ (by omega)
        · rw [pk_un e]; exact v1 i (by omega)
      · rw [pk_un (by omega)]; exact p2 i (by omega)
      · rw [pk_un (by omega)]; exact v2 i (by omega)
end
end
section
/-! X's merge and the looks that name a subscript -/
section
variable {M : Nat → Option Int32} {n : Nat} {pl vl : Nat → Int32} {K : Nat → Nat} {fp fd D : Int32} {p q e : Nat}
theorem gw_cm (H : gt_X M n pl vl K) (hD : ∀ c, p ≤ c → nI c + D = nI (c + q - p)) (hq : q + e ≤ 2097152) (hp : p + e ≤ 2097152) {post : Int32 → Prop} (h : post (nI (gt_ms M p q e))) : ∀ f b i, p ≤ b → b ≤ p + e → gt_ct M b = i → n - i < f → wX_countMissing_25 post D (nI (p + e)) (nI n) fp fd pl vl f (nI (gt_ms M p q (b - p))) (nI i) := by
  have hn := H.1
  have hend : ∀ b, p ≤ b → b ≤ p + e → gt_ct M (p + e) = gt_ct M b → post (nI (gt_ms M p q (b - p))) := by
    intro b b1 b2 eq
    have g := gt_ms_gap (q := q) b1 b2 (gt_ct_gap eq)
    rw [show p + e - p = e by omega] at g
    rw [← g]; exact h
  intro f
  induction f with
  | zero => intro b i _ _ _ h4; omega
  | succ f ih =>
    intro b i b1 b2 hi hf
    have m1 : gt_ct M b ≤ gt_ct M (p + e) := gt_cn_mono _ b2
    have m2 := gt_ct_le H (p + e)
    refine pk_le n i (fun z => hend b b1 b2 (by omega)) (fun z => ⟨vp_in_nI (by omega) (by omega), ?_⟩)
    have hk := gt_K_lt H z
    have hr := gt_rkK H z
    have e1 : pl (nI i).toNatClampNeg = nI (K i) := by rw [nI_clamp (by omega)]; exact H.2.1 i z
    have bK : b ≤ K i := by
      have := ((gt_rk H b).2 i z)
      omega
    refine pk_le (p + e) (K i) (fun w => hend b b1 b2 ?_) (fun w => ⟨vp_in_nI (by omega) (by omega), ?_⟩) rfl e1 (by omega) (by omega)
    · have m3 : gt_ct M (p + e) ≤ gt_ct M (K i) := gt_cn_mono _ w
      omega
    · rw [e1, hD (K i) (by omega)]
      have g := gt_ms_gap (q := q) b1 bK (gt_ct_gap (show gt_ct M (K i) = gt_ct M b by omega))
      have hM := H.2.2.1 i z
      have hc1 : gt_ct M (K i + 1) = i + 1 := by
        have : gt_ct M (K i + 1) = gt_ct M (K i) + 1 := gt_cn_t (gt_has_s hM)
        omega
      refine gw_hv H (K i + q - p) (by omega) (fun hN => br_t rfl (nm_r ?_ (nm_r (nI_1 i) (ih (K i + 1) (i + 1) (by omega) (by omega) hc1 (by omega))))) (fun v hS => br_f (by decide) (nm_r (nI_1 i) ?_))
      · rw [nI_1, gt_ms_f (by omega) (gt_has_s hM) (gt_has_n hN), g]
      · have := ih (K i + 1) (i + 1) (by omega) (by omega) hc1 (by omega)
        rw [gt_ms_t (by omega) (gt_has_s hM) (gt_has_s hS), g] at this
        exact this
theorem gw_miss (H : gt_X M n pl vl K) {d t : Nat} (h : gx_pt (d + 1) p) (h1 : 1 ≤ t) (h2 : t ≤ 101) (hD : ∀ c, p ≤ c → nI c + D = nI (c + gx_sb (d + 1) p t - p)) {post : Int32 → Prop} (k : post (nI (gt_ms M p (gx_sb (d + 1) p t) (gx_sp (d + 1))))) : wpX_countMissing post (nI n, nI p, nI (d + 1), pl, vl) D := by
  have hl := gx_pt_lt h
  have hl2 := gx_pt_lt (gx_sb_pt h h1 h2)
  have hd := gx_pt_d h
  unfold wpX_countMissing
  dsimp only
  refine gw_sp hd (nm_r (nI_add _ _) (gw_cb H p (by omega) ⟨n + 1, ?_⟩))
  have := gw_cm (fp := nI p) (fd := nI (d + 1)) H hD hl2 hl k (n + 1) p (gt_ct M p) (Nat.le_refl _) (by omega) rfl (by omega)
  rw [Nat.sub_self] at this
  exact this
theorem gw_cr (H0 : gt_X M n pl vl K) (hD : ∀ c, p ≤ c → nI c + D = nI (c + q - p)) (hd : q = p ∨ q + e ≤ p ∨ p + e ≤ q) (hq : q + e ≤ 2097152) (hp : p + e ≤ 2097152) (hok : ∀ c, gt_ok c → p ≤ c → c < p + e → gt_ok (c + q - p)) (hr : n + gt_ms M p q e ≤ 60) {post : SX → Prop} (h : ∀ n' pl' vl' K', gt_X (gt_mg M p q (p + e)) n' pl' vl' K' → post (nI n', nI p, fd, pl', vl')) : ∀ f i b n' pl' vl' K', gt_X (gt_mg M p q b) n' pl' vl' K' → p ≤ b → b ≤ p + e → gt_ct M b = gt_ct M p + i → i ≤ gt_ct M (p + e) - gt_ct M p → gt_ct M (p + e) - gt_ct M p - i < f → wX_copyRun_2 post (nI (gt_ct M (p + e) - gt_ct M p)) D f (nI i) (nI n') (nI p) fd pl' vl' := by
  have hn := H0.1
  have m2 := gt_ct_le H0 (p + e)
  have m1 : gt_ct M p ≤ gt_ct M (p + e) := gt_cn_mono _ (by omega)
  intro f
  induction f with
  | zero => intro i b n' pl' vl' K' _ _ _ _ _ h4; omega
  | succ f ih =>
    intro i b n' pl' vl' K' H b1 b2 hi hle hf
    have hn' := H.1
    refine pk_le (gt_ct M (p + e) - gt_ct M p) i (fun z => ?_) (fun z => ?_)
    · have g := gt_mg_gap (M := M) (p := p) (q := q) b2 (gt_ct_gap (show gt_ct M (p + e) = gt_ct M b by omega))
      rw [← g] at H
      exact h _ _ _ _ H
    · obtain ⟨c, v, c1, c2, c3, c4, c5, c6, c7, c8, c9⟩ := gt_mg_step hd b1 b2 hi (by omega) H
      have hcM : gt_ct M (c + 1) = gt_ct M p + (i + 1) := by
        have : gt_ct M (c + 1) = gt_ct M c + 1 := gt_cn_t (gt_has_s c3)
        omega
      have hco := H0.2.2.2.2.2 c v c3
      have e1 : pl' (nI (gt_ct (gt_mg M p q b) p + i)).toNatClampNeg = nI c := by rw [nI_clamp (by omega), H.2.1 _ c6, c7]
      have e2 : vl' (nI (gt_ct (gt_mg M p q b) p + i)).toNatClampNeg = v := by rw [nI_clamp (by omega)]; exact c8
      refine gw_cb H p (by omega) (nm_r (nI_add _ _) (pk_le n' (gt_ct (gt_mg M p q b) p + i) (fun w => absurd w (by omega)) (fun w => ⟨vp_in_nI (by omega) (by omega), vp_in_nI (by omega) (by omega), ?_⟩)))
      rw [e1, e2, hD c (by omega)]
      refine gw_store H (c + q - p) (hok c hco (by omega) c2) v (fun w _ vl2 H2 => nm_r (nI_1 i) ?_) (fun hN h60 => ?_) (fun hN _ pl2 vl2 K2 H2 => nm_r (nI_1 i) ?_)
      · rw [← c9] at H2
        exact ih (i + 1) (c + 1) _ _ _ _ H2 (by omega) (by omega) hcM (by omega) (by omega)
      · have H3 := H
        rw [c5] at H3 hN
        have := gt_mg_room (e := e) H0 H3 (by omega) c2 hq c3 hr hN
        omega
      · rw [← c9] at H2
        exact ih (i + 1) (c + 1) _ _ _ _ H2 (by omega) (by omega) hcM (by omega) (by omega)
theorem gw_ch (H : gt_X M n pl vl K) {post : Int32 → Prop} (k P l : Nat) (hk : k < 2 ^ 31) (hl : l < 3) (hP : P + gx_sp l ≤ 2097152) (h1 : k < n → P < K k → K k < P + gx_sp l → post (nI (K k / gx_sp (l + 1) % 128) - 51)) (h0 : ¬ (k < n ∧ P < K k ∧ K k < P + gx_sp l) → post (-100)) : wpX_childSubscript post (nI n, fp, fd, pl, vl) (nI k) (nI P) (nI l) := by
  have hn := H.1
  unfold wpX_childSubscript
  dsimp only
  refine br_f (nI_pos hk) (pk_lt k n (fun z => ⟨vp_in_nI (by omega) (by omega), ?_⟩) (fun z => h0 (fun w => by omega)))
  have hK := gt_K_lt H z
  have e1 : pl (nI k).toNatClampNeg = nI (K k) := by rw [nI_clamp (by omega)]; exact H.2.1 k z
  refine nm_r e1 (pk_le (K k) P (fun w => h0 (fun y => by omega)) (fun w => gw_sp (by omega) ?_))
  rw [nI_add]
  refine pk_lt (K k) (P + gx_sp l) (fun y => ?_) (fun y => h0 (fun x => by omega))
  rw [nI_1]
  exact gw_sa (by omega) (by omega) (h1 z w y)
theorem gw_ch0 {post : Int32 → Prop} {u P l : Int32} (h : post (-100)) : wpX_childSubscript post (u, fp, fd, pl, vl) (nI 0 - 1) P l := by
  unfold wpX_childSubscript
  dsimp only
  exact br_t (by decide) h
end
end
section
/-! Y's nodes: digits and lengths of a code -/
def gy_dg (c k : Nat) : Nat := if k = 0 then c / 16384 else if k = 1 then c / 128 % 128 else c % 128
def gy_len (c : Nat) : Nat := if c % 128 ≠ 0 then 3 else if c / 128 % 128 ≠ 0 then 2 else 1
theorem gy_dg0 (c : Nat) : gy_dg c 0 = c / 16384 := rfl
theorem gy_dg1 (c : Nat) : gy_dg c 1 = c / 128 % 128 := rfl
theorem gy_dg2 (c : Nat) : gy_dg c 2 = c % 128 := rfl
theorem gy_len_c (c : Nat) : (c % 128 ≠ 0 ∧ gy_len c = 3) ∨ (c % 128 = 0 ∧ c / 128 % 128 ≠ 0 ∧ gy_len c = 2) ∨ (c % 128 = 0 ∧ c / 128 % 128 = 0 ∧ gy_len c = 1) := by
  unfold gy_len
  by_cases a : c % 128 ≠ 0
  · exact Or.inl ⟨a, if_pos a⟩
  · by_cases b : c / 128 % 128 ≠ 0
    · exact Or.inr (Or.inl ⟨by omega, b, by rw [if_neg a, if_pos b]⟩)
    · exact Or.inr (Or.inr ⟨by omega, by omega, by rw [if_neg a, if_neg b]⟩)
theorem gy_3 {k : Nat} {P : Nat → Prop} (h : k < 3) (h0 : P 0) (h1 : P 1) (h2 : P 2) : P k := by
  have : k = 0 ∨ k = 1 ∨ k = 2 := by omega
  rcases this with e | e | e <;> rw [e] <;> assumption
theorem gy_len_b (c : Nat) : 1 ≤ gy_len c ∧ gy_len c ≤ 3 := by
  have := gy_len_c c; omega
theorem gy_dg_b {c k : Nat} (h : gt_ok c) (hk : k < 3) : gy_dg c k ≤ 101 := by
  refine gy_3 (P := fun k => gy_dg c k ≤ 101) hk ?_ ?_ ?_
  · rw [gy_dg0]; unfold gt_ok at h; omega
  · rw [gy_dg1]; unfold gt_ok at h; omega
  · rw [gy_dg2]; unfold gt_ok at h; omega
theorem gy_dg_in {c k : Nat} (h : gt_ok c) (hk : k < gy_len c) : 1 ≤ gy_dg c k := by
  have hl := gy_len_c c
  have h3 : k < 3 := by omega
  revert hk
  refine gy_3 (P := fun k => k < gy_len c → 1 ≤ gy_dg c k) h3 ?_ ?_ ?_
  · rw [gy_dg0]; unfold gt_ok at h; omega
  · rw [gy_dg1]; unfold gt_ok at h; omega
  · rw [gy_dg2]; unfold gt_ok at h; omega
theorem gy_dg_out {c k : Nat} (hk : gy_len c ≤ k) (h3 : k < 3) : gy_dg c k = 0 := by
  have hl := gy_len_c c
  revert hk
  refine gy_3 (P := fun k => gy_len c ≤ k → gy_dg c k = 0) h3 ?_ ?_ ?_
  · omega
  · rw [gy_dg1]; omega
  · rw [gy_dg2]; omega
theorem gy_pd_b {d p k : Nat} (h : gx_pt d p) (hk : k < 3) : gy_dg p k ≤ 101 := by
  refine gy_3 (P := fun k => gy_dg p k ≤ 101) hk ?_ ?_ ?_
  · rw [gy_dg0]; unfold gx_pt at h; omega
  · rw [gy_dg1]; unfold gx_pt at h; omega
  · rw [gy_dg2]; unfold gx_pt at h; omega
theorem gy_pd_in {d p k : Nat} (h : gx_pt d p) (hk : k < d) : 1 ≤ gy_dg p k := by
  have hd := gx_pt_d h
  have h3 : k < 3 := by omega
  revert hk
  refine gy_3 (P := fun k => k < d → 1 ≤ gy_dg p k) h3 ?_ ?_ ?_
  · rw [gy_dg0]; unfold gx_pt at h; omega
  · rw [gy_dg1]; unfold gx_pt at h; omega
  · rw [gy_dg2]; unfold gx_pt at h; omega
theorem gy_pd_out {d p k : Nat} (h : gx_pt d p) (hk : d ≤ k) (h3 : k < 3) : gy_dg p k = 0 := by
  revert hk
  refine gy_3 (P := fun k => d ≤ k → gy_dg p k = 0) h3 ?_ ?_ ?_
  · rw [gy_dg0]; unfold gx_pt at h; omega
  · rw [gy_dg1]; unfold gx_pt at h; omega
  · rw [gy_dg2]; unfold gx_pt at h; omega
theorem gy_len_pt {d p : Nat} (hk : gt_ok p) (h : gx_pt d p) : gy_len p = d := by
  have := gy_len_c p
  unfold gx_pt at h; unfold gt_ok at hk; omega
/-- the first k digits alike -/
theorem gy_pre {c p k : Nat} (hc : c < 2097152) (hp : p < 2097152) (hk : k ≤ 3) : (∀ x, x < k → gy_dg c x = gy_dg p x) ↔ c / gx_sp k = p / gx_sp k := by
  refine gx_4 (P := fun k => (∀ x, x < k → gy_dg c x = gy_dg p x) ↔ c / gx_sp k = p / gx_sp k) hk ?_ ?_ ?_ ?_
  · rw [gx_sp0]
    exact ⟨fun _ => by omega, fun _ x hx => absurd hx (by omega)⟩
  · rw [gx_sp1]
    constructor
    · intro h
      have h0 := h 0 (by omega)
      rw [gy_dg0, gy_dg0] at h0; omega
    · intro h x hx
      have e : x = 0 := by omega
      rw [e, gy_dg0, gy_dg0]; omega
  · rw [gx_sp2]
    constructor
    · intro h
      have h0 := h 0 (by omega)
      have h1 := h 1 (by omega)
      rw [gy_dg0, gy_dg0] at h0
      rw [gy_dg1, gy_dg1] at h1; omega
    · intro h x hx
      have e : x = 0 ∨ x = 1 := by omega
      rcases e with e | e
      · rw [e, gy_dg0, gy_dg0]; omega
      · rw [e, gy_dg1, gy_dg1]; omega
  · rw [gx_sp3]
    constructor
    · intro h
      have h0 := h 0 (by omega)
      have h1 := h 1 (by omega)
      have h2 := h 2 (by omega)
      rw [gy_dg0, gy_dg0] at h0
      rw [gy_dg1, gy_dg1] at h1
      rw [gy_dg2, gy_dg2] at h2; omega
    · intro h x hx
      have e : c = p := by omega
      rw [e]
theorem gy_ext {a b : Nat} (ha : gt_ok a) (hb : gt_ok b) (hl : gy_len a = gy_len b) (h : ∀ k, k < gy_len a → gy_dg a k = gy_dg b k) : a = b := by
  have la := gt_ok_lt ha
  have lb := gt_ok_lt hb
  have hh : ∀ x, x < 3 → gy_dg a x = gy_dg b x := fun x hx => by
    by_cases z : x < gy_len a
    · exact h x z
    · rw [gy_dg_out (by omega) hx, gy_dg_out (by omega) hx]
  have := (gy_pre la lb (Nat.le_refl 3)).mp hh
  rw [gx_sp3] at this
  omega
/-- a beginning of k digits wants k digits -/
theorem gy_pre_len {c p d k : Nat} (hc : c < 2097152) (h : gx_pt d p) (hk : k ≤ d) (e : c / gx_sp k = p / gx_sp k) : k ≤ gy_len c := by
  have hl := gx_pt_lt h
  have hd := gx_pt_d h
  have hs : 0 < gx_sp d := Nat.two_pow_pos _
  by_cases z : k = 0
  · omega
  · have e1 := (gy_pre hc (by omega) (by omega)).mpr e (k - 1) (by omega)
    have e2 := gy_pd_in h (k := k - 1) (by omega)
    by_cases y : k ≤ gy_len c
    · exact y
    · have := gy_dg_out (c := c) (k := k - 1) (by omega) (by omega)
      omega
/-- beginning with the pointer's list: the range of its places -/
theorem gy_rng {c p d : Nat} (h : gx_pt d p) : c / gx_sp d = p / gx_sp d ↔ p ≤ c ∧ c < p + gx_sp d := by
  have hd := gx_pt_d h
  revert h
  refine gx_4 (P := fun d => gx_pt d p → (c / gx_sp d = p / gx_sp d ↔ p ≤ c ∧ c < p + gx_sp d)) hd ?_ ?_ ?_ ?_
  · rw [gx_sp0]; unfold gx_pt; omega
  · rw [gx_sp1]; unfold gx_pt; omega
  · rw [gx_sp2]; unfold gx_pt; omega
  · rw [gx_sp3]; unfold gx_pt; omega
/-- node i of Y's arrays has the code c -/
def gy_at (li le : Nat → Int32) (i c : Nat) : Prop := le i = nI (gy_len c) ∧ ∀ k, k < gy_len c → li (i * 3 + k) = nI (gy_dg c k) - 51
def gy_Y (M : Nat → Option Int32) (n : Nat) (li le va : Nat → Int32) (Q : Nat → Nat) : Prop :=
  n ≤ 60 ∧ (∀ i, i < n → gy_at li le i (Q i)) ∧ (∀ i, i < n → M (Q i) = some (va i)) ∧ (∀ i j, i < j → j < n → Q i ≠ Q j) ∧ (∀ c v, M c = some v → ∃ i, i < n ∧ Q i = c) ∧ (∀ c v, M c = some v → gt_ok c)
def gy_p (po : Nat → Int32) (d p : Nat) : Prop := ∀ k, k < d → po k = nI (gy_dg p k) - 51
theorem gy_Q_ok {M : Nat → Option Int32} {n : Nat} {li le va : Nat → Int32} {Q : Nat → Nat} (H : gy_Y M n li le va Q) {i : Nat} (hi : i < n) : gt_ok (Q i) := H.2.2.2.2.2 _ _ (H.2.2.1 i hi)
/-- counting over the nodes is counting over the places -/
theorem gy_cn (f : Nat → Bool) (Q : Nat → Nat) (B : Nat) : ∀ (m : Nat) (h : Nat → Bool), (∀ i, i < m → Q i < B) → (∀ i j, i < j → j < m → Q i ≠ Q j) → (∀ c, h c = true ↔ ∃ i, i < m ∧ Q i = c) → gt_cn (fun i => f (Q i)) m = gt_cn (fun c => h c && f c) B := by
  intro m
  induction m with
  | zero =>
    intro h _ _ h3
    have : gt_cn (fun c => h c && f c) B = gt_cn (fun c => h c && f c) 0 := gt_cn_same (Nat.zero_le _) (fun c _ _ => by
      show (h c && f c) = false
      cases e : h c with
      | false => rfl
      | true => obtain ⟨i, hi, _⟩ := (h3 c).mp e; omega)
    rw [this]; rfl
  | succ m ih =>
    intro h h1 h2 h3
    have hq : h (Q m) = true := (h3 _).mpr ⟨m, by omega, rfl⟩
    have I := ih (fun c => h c && !decide (c = Q m)) (fun i hi => h1 i (by omega)) (fun i j a b => h2 i j a (by omega)) (fun c => ?_)
    · show gt_cn (fun i => f (Q i)) m + (if f (Q m) = true then 1 else 0) = _
      rw [I]
      cases e : f (Q m) with
      | true =>
        have := gt_cn_new (f := fun c => (h c && !decide (c = Q m)) && f c) (g := fun c => h c && f c) (p := Q m) (n := B) (fun c z => by simp [z]) (by simp) (by simp [hq, e])
        rw [this, if_pos (h1 m (by omega)), if_pos rfl]
      | false =>
        rw [if_neg (by decide), Nat.add_zero]
        refine gt_cn_eq (fun c _ => ?_)
        show ((h c && !decide (c = Q m)) && f c) = (h c && f c)
        by_cases z : c = Q m
        · rw [z, e]; simp
        · simp [z]
    · constructor
      · intro z
        have z : (h c && !decide (c = Q m)) = true := z
        simp at z
        obtain ⟨i, hi, e⟩ := (h3 c).mp z.1
        exact ⟨i, by have : i ≠ m := fun t => z.2 (by rw [← e, t]); omega, e⟩
      · rintro ⟨i, hi, e⟩
        have a1 : h c = true := (h3 c).mpr ⟨i, by omega, e⟩
        have a2 : c ≠ Q m := by rw [← e]; exact h2 i m hi (by omega)
        simp [a1, a2]
theorem gy_ct {M : Nat → Option Int32} {n : Nat} {li le va : Nat → Int32} {Q : Nat → Nat} (H : gy_Y M n li le va Q) (f : Nat → Bool) : gt_cn (fun i => f (Q i)) n = gt_cn (fun c => gt_has M c && f c) 2097152 := by
  refine gy_cn f Q 2097152 n (gt_has M) (fun i hi => gt_ok_lt (gy_Q_ok H hi)) H.2.2.2.1 (fun c => ⟨fun z => ?_, ?_⟩)
  · obtain ⟨v, hv⟩ := gt_has_t z
    exact H.2.2.2.2.1 c v hv
  · rintro ⟨i, hi, e⟩
    rw [← e]; exact gt_has_s (H.2.2.1 i hi)
theorem gy_ctN {M : Nat → Option Int32} {n : Nat} {li le va : Nat → Int32} {Q : Nat → Nat} (H : gy_Y M n li le va Q) : gt_ct M 2097152 = n := by
  have e1 := gy_ct H (fun _ => true)
  have e2 : gt_cn (fun c => gt_has M c && true) 2097152 = gt_ct M 2097152 := gt_cn_eq (fun c _ => by simp)
  have e3 : ∀ k, gt_cn (fun _ => true) k = k := fun k => by
    induction k with
    | zero => rfl
    | succ k ih => rw [gt_cn_t rfl, ih]
  rw [e3] at e1
  rw [← e2]; exact e1.symm
/-- a value changed -/
theorem gy_Y_set {M : Nat → Option Int32} {n : Nat} {li le va : Nat → Int32} {Q : Nat → Nat} (H : gy_Y M n li le va Q) {i : Nat} (hi : i < n) (v : Int32) : gy_Y (gt_up M (Q i) v) n li le (upd va i v) Q := by
  obtain ⟨h1, h2, h3, h4, h5, h6⟩ := H
  refine ⟨h1, h2, ?_, h4, ?_, ?_⟩
  · intro j hj
    by_cases e : j = i
    · rw [e, gt_up_s, pk_us]
    · have : Q j ≠ Q i := by
        rcases Nat.lt_or_gt_of_ne e with z | z
        · exact h4 j i z hi
        · exact fun t => h4 i j z hj t.symm
      rw [gt_up_n this, pk_un e]; exact h3 j hj
  · intro c w e
    by_cases z : c = Q i
    · exact ⟨i, hi, z.symm⟩
    · rw [gt_up_n z] at e; exact h5 c w e
  · intro c w e
    by_cases z : c = Q i
    · rw [z]; exact h6 _ _ (h3 i hi)
    · rw [gt_up_n z] at e; exact h6 c w e
def gy_q (Q : Nat → Nat) (n c : Nat) : Nat → Nat := fun i => if i = n then c else Q i
theorem gy_q_s {Q : Nat → Nat} {n c : Nat} : gy_q Q n c n = c := if_pos rfl
theorem gy_q_n {Q : Nat → Nat} {n c i : Nat} (h : i ≠ n) : gy_q Q n c i = Q i := if_neg h
/-- a node more -/
theorem gy_Y_new {M : Nat → Option Int32} {n : Nat} {li le va li' le' va' : Nat → Int32} {Q : Nat → Nat} (H : gy_Y M n li le va Q) {c : Nat} (h : M c = none) (hc : gt_ok c) (hn : n < 60) {v : Int32} (a1 : ∀ x, x < n * 3 → li' x = li x) (a2 : ∀ i, i < n → le' i = le i) (a3 : ∀ i, i < n → va' i = va i) (a4 : gy_at li' le' n c) (a5 : va' n = v) : gy_Y (gt_up M c v) (n + 1) li' le' va' (gy_q Q n c) := by
  obtain ⟨h1, h2, h3, h4, h5, h6⟩ := H
  have nc : ∀ i, i < n → Q i ≠ c := fun i hi e => by
    have := h3 i hi
    rw [e, h] at this
    exact absurd this (by simp)
  refine ⟨by omega, ?_, ?_, ?_, ?_, ?_⟩
  · intro i hi
    by_cases e : i = n
    · rw [e, gy_q_s]; exact a4
    · rw [gy_q_n e]
      obtain ⟨b1, b2⟩ := h2 i (by omega)
      refine ⟨by rw [a2 i (by omega)]; exact b1, fun k hk => ?_⟩
      have := gy_len_b (Q i)
      rw [a1 _ (by omega)]; exact b2 k hk
  · intro i hi
    by_cases e : i = n
    · rw [e, gy_q_s, gt_up_s, a5]
    · rw [gy_q_n e, gt_up_n (nc i (by omega)), a3 i (by omega)]; exact h3 i (by omega)
  · intro i j hij hj
    rw [gy_q_n (by omega : i ≠ n)]
    by_cases e : j = n
    · rw [e, gy_q_s]; exact nc i (by omega)
    · rw [gy_q_n e]; exact h4 i j hij (by omega)
  · intro x w e
    by_cases z : x = c
    · exact ⟨n, by omega, by rw [gy_q_s, z]⟩
    · rw [gt_up_n z] at e
      obtain ⟨i, hi, ei⟩ := h5 x w e
      exact ⟨i, by omega, by rw [gy_q_n (by omega)]; exact ei⟩
  · intro x w e
    by_cases z : x = c
    · rw [z]; exact hc
    · rw [gt_up_n z] at e; exact h6 x w e
end
section
/-! Y's walks, each with a general post -/
theorem gv_3 : (3 : Int32) = nI 3 := by decide +kernel
theorem gv_ix (i j : Nat) : nI i * 3 + nI j = nI (i * 3 + j) := by rw [gv_3, pk_mul, nI_add]
theorem gv_51 : (-51 : Int32) = nI 0 - 51 := by decide +kernel
theorem gv_m1 : ¬ (0 : Int32) ≤ -1 := by decide
theorem gv_1 : ¬ (1 : Int32) = 0 := by decide
theorem gv_is {s : Int32} {u : SY} {post : Int32 → Prop} (h0 : ¬ (-50 ≤ s ∧ s ≤ 50) → post 0) (h1 : -50 ≤ s ∧ s ≤ 50 → post 1) : wpY_isSubscript post u s := by
  obtain ⟨a, b, c, d, e, f⟩ := u
  unfold wpY_isSubscript
  dsimp only
  by_cases a : s < -50
  · exact br_t a (h0 (fun z => absurd z.1 (Int32.not_le.mpr a)))
  · refine br_f a ?_
    by_cases b : 50 < s
    · exact br_t b (h0 (fun z => absurd z.2 (Int32.not_le.mpr b)))
    · exact br_f b (h1 ⟨Int32.not_lt.mp a, Int32.not_lt.mp b⟩)
section
variable {li le va po : Nat → Int32} {fn fd : Int32} {d p : Nat}
theorem gv_bg {post : Int32 → Prop} {i c k : Nat} (hA : gy_at li le i c) (hc : gt_ok c) (hi : i < 60) (hp : gx_pt d p) (hq : gy_p po d p) (hk : k ≤ d) (h1 : c / gx_sp k = p / gx_sp k → post 1) (h0 : ¬ c / gx_sp k = p / gx_sp k → post 0) : wpY_begins post (fn, fd, li, le, va, po) (nI i) (nI k) := by
  have hd := gx_pt_d hp
  have hl := gt_ok_lt hc
  have hl2 := gx_pt_lt hp
  have hs : 0 < gx_sp d := Nat.two_pow_pos _
  have hb := gy_len_b c
  have pre := gy_pre (c := c) (p := p) (k := k) hl (by omega) (by omega)
  unfold wpY_begins
  dsimp only
  refine ⟨vp_in_nI hi (by omega), pk_le k (gy_len c) (fun z => ?_) (fun z => h0 (fun e => ?_)) rfl (by rw [nI_clamp (by omega)]; exact hA.1) (by omega) (by omega)⟩
  · have L : ∀ f j, j ≤ k → k - j < f → (∀ x, x < j → gy_dg c x = gy_dg p x) → wY_begins_14 post (nI i) (nI k) fn fd li le va po f (nI j) := by
      intro f
      induction f with
      | zero => intro j _ h2; omega
      | succ f ih =>
        intro j j1 j2 hx
        unfold wY_begins_14
        rw [gv_ix]
        refine pk_le k j (fun w => h1 (pre.mp (fun x hx' => hx x (by omega)))) (fun w => ⟨vp_in_nI (by omega) (by omega), vp_in_nI (by omega) (by omega), ?_⟩)
        have e1 : li (nI (i * 3 + j)).toNatClampNeg = nI (gy_dg c j) - 51 := by rw [nI_clamp (by omega)]; exact hA.2 j (by omega)
        have e2 : po (nI j).toNatClampNeg = nI (gy_dg p j) - 51 := by rw [nI_clamp (by omega)]; exact hq j (by omega)
        have b1 := gy_dg_b hc (k := j) (by omega)
        have b2 := gy_pd_b hp (k := j) (by omega)
        rw [e1, e2, gx_eq (by omega) (by omega)]
        refine br_c (fun y => nm_r (nI_1 j) (ih (j + 1) (by omega) (by omega) (fun x hx' => ?_))) (fun y => h0 (fun t => y (pre.mpr t j w)))
        by_cases t : x = j
        · rw [t]; exact y
        · exact hx x (by omega)
    exact ⟨k + 1, L (k + 1) 0 (Nat.zero_le _) (by omega) (fun x hx => absurd hx (by omega))⟩
  · have := gy_pre_len hl hp hk e
    omega
end
section
variable {M : Nat → Option Int32} {n : Nat} {li le va po : Nat → Int32} {Q : Nat → Nat} {d p : Nat}
theorem gv_here (H : gy_Y M n li le va Q) (hp : gx_pt d p) (hq : gy_p po d p) {post : Int32 → Prop} (h1 : ∀ i, i < n → Q i = p → post (nI i)) (h0 : (∀ i, i < n → Q i ≠ p) → post (-1)) : wpY_here post (nI n, nI d, li, le, va, po) := by
  have hn := H.1
  have hd := gx_pt_d hp
  have L : ∀ f i, i ≤ n → n - i < f → (∀ j, j < i → Q j ≠ p) → wY_here_2 post (nI n) (nI d) li le va po f (nI i) := by
    intro f
    induction f with
    | zero => intro i _ h2; omega
    | succ f ih =>
      intro i i1 i2 hx
      unfold wY_here_2
      refine pk_le n i (fun z => h0 (fun j hj => hx j (by omega))) (fun z => ⟨vp_in_nI (by omega) (by omega), ?_⟩)
      have hA := H.2.1 i z
      have hok := gy_Q_ok H z
      have hb := gy_len_b (Q i)
      have go : Q i ≠ p → wY_here_2 post (nI n) (nI d) li le va po f (nI (i + 1)) := fun ne => ih (i + 1) (by omega) (by omega) (fun j hj => by
        by_cases t : j = i
        · rw [t]; exact ne
        · exact hx j (by omega))
      refine pk_eq (gy_len (Q i)) d (fun e => ?_) (fun e => nm_r (nI_1 i) (go (fun t => ?_))) (by rw [nI_clamp (by omega)]; exact hA.1) rfl (by omega) (by omega)
      · refine gv_bg hA hok (by omega) hp hq (Nat.le_refl d) (fun y => br_f gv_1 (h1 i z ?_)) (fun y => br_t rfl (nm_r (nI_1 i) (go (fun t => y (by rw [t])))))
        have lp := gx_pt_lt hp
        have hs : 0 < gx_sp d := Nat.two_pow_pos _
        have pre := (gy_pre (gt_ok_lt hok) (by omega : p < 2097152) hd).mpr y
        have okp : gt_ok p := by
          obtain ⟨d', rfl⟩ : ∃ d', d = d' + 1 := ⟨d - 1, by omega⟩
          exact gx_pt_ok hp
        exact gy_ext hok okp (by rw [e, gy_len_pt okp hp]) (fun k hk => pre k (by omega))
      · rw [t] at hok e
        exact e (gy_len_pt hok hp)
  exact ⟨n + 1, L _ 0 (Nat.zero_le _) (by omega) (fun j hj => absurd hj (by omega))⟩
theorem gv_value (H : gy_Y M n li le va Q) (hp : gx_pt d p) (hq : gy_p po d p) {post : Int32 → Prop} (h : post ((M p).getD 0)) : wpY_value post (nI n, nI d, li, le, va, po) := by
  have hn := H.1
  unfold wpY_value
  dsimp only
  refine gv_here H hp hq (fun i hi e => br_t (nI_pos' (by omega)) ⟨vp_in_nI (by omega) (by omega), ?_⟩) (fun hno => br_f gv_m1 ?_)
  · have := H.2.2.1 i hi
    rw [e] at this
    rw [this] at h
    rw [nI_clamp (by omega)]; exact h
  · cases e : M p with
    | none => rw [e] at h; exact h
    | some v =>
      obtain ⟨i, hi, ei⟩ := H.2.2.2.2.1 p v e
      exact absurd ei (hno i hi)
theorem gv_set0 (H : gy_Y M n li le va Q) (hp : gx_pt (d + 1) p) (hq : gy_p po (d + 1) p) (v : Int32) (hN : M p = none) (hn : n < 60) {post : Int32 → SY → Prop} (h : ∀ li' le' va' Q', gy_Y (gt_up M p v) (n + 1) li' le' va' Q' → post 0 (nI (n + 1), nI (d + 1), li', le', va', po)) : ∀ f k (la : Nat → Int32), k ≤ d + 1 → d + 1 - k < f → (∀ x, x < n * 3 → la x = li x) → (∀ x, x < k → la (n * 3 + x) = po x) → wY_set_46 post v (nI n) (nI (d + 1)) f (nI k) la le va po := by
  have hd := gx_pt_d hp
  intro f
  induction f with
  | zero => intro k la _ h2; omega
  | succ f ih =>
    intro k la k1 k2 a1 a2
    unfold wY_set_46
    rw [gv_ix]
    refine pk_le (d + 1) k (fun z => ⟨vp_in_nI (by omega) (by omega), nm_e ⟨vp_in_nI (by omega) (by omega), nm_e (nm_r (nI_1 n) ?_)⟩⟩) (fun z => ⟨vp_in_nI (by omega) (by omega), vp_in_nI (by omega) (by omega), nm_e (nm_r (nI_1 k) ?_)⟩)
    · rw [nI_clamp (by omega)]
      have okp := gx_pt_ok hp
      refine h _ _ _ _ (gy_Y_new H hN okp hn a1 (fun i hi => pk_un (by omega)) (fun i hi => pk_un (by omega)) ⟨?_, fun x hx => ?_⟩ pk_us)
      · rw [pk_us, gy_len_pt okp hp]
      · rw [gy_len_pt okp hp] at hx
        rw [a2 x (by omega)]; exact hq x hx
    · rw [nI_clamp (by omega), nI_clamp (by omega)]
      refine ih (k + 1) _ (by omega) (by omega) (fun x hx => ?_) (fun x hx => ?_)
      · rw [pk_un (by omega)]; exact a1 x hx
      · by_cases t : x = k
        · rw [t, pk_us]
        · rw [pk_un (by omega)]; exact a2 x (by omega)
theorem gv_set (H : gy_Y M n li le va Q) (hp : gx_pt (d + 1) p) (hq : gy_p po (d + 1) p) (v : Int32) {post : Int32 → SY → Prop} (hs : ∀ w, M p = some w → ∀ va', gy_Y (gt_up M p v) n li le va' Q → post 1 (nI n, nI (d + 1), li, le, va', po)) (hf : M p = none → n = 60 → post (-2) (nI n, nI (d + 1), li, le, va, po)) (hi : M p = none → n < 60 → ∀ li' le' va' Q', gy_Y (gt_up M p v) (n + 1) li' le' va' Q' → post 0 (nI (n + 1), nI (d + 1), li', le', va', po)) : wpY_set post (nI n, nI (d + 1), li, le, va, po) v := by
  have hn := H.1
  have hd := gx_pt_d hp
  unfold wpY_set
  dsimp only
  refine br_f (nI_ne0 (by omega) (by omega)) (gv_here H hp hq (fun i hi' e => br_t (nI_pos' (by omega)) ?_) (fun hno => br_f gv_m1 ?_))
  · refine br_f (nI_pos (by omega)) ⟨vp_in_nI (by omega) (by omega), nm_e ?_⟩
    rw [nI_clamp (by omega)]
    have hM := H.2.2.1 i hi'
    have hY := gy_Y_set H hi' v
    rw [e] at hM hY
    exact hs _ hM _ hY
  · have hN : M p = none := by
      cases e : M p with
      | none => rfl
      | some w =>
        obtain ⟨i, hi', ei⟩ := H.2.2.2.2.1 p w e
        exact absurd ei (hno i hi')
    refine pk_eq n 60 (fun e => hf hN e) (fun e => br_t (by decide) ⟨d + 2, gv_set0 H hp hq v hN (by omega) (hi hN (by omega)) (d + 2) 0 li (Nat.zero_le _) (by omega) (fun _ _ => rfl) (fun x hx => absurd hx (by omega))⟩)
end
end
section
/-! Y's kill -/
section
variable {la ea ua po : Nat → Int32} {fn fd : Int32}
theorem gv_kc {post : Int32 → SY → Prop} {J : Int32 → Int32 → (Nat → Int32) → (Nat → Int32) → (Nat → Int32) → (Nat → Int32) → Prop} {l i : Nat} (hl : l ≤ i) (hi : i < 60) (h : ∀ lb : Nat → Int32, (∀ x, x < l * 3 → lb x = la x) → (∀ x, i * 3 + 3 ≤ x → lb x = la x) → (∀ k, k < 3 → lb (l * 3 + k) = la (i * 3 + k)) → J (nI (l + 1)) (nI (i + 1)) lb (upd ea l (ea i)) (upd ua l (ua i)) po) : ∀ f k (lb : Nat → Int32), k ≤ 3 → 3 - k < f → (∀ x, x < l * 3 → lb x = la x) → (∀ x, i * 3 ≤ x → lb x = la x) → (∀ y, y < k → lb (l * 3 + y) = la (i * 3 + y)) → wY_kill_26 post J (nI l) (nI i) fn fd f (nI k) lb ea ua po := by
  intro f
  induction f with
  | zero => intro k lb _ h2; omega
  | succ f ih =>
    intro k lb k1 k2 a1 a2 a3
    unfold wY_kill_26
    rw [gv_ix i k, gv_ix l k]
    refine pk_le 3 k (fun z => ⟨vp_in_nI (by omega) (by omega), vp_in_nI (by omega) (by omega), nm_e ⟨vp_in_nI (by omega) (by omega), vp_in_nI (by omega) (by omega), nm_e (nm_r (nI_1 l) (nm_r (nI_1 i) ?_))⟩⟩) (fun z => ⟨vp_in_nI (by omega) (by omega), vp_in_nI (by omega) (by omega), nm_e (nm_r (nI_1 k) ?_)⟩)
    · rw [nI_clamp (by omega), nI_clamp (by omega)]
      exact h lb a1 (fun x hx => a2 x (by omega)) (fun y hy => a3 y (by omega))
    · rw [nI_clamp (by omega), nI_clamp (by omega)]
      refine ih (k + 1) _ (by omega) (by omega) (fun x hx => ?_) (fun x hx => ?_) (fun y hy => ?_)
      · rw [pk_un (by omega)]; exact a1 x hx
      · by_cases t : x = l * 3 + k
        · have e : l = i := by omega
          rw [t, pk_us, e]; exact a2 _ (by omega)
        · rw [pk_un t]; exact a2 x hx
      · by_cases t : y = k
        · rw [t, pk_us]; exact a2 _ (by omega)
        · rw [pk_un (by omega)]; exact a3 y (by omega)
end
section
variable {M : Nat → Option Int32} {n : Nat} {li le va po : Nat → Int32} {Q : Nat → Nat} {d p : Nat}
theorem gv_kill (H : gy_Y M n li le va Q) (hp : gx_pt d p) (hq : gy_p po d p) {post : Int32 → SY → Prop} (h : ∀ l la ea ua Q', l ≤ n → gy_Y (gt_cut M p (p + gx_sp d)) l la ea ua Q' → post (nI (n - l)) (nI l, nI d, la, ea, ua, po)) : wpY_kill post (nI n, nI d, li, le, va, po) := by
  have hn := H.1
  have L : ∀ f i l (la ea ua : Nat → Int32) (s : Nat → Nat), i ≤ n → n - i < f → l ≤ i →
      (∀ j, j < l → gy_at la ea j (Q (s j)) ∧ ua j = va (s j) ∧ s j < i ∧ ¬ (p ≤ Q (s j) ∧ Q (s j) < p + gx_sp d)) →
      (∀ a b, a < b → b < l → s a < s b) → (∀ x, x < i → ¬ (p ≤ Q x ∧ Q x < p + gx_sp d) → ∃ j, j < l ∧ s j = x) →
      (∀ x, i * 3 ≤ x → la x = li x) → (∀ x, i ≤ x → ea x = le x) → (∀ x, i ≤ x → ua x = va x) →
      wY_kill_4 post (nI n) (nI d) f (nI l) (nI i) la ea ua po := by
    intro f
    induction f with
    | zero => intro i l la ea ua s _ h2; omega
    | succ f ih =>
      intro i l la ea ua s i1 i2 hli A B C D1 D2 D3
      unfold wY_kill_4
      refine pk_le n i (fun z => nm_r (pk_sub (by omega)) ?_) (fun z => ?_)
      · refine h l la ea ua (fun j => Q (s j)) (by omega) ⟨by omega, fun j hj => (A j hj).1, fun j hj => ?_, fun a b ab hb => ?_, fun c v hc => ?_, fun c v hc => ?_⟩
        · obtain ⟨_, a2, a3, a4⟩ := A j hj
          show gt_cut M p (p + gx_sp d) (Q (s j)) = some (ua j)
          rw [gt_cut_o a4, a2]; exact H.2.2.1 _ (by omega)
        · exact H.2.2.2.1 _ _ (B a b ab hb) (by have := (A b hb).2.2.1; omega)
        · by_cases w : p ≤ c ∧ c < p + gx_sp d
          · rw [gt_cut_i w] at hc; exact absurd hc (by simp)
          · rw [gt_cut_o w] at hc
            obtain ⟨x, hx, ex⟩ := H.2.2.2.2.1 c v hc
            obtain ⟨j, hj, ej⟩ := C x (by omega) (by rw [ex]; exact w)
            exact ⟨j, hj, (congrArg Q ej).trans ex⟩
        · by_cases w : p ≤ c ∧ c < p + gx_sp d
          · rw [gt_cut_i w] at hc; exact absurd hc (by simp)
          · rw [gt_cut_o w] at hc; exact H.2.2.2.2.2 c v hc
      · have hA0 := H.2.1 i z
        have hb := gy_len_b (Q i)
        have hA : gy_at la ea i (Q i) := ⟨by rw [D2 i (Nat.le_refl _)]; exact hA0.1, fun k hk => by rw [D1 _ (by omega)]; exact hA0.2 k hk⟩
        refine gv_bg hA (gy_Q_ok H z) (by omega) hp hq (Nat.le_refl d) (fun y => br_f gv_1 (nm_r (nI_1 i) ?_)) (fun y => br_t rfl ⟨4, ?_⟩)
        · rw [gy_rng hp] at y
          refine ih (i + 1) l la ea ua s (by omega) (by omega) (by omega) (fun j hj => ?_) B (fun x hx hr => ?_) (fun x hx => D1 x (by omega)) (fun x hx => D2 x (by omega)) (fun x hx => D3 x (by omega))
          · obtain ⟨a1, a2, a3, a4⟩ := A j hj
            exact ⟨a1, a2, by omega, a4⟩
          · by_cases t : x = i
            · rw [t] at hr; exact absurd y hr
            · exact C x (by omega) hr
        · rw [gy_rng hp] at y
          refine gv_kc hli (by omega) (fun lb b1 b2 b3 => ?_) 4 0 la (by omega) (by omega) (fun _ _ => rfl) (fun _ _ => rfl) (fun x hx => absurd hx (by omega))
          refine ih (i + 1) (l + 1) lb _ _ (gy_q s l i) (by omega) (by omega) (by omega) (fun j hj => ?_) (fun a b ab hb => ?_) (fun x hx hr => ?_) (fun x hx => ?_) (fun x hx => ?_) (fun x hx => ?_)
          · by_cases t : j = l
            · rw [t, gy_q_s, pk_us]
              exact ⟨⟨by rw [pk_us]; exact hA.1, fun k hk => by rw [b3 k (by omega)]; exact hA.2 k hk⟩, D3 i (Nat.le_refl _), by omega, y⟩
            · rw [gy_q_n t, pk_un t]
              obtain ⟨a1, a2, a3, a4⟩ := A j (by omega)
              have hb2 := gy_len_b (Q (s j))
              exact ⟨⟨by rw [pk_un t]; exact a1.1, fun k hk => by rw [b1 _ (by omega)]; exact a1.2 k hk⟩, a2, by omega, a4⟩
          · rw [gy_q_n (by omega : a ≠ l)]
            by_cases t : b = l
            · rw [t, gy_q_s]; exact (A a (by omega)).2.2.1
            · rw [gy_q_n t]; exact B a b ab (by omega)
          · by_cases t : x = i
            · exact ⟨l, by omega, by rw [gy_q_s, t]⟩
            · obtain ⟨j, hj, ej⟩ := C x (by omega) hr
              exact ⟨j, by omega, by rw [gy_q_n (by omega)]; exact ej⟩
          · rw [b2 x (by omega)]; exact D1 x (by omega)
          · rw [pk_un (by omega)]; exact D2 x (by omega)
          · rw [pk_un (by omega)]; exact D3 x (by omega)
  exact ⟨n + 1, L (n + 1) 0 0 li le va (fun _ => 0) (Nat.zero_le _) (by omega) (Nat.le_refl _) (fun j hj => absurd hj (by omega)) (fun a b _ hb => absurd hb (by omega)) (fun x hx => absurd hx (by omega)) (fun _ _ => rfl) (fun _ _ => rfl) (fun _ _ => rfl)⟩
end
end
section
/-! Y's merge: the twin, the copy of a node, both loops -/
theorem gt_cn_sub {f g : Nat → Bool} (h : ∀ c, f c = true → g c = true) (n : Nat) : gt_cn f n ≤ gt_cn g n := by
  induction n with
  | zero => exact Nat.le_refl _
  | succ n ih =>
    cases e : f n with
    | false =>
      have := gt_cn_mono g (a := n) (b := n + 1) (by omega)
      rw [gt_cn_f e]; omega
    | true => rw [gt_cn_t e, gt_cn_t (h n e)]; omega
theorem gt_cn_subs {f g : Nat → Bool} (h : ∀ c, f c = true → g c = true) {x : Nat} (hf : f x = false) (hg : g x = true) : ∀ n, x < n → gt_cn f n < gt_cn g n := by
  intro n
  induction n with
  | zero => intro hx; omega
  | succ n ih =>
    intro hx
    by_cases e : x = n
    · rw [e] at hf hg
      have := gt_cn_sub h n
      rw [gt_cn_f hf, gt_cn_t hg]; omega
    · have := ih (by omega)
      cases k : f n with
      | false =>
        have := gt_cn_mono g (a := n) (b := n + 1) (by omega)
        rw [gt_cn_f k]; omega
      | true => rw [gt_cn_t k, gt_cn_t (h n k)]; omega
theorem gt_cn_win (F : Nat → Bool) (p e : Nat) {B : Nat} (hB : p + e ≤ B) : gt_cn (fun c => F c && decide (p ≤ c ∧ c < p + e)) B = gt_cn (fun j => F (p + j)) e := by
  have e1 : gt_cn (fun c => F c && decide (p ≤ c ∧ c < p + e)) B = gt_cn (fun c => F c && decide (p ≤ c ∧ c < p + e)) (p + e) := gt_cn_same hB (fun c h1 h2 => by
    show (F c && decide (p ≤ c ∧ c < p + e)) = false
    rw [decide_eq_false (by omega), Bool.and_false])
  have e2 : gt_cn (fun c => F c && decide (p ≤ c ∧ c < p + e)) p = gt_cn (fun c => F c && decide (p ≤ c ∧ c < p + e)) 0 := gt_cn_same (Nat.zero_le _) (fun c h1 h2 => by
    show (F c && decide (p ≤ c ∧ c < p + e)) = false
    rw [decide_eq_false (by omega), Bool.and_false])
  have e3 : gt_cn (fun c => F c && decide (p ≤ c ∧ c < p + e)) 0 = 0 := rfl
  rw [e1, gt_cn_add, e2, e3, Nat.zero_add]
  refine gt_cn_eq (fun j hj => ?_)
  show (F (p + j) && decide (p ≤ p + j ∧ p + j < p + e)) = F (p + j)
  rw [decide_eq_true (by omega), Bool.and_true]
theorem gy_sb_len {d p t c : Nat} (h : gx_pt (d + 1) p) (h1 : 1 ≤ t) (h2 : t ≤ 101) (hk : gt_ok c) (hc : p ≤ c) (he : c < p + gx_sp (d + 1)) : gy_len (c + gx_sb (d + 1) p t - p) = gy_len c := by
  have hd := gx_pt_d h
  have a := gy_len_c c
  have b := gy_len_c (c + gx_sb (d + 1) p t - p)
  revert b
  unfold gx_sb
  have : d = 0 ∨ d = 1 ∨ d = 2 := by omega
  rcases this with e | e | e <;> subst e
  · rw [gx_sp1] at he ⊢; unfold gx_pt at h; unfold gt_ok at hk; omega
  · rw [gx_sp2] at he ⊢; unfold gx_pt at h; unfold gt_ok at hk; omega
  · rw [gx_sp3] at he ⊢; unfold gx_pt at h; unfold gt_ok at hk; omega
theorem gy_sb_dg {d p t c k : Nat} (h : gx_pt (d + 1) p) (h1 : 1 ≤ t) (h2 : t ≤ 101) (hk : gt_ok c) (hc : p ≤ c) (he : c < p + gx_sp (d + 1)) (h3 : k < 3) : gy_dg (c + gx_sb (d + 1) p t - p) k = if k = d then t else gy_dg c k := by
  have hd := gx_pt_d h
  unfold gx_sb
  have : d = 0 ∨ d = 1 ∨ d = 2 := by omega
  refine gy_3 (P := fun k => gy_dg (c + (p + t * gx_sp (d + 1) - p / gx_sp (d + 1) % 128 * gx_sp (d + 1)) - p) k = if k = d then t else gy_dg c k) h3 ?_ ?_ ?_
  · rcases this with e | e | e <;> subst e
    · rw [gx_sp1] at he ⊢; rw [gy_dg0, if_pos rfl]; unfold gx_pt at h; unfold gt_ok at hk; omega
    · rw [gx_sp2] at he ⊢; rw [gy_dg0, if_neg (by decide), gy_dg0]; unfold gx_pt at h; unfold gt_ok at hk; omega
    · rw [gx_sp3] at he ⊢; rw [gy_dg0, if_neg (by decide), gy_dg0]; unfold gx_pt at h; unfold gt_ok at hk; omega
  · rcases this with e | e | e <;> subst e
    · rw [gx_sp1] at he ⊢; rw [gy_dg1, if_neg (by decide), gy_dg1]; unfold gx_pt at h; unfold gt_ok at hk; omega
    · rw [gx_sp2] at he ⊢; rw [gy_dg1, if_pos rfl]; unfold gx_pt at h; unfold gt_ok at hk; omega
    · rw [gx_sp3] at he ⊢; rw [gy_dg1, if_neg (by decide), gy_dg1]; unfold gx_pt at h; unfold gt_ok at hk; omega
  · rcases this with e | e | e <;> subst e
    · rw [gx_sp1] at he ⊢; rw [gy_dg2, if_neg (by decide), gy_dg2]; unfold gx_pt at h; unfold gt_ok at hk; omega
    · rw [gx_sp2] at he ⊢; rw [gy_dg2, if_neg (by decide), gy_dg2]; unfold gx_pt at h; unfold gt_ok at hk; omega
    · rw [gx_sp3] at he ⊢; rw [gy_dg2, if_pos rfl]; unfold gx_pt at h; unfold gt_ok at hk; omega
section
variable {M : Nat → Option Int32} {n : Nat} {li le va po : Nat → Int32} {Q : Nat → Nat} {d p : Nat} {fd : Int32}
theorem gv_twin (H : gy_Y M n li le va Q) {i t tc : Nat} (hi : i < n) (htc : gt_ok tc) (hl : gy_len tc = gy_len (Q i)) (hdg : ∀ k, k < 3 → gy_dg tc k = if k = d then t else gy_dg (Q i) k) (hd : d < 3) {post : Int32 → Prop} (h1 : ∀ j, j < n → Q j = tc → post (nI j)) (h0 : (∀ j, j < n → Q j ≠ tc) → post (-1)) : wpY_twin post (nI n, fd, li, le, va, po) (nI i) (nI d) (nI t - 51) := by
  have hn := H.1
  have hAi := H.2.1 i hi
  have hbi := gy_len_b (Q i)
  have eli : le (nI i).toNatClampNeg = nI (gy_len (Q i)) := by rw [nI_clamp (by omega)]; exact hAi.1
  -- the inner loop once 'same' is lost
  have Z : ∀ (J : Int32 → Prop) (j : Nat), J (nI (j + 1)) → ∀ f k, k ≤ gy_len (Q i) → gy_len (Q i) - k < f → wY_twin_38 post J (nI i) (nI d) (nI t - 51) (nI j) (nI n) fd li le va po f 0 (nI k) := by
    intro J j hJ f
    induction f with
    | zero => intro k _ h2; omega
    | succ f ih =>
      intro k k1 k2
      unfold wY_twin_38
      refine ⟨vp_in_nI (by omega) (by omega), pk_le (gy_len (Q i)) k (fun z => br_t rfl (nm_r (nI_1 j) hJ)) (fun z => br_t rfl (nm_r (nI_1 k) (ih (k + 1) (by omega) (by omega)))) eli rfl (by omega) (by omega)⟩
  have O : ∀ (J : Int32 → Prop) (j : Nat), j < n → gy_len (Q j) = gy_len (Q i) → (Q j ≠ tc → J (nI (j + 1))) → ∀ f k, k ≤ gy_len (Q i) → gy_len (Q i) - k < f → (∀ x, x < k → gy_dg (Q j) x = gy_dg tc x) → wY_twin_38 post J (nI i) (nI d) (nI t - 51) (nI j) (nI n) fd li le va po f 1 (nI k) := by
    intro J j hj hlj hJ f
    have hAj := H.2.1 j hj
    have okj := gy_Q_ok H hj
    have oki := gy_Q_ok H hi
    induction f with
    | zero => intro k _ h2; omega
    | succ f ih =>
      intro k k1 k2 hx
      unfold wY_twin_38
      rw [gv_ix j k, gv_ix i k]
      refine ⟨vp_in_nI (by omega) (by omega), pk_le (gy_len (Q i)) k (fun z => br_f gv_1 (h1 j hj (gy_ext okj htc (by omega) (fun x hx' => hx x (by omega))))) (fun z => br_f gv_1 ⟨vp_in_nI (by omega) (by omega), ?_⟩) eli rfl (by omega) (by omega)⟩
      have e1 : li (nI (j * 3 + k)).toNatClampNeg = nI (gy_dg (Q j) k) - 51 := by rw [nI_clamp (by omega)]; exact hAj.2 k (by omega)
      have e2 : li (nI (i * 3 + k)).toNatClampNeg = nI (gy_dg (Q i) k) - 51 := by rw [nI_clamp (by omega)]; exact hAi.2 k (by omega)
      have b1 := gy_dg_b okj (k := k) (by omega)
      have b2 := gy_dg_b htc (k := k) (by omega)
      have e3 := hdg k (by omega)
      have S : wY_twin_87 post J (wY_twin_38 post J (nI i) (nI d) (nI t - 51) (nI j) (nI n) fd li le va po f) (nI i) (nI d) (nI t - 51) (nI j) (nI k) (nI (gy_dg tc k) - 51) (nI (gy_dg (Q j) k) - 51) (nI n) fd li le va po := by
        unfold wY_twin_87
        rw [gx_eq (by omega) (by omega)]
        refine br_c (fun y => nm_r (nI_1 k) (ih (k + 1) (by omega) (by omega) (fun x hx' => ?_))) (fun y => nm_r (nI_1 k) (Z J j (hJ (fun t => y (by rw [t]))) f (k + 1) (by omega) (by omega)))
        by_cases w : x = k
        · rw [w]; exact y
        · exact hx x (by omega)
      rw [e1, e2]
      refine pk_eq k d (fun y => ?_) (fun y => ⟨vp_in_nI (by omega) (by omega), ?_⟩)
      · rw [if_pos y] at e3; rw [e3] at S; exact S
      · rw [if_neg y] at e3; rw [e3] at S; exact S
  have L : ∀ f j, j ≤ n → n - j < f → (∀ x, x < j → Q x ≠ tc) → wY_twin_3 post (nI i) (nI d) (nI t - 51) (nI n) fd li le va po f (nI j) := by
    intro f
    induction f with
    | zero => intro j _ h2; omega
    | succ f ih =>
      intro j j1 j2 hx
      unfold wY_twin_3
      refine pk_le n j (fun z => h0 (fun x hx' => hx x (by omega))) (fun z => ⟨vp_in_nI (by omega) (by omega), vp_in_nI (by omega) (by omega), ?_⟩)
      have hAj := H.2.1 j z
      have hbj := gy_len_b (Q j)
      have go : Q j ≠ tc → wY_twin_3 post (nI i) (nI d) (nI t - 51) (nI n) fd li le va po f (nI (j + 1)) := fun ne => ih (j + 1) (by omega) (by omega) (fun x hx' => by
        by_cases w : x = j
        · rw [w]; exact ne
        · exact hx x (by omega))
      exact pk_eq (gy_len (Q j)) (gy_len (Q i)) (fun y => ⟨4, O _ j z y go 4 0 (by omega) (by omega) (fun x hx' => absurd hx' (by omega))⟩) (fun y => ⟨4, Z _ j (go (fun w => y (by rw [w]; exact hl))) 4 0 (by omega) (by omega)⟩) (by rw [nI_clamp (by omega)]; exact hAj.1) eli (by omega) (by omega)
  exact ⟨n + 1, L (n + 1) 0 (Nat.zero_le _) (by omega) (fun x hx => absurd hx (by omega))⟩
theorem gv_place (H : gy_Y M n li le va Q) {i t tc : Nat} (hi : i < n) (htc : gt_ok tc) (hl : gy_len tc = gy_len (Q i)) (hdg : ∀ k, k < 3 → gy_dg tc k = if k = d then t else gy_dg (Q i) k) (hd : d < 3) (hr : M tc = none → n < 60) {post : SY → Prop} (h : ∀ n' li' le' va' Q', gy_Y (gt_up M tc (va i)) n' li' le' va' Q' → (∀ j, j < n → Q' j = Q j) → n ≤ n' → post (nI n', nI (d + 1), li', le', va', po)) : wpY_place post (nI n, nI (d + 1), li, le, va, po) (nI i) (nI t - 51) := by
  have hn := H.1
  have hAi := H.2.1 i hi
  have hbi := gy_len_b (Q i)
  unfold wpY_place
  dsimp only
  rw [nI_pred]
  refine gv_twin H hi htc hl hdg hd (fun j hj e => br_t (nI_pos' (by omega)) ⟨vp_in_nI (by omega) (by omega), vp_in_nI (by omega) (by omega), nm_e ?_⟩) (fun hno => br_f gv_m1 ⟨4, ?_⟩)
  · rw [nI_clamp (by omega), nI_clamp (by omega)]
    have hY := gy_Y_set H hj (va i)
    rw [e] at hY
    exact h _ _ _ _ _ hY (fun _ _ => rfl) (Nat.le_refl _)
  · have hN : M tc = none := by
      cases e : M tc with
      | none => rfl
      | some w =>
        obtain ⟨j, hj, ej⟩ := H.2.2.2.2.1 tc w e
        exact absurd ej (hno j hj)
    have h60 := hr hN
    have L : ∀ f k (la : Nat → Int32), k ≤ 3 → 3 - k < f → (∀ x, x < n * 3 → la x = li x) → (∀ y, y < k → la (n * 3 + y) = if y = d then nI t - 51 else li (i * 3 + y)) → wY_place_25 post (nI i) (nI t - 51) (nI n) (nI n) (nI (d + 1)) f (nI k) la le va po := by
      intro f
      induction f with
      | zero => intro k la _ h2; omega
      | succ f ih =>
        intro k la k1 k2 a1 a2
        unfold wY_place_25
        rw [gv_ix n k, gv_ix i k, nI_pred]
        refine pk_le 3 k (fun z => ⟨vp_in_nI (by omega) (by omega), vp_in_nI (by omega) (by omega), nm_e (nm_r (nI_1 n) ⟨vp_in_nI (by omega) (by omega), vp_in_nI (by omega) (by omega), nm_e ?_⟩)⟩) (fun z => pk_eq k d (fun y => ⟨vp_in_nI (by omega) (by omega), nm_e (nm_r (nI_1 k) ?_)⟩) (fun y => ⟨vp_in_nI (by omega) (by omega), vp_in_nI (by omega) (by omega), nm_e (nm_r (nI_1 k) ?_)⟩))
        · rw [nI_clamp (by omega), nI_clamp (by omega)]
          refine h _ _ _ _ _ (gy_Y_new H hN htc h60 a1 (fun j hj => pk_un (by omega)) (fun j hj => pk_un (by omega)) ⟨?_, fun x hx => ?_⟩ pk_us) (fun j hj => gy_q_n (by omega)) (by omega)
          · rw [pk_us, hl]; exact hAi.1
          · rw [a2 x (by omega), hdg x (by omega)]
            by_cases w : x = d
            · rw [if_pos w, if_pos w]
            · rw [if_neg w, if_neg w]; exact hAi.2 x (by omega)
        · rw [nI_clamp (by omega)]
          refine ih (k + 1) _ (by omega) (by omega) (fun x hx => ?_) (fun x hx => ?_)
          · rw [pk_un (by omega)]; exact a1 x hx
          · by_cases w : x = k
            · rw [w, pk_us, if_pos y]
            · rw [pk_un (by omega)]; exact a2 x (by omega)
        · rw [nI_clamp (by omega), nI_clamp (by omega)]
          refine ih (k + 1) _ (by omega) (by omega) (fun x hx => ?_) (fun x hx => ?_)
          · rw [pk_un (by omega)]; exact a1 x hx
          · by_cases w : x = k
            · rw [w, pk_us, if_neg y]; exact a1 _ (by omega)
            · rw [pk_un (by omega)]; exact a2 x (by omega)
    exact L 4 0 li (by omega) (by omega) (fun _ _ => rfl) (fun y hy => absurd hy (by omega))
end
end
section
/-! Y's merge: its two loops -/
def gy_mq (M : Nat → Option Int32) (va : Nat → Int32) (Q : Nat → Nat) (p q e : Nat) : Nat → (Nat → Option Int32)
  | 0 => M
  | i + 1 => if p ≤ Q i ∧ Q i < p + e then gt_up (gy_mq M va Q p q e i) (Q i + q - p) (va i) else gy_mq M va Q p q e i
section
variable {M : Nat → Option Int32} {n : Nat} {li le va po : Nat → Int32} {Q : Nat → Nat} {d p q e : Nat}
theorem gy_mq_t {i : Nat} (h : p ≤ Q i ∧ Q i < p + e) : gy_mq M va Q p q e (i + 1) = gt_up (gy_mq M va Q p q e i) (Q i + q - p) (va i) := if_pos h
theorem gy_mq_f {i : Nat} (h : ¬ (p ≤ Q i ∧ Q i < p + e)) : gy_mq M va Q p q e (i + 1) = gy_mq M va Q p q e i := if_neg h
theorem gy_mq_c (H : gy_Y M n li le va Q) : ∀ i, i ≤ n → ∀ c, (∃ j, j < i ∧ p ≤ Q j ∧ Q j < p + e ∧ Q j + q - p = c ∧ gy_mq M va Q p q e i c = M (Q j)) ∨ ((∀ j, j < i → p ≤ Q j → Q j < p + e → Q j + q - p ≠ c) ∧ gy_mq M va Q p q e i c = M c) := by
  intro i
  induction i with
  | zero => intro _ c; exact Or.inr ⟨fun j hj => absurd hj (by omega), rfl⟩
  | succ i ih =>
    intro hi c
    have I := ih (by omega) c
    by_cases z : p ≤ Q i ∧ Q i < p + e
    · rw [gy_mq_t z]
      by_cases w : c = Q i + q - p
      · exact Or.inl ⟨i, by omega, z.1, z.2, w.symm, by rw [w, gt_up_s]; exact (H.2.2.1 i (by omega)).symm⟩
      · rw [gt_up_n w]
        rcases I with ⟨j, a1, a2, a3, a4, a5⟩ | ⟨a1, a2⟩
        · exact Or.inl ⟨j, by omega, a2, a3, a4, a5⟩
        · refine Or.inr ⟨fun j hj b1 b2 => ?_, a2⟩
          by_cases t : j = i
          · rw [t]; exact fun x => w x.symm
          · exact a1 j (by omega) b1 b2
    · rw [gy_mq_f z]
      rcases I with ⟨j, a1, a2, a3, a4, a5⟩ | ⟨a1, a2⟩
      · exact Or.inl ⟨j, by omega, a2, a3, a4, a5⟩
      · refine Or.inr ⟨fun j hj b1 b2 => ?_, a2⟩
        by_cases t : j = i
        · rw [t] at b1 b2; exact absurd ⟨b1, b2⟩ z
        · exact a1 j (by omega) b1 b2
theorem gy_mq_n (H : gy_Y M n li le va Q) : gy_mq M va Q p q e n = gt_mg M p q (p + e) := by
  funext c
  rcases gy_mq_c (p := p) (q := q) (e := e) H n (Nat.le_refl _) c with ⟨j, a1, a2, a3, a4, a5⟩ | ⟨a1, a2⟩
  · have e1 : c + p - q = Q j := by omega
    rw [a5, gt_mg_i ⟨by omega, by omega, by rw [e1]; exact gt_has_s (H.2.2.1 j a1)⟩, e1]
  · rw [a2, gt_mg_o]
    rintro ⟨b1, b2, b3⟩
    obtain ⟨v, hv⟩ := gt_has_t b3
    obtain ⟨j, hj, ej⟩ := H.2.2.2.2.1 _ v hv
    exact a1 j hj (by omega) (by omega) (by omega)
/-- what stands so far stands at the end -/
theorem gy_mq_h (H : gy_Y M n li le va Q) {i : Nat} (hi : i ≤ n) (c : Nat) (h : gt_has (gy_mq M va Q p q e i) c = true) : gt_has (gt_mg M p q (p + e)) c = true := by
  obtain ⟨v, hv⟩ := gt_has_t h
  rcases gy_mq_c (p := p) (q := q) (e := e) H i hi c with ⟨j, a1, a2, a3, a4, a5⟩ | ⟨a1, a2⟩
  · have e1 : c + p - q = Q j := by omega
    have e2 := H.2.2.1 j (by omega)
    have e3 : gt_mg M p q (p + e) c = some (va j) := by
      rw [gt_mg_i ⟨by omega, by omega, by rw [e1]; exact gt_has_s e2⟩, e1]; exact e2
    exact gt_has_s e3
  · rw [a2] at hv
    by_cases z : q ≤ c ∧ c + p < q + (p + e) ∧ gt_has M (c + p - q) = true
    · obtain ⟨w, hw⟩ := gt_has_t z.2.2
      exact gt_has_s ((gt_mg_i z).trans hw)
    · exact gt_has_s ((gt_mg_o z).trans hv)
theorem gy_mq_room (H : gy_Y M n li le va Q) {i n' : Nat} {li' le' va' : Nat → Int32} {Q' : Nat → Nat} (H' : gy_Y (gy_mq M va Q p q e i) n' li' le' va' Q') (hi : i < n) (hq : q + e ≤ 2097152) (hr : n + gt_ms M p q e ≤ 60) (h1 : p ≤ Q i) (h2 : Q i < p + e) (hN : gy_mq M va Q p q e i (Q i + q - p) = none) : n' < 60 := by
  have e1 := gy_ctN H'
  have e2 := gy_ctN H
  have e3 := gt_mg_ct M p q (B := 2097152) e hq
  have e4 : gt_has (gt_mg M p q (p + e)) (Q i + q - p) = true := by
    have e5 : Q i + q - p + p - q = Q i := by omega
    have e6 := H.2.2.1 i hi
    have e7 : gt_mg M p q (p + e) (Q i + q - p) = some (va i) := by
      rw [gt_mg_i ⟨by omega, by omega, by rw [e5]; exact gt_has_s e6⟩, e5]; exact e6
    exact gt_has_s e7
  have e5 := gt_cn_subs (gy_mq_h (p := p) (q := q) (e := e) H (Nat.le_of_lt hi)) (gt_has_n hN) e4 2097152 (by omega)
  have e6 : gt_ct (gy_mq M va Q p q e i) 2097152 < gt_ct (gt_mg M p q (p + e)) 2097152 := e5
  omega
/-- the source's own nodes keep their values -/
theorem gy_mq_src (H : gy_Y M n li le va Q) (hd : q = p ∨ q + e ≤ p ∨ p + e ≤ q) {i : Nat} (hi : i < n) (h1 : p ≤ Q i) (h2 : Q i < p + e) : gy_mq M va Q p q e i (Q i) = some (va i) := by
  have e1 := H.2.2.1 i hi
  rcases gy_mq_c (p := p) (q := q) (e := e) H i (Nat.le_of_lt hi) (Q i) with ⟨j, a1, a2, a3, a4, a5⟩ | ⟨a1, a2⟩
  · have e2 : Q j = Q i := by omega
    exact absurd e2 (H.2.2.2.1 j i a1 hi)
  · rw [a2]; exact e1
theorem gv_m2 (H : gy_Y M n li le va Q) (hp : gx_pt (d + 1) p) (hq : gy_p po (d + 1) p) {t : Nat} (t1 : 1 ≤ t) (t2 : t ≤ 101) (hr : n + gt_ms M p (gx_sb (d + 1) p t) (gx_sp (d + 1)) ≤ 60) {post : Int32 → SY → Prop} {x3 : Int32} (h : ∀ n' li' le' va' Q', gy_Y (gt_mg M p (gx_sb (d + 1) p t) (p + gx_sp (d + 1))) n' li' le' va' Q' → post x3 (nI n', nI (d + 1), li', le', va', po)) : ∀ f i n' li' le' va' Q', gy_Y (gy_mq M va Q p (gx_sb (d + 1) p t) (gx_sp (d + 1)) i) n' li' le' va' Q' → (∀ j, j < n → Q' j = Q j) → n ≤ n' → i ≤ n → n - i < f → wY_merge_95 post (nI t - 51) (nI n) x3 f (nI i) (nI n') (nI (d + 1)) li' le' va' po := by
  have hn := H.1
  have hd := gx_pt_d hp
  have hl := gx_pt_lt hp
  have hl2 := gx_pt_lt (gx_sb_pt hp t1 t2)
  have hdj := gx_sb_dj hp t1 t2
  intro f
  induction f with
  | zero => intro i n' li' le' va' Q' _ _ _ _ h2; omega
  | succ f ih =>
    intro i n' li' le' va' Q' H' hQ hnn i1 i2
    have hn' := H'.1
    unfold wY_merge_95
    refine pk_le n i (fun z => ?_) (fun z => ?_)
    · have e : i = n := by omega
      rw [e, gy_mq_n H] at H'
      exact h _ _ _ _ _ H'
    · have hA := H'.2.1 i (by omega)
      have hok := gy_Q_ok H z
      rw [hQ i z] at hA
      refine gv_bg hA hok (by omega) hp hq (Nat.le_refl (d + 1)) (fun y => br_f gv_1 ?_) (fun y => br_t rfl (nm_r (nI_1 i) ?_))
      · rw [gy_rng hp] at y
        have hv : va' i = va i := by
          have e1 := H'.2.2.1 i (by omega)
          rw [hQ i z, gy_mq_src H hdj z y.1 y.2] at e1
          exact (Option.some.inj e1).symm
        refine gv_place H' (i := i) (t := t) (tc := Q i + gx_sb (d + 1) p t - p) (by omega) (gx_sb_ok hp t1 t2 hok y.1 y.2) ?_ (fun k hk => ?_) (by omega) (fun hN => gy_mq_room H H' z hl2 hr y.1 y.2 hN) (fun n2 li2 le2 va2 Q2 H2 hQ2 hn2 => nm_r (nI_1 i) ?_)
        · rw [hQ i z]; exact gy_sb_len hp t1 t2 hok y.1 y.2
        · rw [hQ i z]; exact gy_sb_dg hp t1 t2 hok y.1 y.2 hk
        · rw [hv, ← gy_mq_t y] at H2
          exact ih (i + 1) _ _ _ _ _ H2 (fun j hj => (hQ2 j (by omega)).trans (hQ j hj)) (by omega) (by omega) (by omega)
      · rw [gy_rng hp] at y
        rw [← gy_mq_f y] at H'
        exact ih (i + 1) _ _ _ _ _ H' hQ hnn (by omega) (by omega)
/-- counted over the nodes: the copied ones, and the fresh ones among them -/
theorem gy_cop (H : gy_Y M n li le va Q) (hp : p + e ≤ 2097152) : gt_cn (fun i => decide (p ≤ Q i ∧ Q i < p + e)) n = gt_ct M (p + e) - gt_ct M p := by
  have e1 := gy_ct H (fun c => decide (p ≤ c ∧ c < p + e))
  have e2 := gt_cn_win (gt_has M) p e hp
  have e3 : gt_ct M (p + e) = gt_ct M p + gt_cn (fun j => gt_has M (p + j)) e := gt_cn_add _ _ _
  have e4 : gt_cn (fun i => decide (p ≤ Q i ∧ Q i < p + e)) n = gt_cn (fun j => gt_has M (p + j)) e := e1.trans e2
  omega
theorem gy_fre (H : gy_Y M n li le va Q) (hp : p + e ≤ 2097152) : gt_cn (fun i => !gt_has M (Q i + q - p) && decide (p ≤ Q i ∧ Q i < p + e)) n = gt_ms M p q e := by
  have e1 := gy_ct H (fun c => !gt_has M (c + q - p) && decide (p ≤ c ∧ c < p + e))
  have e2 := gt_cn_win (fun c => gt_has M c && !gt_has M (c + q - p)) p e hp
  have e3 : gt_cn (fun c => gt_has M c && (!gt_has M (c + q - p) && decide (p ≤ c ∧ c < p + e))) 2097152 = gt_cn (fun c => (gt_has M c && !gt_has M (c + q - p)) && decide (p ≤ c ∧ c < p + e)) 2097152 := gt_cn_eq (fun c _ => (Bool.and_assoc _ _ _).symm)
  refine e1.trans (e3.trans (e2.trans (gt_cn_eq (fun j _ => ?_))))
  show (gt_has M (p + j) && !gt_has M (p + j + q - p)) = (gt_has M (p + j) && !gt_has M (q + j))
  rw [show p + j + q - p = q + j by omega]
theorem gv_merge (H : gy_Y M n li le va Q) (hp : gx_pt (d + 1) p) (hq : gy_p po (d + 1) p) {t : Nat} (t1 : 1 ≤ t) (t2 : t ≤ 101) {post : Int32 → SY → Prop} (hf : ¬ n + gt_ms M p (gx_sb (d + 1) p t) (gx_sp (d + 1)) ≤ 60 → post (-2) (nI n, nI (d + 1), li, le, va, po)) (h : n + gt_ms M p (gx_sb (d + 1) p t) (gx_sp (d + 1)) ≤ 60 → ∀ n' li' le' va' Q', gy_Y (gt_mg M p (gx_sb (d + 1) p t) (p + gx_sp (d + 1))) n' li' le' va' Q' → post (nI (gt_ct M (p + gx_sp (d + 1)) - gt_ct M p)) (nI n', nI (d + 1), li', le', va', po)) : wpY_merge post (nI n, nI (d + 1), li, le, va, po) (nI t - 51) := by
  have hn := H.1
  have hd := gx_pt_d hp
  have hl := gx_pt_lt hp
  have hl2 := gx_pt_lt (gx_sb_pt hp t1 t2)
  have c1 := gy_cop H hl
  have c2 := gy_fre (q := gx_sb (d + 1) p t) H hl
  have hms := gt_ms_le M p (gx_sb (d + 1) p t) (gx_sp (d + 1))
  have hct : gt_ct M (p + gx_sp (d + 1)) ≤ n := by
    have e1 := gy_ctN H
    have e2 : gt_ct M (p + gx_sp (d + 1)) ≤ gt_ct M 2097152 := gt_cn_mono _ hl
    omega
  have L : ∀ f i, i ≤ n → n - i < f → wY_merge_33 post (nI t - 51) (nI n) (nI n) (nI (d + 1)) li le va po f (nI (gt_cn (fun i => decide (p ≤ Q i ∧ Q i < p + gx_sp (d + 1))) i)) (nI (gt_cn (fun i => !gt_has M (Q i + gx_sb (d + 1) p t - p) && decide (p ≤ Q i ∧ Q i < p + gx_sp (d + 1))) i)) (nI i) := by
    intro f
    induction f with
    | zero => intro i _ h2; omega
    | succ f ih =>
      intro i i1 i2
      unfold wY_merge_33
      refine pk_le n i (fun z => ?_) (fun z => ?_)
      · have e : i = n := by omega
        rw [e, c1, c2, nI_add]
        refine pk_le (n + gt_ms M p (gx_sb (d + 1) p t) (gx_sp (d + 1))) 60 (fun w => ⟨n + 1, ?_⟩) (fun w => hf (by omega))
        exact gv_m2 H hp hq t1 t2 w (h w) (n + 1) 0 n li le va Q H (fun _ _ => rfl) (Nat.le_refl _) (Nat.zero_le _) (by omega)
      · have I := ih (i + 1) (by omega) (by omega)
        have hA := H.2.1 i z
        have hok := gy_Q_ok H z
        refine gv_bg hA hok (by omega) hp hq (Nat.le_refl (d + 1)) (fun y => br_f gv_1 (nm_r (nI_1 _) ?_)) (fun y => br_t rfl (nm_r (nI_1 i) ?_))
        · rw [gy_rng hp] at y
          have k1 : decide (p ≤ Q i ∧ Q i < p + gx_sp (d + 1)) = true := decide_eq_true y
          rw [gt_cn_t (f := fun i => decide (p ≤ Q i ∧ Q i < p + gx_sp (d + 1))) k1] at I
          rw [nI_pred]
          refine gv_twin H (i := i) (t := t) (tc := Q i + gx_sb (d + 1) p t - p) z (gx_sb_ok hp t1 t2 hok y.1 y.2) (gy_sb_len hp t1 t2 hok y.1 y.2) (fun k hk => gy_sb_dg hp t1 t2 hok y.1 y.2 hk) (by omega) (fun j hj ej => br_t (nI_pos' (by omega)) (nm_r (nI_1 i) ?_)) (fun hno => br_f gv_m1 (nm_r (nI_1 _) (nm_r (nI_1 i) ?_)))
          · have k2 : gt_has M (Q i + gx_sb (d + 1) p t - p) = true := by
              rw [← ej]; exact gt_has_s (H.2.2.1 j hj)
            rw [gt_cn_f (f := fun i => !gt_has M (Q i + gx_sb (d + 1) p t - p) && decide (p ≤ Q i ∧ Q i < p + gx_sp (d + 1))) (by show (!gt_has M (Q i + gx_sb (d + 1) p t - p) && decide (p ≤ Q i ∧ Q i < p + gx_sp (d + 1))) = false; rw [k2]; rfl)] at I
            exact I
          · have k2 : gt_has M (Q i + gx_sb (d + 1) p t - p) = false := by
              cases k3 : gt_has M (Q i + gx_sb (d + 1) p t - p) with
              | false => rfl
              | true =>
                obtain ⟨w, hw⟩ := gt_has_t k3
                obtain ⟨j, hj, ej⟩ := H.2.2.2.2.1 _ w hw
                exact absurd ej (hno j hj)
            rw [gt_cn_t (f := fun i => !gt_has M (Q i + gx_sb (d + 1) p t - p) && decide (p ≤ Q i ∧ Q i < p + gx_sp (d + 1))) (by show (!gt_has M (Q i + gx_sb (d + 1) p t - p) && decide (p ≤ Q i ∧ Q i < p + gx_sp (d + 1))) = true; rw [k2, k1]; rfl)] at I
            exact I
        · rw [gy_rng hp] at y
          have k1 : decide (p ≤ Q i ∧ Q i < p + gx_sp (d + 1)) = false := decide_eq_false y
          rw [gt_cn_f (f := fun i => decide (p ≤ Q i ∧ Q i < p + gx_sp (d + 1))) k1, gt_cn_f (f := fun i => !gt_has M (Q i + gx_sb (d + 1) p t - p) && decide (p ≤ Q i ∧ Q i < p + gx_sp (d + 1))) (by show (!gt_has M (Q i + gx_sb (d + 1) p t - p) && decide (p ≤ Q i ∧ Q i < p + gx_sp (d + 1))) = false; rw [k1, Bool.and_false])] at I
          exact I
  unfold wpY_merge
  dsimp only
  refine br_f (nI_ne0 (by omega) (by omega)) (gv_is (fun z => absurd ⟨gx_m50 t1 t2, gx_p50 t2⟩ z) (fun _ => br_f gv_1 ⟨n + 1, L (n + 1) 0 (Nat.zero_le _) (by omega)⟩))
end
end
section
/-! Y's looks -/
theorem gy_len_rng {c p d : Nat} (hk : gt_ok c) (h : gx_pt d p) (h1 : p ≤ c) (h2 : c < p + gx_sp d) : gy_len c ≤ d ↔ c = p := by
  have hd := gx_pt_d h
  have a := gy_len_c c
  revert h h2
  refine gx_4 (P := fun d => gx_pt d p → c < p + gx_sp d → (gy_len c ≤ d ↔ c = p)) hd ?_ ?_ ?_ ?_
  · rw [gx_sp0]; unfold gx_pt; unfold gt_ok at hk; omega
  · rw [gx_sp1]; unfold gx_pt; unfold gt_ok at hk; omega
  · rw [gx_sp2]; unfold gx_pt; unfold gt_ok at hk; omega
  · rw [gx_sp3]; unfold gx_pt; unfold gt_ok at hk; omega
theorem gy_lex {a b k : Nat} (ha : a < 2097152) (hb : b < 2097152) (hk : k < 3) (h : ∀ x, x < k → gy_dg a x = gy_dg b x) (hl : gy_dg a k < gy_dg b k) : a < b := by
  revert h hl
  refine gy_3 (P := fun k => (∀ x, x < k → gy_dg a x = gy_dg b x) → gy_dg a k < gy_dg b k → a < b) hk ?_ ?_ ?_
  · intro _ hl
    rw [gy_dg0, gy_dg0] at hl; omega
  · intro h hl
    have h0 := h 0 (by omega)
    rw [gy_dg0, gy_dg0] at h0
    rw [gy_dg1, gy_dg1] at hl; omega
  · intro h hl
    have h0 := h 0 (by omega)
    have h1 := h 1 (by omega)
    rw [gy_dg0, gy_dg0] at h0
    rw [gy_dg1, gy_dg1] at h1
    rw [gy_dg2, gy_dg2] at hl; omega
theorem gy_all {a b : Nat} (ha : a < 2097152) (hb : b < 2097152) (h : ∀ x, x < 3 → gy_dg a x = gy_dg b x) : a = b := by
  have := (gy_pre ha hb (Nat.le_refl 3)).mp h
  rw [gx_sp3] at this
  omega
def gv_b (b : Bool) : Int32 := if b = true then 10 else 0
section
variable {M : Nat → Option Int32} {n : Nat} {li le va po : Nat → Int32} {Q : Nat → Nat} {d p : Nat}
theorem gv_data (H : gy_Y M n li le va Q) (hp : gx_pt d p) (hq : gy_p po d p) {post : Int32 → Prop} (h : ∀ b : Bool, (b = true ↔ ∃ c, gt_has M c = true ∧ p < c ∧ c < p + gx_sp d) → post (gv_b b + (if gt_has M p = true then 1 else 0))) : wpY_data post (nI n, nI d, li, le, va, po) := by
  have hn := H.1
  have hd := gx_pt_d hp
  have L : ∀ f i (b : Bool), i ≤ n → n - i < f → (b = true ↔ ∃ j, j < i ∧ p < Q j ∧ Q j < p + gx_sp d) → wY_data_4 post (nI n) (nI d) li le va po f (gv_b b) (nI i) := by
    intro f
    induction f with
    | zero => intro i b _ h2; omega
    | succ f ih =>
      intro i b i1 i2
      have j1 : i < n → i + 1 ≤ n ∧ n - (i + 1) < f := fun z => ⟨by omega, by omega⟩
      intro hb
      unfold wY_data_4
      refine pk_le n i (fun z => ?_) (fun z => ?_)
      · have hb2 : b = true ↔ ∃ c, gt_has M c = true ∧ p < c ∧ c < p + gx_sp d := by
          rw [hb]
          constructor
          · rintro ⟨j, hj, a1, a2⟩
            exact ⟨Q j, gt_has_s (H.2.2.1 j (by omega)), a1, a2⟩
          · rintro ⟨c, a0, a1, a2⟩
            obtain ⟨v, hv⟩ := gt_has_t a0
            obtain ⟨j, hj, ej⟩ := H.2.2.2.2.1 c v hv
            exact ⟨j, by omega, by omega, by omega⟩
        have K := h b hb2
        refine gv_here H hp hq (fun j hj e => br_f (nI_pos (by omega)) ?_) (fun hno => br_t (by decide) ?_)
        · have : gt_has M p = true := by rw [← e]; exact gt_has_s (H.2.2.1 j hj)
          rw [if_pos this] at K; exact K
        · have : ¬ gt_has M p = true := fun w => by
            obtain ⟨v, hv⟩ := gt_has_t w
            obtain ⟨j, hj, ej⟩ := H.2.2.2.2.1 p v hv
            exact hno j hj ej
          rw [if_neg this, Int32.add_zero] at K; exact K
      · have hA := H.2.1 i z
        have hok := gy_Q_ok H z
        have hbl := gy_len_b (Q i)
        have same : ¬ (p < Q i ∧ Q i < p + gx_sp d) → wY_data_4 post (nI n) (nI d) li le va po f (gv_b b) (nI (i + 1)) := fun no => by
          refine ih (i + 1) b (j1 z).1 (j1 z).2 (hb.trans ⟨?_, ?_⟩)
          · rintro ⟨j, hj, a⟩; exact ⟨j, by omega, a⟩
          · rintro ⟨j, hj, a⟩
            by_cases t : j = i
            · rw [t] at a; exact absurd a no
            · exact ⟨j, by omega, a⟩
        refine gv_bg hA hok (by omega) hp hq (Nat.le_refl d) (fun y => br_f gv_1 ⟨vp_in_nI (by omega) (by omega), ?_⟩) (fun y => br_t rfl (nm_r (nI_1 i) (same (fun w => ?_))))
        · rw [gy_rng hp] at y
          have lr := gy_len_rng hok hp y.1 y.2
          refine pk_le (gy_len (Q i)) d (fun w => nm_r (nI_1 i) (same (fun t => ?_))) (fun w => nm_r (nI_1 i) ?_) (by rw [nI_clamp (by omega)]; exact hA.1) rfl (by omega) (by omega)
          · have := lr.mp w; omega
          · have ne : Q i ≠ p := fun t => by
              have := lr.mpr t
              omega
            exact ih (i + 1) true (j1 z).1 (j1 z).2 ⟨fun _ => ⟨i, by omega, by omega, y.2⟩, fun _ => rfl⟩
        · rw [gy_rng hp] at y
          exact y ⟨by omega, w.2⟩
  exact ⟨n + 1, L (n + 1) 0 false (Nat.zero_le _) (by omega) ⟨fun z => absurd z (by decide), fun ⟨j, hj, _⟩ => absurd hj (by omega)⟩⟩
theorem gv_n100 {t : Nat} (h : t < 2 ^ 30) : ¬ nI t - 51 = -100 := fun e => by
  have := gx_ti h
  rw [e, show (-100 : Int32).toInt = -100 by decide] at this
  omega
theorem gv_near (H : gy_Y M n li le va Q) (hp : gx_pt d p) (hq : gy_p po d p) {k g : Nat} (hk : k ≤ d) (hk3 : k < 3) (hg : g ≤ 101) {w : Int32} {W : Nat → Nat → Prop} (hW : ∀ a b, a ≤ 101 → b ≤ 101 → (((nI a - 51) - (nI b - 51)) * w ≤ 0 ↔ ¬ W a b)) (hT : ∀ a b c, W a b → ¬ W a c → ¬ W b c) (hI : ∀ a, ¬ W a a) {post : Int32 → Prop} (h1 : ∀ j, j < n → Q j / gx_sp k = p / gx_sp k → k < gy_len (Q j) → W (gy_dg (Q j) k) g → (∀ x, x < n → Q x / gx_sp k = p / gx_sp k → k < gy_len (Q x) → W (gy_dg (Q x) k) g → ¬ W (gy_dg (Q j) k) (gy_dg (Q x) k)) → post (nI (gy_dg (Q j) k) - 51)) (h0 : (∀ x, x < n → Q x / gx_sp k = p / gx_sp k → k < gy_len (Q x) → ¬ W (gy_dg (Q x) k) g) → post (-100)) : wpY_nearest post (nI n, nI d, li, le, va, po) (nI k) (nI g - 51) w := by
  have hn := H.1
  have L : ∀ f i (b : Int32), i ≤ n → n - i < f → ((b = -100 ∧ ∀ x, x < i → Q x / gx_sp k = p / gx_sp k → k < gy_len (Q x) → ¬ W (gy_dg (Q x) k) g) ∨ (∃ j, j < i ∧ Q j / gx_sp k = p / gx_sp k ∧ k < gy_len (Q j) ∧ W (gy_dg (Q j) k) g ∧ b = nI (gy_dg (Q j) k) - 51 ∧ (∀ x, x < i → Q x / gx_sp k = p / gx_sp k → k < gy_len (Q x) → W (gy_dg (Q x) k) g → ¬ W (gy_dg (Q j) k) (gy_dg (Q x) k)))) → wY_nearest_7 post (nI k) (nI g - 51) w (nI n) (nI d) li le va po f b (nI i) := by
    intro f
    induction f with
    | zero => intro i b _ h2; omega
    | succ f ih =>
      intro i b i1 i2 hb
      unfold wY_nearest_7
      rw [gv_ix i k]
      refine pk_le n i (fun z => ?_) (fun z => ⟨vp_in_nI (by omega) (by omega), fun x6 e6 => ?_⟩)
      · rcases hb with ⟨rfl, a⟩ | ⟨j, a1, a2, a3, a4, rfl, a5⟩
        · exact h0 (fun x hx => a x (by omega))
        · exact h1 j (by omega) a2 a3 a4 (fun x hx => a5 x (by omega))
      · have hA := H.2.1 i z
        have hok := gy_Q_ok H z
        have hbl := gy_len_b (Q i)
        have bi := gy_dg_b hok hk3
        have same : ¬ (Q i / gx_sp k = p / gx_sp k ∧ k < gy_len (Q i) ∧ W (gy_dg (Q i) k) g) → wY_nearest_63 post (wY_nearest_7 post (nI k) (nI g - 51) w (nI n) (nI d) li le va po f) (nI k) (nI g - 51) w b (nI i) x6 (nI n) (nI d) li le va po := fun no => by
          unfold wY_nearest_63 wY_nearest_64
          refine br_t rfl (nm_r (nI_1 i) (ih (i + 1) b (by omega) (by omega) ?_))
          rcases hb with ⟨eb, a⟩ | ⟨j, a1, a2, a3, a4, eb, a5⟩
          · refine Or.inl ⟨eb, fun x hx b1 b2 b3 => ?_⟩
            by_cases t : x = i
            · rw [t] at b1 b2 b3; exact no ⟨b1, b2, b3⟩
            · exact a x (by omega) b1 b2 b3
          · refine Or.inr ⟨j, by omega, a2, a3, a4, eb, fun x hx b1 b2 b3 => ?_⟩
            by_cases t : x = i
            · rw [t] at b1 b2 b3; exact absurd ⟨b1, b2, b3⟩ no
            · exact a5 x (by omega) b1 b2 b3
        refine gv_bg hA hok (by omega) hp hq hk (fun y => br_f gv_1 ⟨vp_in_nI (by omega) (by omega), ?_⟩) (fun y => br_t rfl (same (fun t => y t.1)))
        refine pk_le (gy_len (Q i)) k (fun v => same (fun t => by omega)) (fun v => ?_) (by rw [nI_clamp (by omega)]; exact hA.1) rfl (by omega) (by omega)
        have e7 : x6 = nI (gy_dg (Q i) k) - 51 := by rw [e6, nI_clamp (by omega)]; exact hA.2 k v
        subst e7
        rw [hW _ _ bi hg]
        refine br_c (fun s => same (fun t => s t.2.2)) (fun s => ?_)
        have s : W (gy_dg (Q i) k) g := Classical.not_not.mp s
        have new : (∀ x, x < i → Q x / gx_sp k = p / gx_sp k → k < gy_len (Q x) → W (gy_dg (Q x) k) g → ¬ W (gy_dg (Q i) k) (gy_dg (Q x) k)) → wY_nearest_7 post (nI k) (nI g - 51) w (nI n) (nI d) li le va po f (nI (gy_dg (Q i) k) - 51) (nI (i + 1)) := fun a => ih (i + 1) _ (by omega) (by omega) (Or.inr ⟨i, by omega, y, v, s, rfl, fun x hx b1 b2 b3 => by
          by_cases t : x = i
          · rw [t]; exact hI _
          · exact a x (by omega) b1 b2 b3⟩)
        unfold wY_nearest_64
        refine br_f gv_1 ?_
        rcases hb with ⟨eb, a⟩ | ⟨j, a1, a2, a3, a4, eb, a5⟩
        · exact br_t eb (nm_r (nI_1 i) (new (fun x hx b1 b2 b3 => absurd b3 (a x hx b1 b2))))
        · have bj := gy_dg_b (gy_Q_ok H (show j < n by omega)) hk3
          rw [eb]
          refine br_f (gv_n100 (by omega)) ?_
          rw [hW _ _ bj bi]
          refine br_c (fun r => nm_r (nI_1 i) (ih (i + 1) _ (by omega) (by omega) (Or.inr ⟨j, by omega, a2, a3, a4, rfl, fun x hx b1 b2 b3 => ?_⟩))) (fun r => nm_r (nI_1 i) (new (fun x hx b1 b2 b3 => hT _ _ _ (Classical.not_not.mp r) (a5 x hx b1 b2 b3))))
          by_cases t : x = i
          · rw [t]; exact r
          · exact a5 x (by omega) b1 b2 b3
  exact ⟨n + 1, L (n + 1) 0 (-100) (Nat.zero_le _) (by omega) (Or.inl ⟨rfl, fun x hx => absurd hx (by omega)⟩)⟩
theorem gv_order (hp : gx_pt d p) (hq : gy_p po d p) {i c : Nat} {fn : Int32} (hA : gy_at li le i c) (hc : gt_ok c) (hi : i < 60) {post : Int32 → Prop} (h1 : c < p → post (-1)) (h2 : c = p → post 0) (h3 : p < c → post 1) : wpY_order post (fn, nI d, li, le, va, po) (nI i) := by
  have hd := gx_pt_d hp
  have lc := gt_ok_lt hc
  have lp := gx_pt_lt hp
  have hs : 0 < gx_sp d := Nat.two_pow_pos _
  have hb := gy_len_b c
  have L : ∀ f k, k ≤ 3 → 3 - k < f → (∀ x, x < k → gy_dg c x = gy_dg p x) → wY_order_2 post (nI i) fn (nI d) li le va po f (nI k) := by
    intro f
    induction f with
    | zero => intro k _ h2; omega
    | succ f ih =>
      intro k k1 k2 hx
      unfold wY_order_2
      rw [gv_ix i k]
      refine pk_le 3 k (fun z => h2 (gy_all lc (by omega) (fun x hx' => hx x (by omega)))) (fun z => ⟨vp_in_nI (by omega) (by omega), ?_⟩)
      have bc := gy_dg_b hc (k := k) (by omega)
      have bp := gy_pd_b hp (k := k) (by omega)
      have S : wY_order_52 post (wY_order_2 post (nI i) fn (nI d) li le va po f) (nI i) (nI k) (nI (gy_dg c k) - 51) (nI (gy_dg p k) - 51) fn (nI d) li le va po := by
        unfold wY_order_52
        rw [gx_eq (by omega) (by omega), gx_le (by omega) (by omega)]
        refine br_c (fun y => nm_r (nI_1 k) (ih (k + 1) (by omega) (by omega) (fun x hx' => ?_))) (fun y => br_c (fun w => h3 (gy_lex (by omega) lc z (fun x hx' => (hx x hx').symm) (by omega))) (fun w => h1 (gy_lex lc (by omega) z hx (by omega))))
        by_cases t : x = k
        · rw [t]; exact y
        · exact hx x (by omega)
      have R : wY_order_32 post (wY_order_2 post (nI i) fn (nI d) li le va po f) (nI i) (nI k) (nI (gy_dg c k) - 51) fn (nI d) li le va po := by
        unfold wY_order_32
        refine pk_le d k (fun y => ?_) (fun y => ⟨vp_in_nI (by omega) (by omega), ?_⟩)
        · rw [gy_pd_out hp y z, ← gv_51] at S; exact S
        · rw [nI_clamp (by omega), hq k y]; exact S
      refine pk_le (gy_len c) k (fun y => ?_) (fun y => ⟨vp_in_nI (by omega) (by omega), ?_⟩) (by rw [nI_clamp (by omega)]; exact hA.1) rfl (by omega) (by omega)
      · rw [gy_dg_out y z, ← gv_51] at R; exact R
      · rw [nI_clamp (by omega), hA.2 k y]; exact R
  exact ⟨4, L 4 0 (by omega) (by omega) (fun x hx => absurd hx (by omega))⟩
theorem gv_earlier {i j a b : Nat} {fn fd : Int32} (hA : gy_at li le i a) (hB : gy_at li le j b) (ha : gt_ok a) (hb : gt_ok b) (hi : i < 60) (hj : j < 60) {post : Int32 → Prop} (h1 : a < b → post 1) (h0 : ¬ a < b → post 0) : wpY_earlier post (fn, fd, li, le, va, po) (nI i) (nI j) := by
  have la := gt_ok_lt ha
  have lb := gt_ok_lt hb
  have ba := gy_len_b a
  have bb := gy_len_b b
  have L : ∀ f k, k ≤ 3 → 3 - k < f → (∀ x, x < k → gy_dg a x = gy_dg b x) → wY_earlier_2 post (nI i) (nI j) fn fd li le va po f (nI k) := by
    intro f
    induction f with
    | zero => intro k _ h2; omega
    | succ f ih =>
      intro k k1 k2 hx
      unfold wY_earlier_2
      rw [gv_ix i k]
      refine pk_le 3 k (fun z => h0 (fun t => ?_)) (fun z => ⟨vp_in_nI (by omega) (by omega), ?_⟩)
      · have := gy_all la lb (fun x hx' => hx x (by omega))
        omega
      have b1 := gy_dg_b ha (k := k) (by omega)
      have b2 := gy_dg_b hb (k := k) (by omega)
      have S : wY_earlier_59 post (wY_earlier_2 post (nI i) (nI j) fn fd li le va po f) (nI i) (nI j) (nI k) (nI (gy_dg a k) - 51) (nI (gy_dg b k) - 51) fn fd li le va po := by
        unfold wY_earlier_59
        rw [gx_eq (by omega) (by omega), gx_le (by omega) (by omega)]
        refine br_c (fun y => nm_r (nI_1 k) (ih (k + 1) (by omega) (by omega) (fun x hx' => ?_))) (fun y => br_c (fun w => h0 ?_) (fun w => h1 (gy_lex la lb z hx (by omega))))
        · by_cases t : x = k
          · rw [t]; exact y
          · exact hx x (by omega)
        · have := gy_lex lb la z (fun x hx' => (hx x hx').symm) (by omega)
          omega
      have R : wY_earlier_32 post (wY_earlier_2 post (nI i) (nI j) fn fd li le va po f) (nI i) (nI j) (nI k) (nI (gy_dg a k) - 51) fn fd li le va po := by
        unfold wY_earlier_32
        rw [gv_ix j k]
        refine ⟨vp_in_nI (by omega) (by omega), pk_le (gy_len b) k (fun y => ?_) (fun y => ⟨vp_in_nI (by omega) (by omega), ?_⟩) (by rw [nI_clamp (by omega)]; exact hB.1) rfl (by omega) (by omega)⟩
        · rw [gy_dg_out y z, ← gv_51] at S; exact S
        · rw [nI_clamp (by omega), hB.2 k y]; exact S
      refine pk_le (gy_len a) k (fun y => ?_) (fun y => ⟨vp_in_nI (by omega) (by omega), ?_⟩) (by rw [nI_clamp (by omega)]; exact hA.1) rfl (by omega) (by omega)
      · rw [gy_dg_out y z, ← gv_51] at R; exact R
      · rw [nI_clamp (by omega), hA.2 k y]; exact R
  exact ⟨4, L 4 0 (by omega) (by omega) (fun x hx => absurd hx (by omega))⟩
theorem gv_query (H : gy_Y M n li le va Q) (hp : gx_pt d p) (hq : gy_p po d p) {post : Int32 → Prop} (h1 : ∀ j, j < n → p < Q j → (∀ x, x < n → p < Q x → Q j ≤ Q x) → post (va j)) (h0 : (∀ x, x < n → ¬ p < Q x) → post 0) : wpY_query post (nI n, nI d, li, le, va, po) := by
  have hn := H.1
  have L : ∀ f i (b : Int32), i ≤ n → n - i < f → ((b = -1 ∧ ∀ x, x < i → ¬ p < Q x) ∨ (∃ j, j < i ∧ b = nI j ∧ p < Q j ∧ ∀ x, x < i → p < Q x → Q j ≤ Q x)) → wY_query_4 post (nI n) (nI d) li le va po f b (nI i) := by
    intro f
    induction f with
    | zero => intro i b _ h2; omega
    | succ f ih =>
      intro i b i1 i2 hb
      unfold wY_query_4
      refine pk_le n i (fun z => ?_) (fun z => ?_)
      · rcases hb with ⟨rfl, a⟩ | ⟨j, a1, rfl, a2, a3⟩
        · exact br_f gv_m1 (h0 (fun x hx => a x (by omega)))
        · refine br_t (nI_pos' (by omega)) ⟨vp_in_nI (by omega) (by omega), ?_⟩
          rw [nI_clamp (by omega)]
          exact h1 j (by omega) a2 (fun x hx => a3 x (by omega))
      · have same : ¬ p < Q i → wY_query_4 post (nI n) (nI d) li le va po f b (nI (i + 1)) := fun no => by
          refine ih (i + 1) b (by omega) (by omega) ?_
          rcases hb with ⟨eb, a⟩ | ⟨j, a1, eb, a2, a3⟩
          · refine Or.inl ⟨eb, fun x hx => ?_⟩
            by_cases t : x = i
            · rw [t]; exact no
            · exact a x (by omega)
          · refine Or.inr ⟨j, by omega, eb, a2, fun x hx b1 => ?_⟩
            by_cases t : x = i
            · rw [t] at b1; exact absurd b1 no
            · exact a3 x (by omega) b1
        have hA := H.2.1 i z
        have hok := gy_Q_ok H z
        refine gv_order hp hq hA hok (by omega) (fun y => br_t (by decide) (nm_r (nI_1 i) (same (by omega)))) (fun y => br_t (by decide) (nm_r (nI_1 i) (same (by omega)))) (fun y => br_f (by decide) ?_)
        rcases hb with ⟨eb, a⟩ | ⟨j, a1, eb, a2, a3⟩
        · rw [eb]
          refine br_t (by decide) (nm_r (nI_1 i) (ih (i + 1) _ (by omega) (by omega) (Or.inr ⟨i, by omega, rfl, y, fun x hx b1 => ?_⟩)))
          by_cases t : x = i
          · rw [t]; exact Nat.le_refl _
          · exact absurd b1 (a x (by omega))
        · rw [eb]
          have hj : j < n := by omega
          refine br_f (nI_pos (by omega)) (gv_earlier hA (H.2.1 j hj) hok (gy_Q_ok H hj) (by omega) (by omega) (fun w => br_f gv_1 (nm_r (nI_1 i) (ih (i + 1) _ (by omega) (by omega) (Or.inr ⟨i, by omega, rfl, y, fun x hx b1 => ?_⟩)))) (fun w => br_t rfl (nm_r (nI_1 i) (ih (i + 1) _ (by omega) (by omega) (Or.inr ⟨j, by omega, rfl, a2, fun x hx b1 => ?_⟩)))))
          · by_cases t : x = i
            · rw [t]; exact Nat.le_refl _
            · have := a3 x (by omega) b1
              omega
          · by_cases t : x = i
            · rw [t]; omega
            · exact a3 x (by omega) b1
  exact ⟨n + 1, L (n + 1) 0 (-1) (Nat.zero_le _) (by omega) (Or.inl ⟨rfl, fun x hx => absurd hx (by omega)⟩)⟩
theorem gv_before (H : gy_Y M n li le va Q) (hp : gx_pt d p) (hq : gy_p po d p) {post : Int32 → Prop} (h : post (nI (gt_ct M p))) : wpY_before post (nI n, nI d, li, le, va, po) := by
  have hn := H.1
  have lp := gx_pt_lt hp
  have c1 : gt_cn (fun i => decide (Q i < p)) n = gt_ct M p := by
    have e1 := gy_ct H (fun c => decide (c < p))
    have e2 : gt_cn (fun c => gt_has M c && decide (c < p)) 2097152 = gt_cn (fun c => gt_has M c && decide (c < p)) p := gt_cn_same (by omega) (fun c a b => by
      show (gt_has M c && decide (c < p)) = false
      rw [decide_eq_false (by omega), Bool.and_false])
    have e3 : gt_cn (fun c => gt_has M c && decide (c < p)) p = gt_ct M p := gt_cn_eq (fun c hc => by
      show (gt_has M c && decide (c < p)) = gt_has M c
      rw [decide_eq_true hc, Bool.and_true])
    exact e1.trans (e2.trans e3)
  have L : ∀ f i, i ≤ n → n - i < f → wY_before_4 post (nI n) (nI d) li le va po f (nI (gt_cn (fun i => decide (Q i < p)) i)) (nI i) := by
    intro f
    induction f with
    | zero => intro i _ h2; omega
    | succ f ih =>
      intro i i1 i2
      unfold wY_before_4
      refine pk_le n i (fun z => ?_) (fun z => ?_)
      · have e : i = n := by omega
        rw [e, c1]; exact h
      · have I := ih (i + 1) (by omega) (by omega)
        have no : ¬ Q i < p → wY_before_4 post (nI n) (nI d) li le va po f (nI (gt_cn (fun i => decide (Q i < p)) i)) (nI (i + 1)) := fun y => by
          rw [gt_cn_f (f := fun i => decide (Q i < p)) (decide_eq_false y)] at I
          exact I
        refine gv_order hp hq (H.2.1 i z) (gy_Q_ok H z) (by omega) (fun y => br_f gv_m1 (nm_r (nI_1 _) (nm_r (nI_1 i) ?_))) (fun y => br_t (by decide) (nm_r (nI_1 i) (no (by omega)))) (fun y => br_t (by decide) (nm_r (nI_1 i) (no (by omega))))
        rw [gt_cn_t (f := fun i => decide (Q i < p)) (decide_eq_true y)] at I
        exact I
  exact ⟨n + 1, L (n + 1) 0 (Nat.zero_le _) (by omega)⟩
end
end
section
/-! digits and ranges, for the looks and the pointer -/
theorem gz_dgsp {c d : Nat} (hc : c < 2097152) (hd : d < 3) : c / gx_sp (d + 1) % 128 = gy_dg c d := by
  refine gy_3 (P := fun d => c / gx_sp (d + 1) % 128 = gy_dg c d) hd ?_ ?_ ?_
  · rw [gx_sp1, gy_dg0]; omega
  · rw [gx_sp2, gy_dg1]
  · rw [gx_sp3, gy_dg2]; omega
theorem gz_par {c p d : Nat} (h : gx_pt (d + 1) p) : (p / gx_sp d * gx_sp d ≤ c ∧ c < p / gx_sp d * gx_sp d + gx_sp d) ↔ c / gx_sp d = p / gx_sp d := by
  have hd := gx_pt_d h
  have : d = 0 ∨ d = 1 ∨ d = 2 := by omega
  rcases this with e | e | e <;> subst e
  · rw [gx_sp0]; unfold gx_pt at h; omega
  · rw [gx_sp1]; unfold gx_pt at h; omega
  · rw [gx_sp2]; unfold gx_pt at h; omega
theorem gz_nx {c p d : Nat} (h : gx_pt (d + 1) p) (e : c / gx_sp d = p / gx_sp d) : p + gx_sp (d + 1) ≤ c ↔ gy_dg p d < gy_dg c d := by
  have hd := gx_pt_d h
  have : d = 0 ∨ d = 1 ∨ d = 2 := by omega
  rcases this with z | z | z <;> subst z
  · rw [gx_sp0] at e; rw [gx_sp1, gy_dg0, gy_dg0]; unfold gx_pt at h; omega
  · rw [gx_sp1] at e; rw [gx_sp2, gy_dg1, gy_dg1]; unfold gx_pt at h; omega
  · rw [gx_sp2] at e; rw [gx_sp3, gy_dg2, gy_dg2]; unfold gx_pt at h; omega
theorem gz_pv {c p d : Nat} (h : gx_pt (d + 1) p) (e : c / gx_sp d = p / gx_sp d) : c < p ↔ gy_dg c d < gy_dg p d := by
  have hd := gx_pt_d h
  have : d = 0 ∨ d = 1 ∨ d = 2 := by omega
  rcases this with z | z | z <;> subst z
  · rw [gx_sp0] at e; rw [gy_dg0, gy_dg0]; unfold gx_pt at h; omega
  · rw [gx_sp1] at e; rw [gy_dg1, gy_dg1]; unfold gx_pt at h; omega
  · rw [gx_sp2] at e; rw [gy_dg2, gy_dg2]; unfold gx_pt at h; omega
theorem gz_mo {a b d : Nat} (ha : a < 2097152) (hb : b < 2097152) (hd : d < 3) (e : a / gx_sp d = b / gx_sp d) (h : a ≤ b) : gy_dg a d ≤ gy_dg b d := by
  have : d = 0 ∨ d = 1 ∨ d = 2 := by omega
  rcases this with z | z | z <;> subst z
  · rw [gy_dg0, gy_dg0]; omega
  · rw [gx_sp1] at e; rw [gy_dg1, gy_dg1]; omega
  · rw [gx_sp2] at e; rw [gy_dg2, gy_dg2]; omega
theorem gz_pP {c p d : Nat} (h : gx_pt (d + 1) p) (hk : gt_ok c) (e : c / gx_sp d = p / gx_sp d) (hl : d < gy_len c) : p / gx_sp d * gx_sp d < c := by
  have hd := gx_pt_d h
  have a := gy_len_c c
  have : d = 0 ∨ d = 1 ∨ d = 2 := by omega
  rcases this with z | z | z <;> subst z
  · rw [gx_sp0] at e ⊢; unfold gx_pt at h; unfold gt_ok at hk; omega
  · rw [gx_sp1] at e ⊢; unfold gx_pt at h; unfold gt_ok at hk; omega
  · rw [gx_sp2] at e ⊢; unfold gx_pt at h; unfold gt_ok at hk; omega
theorem gz_Pl {c p d : Nat} (h : gx_pt (d + 1) p) (hk : gt_ok c) (e : c / gx_sp d = p / gx_sp d) (hl : p / gx_sp d * gx_sp d < c) : d < gy_len c := by
  have hd := gx_pt_d h
  have a := gy_len_c c
  have : d = 0 ∨ d = 1 ∨ d = 2 := by omega
  rcases this with z | z | z <;> subst z
  · rw [gx_sp0] at e hl; unfold gx_pt at h; unfold gt_ok at hk; omega
  · rw [gx_sp1] at e hl; unfold gx_pt at h; unfold gt_ok at hk; omega
  · rw [gx_sp2] at e hl; unfold gx_pt at h; unfold gt_ok at hk; omega
theorem gz_dnk {d p t k : Nat} (h : gx_pt d p) (hd : d < 3) (h1 : 1 ≤ t) (h2 : t ≤ 101) (hk : k < d + 1) : gy_dg (p + t * gx_sp (d + 1)) k = if k = d then t else gy_dg p k := by
  have : d = 0 ∨ d = 1 ∨ d = 2 := by omega
  rcases this with z | z | z <;> subst z
  · have : k = 0 := by omega
    subst this
    rw [gx_sp1, gy_dg0, if_pos rfl]; unfold gx_pt at h; omega
  · have : k = 0 ∨ k = 1 := by omega
    rcases this with z | z <;> subst z
    · rw [gx_sp2, gy_dg0, if_neg (by decide), gy_dg0]; unfold gx_pt at h; omega
    · rw [gx_sp2, gy_dg1, if_pos rfl]; unfold gx_pt at h; omega
  · have : k = 0 ∨ k = 1 ∨ k = 2 := by omega
    rcases this with z | z | z <;> subst z
    · rw [gx_sp3, gy_dg0, if_neg (by decide), gy_dg0]; unfold gx_pt at h; omega
    · rw [gx_sp3, gy_dg1, if_neg (by decide), gy_dg1]; unfold gx_pt at h; omega
    · rw [gx_sp3, gy_dg2, if_pos rfl]; unfold gx_pt at h; omega
theorem gz_upk {d p k : Nat} (h : gx_pt (d + 1) p) (hk : k < d) : gy_dg (p / gx_sp d * gx_sp d) k = gy_dg p k := by
  have hd := gx_pt_d h
  have : d = 1 ∨ d = 2 := by omega
  rcases this with z | z <;> subst z
  · have : k = 0 := by omega
    subst this
    rw [gx_sp1, gy_dg0, gy_dg0]; omega
  · have : k = 0 ∨ k = 1 := by omega
    rcases this with z | z <;> subst z
    · rw [gx_sp2, gy_dg0, gy_dg0]; omega
    · rw [gx_sp2, gy_dg1, gy_dg1]; omega
theorem gz_sbk {d p t k : Nat} (h : gx_pt (d + 1) p) (h1 : 1 ≤ t) (h2 : t ≤ 101) (hk : k < d + 1) : gy_dg (gx_sb (d + 1) p t) k = if k = d then t else gy_dg p k := by
  have hd := gx_pt_d h
  have hs : 0 < gx_sp (d + 1) := Nat.two_pow_pos _
  have := gy_sb_dg (c := p) h h1 h2 (gx_pt_ok h) (Nat.le_refl _) (by omega) (show k < 3 by omega)
  rw [show p + gx_sb (d + 1) p t - p = gx_sb (d + 1) p t by omega] at this
  exact this
section
variable {M : Nat → Option Int32} {n : Nat} {pl vl : Nat → Int32} {K : Nat → Nat}
theorem gz_lst (H : gt_X M n pl vl K) {e c : Nat} {v : Int32} (h : M c = some v) (he : e ≤ c) : gt_ct M e < n ∧ K (gt_ct M e) ≤ c := by
  obtain ⟨i, hi, ei⟩ := H.2.2.2.2.1 c v h
  have r := (gt_rk H e).2 i hi
  by_cases z : gt_ct M e = i
  · rw [z, ei]; exact ⟨hi, Nat.le_refl _⟩
  · have := H.2.2.2.1 (gt_ct M e) i (by omega) hi
    exact ⟨by omega, by omega⟩
theorem gz_lst2 (H : gt_X M n pl vl K) {e : Nat} (h : gt_ct M e < n) : e ≤ K (gt_ct M e) := by
  have r := (gt_rk H e).2 _ h
  omega
theorem gz_gst (H : gt_X M n pl vl K) {e c : Nat} {v : Int32} (h : M c = some v) (he : c < e) : 0 < gt_ct M e ∧ c ≤ K (gt_ct M e - 1) := by
  obtain ⟨i, hi, ei⟩ := H.2.2.2.2.1 c v h
  have r := (gt_rk H e).2 i hi
  have r1 := (gt_rk H e).1
  by_cases z : gt_ct M e - 1 = i
  · rw [z, ei]; exact ⟨by omega, Nat.le_refl _⟩
  · have := H.2.2.2.1 i (gt_ct M e - 1) (by omega) (by omega)
    exact ⟨by omega, by omega⟩
theorem gz_gst2 (H : gt_X M n pl vl K) {e : Nat} (h : 0 < gt_ct M e) : gt_ct M e - 1 < n ∧ K (gt_ct M e - 1) < e := by
  have r1 := (gt_rk H e).1
  have r := (gt_rk H e).2 (gt_ct M e - 1) (by omega)
  exact ⟨by omega, by omega⟩
end
theorem gz_w1 (a b : Nat) (ha : a ≤ 101) (hb : b ≤ 101) : ((nI a - 51) - (nI b - 51)) * 1 ≤ 0 ↔ ¬ b < a := by
  have e : ((nI a - 51) - (nI b - 51)) * 1 = nI a - nI b := by grind
  rw [e, Int32.le_iff_toInt_le, pk_sub_toInt (by omega) (by omega), show (0 : Int32).toInt = 0 by decide]
  omega
theorem gz_w2 (a b : Nat) (ha : a ≤ 101) (hb : b ≤ 101) : ((nI a - 51) - (nI b - 51)) * (-1) ≤ 0 ↔ ¬ a < b := by
  have e : ((nI a - 51) - (nI b - 51)) * (-1) = nI b - nI a := by grind
  rw [e, Int32.le_iff_toInt_le, pk_sub_toInt (by omega) (by omega), show (0 : Int32).toInt = 0 by decide]
  omega
end
section
/-- both states hold one map M from places to values, and one pointer: X by rising place, Y in any order -/
def i_Rel (_k : Nat) (u : SX) (v : SY) : Prop := ∃ (M : Nat → Option Int32) (n p d : Nat) (pl vl li le va po : Nat → Int32) (K Q : Nat → Nat), u = (nI n, nI p, nI d, pl, vl) ∧ v = (nI n, nI d, li, le, va, po) ∧ gt_X M n pl vl K ∧ gy_Y M n li le va Q ∧ gx_pt d p ∧ gy_p po d p
theorem i_up {k : Nat} {u : SX} {v : SY} (h : i_Rel k u v) : i_Rel (k + 2) u v := h
theorem gr_mk {M : Nat → Option Int32} {n p d : Nat} {pl vl li le va po : Nat → Int32} {K Q : Nat → Nat} (k : Nat) (HX : gt_X M n pl vl K) (HY : gy_Y M n li le va Q) (hp : gx_pt d p) (hq : gy_p po d p) : i_Rel k (nI n, nI p, nI d, pl, vl) (nI n, nI d, li, le, va, po) := ⟨M, n, p, d, pl, vl, li, le, va, po, K, Q, rfl, rfl, HX, HY, hp, hq⟩
/-- the same with two counts of one map -/
theorem gr_mk2 {M : Nat → Option Int32} {n m p d : Nat} {pl vl li le va po : Nat → Int32} {K Q : Nat → Nat} (k : Nat) (HX : gt_X M n pl vl K) (HY : gy_Y M m li le va Q) (hp : gx_pt d p) (hq : gy_p po d p) : i_Rel k (nI n, nI p, nI d, pl, vl) (nI m, nI d, li, le, va, po) := by
  have e1 := gt_rkN HX (Nat.le_refl 2097152)
  have e2 := gy_ctN HY
  have e : m = n := by omega
  subst e
  exact gr_mk k HX HY hp hq
theorem i_vc0 : wpX_init (fun u => wpY_init (fun v => i_Rel 0 u v)) := by
  refine ⟨fun _ => none, 0, 0, 0, fun _ => 0, fun _ => 0, fun _ => 0, fun _ => 0, fun _ => 0, fun _ => 0, fun _ => 0, fun _ => 0, rfl, rfl, ?_, ?_, Or.inl ⟨rfl, rfl⟩, fun k hk => absurd hk (by omega)⟩
  · exact ⟨by omega, fun i hi => absurd hi (by omega), fun i hi => absurd hi (by omega), fun i j _ hj => absurd hj (by omega), fun c v h => (by simp at h), fun c v h => (by simp at h)⟩
  · exact ⟨by omega, fun i hi => absurd hi (by omega), fun i hi => absurd hi (by omega), fun i j _ hj => absurd hj (by omega), fun c v h => (by simp at h), fun c v h => (by simp at h)⟩
theorem i_vc_down {k : Nat} {u : SX} {v : SY} (I : i_Rel k u v) (hk : k + 2 ≤ 1024) (v1 : Int32) : wpX_down (fun r u' => wpY_down (fun r' v' => r' = r ∧ i_Rel (k + 2) u' v') v v1) u v1 := by
  obtain ⟨M, n, p, d, pl, vl, li, le, va, po, K, Q, rfl, rfl, HX, HY, hp, hq⟩ := I
  have hd := gx_pt_d hp
  unfold wpX_down wpY_down
  dsimp only
  refine gw_is (fun hno => br_t rfl (gv_is (fun _ => br_t rfl ⟨rfl, gr_mk _ HX HY hp hq⟩) (fun w => absurd w hno))) (fun t t1 t2 e => br_f gv_1 ?_)
  subst e
  refine pk_eq d 3 (fun z => gv_is (fun w => absurd ⟨gx_m50 t1 t2, gx_p50 t2⟩ w) (fun _ => br_f gv_1 (br_t (by rw [z]; rfl) ⟨rfl, gr_mk _ HX HY hp hq⟩))) (fun z => nm_r (nI_1 d) (gw_sp (by omega) (nm_r (e' := nI (p + t * gx_sp (d + 1))) (by rw [gx_back, pk_mul, nI_add]) (gv_is (fun w => absurd ⟨gx_m50 t1 t2, gx_p50 t2⟩ w) (fun _ => br_f gv_1 (pk_eq d 3 (fun y => absurd y z) (fun _ => ⟨vp_in_nI (by omega) (by omega), nm_e (nm_r (nI_1 d) ⟨rfl, ?_⟩)⟩)))))))
  rw [nI_clamp (by omega)]
  refine gr_mk _ HX HY (gx_pt_dn hp (by omega) t1 t2) (fun x hx => ?_)
  rw [gz_dnk hp (by omega) t1 t2 hx]
  by_cases y : x = d
  · rw [y, pk_us, if_pos rfl]
  · rw [pk_un y, if_neg y]; exact hq x (by omega)
theorem i_vc_up {k : Nat} {u : SX} {v : SY} (I : i_Rel k u v) (hk : k + 2 ≤ 1024) : wpX_up (fun r u' => wpY_up (fun r' v' => r' = r ∧ i_Rel (k + 2) u' v') v) u := by
  obtain ⟨M, n, p, d, pl, vl, li, le, va, po, K, Q, rfl, rfl, HX, HY, hp, hq⟩ := I
  have hd := gx_pt_d hp
  have lp := gx_pt_lt hp
  unfold wpX_up wpY_up
  dsimp only
  cases d with
  | zero => exact br_t rfl (br_t rfl ⟨rfl, gr_mk _ HX HY hp hq⟩)
  | succ d =>
    refine br_f (nI_ne0 (by omega) (by omega)) (gw_par (by omega) (by omega) (nm_r (nI_pred d) (br_f (nI_ne0 (by omega) (by omega)) (nm_r (nI_pred d) ⟨rfl, gr_mk _ HX HY (gx_pt_up hp) (fun x hx => ?_)⟩))))
    rw [gz_upk hp hx]; exact hq x (by omega)
theorem i_vc_turn {k : Nat} {u : SX} {v : SY} (I : i_Rel k u v) (hk : k + 2 ≤ 1024) (v1 : Int32) : wpX_turn (fun r u' => wpY_turn (fun r' v' => r' = r ∧ i_Rel (k + 2) u' v') v v1) u v1 := by
  obtain ⟨M, n, p, d, pl, vl, li, le, va, po, K, Q, rfl, rfl, HX, HY, hp, hq⟩ := I
  have hd := gx_pt_d hp
  have lp := gx_pt_lt hp
  unfold wpX_turn wpY_turn
  dsimp only
  cases d with
  | zero => exact br_t rfl (br_t rfl ⟨rfl, gr_mk _ HX HY hp hq⟩)
  | succ d =>
    have hs : 0 < gx_sp (d + 1) := Nat.two_pow_pos _
    have hg := gx_pt_g hp
    have e0 : nI (d + 1) = 0 ↔ False := ⟨fun z => nI_ne0 (by omega) (by omega) z, False.elim⟩
    refine br_f (nI_ne0 (by omega) (by omega)) (gw_is (fun hno => br_t rfl (br_f (nI_ne0 (by omega) (by omega)) (gv_is (fun _ => br_t rfl ⟨rfl, gr_mk _ HX HY hp hq⟩) (fun w => absurd w hno)))) (fun t t1 t2 e => br_f gv_1 ?_))
    subst e
    rw [nI_pred]
    refine gw_sa (by omega) hd (gw_ds (by omega) hd (nm_r (e' := nI (gx_sb (d + 1) p t)) (gx_move (by omega)) (br_f (nI_ne0 (by omega) (by omega)) (gv_is (fun w => absurd ⟨gx_m50 t1 t2, gx_p50 t2⟩ w) (fun _ => br_f gv_1 ⟨vp_in_nI (by omega) (by omega), nm_e ⟨vp_in_nI (by omega) (by omega), nm_e ⟨?_, ?_⟩⟩⟩)))))
    · rw [nI_clamp (by omega), hq d (by omega), gz_dgsp (by omega) (by omega)]
    · rw [nI_clamp (by omega)]
      refine gr_mk _ HX HY (gx_sb_pt hp t1 t2) (fun x hx => ?_)
      rw [gz_sbk hp t1 t2 hx]
      by_cases y : x = d
      · rw [y, pk_us, if_pos rfl]
      · rw [pk_un y, if_neg y]; exact hq x hx
theorem gr_set0 {n : Nat} {li le va po : Nat → Int32} {w : Int32} {post : Int32 → SY → Prop} (h : post (-3) (nI n, nI 0, li, le, va, po)) : wpY_set post (nI n, nI 0, li, le, va, po) w := by
  unfold wpY_set
  dsimp only
  exact br_t rfl h
theorem i_vc_set {k : Nat} {u : SX} {v : SY} (I : i_Rel k u v) (hk : k + 2 ≤ 1024) (v1 : Int32) : wpX_set (fun r u' => wpY_set (fun r' v' => r' = r ∧ i_Rel (k + 2) u' v') v v1) u v1 := by
  obtain ⟨M, n, p, d, pl, vl, li, le, va, po, K, Q, rfl, rfl, HX, HY, hp, hq⟩ := I
  have hd := gx_pt_d hp
  have lp := gx_pt_lt hp
  unfold wpX_set
  dsimp only
  cases d with
  | zero => exact br_t rfl (gr_set0 ⟨rfl, gr_mk _ HX HY hp hq⟩)
  | succ d =>
    refine br_f (nI_ne0 (by omega) (by omega)) (gw_store HX p (gx_pt_ok hp) v1 (fun w hw vl' H' => ?_) (fun hN h60 => ?_) (fun hN h60 pl' vl' K' H' => ?_))
    · exact gv_set HY hp hq v1 (fun w' _ va' Y' => ⟨rfl, gr_mk _ H' Y' hp hq⟩) (fun hN => absurd (hw.symm.trans hN) (by simp)) (fun hN => absurd (hw.symm.trans hN) (by simp))
    · exact gv_set HY hp hq v1 (fun w' hw => absurd (hw.symm.trans hN) (by simp)) (fun _ _ => ⟨rfl, gr_mk _ HX HY hp hq⟩) (fun _ h => absurd h60 (by omega))
    · exact gv_set HY hp hq v1 (fun w' hw => absurd (hw.symm.trans hN) (by simp)) (fun _ h => absurd h60 (by omega)) (fun _ _ li' le' va' Q' Y' => ⟨rfl, gr_mk _ H' Y' hp hq⟩)
theorem i_vc_increment {k : Nat} {u : SX} {v : SY} (I : i_Rel k u v) (hk : k + 2 ≤ 1024) (v1 : Int32) : wpX_increment (fun r u' => wpY_increment (fun r' v' => r' = r ∧ i_Rel (k + 2) u' v') v v1) u v1 := by
  obtain ⟨M, n, p, d, pl, vl, li, le, va, po, K, Q, rfl, rfl, HX, HY, hp, hq⟩ := I
  have hd := gx_pt_d hp
  have lp := gx_pt_lt hp
  unfold wpX_increment wpY_increment
  dsimp only
  cases d with
  | zero => exact br_t rfl (gv_value HY hp hq (nm_e (gr_set0 (br_f (by decide) ⟨rfl, gr_mk _ HX HY hp hq⟩))))
  | succ d =>
    have hs : 0 < gx_sp (d + 1) := Nat.two_pow_pos _
    refine br_f (nI_ne0 (by omega) (by omega)) (gw_va HX p (by omega) (nm_e (gw_store HX p (gx_pt_ok hp) _ (fun w hw vl' H' => br_f (by decide) ?_) (fun hN h60 => br_t rfl ?_) (fun hN h60 pl' vl' K' H' => br_f (by decide) ?_))))
    · exact gv_value HY hp hq (nm_e (gv_set HY hp hq _ (fun w' _ va' Y' => br_t (by decide) ⟨rfl, gr_mk _ H' Y' hp hq⟩) (fun hN => absurd (hw.symm.trans hN) (by simp)) (fun hN => absurd (hw.symm.trans hN) (by simp))))
    · exact gv_value HY hp hq (nm_e (gv_set HY hp hq _ (fun w' hw => absurd (hw.symm.trans hN) (by simp)) (fun _ _ => br_f (by decide) ⟨rfl, gr_mk _ HX HY hp hq⟩) (fun _ h => absurd h60 (by omega))))
    · exact gv_value HY hp hq (nm_e (gv_set HY hp hq _ (fun w' hw => absurd (hw.symm.trans hN) (by simp)) (fun _ h => absurd h60 (by omega)) (fun _ _ li' le' va' Q' Y' => br_t (by decide) ⟨rfl, gr_mk _ H' Y' hp hq⟩)))
theorem i_vc_kill {k : Nat} {u : SX} {v : SY} (I : i_Rel k u v) (hk : k + 2 ≤ 1024) : wpX_kill (fun r u' => wpY_kill (fun r' v' => r' = r ∧ i_Rel (k + 2) u' v') v) u := by
  obtain ⟨M, n, p, d, pl, vl, li, le, va, po, K, Q, rfl, rfl, HX, HY, hp, hq⟩ := I
  have hd := gx_pt_d hp
  have lp := gx_pt_lt hp
  have hn := HX.1
  have m1 : gt_ct M p ≤ gt_ct M (p + gx_sp d) := gt_cn_mono _ (by omega)
  have m2 := gt_ct_le HX (p + gx_sp d)
  unfold wpX_kill
  dsimp only
  refine gw_cb HX p (by omega) (gw_cw HX p d (by omega) hd ⟨n + 1, gw_kill (gt_ct M p) (gt_ct M (p + gx_sp d) - gt_ct M p) hn (by omega) (fun pl' vl' a b => ?_) (n + 1) (gt_ct M p) pl vl (Nat.le_refl _) (by omega) (by omega) (fun i hi => (gt_del_l hi).symm) (fun i hi => (gt_del_l hi).symm) (fun _ _ => rfl) (fun _ _ => rfl)⟩)
  have H' := gt_X_cut HX (Nat.le_add_right p (gx_sp d)) rfl rfl a b
  refine gv_kill HY hp hq (fun l la ea ua Q' hl Y' => ⟨?_, gr_mk2 _ H' Y' hp hq⟩)
  have e1 := gt_rkN H' (Nat.le_refl 2097152)
  have e2 := gy_ctN Y'
  exact congrArg nI (by omega)
theorem i_vc_merge {k : Nat} {u : SX} {v : SY} (I : i_Rel k u v) (hk : k + 2 ≤ 1024) (v1 : Int32) : wpX_merge (fun r u' => wpY_merge (fun r' v' => r' = r ∧ i_Rel (k + 2) u' v') v v1) u v1 := by
  obtain ⟨M, n, p, d, pl, vl, li, le, va, po, K, Q, rfl, rfl, HX, HY, hp, hq⟩ := I
  have hd := gx_pt_d hp
  have lp := gx_pt_lt hp
  have hn := HX.1
  unfold wpX_merge
  dsimp only
  cases d with
  | zero =>
    refine br_t rfl ?_
    unfold wpY_merge
    dsimp only
    exact br_t rfl ⟨rfl, gr_mk _ HX HY hp hq⟩
  | succ d =>
    have hs : 0 < gx_sp (d + 1) := Nat.two_pow_pos _
    have hg := gx_pt_g hp
    refine br_f (nI_ne0 (by omega) (by omega)) (gw_is (fun hno => br_t rfl ?_) (fun t t1 t2 e => br_f gv_1 ?_))
    · unfold wpY_merge
      dsimp only
      exact br_f (nI_ne0 (by omega) (by omega)) (gv_is (fun _ => br_t rfl ⟨rfl, gr_mk _ HX HY hp hq⟩) (fun w => absurd w hno))
    · subst e
      have l2 := gx_pt_lt (gx_sb_pt hp t1 t2)
      have hD : ∀ c, p ≤ c → nI c + (nI t - 51 - (nI (p / gx_sp (d + 1) % 128) - 51)) * nI (gx_sp (d + 1)) = nI (c + gx_sb (d + 1) p t - p) := fun c hc => by
        rw [gx_move (by omega), gx_sb_mv hp hc]
      have hms := gt_ms_le M p (gx_sb (d + 1) p t) (gx_sp (d + 1))
      have m2 := gt_ct_le HX (p + gx_sp (d + 1))
      refine gw_ds (by omega) hd (gw_cw HX p (d + 1) (by omega) hd (gw_miss HX hp t1 t2 hD ?_))
      rw [nI_add]
      refine pk_le _ 60 (fun z => ?_) (fun z => gv_merge HY hp hq t1 t2 (fun _ => ⟨rfl, gr_mk _ HX HY hp hq⟩) (fun w => absurd w (by omega))) rfl rfl (by omega) (by omega)
      refine ⟨gt_ct M (p + gx_sp (d + 1)) - gt_ct M p + 1, gw_cr HX hD (gx_sb_dj hp t1 t2) l2 lp (fun c h1 h2 h3 => gx_sb_ok hp t1 t2 h1 h2 h3) z (fun n' pl' vl' K' H' => gv_merge HY hp hq t1 t2 (fun w => absurd z w) (fun _ n2 li' le' va' Q' Y' => ⟨rfl, gr_mk2 _ H' Y' hp hq⟩)) _ 0 p n pl vl K ?_ (Nat.le_refl _) (by omega) rfl (Nat.zero_le _) (by omega)⟩
      rw [gt_mg_0]; exact HX
end
section
theorem i_vc_data {k : Nat} {u : SX} {v : SY} (I : i_Rel k u v) (hk : k + 2 ≤ 1024) : wpX_data (fun r => wpY_data (fun r' => r' = r ∧ i_Rel (k + 2) u v) v) u := by
  have R := i_up I
  obtain ⟨M, n, p, d, pl, vl, li, le, va, po, K, Q, rfl, rfl, HX, HY, hp, hq⟩ := I
  have hd := gx_pt_d hp
  have lp := gx_pt_lt hp
  have hs : 0 < gx_sp d := Nat.two_pow_pos _
  have hn := HX.1
  have m2 := gt_ct_le HX (p + gx_sp d)
  have m3 : gt_ct M (p + 1) ≤ gt_ct M (p + gx_sp d) := gt_cn_mono _ (by omega)
  have ex : (∃ c, gt_has M c = true ∧ p < c ∧ c < p + gx_sp d) ↔ gt_ct M (p + 1) < gt_ct M (p + gx_sp d) := by
    constructor
    · rintro ⟨c, a0, a1, a2⟩
      have e1 : gt_ct M (p + 1) ≤ gt_ct M c := gt_cn_mono _ a1
      have e2 : gt_ct M c < gt_ct M (p + gx_sp d) := gt_cn_lt a2 a0
      omega
    · intro z
      obtain ⟨c, a1, a2, a3, _⟩ := gt_cn_ex z
      exact ⟨c, a3, by omega, a2⟩
  unfold wpX_data
  dsimp only
  refine gw_hv HX p (by omega) (fun hN => br_t rfl ?_) (fun w hS => br_f gv_1 ?_)
  · have e1 : gt_ct M (p + 1) = gt_ct M p := gt_cn_f (gt_has_n hN)
    unfold wX_data_16
    refine gw_cw HX p d (by omega) hd (pk_le (gt_ct M (p + gx_sp d) - gt_ct M p) 0 (fun z => ?_) (fun z => ?_))
    · refine gv_data HY hp hq (fun b hb => ⟨?_, R⟩)
      rw [if_neg (by rw [gt_has_n hN]; decide)]
      cases b with
      | false => rfl
      | true =>
        have := ex.mp (hb.mp rfl)
        omega
    · refine gv_data HY hp hq (fun b hb => ⟨?_, R⟩)
      rw [if_neg (by rw [gt_has_n hN]; decide)]
      cases b with
      | true => rfl
      | false => exact absurd (hb.mpr (ex.mpr (by omega))) (by decide)
  · have e1 : gt_ct M (p + 1) = gt_ct M p + 1 := gt_cn_t (gt_has_s hS)
    unfold wX_data_16
    refine gw_cw HX p d (by omega) hd (pk_le (gt_ct M (p + gx_sp d) - gt_ct M p) 1 (fun z => ?_) (fun z => ?_))
    · refine gv_data HY hp hq (fun b hb => ⟨?_, R⟩)
      rw [if_pos (gt_has_s hS)]
      cases b with
      | false => rfl
      | true =>
        have := ex.mp (hb.mp rfl)
        omega
    · refine gv_data HY hp hq (fun b hb => ⟨?_, R⟩)
      rw [if_pos (gt_has_s hS)]
      cases b with
      | true => rfl
      | false => exact absurd (hb.mpr (ex.mpr (by omega))) (by decide)
theorem i_vc_value {k : Nat} {u : SX} {v : SY} (I : i_Rel k u v) (hk : k + 2 ≤ 1024) : wpX_value (fun r => wpY_value (fun r' => r' = r ∧ i_Rel (k + 2) u v) v) u := by
  have R := i_up I
  obtain ⟨M, n, p, d, pl, vl, li, le, va, po, K, Q, rfl, rfl, HX, HY, hp, hq⟩ := I
  have lp := gx_pt_lt hp
  unfold wpX_value
  dsimp only
  exact gw_va HX p (by omega) (gv_value HY hp hq ⟨rfl, R⟩)
theorem i_vc_next {k : Nat} {u : SX} {v : SY} (I : i_Rel k u v) (hk : k + 2 ≤ 1024) : wpX_next (fun r => wpY_next (fun r' => r' = r ∧ i_Rel (k + 2) u v) v) u := by
  have R := i_up I
  obtain ⟨M, n, p, d, pl, vl, li, le, va, po, K, Q, rfl, rfl, HX, HY, hp, hq⟩ := I
  have hd := gx_pt_d hp
  have lp := gx_pt_lt hp
  have hn := HX.1
  unfold wpX_next wpY_next
  dsimp only
  cases d with
  | zero => exact br_t rfl (br_t rfl ⟨rfl, R⟩)
  | succ d =>
    have hs : 0 < gx_sp (d + 1) := Nat.two_pow_pos _
    have lP := gx_pt_lt (gx_pt_up hp)
    have hr := gt_ct_le HX (p + gx_sp (d + 1))
    have bp := gy_pd_b hp (k := d) (by omega)
    rw [nI_pred]
    refine br_f (nI_ne0 (by omega) (by omega)) (gw_par (by omega) (by omega) (gw_sp hd (nm_r (nI_add _ _) (gw_cb HX (p + gx_sp (d + 1)) (by omega) (gw_ch HX (gt_ct M (p + gx_sp (d + 1))) _ d (by omega) (by omega) lP (fun z1 z2 z3 => br_f (nI_ne0 (by omega) (by omega)) ⟨vp_in_nI (by omega) (by omega), ?_⟩) (fun hno => br_f (nI_ne0 (by omega) (by omega)) ⟨vp_in_nI (by omega) (by omega), ?_⟩))))))
    · rw [nI_clamp (by omega), hq d (by omega)]
      have hK := gt_K_lt HX z1
      have g2 := gz_lst2 HX z1
      have hM := HX.2.2.1 _ z1
      have okK := HX.2.2.2.2.2 _ _ hM
      have eK : K (gt_ct M (p + gx_sp (d + 1))) / gx_sp d = p / gx_sp d := (gz_par hp).mp ⟨Nat.le_of_lt z2, z3⟩
      have lK := gz_Pl hp okK eK z2
      have wK := (gz_nx hp eK).mp g2
      obtain ⟨x, hx, ex⟩ := HY.2.2.2.2.1 _ _ hM
      refine gv_near HY hp hq (k := d) (Nat.le_succ d) (by omega) bp (W := fun a b => b < a) gz_w1 (fun a b c h1 h2 => by omega) (fun a => Nat.lt_irrefl a) (fun j hj b1 b2 b3 b4 => ⟨?_, R⟩) (fun b => absurd wK ?_)
      · have okj := gy_Q_ok HY hj
        have lj := gt_ok_lt okj
        have g1 := (gz_lst HX (HY.2.2.1 j hj) ((gz_nx hp b1).mpr b3)).2
        have c1 := gz_mo hK lj (by omega) (eK.trans b1.symm) g1
        have c2 := b4 x hx (by rw [ex]; exact eK) (by rw [ex]; exact lK) (by rw [ex]; exact wK)
        rw [ex] at c2
        rw [gz_dgsp hK (by omega)]
        exact congrArg (fun t => nI t - 51) (show gy_dg (Q j) d = gy_dg (K (gt_ct M (p + gx_sp (d + 1)))) d by omega)
      · have := b x hx (by rw [ex]; exact eK) (by rw [ex]; exact lK)
        rw [ex] at this
        exact this
    · rw [nI_clamp (by omega), hq d (by omega)]
      refine gv_near HY hp hq (k := d) (Nat.le_succ d) (by omega) bp (W := fun a b => b < a) gz_w1 (fun a b c h1 h2 => by omega) (fun a => Nat.lt_irrefl a) (fun j hj b1 b2 b3 b4 => absurd ?_ hno) (fun b => ⟨rfl, R⟩)
      have g0 := (gz_nx hp b1).mpr b3
      obtain ⟨g1, g2⟩ := gz_lst HX (HY.2.2.1 j hj) g0
      have g3 := gz_lst2 HX g1
      have g4 := (gz_par hp).mpr b1
      have g5 : p / gx_sp d * gx_sp d ≤ p := Nat.div_mul_le_self _ _
      exact ⟨g1, by omega, by omega⟩
theorem i_vc_previous {k : Nat} {u : SX} {v : SY} (I : i_Rel k u v) (hk : k + 2 ≤ 1024) : wpX_previous (fun r => wpY_previous (fun r' => r' = r ∧ i_Rel (k + 2) u v) v) u := by
  have R := i_up I
  obtain ⟨M, n, p, d, pl, vl, li, le, va, po, K, Q, rfl, rfl, HX, HY, hp, hq⟩ := I
  have hd := gx_pt_d hp
  have lp := gx_pt_lt hp
  have hn := HX.1
  unfold wpX_previous wpY_previous
  dsimp only
  cases d with
  | zero => exact br_t rfl (br_t rfl ⟨rfl, R⟩)
  | succ d =>
    have hs : 0 < gx_sp (d + 1) := Nat.two_pow_pos _
    have lP := gx_pt_lt (gx_pt_up hp)
    have hr := gt_ct_le HX p
    have bp := gy_pd_b hp (k := d) (by omega)
    have g4 : p / gx_sp d * gx_sp d ≤ p ∧ p < p / gx_sp d * gx_sp d + gx_sp d := (gz_par hp).mpr rfl
    rw [nI_pred]
    refine br_f (nI_ne0 (by omega) (by omega)) (gw_par (by omega) (by omega) (gw_cb HX p (by omega) (nm_e ?_)))
    by_cases z0 : gt_ct M p = 0
    · rw [z0]
      refine gw_ch0 (br_f (nI_ne0 (by omega) (by omega)) ⟨vp_in_nI (by omega) (by omega), ?_⟩)
      rw [nI_clamp (by omega), hq d (by omega)]
      refine gv_near HY hp hq (k := d) (Nat.le_succ d) (by omega) bp (W := fun a b => a < b) gz_w2 (fun a b c h1 h2 => by omega) (fun a => Nat.lt_irrefl a) (fun j hj b1 b2 b3 b4 => absurd z0 ?_) (fun b => ⟨rfl, R⟩)
      have := (gz_gst HX (HY.2.2.1 j hj) ((gz_pv hp b1).mpr b3)).1
      omega
    · obtain ⟨q1, q2⟩ := gz_gst2 HX (e := p) (by omega)
      have e1 : nI (gt_ct M p) - 1 = nI (gt_ct M p - 1) := by
        obtain ⟨m, em⟩ : ∃ m, gt_ct M p = m + 1 := ⟨gt_ct M p - 1, by omega⟩
        rw [em, nI_pred]; rfl
      rw [e1]
      refine gw_ch HX (gt_ct M p - 1) _ d (by omega) (by omega) lP (fun z1 z2 z3 => br_f (nI_ne0 (by omega) (by omega)) ⟨vp_in_nI (by omega) (by omega), ?_⟩) (fun hno => br_f (nI_ne0 (by omega) (by omega)) ⟨vp_in_nI (by omega) (by omega), ?_⟩)
      · rw [nI_clamp (by omega), hq d (by omega)]
        have hK := gt_K_lt HX z1
        have hM := HX.2.2.1 _ z1
        have okK := HX.2.2.2.2.2 _ _ hM
        have eK : K (gt_ct M p - 1) / gx_sp d = p / gx_sp d := (gz_par hp).mp ⟨Nat.le_of_lt z2, z3⟩
        have lK := gz_Pl hp okK eK z2
        have wK := (gz_pv hp eK).mp q2
        obtain ⟨x, hx, ex⟩ := HY.2.2.2.2.1 _ _ hM
        refine gv_near HY hp hq (k := d) (Nat.le_succ d) (by omega) bp (W := fun a b => a < b) gz_w2 (fun a b c h1 h2 => by omega) (fun a => Nat.lt_irrefl a) (fun j hj b1 b2 b3 b4 => ⟨?_, R⟩) (fun b => absurd wK ?_)
        · have okj := gy_Q_ok HY hj
          have lj := gt_ok_lt okj
          have g1 := (gz_gst HX (HY.2.2.1 j hj) ((gz_pv hp b1).mpr b3)).2
          have c1 := gz_mo lj hK (by omega) (b1.trans eK.symm) g1
          have c2 := b4 x hx (by rw [ex]; exact eK) (by rw [ex]; exact lK) (by rw [ex]; exact wK)
          rw [ex] at c2
          rw [gz_dgsp hK (by omega)]
          exact congrArg (fun t => nI t - 51) (show gy_dg (Q j) d = gy_dg (K (gt_ct M p - 1)) d by omega)
        · have := b x hx (by rw [ex]; exact eK) (by rw [ex]; exact lK)
          rw [ex] at this
          exact this
      · rw [nI_clamp (by omega), hq d (by omega)]
        refine gv_near HY hp hq (k := d) (Nat.le_succ d) (by omega) bp (W := fun a b => a < b) gz_w2 (fun a b c h1 h2 => by omega) (fun a => Nat.lt_irrefl a) (fun j hj b1 b2 b3 b4 => absurd ?_ hno) (fun b => ⟨rfl, R⟩)
        have g1 := (gz_gst HX (HY.2.2.1 j hj) ((gz_pv hp b1).mpr b3)).2
        have g5 := gz_pP hp (gy_Q_ok HY hj) b1 b2
        exact ⟨q1, by omega, by omega⟩
theorem i_vc_first {k : Nat} {u : SX} {v : SY} (I : i_Rel k u v) (hk : k + 2 ≤ 1024) : wpX_first (fun r => wpY_first (fun r' => r' = r ∧ i_Rel (k + 2) u v) v) u := by
  have R := i_up I
  obtain ⟨M, n, p, d, pl, vl, li, le, va, po, K, Q, rfl, rfl, HX, HY, hp, hq⟩ := I
  have hd := gx_pt_d hp
  have lp := gx_pt_lt hp
  have hs : 0 < gx_sp d := Nat.two_pow_pos _
  have hn := HX.1
  unfold wpX_first wpY_first
  dsimp only
  refine pk_eq d 3 (fun z => br_t (by rw [z]; rfl) ⟨rfl, R⟩) (fun z => ?_)
  have z : d < 3 := by omega
  have hr := gt_ct_le HX (p + 1)
  rw [nI_1, gv_51]
  refine gw_cb HX (p + 1) (by omega) (gw_ch HX (gt_ct M (p + 1)) p d (by omega) z lp (fun z1 z2 z3 => pk_eq d 3 (fun y => absurd y (by omega)) (fun _ => ?_)) (fun hno => pk_eq d 3 (fun y => absurd y (by omega)) (fun _ => ?_)))
  · have hK := gt_K_lt HX z1
    have hM := HX.2.2.1 _ z1
    have okK := HX.2.2.2.2.2 _ _ hM
    have eK : K (gt_ct M (p + 1)) / gx_sp d = p / gx_sp d := (gy_rng hp).mpr ⟨Nat.le_of_lt z2, z3⟩
    have lr := gy_len_rng okK hp (Nat.le_of_lt z2) z3
    have lK : d < gy_len (K (gt_ct M (p + 1))) := by
      by_cases t : gy_len (K (gt_ct M (p + 1))) ≤ d
      · have := lr.mp t
        omega
      · omega
    have wK := gy_dg_in okK lK
    obtain ⟨x, hx, ex⟩ := HY.2.2.2.2.1 _ _ hM
    refine gv_near HY hp hq (k := d) (Nat.le_refl d) z (Nat.zero_le 101) (W := fun a b => b < a) gz_w1 (fun a b c h1 h2 => by omega) (fun a => Nat.lt_irrefl a) (fun j hj b1 b2 b3 b4 => ⟨?_, R⟩) (fun b => absurd wK ?_)
    · have okj := gy_Q_ok HY hj
      have lj := gt_ok_lt okj
      have r1 := (gy_rng hp).mp b1
      have ne : Q j ≠ p := fun t => by
        have := (gy_len_rng okj hp r1.1 r1.2).mpr t
        omega
      have g1 := (gz_lst HX (HY.2.2.1 j hj) (show p + 1 ≤ Q j by omega)).2
      have c1 := gz_mo hK lj z (eK.trans b1.symm) g1
      have c2 := b4 x hx (by rw [ex]; exact eK) (by rw [ex]; exact lK) (by rw [ex]; exact wK)
      rw [ex] at c2
      rw [gz_dgsp hK z]
      exact congrArg (fun t => nI t - 51) (show gy_dg (Q j) d = gy_dg (K (gt_ct M (p + 1))) d by omega)
    · have := b x hx (by rw [ex]; exact eK) (by rw [ex]; exact lK)
      rw [ex] at this
      exact this
  · refine gv_near HY hp hq (k := d) (Nat.le_refl d) z (Nat.zero_le 101) (W := fun a b => b < a) gz_w1 (fun a b c h1 h2 => by omega) (fun a => Nat.lt_irrefl a) (fun j hj b1 b2 b3 b4 => absurd ?_ hno) (fun b => ⟨rfl, R⟩)
    have okj := gy_Q_ok HY hj
    have r1 := (gy_rng hp).mp b1
    have ne : Q j ≠ p := fun t => by
      have := (gy_len_rng okj hp r1.1 r1.2).mpr t
      omega
    obtain ⟨g1, g2⟩ := gz_lst HX (HY.2.2.1 j hj) (show p + 1 ≤ Q j by omega)
    have g3 := gz_lst2 HX g1
    exact ⟨g1, by omega, by omega⟩
end
section
theorem i_vc_query {k : Nat} {u : SX} {v : SY} (I : i_Rel k u v) (hk : k + 2 ≤ 1024) : wpX_query (fun r => wpY_query (fun r' => r' = r ∧ i_Rel (k + 2) u v) v) u := by
  have R := i_up I
  obtain ⟨M, n, p, d, pl, vl, li, le, va, po, K, Q, rfl, rfl, HX, HY, hp, hq⟩ := I
  have lp := gx_pt_lt hp
  have hn := HX.1
  have hr := gt_ct_le HX (p + 1)
  unfold wpX_query
  dsimp only
  rw [nI_1]
  refine gw_cb HX (p + 1) (by omega) (pk_le n (gt_ct M (p + 1)) (fun z => ?_) (fun z => ⟨vp_in_nI (by omega) (by omega), ?_⟩))
  · refine gv_query HY hp hq (fun j hj a b => absurd z ?_) (fun _ => ⟨rfl, R⟩)
    have := (gz_lst HX (HY.2.2.1 j hj) (show p + 1 ≤ Q j from a)).1
    omega
  · rw [nI_clamp (by omega)]
    have hM := HX.2.2.1 _ z
    have g2 := gz_lst2 HX z
    obtain ⟨x, hx, ex⟩ := HY.2.2.2.2.1 _ _ hM
    refine gv_query HY hp hq (fun j hj a b => ⟨?_, R⟩) (fun b => absurd (b x hx) ?_)
    · have g1 := (gz_lst HX (HY.2.2.1 j hj) (show p + 1 ≤ Q j from a)).2
      have g3 := b x hx (by omega)
      have e : Q j = K (gt_ct M (p + 1)) := by omega
      have hj2 := HY.2.2.1 j hj
      rw [e, hM] at hj2
      exact (Option.some.inj hj2).symm
    · omega
theorem i_vc_before {k : Nat} {u : SX} {v : SY} (I : i_Rel k u v) (hk : k + 2 ≤ 1024) : wpX_before (fun r => wpY_before (fun r' => r' = r ∧ i_Rel (k + 2) u v) v) u := by
  have R := i_up I
  obtain ⟨M, n, p, d, pl, vl, li, le, va, po, K, Q, rfl, rfl, HX, HY, hp, hq⟩ := I
  have lp := gx_pt_lt hp
  unfold wpX_before
  dsimp only
  exact gw_cb HX p (by omega) (gv_before HY hp hq ⟨rfl, R⟩)
theorem i_vc_count {k : Nat} {u : SX} {v : SY} (I : i_Rel k u v) (hk : k + 2 ≤ 1024) : wpX_count (fun r => wpY_count (fun r' => r' = r ∧ i_Rel (k + 2) u v) v) u := by
  have R := i_up I
  obtain ⟨M, n, p, d, pl, vl, li, le, va, po, K, Q, rfl, rfl, HX, HY, hp, hq⟩ := I
  exact ⟨rfl, R⟩
end
