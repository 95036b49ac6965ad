/-! X's numbers: bits below a level, spans, digits, parents, siblings -/
def gx_sp (l : Nat) : Nat := 2 ^ ((3 - l) * 7)
theorem gx_sp0 : gx_sp 0 = 2097152 := by decide
theorem gx_sp1 : gx_sp 1 = 16384 := by decide
theorem gx_sp2 : gx_sp 2 = 128 := by decide
theorem gx_sp3 : gx_sp 3 = 1 := by decide
theorem gx_4 {l : Nat} {P : Nat → Prop} (h : l ≤ 3) (h0 : P 0) (h1 : P 1) (h2 : P 2) (h3 : P 3) : P l := by
  have : l = 0 ∨ l = 1 ∨ l = 2 ∨ l = 3 := by omega
  rcases this with e | e | e | e <;> rw [e] <;> assumption
theorem gx_bits {l : Nat} (h : l ≤ 3) : (3 - nI l) * 7 = nI ((3 - l) * 7) :=
  gx_4 (P := fun l => (3 - nI l) * 7 = nI ((3 - l) * 7)) h (by decide +kernel) (by decide +kernel) (by decide +kernel) (by decide +kernel)
theorem gx_cnt {l : Nat} (h : l ≤ 3) : ((nI ((3 - l) * 7) &&& 31).toBitVec.smod 32).toNat = (3 - l) * 7 :=
  gx_4 (P := fun l => ((nI ((3 - l) * 7) &&& 31).toBitVec.smod 32).toNat = (3 - l) * 7) h (by decide +kernel) (by decide +kernel) (by decide +kernel) (by decide +kernel)
theorem gx_span {l : Nat} (h : l ≤ 3) : (1 : Int32) <<< (nI ((3 - l) * 7) &&& 31) = nI (gx_sp l) :=
  gx_4 (P := fun l => (1 : Int32) <<< (nI ((3 - l) * 7) &&& 31) = nI (gx_sp l)) h (by decide +kernel) (by decide +kernel) (by decide +kernel) (by decide +kernel)
theorem gx_127 : (127 : Int32).toBitVec.toNat = 2 ^ 7 - 1 := by decide
theorem gx_dig {c l : Nat} (hc : c < 2 ^ 31) (h : l ≤ 3) : (nI c >>> (nI ((3 - l) * 7) &&& 31)) &&& 127 = nI (c / gx_sp l % 128) := by
  unfold gx_sp
  have e : c / 2 ^ ((3 - l) * 7) ≤ c := Nat.div_le_self _ _
  rw [pk_shrN hc _ ((3 - l) * 7) (gx_cnt h), pk_andN (show c / 2 ^ ((3 - l) * 7) < 2 ^ 32 by omega) 7 gx_127]
theorem gx_par {c l : Nat} (hc : c < 2 ^ 31) (h : l ≤ 3) : (nI c >>> (nI ((3 - l) * 7) &&& 31)) <<< (nI ((3 - l) * 7) &&& 31) = nI (c / gx_sp l * gx_sp l) := by
  unfold gx_sp
  have e : c / 2 ^ ((3 - l) * 7) * 2 ^ ((3 - l) * 7) ≤ c := Nat.div_mul_le_self _ _
  rw [pk_shrN hc _ ((3 - l) * 7) (gx_cnt h), pk_shlN _ ((3 - l) * 7) (gx_cnt h) (show c / 2 ^ ((3 - l) * 7) * 2 ^ ((3 - l) * 7) < 2 ^ 32 by omega)]
theorem gx_51 : (51 : Int32) = nI 51 := by decide +kernel
theorem gx_sub {s : Int32} (h1 : -50 ≤ s) (h2 : s ≤ 50) : ∃ t : Nat, 1 ≤ t ∧ t ≤ 101 ∧ s = nI t - 51 := by
  rw [Int32.le_iff_toInt_le] at h1 h2
  have e1 : (-50 : Int32).toInt = -50 := by decide
  have e2 : (50 : Int32).toInt = 50 := by decide
  rw [e1] at h1
  rw [e2] at h2
  refine ⟨(s.toInt + 51).toNat, by omega, by omega, ?_⟩
  apply Int32.toInt_inj.mp
  rw [gx_51, pk_sub_toInt (by omega) (by omega)]
  omega
theorem gx_ti {t : Nat} (h : t < 2 ^ 30) : (nI t - 51).toInt = (t : Int) - 51 := by
  rw [gx_51, pk_sub_toInt h (by omega)]
  rfl
theorem gx_lt {a b : Nat} (ha : a < 2 ^ 30) (hb : b < 2 ^ 30) : nI a - 51 < nI b - 51 ↔ a < b := by
  rw [Int32.lt_iff_toInt_lt, gx_ti ha, gx_ti hb]; omega
theorem gx_le {a b : Nat} (ha : a < 2 ^ 30) (hb : b < 2 ^ 30) : nI a - 51 ≤ nI b - 51 ↔ a ≤ b := by
  rw [Int32.le_iff_toInt_le, gx_ti ha, gx_ti hb]; omega
theorem gx_eq {a b : Nat} (ha : a < 2 ^ 30) (hb : b < 2 ^ 30) : nI a - 51 = nI b - 51 ↔ a = b := by
  rw [← Int32.toInt_inj, gx_ti ha, gx_ti hb]; omega
theorem gx_m50 {t : Nat} (h1 : 1 ≤ t) (h : t ≤ 101) : -50 ≤ nI t - 51 := by
  rw [Int32.le_iff_toInt_le, gx_ti (by omega), show (-50 : Int32).toInt = -50 by decide]; omega
theorem gx_p50 {t : Nat} (h : t ≤ 101) : nI t - 51 ≤ 50 := by
  rw [Int32.le_iff_toInt_le, gx_ti (by omega), show (50 : Int32).toInt = 50 by decide]; omega
theorem gx_back (t : Nat) : nI t - 51 + 51 = nI t := by grind
/-- a place moved by the distance to a sibling -/
theorem gx_move {c t g w : Nat} (h : g * w ≤ c + t * w) : nI c + ((nI t - 51) - (nI g - 51)) * nI w = nI (c + t * w - g * w) := by
  rw [← pk_sub h, ← nI_add, ← pk_mul, ← pk_mul]
  grind
/-- a pointer of d digits -/
def gx_pt (d p : Nat) : Prop := (d = 0 ∧ p = 0) ∨ (d = 1 ∧ p % 16384 = 0 ∧ 1 ≤ p / 16384 ∧ p / 16384 ≤ 101) ∨ (d = 2 ∧ p % 128 = 0 ∧ 1 ≤ p / 128 % 128 ∧ p / 128 % 128 ≤ 101 ∧ 1 ≤ p / 16384 ∧ p / 16384 ≤ 101) ∨ (d = 3 ∧ 1 ≤ p % 128 ∧ p % 128 ≤ 101 ∧ 1 ≤ p / 128 % 128 ∧ p / 128 % 128 ≤ 101 ∧ 1 ≤ p / 16384 ∧ p / 16384 ≤ 101)
theorem gx_pt_d {d p : Nat} (h : gx_pt d p) : d ≤ 3 := by unfold gx_pt at h; omega
theorem gx_pt_lt {d p : Nat} (h : gx_pt d p) : p + gx_sp d ≤ 2097152 := by
  have hd := gx_pt_d h
  revert h
  refine gx_4 (P := fun d => gx_pt d p → p + gx_sp d ≤ 2097152) hd ?_ ?_ ?_ ?_
  · rw [gx_sp0]; unfold gx_pt; omega
  · rw [gx_sp1]; unfold gx_pt; omega
  · rw [gx_sp2]; unfold gx_pt; omega
  · rw [gx_sp3]; unfold gx_pt; omega
theorem gx_pt_dn {d p t : Nat} (h : gx_pt d p) (hd : d < 3) (h1 : 1 ≤ t) (h2 : t ≤ 101) : gx_pt (d + 1) (p + t * gx_sp (d + 1)) := by
  have : d = 0 ∨ d = 1 ∨ d = 2 := by omega
  rcases this with e | e | e <;> subst e
  · rw [gx_sp1]; unfold gx_pt at h ⊢; omega
  · rw [gx_sp2]; unfold gx_pt at h ⊢; omega
  · rw [gx_sp3]; unfold gx_pt at h ⊢; omega
theorem gx_pt_up {d p : Nat} (h : gx_pt (d + 1) p) : gx_pt d (p / gx_sp d * gx_sp d) := by
  have hd := gx_pt_d h
  have : d = 0 ∨ d = 1 ∨ d = 2 := by omega
  rcases this with e | e | e <;> subst e
  · rw [gx_sp0]; unfold gx_pt at h ⊢; omega
  · rw [gx_sp1]; unfold gx_pt at h ⊢; omega
  · rw [gx_sp2]; unfold gx_pt at h ⊢; omega
/-- the last digit -/
theorem gx_pt_g {d p : Nat} (h : gx_pt (d + 1) p) : 1 ≤ p / gx_sp (d + 1) % 128 ∧ p / gx_sp (d + 1) % 128 ≤ 101 ∧ p / gx_sp (d + 1) % 128 * gx_sp (d + 1) ≤ p := by
  have hd := gx_pt_d h
  have : d = 0 ∨ d = 1 ∨ d = 2 := by omega
  rcases this with e | e | e <;> subst e
  · rw [gx_sp1]; unfold gx_pt at h; omega
  · rw [gx_sp2]; unfold gx_pt at h; omega
  · rw [gx_sp3]; unfold gx_pt at h; omega
/-- the sibling with last digit t -/
def gx_sb (d p t : Nat) : Nat := p + t * gx_sp d - p / gx_sp d % 128 * gx_sp d
theorem gx_sb_pt {d p t : Nat} (h : gx_pt (d + 1) p) (h1 : 1 ≤ t) (h2 : t ≤ 101) : gx_pt (d + 1) (gx_sb (d + 1) p t) := by
  have hd := gx_pt_d h
  unfold gx_sb
  have : d = 0 ∨ d = 1 ∨ d = 2 := by omega
  rcases this with e | e | e <;> subst e
  · rw [gx_sp1]; unfold gx_pt at h ⊢; omega
  · rw [gx_sp2]; unfold gx_pt at h ⊢; omega
  · rw [gx_sp3]; unfold gx_pt at h ⊢; omega
theorem gx_sb_dj {d p t : Nat} (h : gx_pt (d + 1) p) (h1 : 1 ≤ t) (h2 : t ≤ 101) : gx_sb (d + 1) p t = p ∨ gx_sb (d + 1) p t + gx_sp (d + 1) ≤ p ∨ p + gx_sp (d + 1) ≤ gx_sb (d + 1) p t := by
  have hd := gx_pt_d h
  unfold gx_sb
  have : d = 0 ∨ d = 1 ∨ d = 2 := by omega
  rcases this with e | e | e <;> subst e
  · rw [gx_sp1]; unfold gx_pt at h; omega
  · rw [gx_sp2]; unfold gx_pt at h; omega
  · rw [gx_sp3]; unfold gx_pt at h; omega
theorem gx_sb_mv {d p t c : Nat} (h : gx_pt (d + 1) p) (hc : p ≤ c) : c + t * gx_sp (d + 1) - p / gx_sp (d + 1) % 128 * gx_sp (d + 1) = c + gx_sb (d + 1) p t - p := by
  have := (gx_pt_g h).2.2
  unfold gx_sb
  omega
theorem gx_sb_ok {d p t c : Nat} (h : gx_pt (d + 1) p) (h1 : 1 ≤ t) (h2 : t ≤ 101) (hk : gt_ok c) (hc : p ≤ c) (he : c < p + gx_sp (d + 1)) : gt_ok (c + gx_sb (d + 1) p t - p) := by
  have hd := gx_pt_d h
  unfold gx_sb
  have : d = 0 ∨ d = 1 ∨ d = 2 := by omega
  rcases this with e | e | e <;> subst e
  · rw [gx_sp1] at he ⊢; unfold gx_pt at h; unfold gt_ok at hk ⊢; omega
  · rw [gx_sp2] at he ⊢; unfold gx_pt at h; unfold gt_ok at hk ⊢; omega
  · rw [gx_sp3] at he ⊢; unfold gx_pt at h; unfold gt_ok at hk ⊢; omega
theorem gx_pt_ok {d p : Nat} (h : gx_pt (d + 1) p) : gt_ok p := by
  unfold gx_pt at h; unfold gt_ok; omega
