/-! digits and ranges, for the looks and the pointer -/
theorem gz_dgsp {c d : Nat} (hc : c < 2097152) (hd : d < 3) : c / gx_sp (d + 1) % 128 = gy_dg c d := by
  refine gy_3 (P := fun d => c / gx_sp (d + 1) % 128 = gy_dg c d) hd ?_ ?_ ?_
  · rw [gx_sp1, gy_dg0]; omega
  · rw [gx_sp2, gy_dg1]
  · rw [gx_sp3, gy_dg2]; omega
theorem gz_par {c p d : Nat} (h : gx_pt (d + 1) p) : (p / gx_sp d * gx_sp d ≤ c ∧ c < p / gx_sp d * gx_sp d + gx_sp d) ↔ c / gx_sp d = p / gx_sp d := by
  have hd := gx_pt_d h
  have : d = 0 ∨ d = 1 ∨ d = 2 := by omega
  rcases this with e | e | e <;> subst e
  · rw [gx_sp0]; unfold gx_pt at h; omega
  · rw [gx_sp1]; unfold gx_pt at h; omega
  · rw [gx_sp2]; unfold gx_pt at h; omega
theorem gz_nx {c p d : Nat} (h : gx_pt (d + 1) p) (e : c / gx_sp d = p / gx_sp d) : p + gx_sp (d + 1) ≤ c ↔ gy_dg p d < gy_dg c d := by
  have hd := gx_pt_d h
  have : d = 0 ∨ d = 1 ∨ d = 2 := by omega
  rcases this with z | z | z <;> subst z
  · rw [gx_sp0] at e; rw [gx_sp1, gy_dg0, gy_dg0]; unfold gx_pt at h; omega
  · rw [gx_sp1] at e; rw [gx_sp2, gy_dg1, gy_dg1]; unfold gx_pt at h; omega
  · rw [gx_sp2] at e; rw [gx_sp3, gy_dg2, gy_dg2]; unfold gx_pt at h; omega
theorem gz_pv {c p d : Nat} (h : gx_pt (d + 1) p) (e : c / gx_sp d = p / gx_sp d) : c < p ↔ gy_dg c d < gy_dg p d := by
  have hd := gx_pt_d h
  have : d = 0 ∨ d = 1 ∨ d = 2 := by omega
  rcases this with z | z | z <;> subst z
  · rw [gx_sp0] at e; rw [gy_dg0, gy_dg0]; unfold gx_pt at h; omega
  · rw [gx_sp1] at e; rw [gy_dg1, gy_dg1]; unfold gx_pt at h; omega
  · rw [gx_sp2] at e; rw [gy_dg2, gy_dg2]; unfold gx_pt at h; omega
theorem gz_mo {a b d : Nat} (ha : a < 2097152) (hb : b < 2097152) (hd : d < 3) (e : a / gx_sp d = b / gx_sp d) (h : a ≤ b) : gy_dg a d ≤ gy_dg b d := by
  have : d = 0 ∨ d = 1 ∨ d = 2 := by omega
  rcases this with z | z | z <;> subst z
  · rw [gy_dg0, gy_dg0]; omega
  · rw [gx_sp1] at e; rw [gy_dg1, gy_dg1]; omega
  · rw [gx_sp2] at e; rw [gy_dg2, gy_dg2]; omega
theorem gz_pP {c p d : Nat} (h : gx_pt (d + 1) p) (hk : gt_ok c) (e : c / gx_sp d = p / gx_sp d) (hl : d < gy_len c) : p / gx_sp d * gx_sp d < c := by
  have hd := gx_pt_d h
  have a := gy_len_c c
  have : d = 0 ∨ d = 1 ∨ d = 2 := by omega
  rcases this with z | z | z <;> subst z
  · rw [gx_sp0] at e ⊢; unfold gx_pt at h; unfold gt_ok at hk; omega
  · rw [gx_sp1] at e ⊢; unfold gx_pt at h; unfold gt_ok at hk; omega
  · rw [gx_sp2] at e ⊢; unfold gx_pt at h; unfold gt_ok at hk; omega
theorem gz_Pl {c p d : Nat} (h : gx_pt (d + 1) p) (hk : gt_ok c) (e : c / gx_sp d = p / gx_sp d) (hl : p / gx_sp d * gx_sp d < c) : d < gy_len c := by
  have hd := gx_pt_d h
  have a := gy_len_c c
  have : d = 0 ∨ d = 1 ∨ d = 2 := by omega
  rcases this with z | z | z <;> subst z
  · rw [gx_sp0] at e hl; unfold gx_pt at h; unfold gt_ok at hk; omega
  · rw [gx_sp1] at e hl; unfold gx_pt at h; unfold gt_ok at hk; omega
  · rw [gx_sp2] at e hl; unfold gx_pt at h; unfold gt_ok at hk; omega
theorem gz_dnk {d p t k : Nat} (h : gx_pt d p) (hd : d < 3) (h1 : 1 ≤ t) (h2 : t ≤ 101) (hk : k < d + 1) : gy_dg (p + t * gx_sp (d + 1)) k = if k = d then t else gy_dg p k := by
  have : d = 0 ∨ d = 1 ∨ d = 2 := by omega
  rcases this with z | z | z <;> subst z
  · have : k = 0 := by omega
    subst this
    rw [gx_sp1, gy_dg0, if_pos rfl]; unfold gx_pt at h; omega
  · have : k = 0 ∨ k = 1 := by omega
    rcases this with z | z <;> subst z
    · rw [gx_sp2, gy_dg0, if_neg (by decide), gy_dg0]; unfold gx_pt at h; omega
    · rw [gx_sp2, gy_dg1, if_pos rfl]; unfold gx_pt at h; omega
  · have : k = 0 ∨ k = 1 ∨ k = 2 := by omega
    rcases this with z | z | z <;> subst z
    · rw [gx_sp3, gy_dg0, if_neg (by decide), gy_dg0]; unfold gx_pt at h; omega
    · rw [gx_sp3, gy_dg1, if_neg (by decide), gy_dg1]; unfold gx_pt at h; omega
    · rw [gx_sp3, gy_dg2, if_pos rfl]; unfold gx_pt at h; omega
theorem gz_upk {d p k : Nat} (h : gx_pt (d + 1) p) (hk : k < d) : gy_dg (p / gx_sp d * gx_sp d) k = gy_dg p k := by
  have hd := gx_pt_d h
  have : d = 1 ∨ d = 2 := by omega
  rcases this with z | z <;> subst z
  · have : k = 0 := by omega
    subst this
    rw [gx_sp1, gy_dg0, gy_dg0]; omega
  · have : k = 0 ∨ k = 1 := by omega
    rcases this with z | z <;> subst z
    · rw [gx_sp2, gy_dg0, gy_dg0]; omega
    · rw [gx_sp2, gy_dg1, gy_dg1]; omega
theorem gz_sbk {d p t k : Nat} (h : gx_pt (d + 1) p) (h1 : 1 ≤ t) (h2 : t ≤ 101) (hk : k < d + 1) : gy_dg (gx_sb (d + 1) p t) k = if k = d then t else gy_dg p k := by
  have hd := gx_pt_d h
  have hs : 0 < gx_sp (d + 1) := Nat.two_pow_pos _
  have := gy_sb_dg (c := p) h h1 h2 (gx_pt_ok h) (Nat.le_refl _) (by omega) (show k < 3 by omega)
  rw [show p + gx_sb (d + 1) p t - p = gx_sb (d + 1) p t by omega] at this
  exact this
section
variable {M : Nat → Option Int32} {n : Nat} {pl vl : Nat → Int32} {K : Nat → Nat}
theorem gz_lst (H : gt_X M n pl vl K) {e c : Nat} {v : Int32} (h : M c = some v) (he : e ≤ c) : gt_ct M e < n ∧ K (gt_ct M e) ≤ c := by
  obtain ⟨i, hi, ei⟩ := H.2.2.2.2.1 c v h
  have r := (gt_rk H e).2 i hi
  by_cases z : gt_ct M e = i
  · rw [z, ei]; exact ⟨hi, Nat.le_refl _⟩
  · have := H.2.2.2.1 (gt_ct M e) i (by omega) hi
    exact ⟨by omega, by omega⟩
theorem gz_lst2 (H : gt_X M n pl vl K) {e : Nat} (h : gt_ct M e < n) : e ≤ K (gt_ct M e) := by
  have r := (gt_rk H e).2 _ h
  omega
theorem gz_gst (H : gt_X M n pl vl K) {e c : Nat} {v : Int32} (h : M c = some v) (he : c < e) : 0 < gt_ct M e ∧ c ≤ K (gt_ct M e - 1) := by
  obtain ⟨i, hi, ei⟩ := H.2.2.2.2.1 c v h
  have r := (gt_rk H e).2 i hi
  have r1 := (gt_rk H e).1
  by_cases z : gt_ct M e - 1 = i
  · rw [z, ei]; exact ⟨by omega, Nat.le_refl _⟩
  · have := H.2.2.2.1 i (gt_ct M e - 1) (by omega) (by omega)
    exact ⟨by omega, by omega⟩
theorem gz_gst2 (H : gt_X M n pl vl K) {e : Nat} (h : 0 < gt_ct M e) : gt_ct M e - 1 < n ∧ K (gt_ct M e - 1) < e := by
  have r1 := (gt_rk H e).1
  have r := (gt_rk H e).2 (gt_ct M e - 1) (by omega)
  exact ⟨by omega, by omega⟩
end
theorem gz_w1 (a b : Nat) (ha : a ≤ 101) (hb : b ≤ 101) : ((nI a - 51) - (nI b - 51)) * 1 ≤ 0 ↔ ¬ b < a := by
  have e : ((nI a - 51) - (nI b - 51)) * 1 = nI a - nI b := by grind
  rw [e, Int32.le_iff_toInt_le, pk_sub_toInt (by omega) (by omega), show (0 : Int32).toInt = 0 by decide]
  omega
theorem gz_w2 (a b : Nat) (ha : a ≤ 101) (hb : b ≤ 101) : ((nI a - 51) - (nI b - 51)) * (-1) ≤ 0 ↔ ¬ a < b := by
  have e : ((nI a - 51) - (nI b - 51)) * (-1) = nI b - nI a := by grind
  rw [e, Int32.le_iff_toInt_le, pk_sub_toInt (by omega) (by omega), show (0 : Int32).toInt = 0 by decide]
  omega
