/-! Y's merge: its two loops -/
def gy_mq (M : Nat → Option Int32) (va : Nat → Int32) (Q : Nat → Nat) (p q e : Nat) : Nat → (Nat → Option Int32)
  | 0 => M
  | i + 1 => if p ≤ Q i ∧ Q i < p + e then gt_up (gy_mq M va Q p q e i) (Q i + q - p) (va i) else gy_mq M va Q p q e i
section
variable {M : Nat → Option Int32} {n : Nat} {li le va po : Nat → Int32} {Q : Nat → Nat} {d p q e : Nat}
theorem gy_mq_t {i : Nat} (h : p ≤ Q i ∧ Q i < p + e) : gy_mq M va Q p q e (i + 1) = gt_up (gy_mq M va Q p q e i) (Q i + q - p) (va i) := if_pos h
theorem gy_mq_f {i : Nat} (h : ¬ (p ≤ Q i ∧ Q i < p + e)) : gy_mq M va Q p q e (i + 1) = gy_mq M va Q p q e i := if_neg h
theorem gy_mq_c (H : gy_Y M n li le va Q) : ∀ i, i ≤ n → ∀ c, (∃ j, j < i ∧ p ≤ Q j ∧ Q j < p + e ∧ Q j + q - p = c ∧ gy_mq M va Q p q e i c = M (Q j)) ∨ ((∀ j, j < i → p ≤ Q j → Q j < p + e → Q j + q - p ≠ c) ∧ gy_mq M va Q p q e i c = M c) := by
  intro i
  induction i with
  | zero => intro _ c; exact Or.inr ⟨fun j hj => absurd hj (by omega), rfl⟩
  | succ i ih =>
    intro hi c
    have I := ih (by omega) c
    by_cases z : p ≤ Q i ∧ Q i < p + e
    · rw [gy_mq_t z]
      by_cases w : c = Q i + q - p
      · exact Or.inl ⟨i, by omega, z.1, z.2, w.symm, by rw [w, gt_up_s]; exact (H.2.2.1 i (by omega)).symm⟩
      · rw [gt_up_n w]
        rcases I with ⟨j, a1, a2, a3, a4, a5⟩ | ⟨a1, a2⟩
        · exact Or.inl ⟨j, by omega, a2, a3, a4, a5⟩
        · refine Or.inr ⟨fun j hj b1 b2 => ?_, a2⟩
          by_cases t : j = i
          · rw [t]; exact fun x => w x.symm
          · exact a1 j (by omega) b1 b2
    · rw [gy_mq_f z]
      rcases I with ⟨j, a1, a2, a3, a4, a5⟩ | ⟨a1, a2⟩
      · exact Or.inl ⟨j, by omega, a2, a3, a4, a5⟩
      · refine Or.inr ⟨fun j hj b1 b2 => ?_, a2⟩
        by_cases t : j = i
        · rw [t] at b1 b2; exact absurd ⟨b1, b2⟩ z
        · exact a1 j (by omega) b1 b2
theorem gy_mq_n (H : gy_Y M n li le va Q) : gy_mq M va Q p q e n = gt_mg M p q (p + e) := by
  funext c
  rcases gy_mq_c (p := p) (q := q) (e := e) H n (Nat.le_refl _) c with ⟨j, a1, a2, a3, a4, a5⟩ | ⟨a1, a2⟩
  · have e1 : c + p - q = Q j := by omega
    rw [a5, gt_mg_i ⟨by omega, by omega, by rw [e1]; exact gt_has_s (H.2.2.1 j a1)⟩, e1]
  · rw [a2, gt_mg_o]
    rintro ⟨b1, b2, b3⟩
    obtain ⟨v, hv⟩ := gt_has_t b3
    obtain ⟨j, hj, ej⟩ := H.2.2.2.2.1 _ v hv
    exact a1 j hj (by omega) (by omega) (by omega)
/-- what stands so far stands at the end -/
theorem gy_mq_h (H : gy_Y M n li le va Q) {i : Nat} (hi : i ≤ n) (c : Nat) (h : gt_has (gy_mq M va Q p q e i) c = true) : gt_has (gt_mg M p q (p + e)) c = true := by
  obtain ⟨v, hv⟩ := gt_has_t h
  rcases gy_mq_c (p := p) (q := q) (e := e) H i hi c with ⟨j, a1, a2, a3, a4, a5⟩ | ⟨a1, a2⟩
  · have e1 : c + p - q = Q j := by omega
    have e2 := H.2.2.1 j (by omega)
    have e3 : gt_mg M p q (p + e) c = some (va j) := by
      rw [gt_mg_i ⟨by omega, by omega, by rw [e1]; exact gt_has_s e2⟩, e1]; exact e2
    exact gt_has_s e3
  · rw [a2] at hv
    by_cases z : q ≤ c ∧ c + p < q + (p + e) ∧ gt_has M (c + p - q) = true
    · obtain ⟨w, hw⟩ := gt_has_t z.2.2
      exact gt_has_s ((gt_mg_i z).trans hw)
    · exact gt_has_s ((gt_mg_o z).trans hv)
theorem gy_mq_room (H : gy_Y M n li le va Q) {i n' : Nat} {li' le' va' : Nat → Int32} {Q' : Nat → Nat} (H' : gy_Y (gy_mq M va Q p q e i) n' li' le' va' Q') (hi : i < n) (hq : q + e ≤ 2097152) (hr : n + gt_ms M p q e ≤ 60) (h1 : p ≤ Q i) (h2 : Q i < p + e) (hN : gy_mq M va Q p q e i (Q i + q - p) = none) : n' < 60 := by
  have e1 := gy_ctN H'
  have e2 := gy_ctN H
  have e3 := gt_mg_ct M p q (B := 2097152) e hq
  have e4 : gt_has (gt_mg M p q (p + e)) (Q i + q - p) = true := by
    have e5 : Q i + q - p + p - q = Q i := by omega
    have e6 := H.2.2.1 i hi
    have e7 : gt_mg M p q (p + e) (Q i + q - p) = some (va i) := by
      rw [gt_mg_i ⟨by omega, by omega, by rw [e5]; exact gt_has_s e6⟩, e5]; exact e6
    exact gt_has_s e7
  have e5 := gt_cn_subs (gy_mq_h (p := p) (q := q) (e := e) H (Nat.le_of_lt hi)) (gt_has_n hN) e4 2097152 (by omega)
  have e6 : gt_ct (gy_mq M va Q p q e i) 2097152 < gt_ct (gt_mg M p q (p + e)) 2097152 := e5
  omega
/-- the source's own nodes keep their values -/
theorem gy_mq_src (H : gy_Y M n li le va Q) (hd : q = p ∨ q + e ≤ p ∨ p + e ≤ q) {i : Nat} (hi : i < n) (h1 : p ≤ Q i) (h2 : Q i < p + e) : gy_mq M va Q p q e i (Q i) = some (va i) := by
  have e1 := H.2.2.1 i hi
  rcases gy_mq_c (p := p) (q := q) (e := e) H i (Nat.le_of_lt hi) (Q i) with ⟨j, a1, a2, a3, a4, a5⟩ | ⟨a1, a2⟩
  · have e2 : Q j = Q i := by omega
    exact absurd e2 (H.2.2.2.1 j i a1 hi)
  · rw [a2]; exact e1
theorem gv_m2 (H : gy_Y M n li le va Q) (hp : gx_pt (d + 1) p) (hq : gy_p po (d + 1) p) {t : Nat} (t1 : 1 ≤ t) (t2 : t ≤ 101) (hr : n + gt_ms M p (gx_sb (d + 1) p t) (gx_sp (d + 1)) ≤ 60) {post : Int32 → SY → Prop} {x3 : Int32} (h : ∀ n' li' le' va' Q', gy_Y (gt_mg M p (gx_sb (d + 1) p t) (p + gx_sp (d + 1))) n' li' le' va' Q' → post x3 (nI n', nI (d + 1), li', le', va', po)) : ∀ f i n' li' le' va' Q', gy_Y (gy_mq M va Q p (gx_sb (d + 1) p t) (gx_sp (d + 1)) i) n' li' le' va' Q' → (∀ j, j < n → Q' j = Q j) → n ≤ n' → i ≤ n → n - i < f → wY_merge_95 post (nI t - 51) (nI n) x3 f (nI i) (nI n') (nI (d + 1)) li' le' va' po := by
  have hn := H.1
  have hd := gx_pt_d hp
  have hl := gx_pt_lt hp
  have hl2 := gx_pt_lt (gx_sb_pt hp t1 t2)
  have hdj := gx_sb_dj hp t1 t2
  intro f
  induction f with
  | zero => intro i n' li' le' va' Q' _ _ _ _ h2; omega
  | succ f ih =>
    intro i n' li' le' va' Q' H' hQ hnn i1 i2
    have hn' := H'.1
    unfold wY_merge_95
    refine pk_le n i (fun z => ?_) (fun z => ?_)
    · have e : i = n := by omega
      rw [e, gy_mq_n H] at H'
      exact h _ _ _ _ _ H'
    · have hA := H'.2.1 i (by omega)
      have hok := gy_Q_ok H z
      rw [hQ i z] at hA
      refine gv_bg hA hok (by omega) hp hq (Nat.le_refl (d + 1)) (fun y => br_f gv_1 ?_) (fun y => br_t rfl (nm_r (nI_1 i) ?_))
      · rw [gy_rng hp] at y
        have hv : va' i = va i := by
          have e1 := H'.2.2.1 i (by omega)
          rw [hQ i z, gy_mq_src H hdj z y.1 y.2] at e1
          exact (Option.some.inj e1).symm
        refine gv_place H' (i := i) (t := t) (tc := Q i + gx_sb (d + 1) p t - p) (by omega) (gx_sb_ok hp t1 t2 hok y.1 y.2) ?_ (fun k hk => ?_) (by omega) (fun hN => gy_mq_room H H' z hl2 hr y.1 y.2 hN) (fun n2 li2 le2 va2 Q2 H2 hQ2 hn2 => nm_r (nI_1 i) ?_)
        · rw [hQ i z]; exact gy_sb_len hp t1 t2 hok y.1 y.2
        · rw [hQ i z]; exact gy_sb_dg hp t1 t2 hok y.1 y.2 hk
        · rw [hv, ← gy_mq_t y] at H2
          exact ih (i + 1) _ _ _ _ _ H2 (fun j hj => (hQ2 j (by omega)).trans (hQ j hj)) (by omega) (by omega) (by omega)
      · rw [gy_rng hp] at y
        rw [← gy_mq_f y] at H'
        exact ih (i + 1) _ _ _ _ _ H' hQ hnn (by omega) (by omega)
/-- counted over the nodes: the copied ones, and the fresh ones among them -/
theorem gy_cop (H : gy_Y M n li le va Q) (hp : p + e ≤ 2097152) : gt_cn (fun i => decide (p ≤ Q i ∧ Q i < p + e)) n = gt_ct M (p + e) - gt_ct M p := by
  have e1 := gy_ct H (fun c => decide (p ≤ c ∧ c < p + e))
  have e2 := gt_cn_win (gt_has M) p e hp
  have e3 : gt_ct M (p + e) = gt_ct M p + gt_cn (fun j => gt_has M (p + j)) e := gt_cn_add _ _ _
  have e4 : gt_cn (fun i => decide (p ≤ Q i ∧ Q i < p + e)) n = gt_cn (fun j => gt_has M (p + j)) e := e1.trans e2
  omega
theorem gy_fre (H : gy_Y M n li le va Q) (hp : p + e ≤ 2097152) : gt_cn (fun i => !gt_has M (Q i + q - p) && decide (p ≤ Q i ∧ Q i < p + e)) n = gt_ms M p q e := by
  have e1 := gy_ct H (fun c => !gt_has M (c + q - p) && decide (p ≤ c ∧ c < p + e))
  have e2 := gt_cn_win (fun c => gt_has M c && !gt_has M (c + q - p)) p e hp
  have e3 : gt_cn (fun c => gt_has M c && (!gt_has M (c + q - p) && decide (p ≤ c ∧ c < p + e))) 2097152 = gt_cn (fun c => (gt_has M c && !gt_has M (c + q - p)) && decide (p ≤ c ∧ c < p + e)) 2097152 := gt_cn_eq (fun c _ => (Bool.and_assoc _ _ _).symm)
  refine e1.trans (e3.trans (e2.trans (gt_cn_eq (fun j _ => ?_))))
  show (gt_has M (p + j) && !gt_has M (p + j + q - p)) = (gt_has M (p + j) && !gt_has M (q + j))
  rw [show p + j + q - p = q + j by omega]
theorem gv_merge (H : gy_Y M n li le va Q) (hp : gx_pt (d + 1) p) (hq : gy_p po (d + 1) p) {t : Nat} (t1 : 1 ≤ t) (t2 : t ≤ 101) {post : Int32 → SY → Prop} (hf : ¬ n + gt_ms M p (gx_sb (d + 1) p t) (gx_sp (d + 1)) ≤ 60 → post (-2) (nI n, nI (d + 1), li, le, va, po)) (h : n + gt_ms M p (gx_sb (d + 1) p t) (gx_sp (d + 1)) ≤ 60 → ∀ n' li' le' va' Q', gy_Y (gt_mg M p (gx_sb (d + 1) p t) (p + gx_sp (d + 1))) n' li' le' va' Q' → post (nI (gt_ct M (p + gx_sp (d + 1)) - gt_ct M p)) (nI n', nI (d + 1), li', le', va', po)) : wpY_merge post (nI n, nI (d + 1), li, le, va, po) (nI t - 51) := by
  have hn := H.1
  have hd := gx_pt_d hp
  have hl := gx_pt_lt hp
  have hl2 := gx_pt_lt (gx_sb_pt hp t1 t2)
  have c1 := gy_cop H hl
  have c2 := gy_fre (q := gx_sb (d + 1) p t) H hl
  have hms := gt_ms_le M p (gx_sb (d + 1) p t) (gx_sp (d + 1))
  have hct : gt_ct M (p + gx_sp (d + 1)) ≤ n := by
    have e1 := gy_ctN H
    have e2 : gt_ct M (p + gx_sp (d + 1)) ≤ gt_ct M 2097152 := gt_cn_mono _ hl
    omega
  have L : ∀ f i, i ≤ n → n - i < f → wY_merge_33 post (nI t - 51) (nI n) (nI n) (nI (d + 1)) li le va po f (nI (gt_cn (fun i => decide (p ≤ Q i ∧ Q i < p + gx_sp (d + 1))) i)) (nI (gt_cn (fun i => !gt_has M (Q i + gx_sb (d + 1) p t - p) && decide (p ≤ Q i ∧ Q i < p + gx_sp (d + 1))) i)) (nI i) := by
    intro f
    induction f with
    | zero => intro i _ h2; omega
    | succ f ih =>
      intro i i1 i2
      unfold wY_merge_33
      refine pk_le n i (fun z => ?_) (fun z => ?_)
      · have e : i = n := by omega
        rw [e, c1, c2, nI_add]
        refine pk_le (n + gt_ms M p (gx_sb (d + 1) p t) (gx_sp (d + 1))) 60 (fun w => ⟨n + 1, ?_⟩) (fun w => hf (by omega))
        exact gv_m2 H hp hq t1 t2 w (h w) (n + 1) 0 n li le va Q H (fun _ _ => rfl) (Nat.le_refl _) (Nat.zero_le _) (by omega)
      · have I := ih (i + 1) (by omega) (by omega)
        have hA := H.2.1 i z
        have hok := gy_Q_ok H z
        refine gv_bg hA hok (by omega) hp hq (Nat.le_refl (d + 1)) (fun y => br_f gv_1 (nm_r (nI_1 _) ?_)) (fun y => br_t rfl (nm_r (nI_1 i) ?_))
        · rw [gy_rng hp] at y
          have k1 : decide (p ≤ Q i ∧ Q i < p + gx_sp (d + 1)) = true := decide_eq_true y
          rw [gt_cn_t (f := fun i => decide (p ≤ Q i ∧ Q i < p + gx_sp (d + 1))) k1] at I
          rw [nI_pred]
          refine gv_twin H (i := i) (t := t) (tc := Q i + gx_sb (d + 1) p t - p) z (gx_sb_ok hp t1 t2 hok y.1 y.2) (gy_sb_len hp t1 t2 hok y.1 y.2) (fun k hk => gy_sb_dg hp t1 t2 hok y.1 y.2 hk) (by omega) (fun j hj ej => br_t (nI_pos' (by omega)) (nm_r (nI_1 i) ?_)) (fun hno => br_f gv_m1 (nm_r (nI_1 _) (nm_r (nI_1 i) ?_)))
          · have k2 : gt_has M (Q i + gx_sb (d + 1) p t - p) = true := by
              rw [← ej]; exact gt_has_s (H.2.2.1 j hj)
            rw [gt_cn_f (f := fun i => !gt_has M (Q i + gx_sb (d + 1) p t - p) && decide (p ≤ Q i ∧ Q i < p + gx_sp (d + 1))) (by show (!gt_has M (Q i + gx_sb (d + 1) p t - p) && decide (p ≤ Q i ∧ Q i < p + gx_sp (d + 1))) = false; rw [k2]; rfl)] at I
            exact I
          · have k2 : gt_has M (Q i + gx_sb (d + 1) p t - p) = false := by
              cases k3 : gt_has M (Q i + gx_sb (d + 1) p t - p) with
              | false => rfl
              | true =>
                obtain ⟨w, hw⟩ := gt_has_t k3
                obtain ⟨j, hj, ej⟩ := H.2.2.2.2.1 _ w hw
                exact absurd ej (hno j hj)
            rw [gt_cn_t (f := fun i => !gt_has M (Q i + gx_sb (d + 1) p t - p) && decide (p ≤ Q i ∧ Q i < p + gx_sp (d + 1))) (by show (!gt_has M (Q i + gx_sb (d + 1) p t - p) && decide (p ≤ Q i ∧ Q i < p + gx_sp (d + 1))) = true; rw [k2, k1]; rfl)] at I
            exact I
        · rw [gy_rng hp] at y
          have k1 : decide (p ≤ Q i ∧ Q i < p + gx_sp (d + 1)) = false := decide_eq_false y
          rw [gt_cn_f (f := fun i => decide (p ≤ Q i ∧ Q i < p + gx_sp (d + 1))) k1, gt_cn_f (f := fun i => !gt_has M (Q i + gx_sb (d + 1) p t - p) && decide (p ≤ Q i ∧ Q i < p + gx_sp (d + 1))) (by show (!gt_has M (Q i + gx_sb (d + 1) p t - p) && decide (p ≤ Q i ∧ Q i < p + gx_sp (d + 1))) = false; rw [k1, Bool.and_false])] at I
          exact I
  unfold wpY_merge
  dsimp only
  refine br_f (nI_ne0 (by omega) (by omega)) (gv_is (fun z => absurd ⟨gx_m50 t1 t2, gx_p50 t2⟩ z) (fun _ => br_f gv_1 ⟨n + 1, L (n + 1) 0 (Nat.zero_le _) (by omega)⟩))
end
