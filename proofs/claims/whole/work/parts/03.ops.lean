/-! what X's stores do to the map -/
theorem gt_X_set {M : Nat → Option Int32} {n : Nat} {pl vl : Nat → Int32} {K : Nat → Nat} (H : gt_X M n pl vl K) {c : Nat} {w : Int32} (h : M c = some w) (v : Int32) : gt_X (gt_up M c v) n pl (upd vl (gt_ct M c) v) K := by
  obtain ⟨h1, h2, h3, h4, h5, h6⟩ := H
  obtain ⟨a1, a2, a3⟩ := gt_at (⟨h1, h2, h3, h4, h5, h6⟩ : gt_X M n pl vl K) h
  refine ⟨h1, h2, ?_, h4, ?_, ?_⟩
  · intro i hi
    by_cases z : i = gt_ct M c
    · rw [z, a2, gt_up_s]
      exact congrArg some (if_pos rfl).symm
    · have n1 : K i ≠ c := fun e => by
        have : gt_ct M (K i) = i := gt_rkK (⟨h1, h2, h3, h4, h5, h6⟩ : gt_X M n pl vl K) hi
        rw [e] at this
        exact z this.symm
      rw [gt_up_n n1, h3 i hi]
      exact congrArg some (if_neg z).symm
  · intro x y e
    by_cases z : x = c
    · rw [z]; exact ⟨_, a1, a2⟩
    · rw [gt_up_n z] at e
      exact h5 x y e
  · intro x y e
    by_cases z : x = c
    · rw [z]; exact h6 c w h
    · rw [gt_up_n z] at e
      exact h6 x y e
def gt_ins {α : Type} (f : Nat → α) (k : Nat) (x : α) : Nat → α := fun i => if i < k then f i else if i = k then x else f (i - 1)
theorem gt_ins_l {α : Type} {f : Nat → α} {k : Nat} {x : α} {i : Nat} (h : i < k) : gt_ins f k x i = f i := if_pos h
theorem gt_ins_s {α : Type} {f : Nat → α} {k : Nat} {x : α} : gt_ins f k x k = x := by
  unfold gt_ins; rw [if_neg (by omega), if_pos rfl]
theorem gt_ins_g {α : Type} {f : Nat → α} {k : Nat} {x : α} {i : Nat} (h : k < i) : gt_ins f k x i = f (i - 1) := by
  unfold gt_ins; rw [if_neg (by omega), if_neg (by omega)]
theorem gt_X_ins {M : Nat → Option Int32} {n : Nat} {pl vl : Nat → Int32} {K : Nat → Nat} (H : gt_X M n pl vl K) {c : Nat} (h : M c = none) (hc : gt_ok c) (hn : n < 60) (v : Int32) {pl' vl' : Nat → Int32} (hp : ∀ i, i < n + 1 → pl' i = gt_ins pl (gt_ct M c) (nI c) i) (hw : ∀ i, i < n + 1 → vl' i = gt_ins vl (gt_ct M c) v i) : gt_X (gt_up M c v) (n + 1) pl' vl' (gt_ins K (gt_ct M c) c) := by
  obtain ⟨r1, r2⟩ := gt_rk H c
  obtain ⟨h1, h2, h3, h4, h5, h6⟩ := H
  have nc : ∀ i, i < n → K i ≠ c := fun i hi e => by
    have := h3 i hi
    rw [e, h] at this
    exact absurd this (by simp)
  refine ⟨by omega, ?_, ?_, ?_, ?_, ?_⟩
  · intro i hi
    rw [hp i hi]
    by_cases a : i < gt_ct M c
    · rw [gt_ins_l a, gt_ins_l a]; exact h2 i (by omega)
    · by_cases b : i = gt_ct M c
      · rw [b, gt_ins_s, gt_ins_s]
      · rw [gt_ins_g (by omega), gt_ins_g (by omega)]; exact h2 _ (by omega)
  · intro i hi
    rw [hw i hi]
    by_cases a : i < gt_ct M c
    · rw [gt_ins_l a, gt_ins_l a, gt_up_n (nc i (by omega))]; exact h3 i (by omega)
    · by_cases b : i = gt_ct M c
      · rw [b, gt_ins_s, gt_ins_s, gt_up_s]
      · rw [gt_ins_g (by omega), gt_ins_g (by omega), gt_up_n (nc _ (by omega))]; exact h3 _ (by omega)
  · intro i j hij hj
    by_cases a : j < gt_ct M c
    · rw [gt_ins_l a, gt_ins_l (by omega)]; exact h4 i j hij (by omega)
    · by_cases b : j = gt_ct M c
      · rw [b, gt_ins_s, gt_ins_l (by omega)]; exact (r2 i (by omega)).mpr (by omega)
      · rw [gt_ins_g (k := gt_ct M c) (i := j) (by omega)]
        have hjn : ¬ K (j - 1) < c := fun z => by
          have := (r2 (j - 1) (by omega)).mp z
          omega
        by_cases a2 : i < gt_ct M c
        · rw [gt_ins_l a2]
          have := (r2 i (by omega)).mpr a2
          omega
        · by_cases b2 : i = gt_ct M c
          · rw [b2, gt_ins_s]
            have := nc (j - 1) (by omega)
            omega
          · rw [gt_ins_g (by omega)]
            exact h4 _ _ (by omega) (by omega)
  · intro x y e
    by_cases z : x = c
    · rw [z]; exact ⟨gt_ct M c, by omega, gt_ins_s⟩
    · rw [gt_up_n z] at e
      obtain ⟨i, hi, ei⟩ := h5 x y e
      by_cases a : i < gt_ct M c
      · exact ⟨i, by omega, by rw [gt_ins_l a]; exact ei⟩
      · exact ⟨i + 1, by omega, by rw [gt_ins_g (by omega)]; exact ei⟩
  · intro x y e
    by_cases z : x = c
    · rw [z]; exact hc
    · rw [gt_up_n z] at e
      exact h6 x y e
/-- a range of places taken away -/
def gt_cut (M : Nat → Option Int32) (p e : Nat) : Nat → Option Int32 := fun c => if p ≤ c ∧ c < e then none else M c
theorem gt_cut_i {M : Nat → Option Int32} {p e c : Nat} (h : p ≤ c ∧ c < e) : gt_cut M p e c = none := if_pos h
theorem gt_cut_o {M : Nat → Option Int32} {p e c : Nat} (h : ¬ (p ≤ c ∧ c < e)) : gt_cut M p e c = M c := if_neg h
def gt_del {α : Type} (f : Nat → α) (k m : Nat) : Nat → α := fun i => if i < k then f i else f (i + m)
theorem gt_del_l {α : Type} {f : Nat → α} {k m i : Nat} (h : i < k) : gt_del f k m i = f i := if_pos h
theorem gt_del_g {α : Type} {f : Nat → α} {k m i : Nat} (h : ¬ i < k) : gt_del f k m i = f (i + m) := if_neg h
theorem gt_X_cut {M : Nat → Option Int32} {n : Nat} {pl vl : Nat → Int32} {K : Nat → Nat} (H : gt_X M n pl vl K) {p e a m : Nat} (hpe : p ≤ e) (ha : a = gt_ct M p) (hm : m = gt_ct M e - gt_ct M p) {pl' vl' : Nat → Int32} (hp : ∀ i, i < n - m → pl' i = gt_del pl a m i) (hw : ∀ i, i < n - m → vl' i = gt_del vl a m i) : gt_X (gt_cut M p e) (n - m) pl' vl' (gt_del K a m) := by
  obtain ⟨r1, r2⟩ := gt_rk H p
  obtain ⟨q1, q2⟩ := gt_rk H e
  have hmo : gt_ct M p ≤ gt_ct M e := gt_cn_mono _ hpe
  rw [← ha] at r1 r2
  have q3 : gt_ct M e = a + m := by omega
  rw [q3] at q1 q2
  obtain ⟨h1, h2, h3, h4, h5, h6⟩ := H
  refine ⟨by omega, ?_, ?_, ?_, ?_, ?_⟩
  · intro i hi
    rw [hp i hi]
    by_cases z : i < a
    · rw [gt_del_l z, gt_del_l z]; exact h2 i (by omega)
    · rw [gt_del_g z, gt_del_g z]; exact h2 _ (by omega)
  · intro i hi
    rw [hw i hi]
    by_cases z : i < a
    · have := (r2 i (by omega)).mpr z
      rw [gt_del_l z, gt_del_l z, gt_cut_o (by omega)]; exact h3 i (by omega)
    · have : ¬ K (i + m) < e := fun y => by
        have := (q2 (i + m) (by omega)).mp y
        omega
      rw [gt_del_g z, gt_del_g z, gt_cut_o (by omega)]; exact h3 _ (by omega)
  · intro i j hij hj
    by_cases z : j < a
    · rw [gt_del_l z, gt_del_l (by omega)]; exact h4 i j hij (by omega)
    · rw [gt_del_g z]
      by_cases y : i < a
      · rw [gt_del_l y]; exact h4 _ _ (by omega) (by omega)
      · rw [gt_del_g y]; exact h4 _ _ (by omega) (by omega)
  · intro x y ex
    by_cases z : p ≤ x ∧ x < e
    · rw [gt_cut_i z] at ex; exact absurd ex (by simp)
    · rw [gt_cut_o z] at ex
      obtain ⟨i, hi, ei⟩ := h5 x y ex
      by_cases w : i < a
      · exact ⟨i, by omega, by rw [gt_del_l w]; exact ei⟩
      · have s1 : ¬ K i < p := fun t => w ((r2 i hi).mp t)
        have s2 : ¬ i < a + m := fun t => by
          have := (q2 i hi).mpr t
          omega
        refine ⟨i - m, by omega, ?_⟩
        rw [gt_del_g (by omega), Nat.sub_add_cancel (by omega)]
        exact ei
  · intro x y ex
    by_cases z : p ≤ x ∧ x < e
    · rw [gt_cut_i z] at ex; exact absurd ex (by simp)
    · rw [gt_cut_o z] at ex
      exact h6 x y ex
/-! merge: what lies in p .. b is copied to q .. -/
def gt_mg (M : Nat → Option Int32) (p q b : Nat) : Nat → Option Int32 := fun c => if q ≤ c ∧ c + p < q + b ∧ gt_has M (c + p - q) = true then M (c + p - q) else M c
theorem gt_mg_i {M : Nat → Option Int32} {p q b c : Nat} (h : q ≤ c ∧ c + p < q + b ∧ gt_has M (c + p - q) = true) : gt_mg M p q b c = M (c + p - q) := if_pos h
theorem gt_mg_o {M : Nat → Option Int32} {p q b c : Nat} (h : ¬ (q ≤ c ∧ c + p < q + b ∧ gt_has M (c + p - q) = true)) : gt_mg M p q b c = M c := if_neg h
theorem gt_mg_0 (M : Nat → Option Int32) (p q : Nat) : gt_mg M p q p = M := funext fun c => gt_mg_o (fun z => by have := z.1; have := z.2.1; omega)
theorem gt_mg_gap {M : Nat → Option Int32} {p q a b : Nat} (h : a ≤ b) (hn : ∀ c, a ≤ c → c < b → gt_has M c = false) : gt_mg M p q b = gt_mg M p q a := by
  funext c
  by_cases z : q ≤ c ∧ c + p < q + a ∧ gt_has M (c + p - q) = true
  · rw [gt_mg_i z, gt_mg_i ⟨z.1, by omega, z.2.2⟩]
  · rw [gt_mg_o z]
    by_cases y : q ≤ c ∧ c + p < q + b ∧ gt_has M (c + p - q) = true
    · have : ¬ c + p < q + a := fun t => z ⟨y.1, t, y.2.2⟩
      have := hn (c + p - q) (by omega) (by omega)
      rw [this] at y
      exact absurd y.2.2 (by decide)
    · rw [gt_mg_o y]
theorem gt_mg_s {M : Nat → Option Int32} {p q b : Nat} {v : Int32} (hb : p ≤ b) (hv : M b = some v) : gt_mg M p q (b + 1) = gt_up (gt_mg M p q b) (b + q - p) v := by
  funext c
  by_cases z : c = b + q - p
  · rw [z, gt_up_s]
    have e : b + q - p + p - q = b := by omega
    rw [gt_mg_i ⟨by omega, by omega, by rw [e]; exact gt_has_s hv⟩, e, hv]
  · rw [gt_up_n z]
    by_cases y : q ≤ c ∧ c + p < q + b ∧ gt_has M (c + p - q) = true
    · rw [gt_mg_i y, gt_mg_i ⟨y.1, by omega, y.2.2⟩]
    · rw [gt_mg_o y, gt_mg_o]
      rintro ⟨y1, y2, y3⟩
      exact y ⟨y1, by omega, y3⟩
/-- merge onto itself changes nothing -/
theorem gt_mg_id (M : Nat → Option Int32) (p b : Nat) : gt_mg M p p b = M := by
  funext c
  by_cases y : p ≤ c ∧ c + p < p + b ∧ gt_has M (c + p - p) = true
  · rw [gt_mg_i y, Nat.add_sub_cancel]
  · rw [gt_mg_o y]
/-- outside of the target nothing changes -/
theorem gt_mg_out {M : Nat → Option Int32} {p q b e c : Nat} (hb : b ≤ p + e) (h : ¬ (q ≤ c ∧ c < q + e)) : gt_mg M p q b c = M c := gt_mg_o (fun z => by have := z.1; have := z.2.1; omega)
/-- how many of p .. b are new at q .. -/
def gt_ms (M : Nat → Option Int32) (p q k : Nat) : Nat := gt_cn (fun j => gt_has M (p + j) && !gt_has M (q + j)) k
