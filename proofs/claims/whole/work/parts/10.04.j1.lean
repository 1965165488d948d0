/-! joining: the class's two rows -/
def updN (f : Nat → Nat) (k x : Nat) : Nat → Nat := fun j => if j = k then x else f j
theorem updN_e {f : Nat → Nat} {k x : Nat} : updN f k x k = x := by unfold updN; rw [if_pos rfl]
theorem updN_n {f : Nat → Nat} {k x j : Nat} (h : j ≠ k) : updN f k x j = f j := by unfold updN; rw [if_neg h]
/-- what the model calls a node of the class's rows: a symbol, or what was joined -/
def sg (o : Nat → Nat) (m n i : Nat) : Nat := if i < m then o i else n + (i - m)
/-- one goes before another -/
def pc_ (w o : Nat → Nat) (m n x y : Nat) : Prop := w x < w y ∨ (w x = w y ∧ sg o m n x < sg o m n y)
/-- one step of joining: x and y are joined at time t -/
def jst (w a o : Nat → Nat) (m n t x y : Nat) : Prop := x < m + t ∧ y < m + t ∧ x ≠ y ∧ a x = m + t ∧ a y = m + t ∧ w (m + t) = w x + w y ∧ pc_ w o m n x y ∧ ∀ i, i < m + t → i ≠ x → i ≠ y → (a i < m + t ∨ (m + t < a i ∧ pc_ w o m n y i))
/-- the state of the class's joining before its step t: s symbols and j - m joined ones are used -/
def jiv (c o w a : Nat → Nat) (m n T t s j : Nat) : Prop :=
  s ≤ m ∧ m ≤ j ∧ j ≤ m + t ∧ s + j = m + 2 * t ∧ t < m ∧
  (∀ i, i < m → w i = c (o i)) ∧
  (∀ i, (i < s ∨ (m ≤ i ∧ i < j)) → i < a i ∧ m ≤ a i ∧ a i < m + t) ∧
  (∀ i, ¬ (i < s ∨ (m ≤ i ∧ i < j)) → a i = 1000000) ∧
  (∀ i, m ≤ i → i + 1 < m + t → w i ≤ w (i + 1)) ∧
  (∀ i, i < m + t → ¬ (i < s ∨ (m ≤ i ∧ i < j)) → 0 < t → w (m + t - 1) ≤ 2 * w i) ∧
  (∀ t', t' < t → ∃ x y, jst w a o m n t' x y) ∧
  sm w s (m - s) + sm w j (m + t - j) = T ∧ (∀ i, i < m + t → w i ≤ T)
theorem mono_le {w : Nat → Nat} {a b : Nat} (h : ∀ i, a ≤ i → i + 1 < b → w i ≤ w (i + 1)) : ∀ (d x : Nat), a ≤ x → x + d < b → w x ≤ w (x + d) := by
  intro d
  induction d with
  | zero => intro x _ _; exact Nat.le_refl _
  | succ d ih => intro x h1 h2; exact Nat.le_trans (ih x h1 (by omega)) (h (x + d) (by omega) (by omega))
/-- z is picked, from s and j on, before M is made -/
def pick (w : Nat → Nat) (m M s j z s' j' : Nat) : Prop := (z = s ∧ s < m ∧ (M ≤ j ∨ w s ≤ w j) ∧ s' = s + 1 ∧ j' = j) ∨ (z = j ∧ j < M ∧ (m ≤ s ∨ w j < w s) ∧ s' = s ∧ j' = j + 1)
theorem pick_min {c o w : Nat → Nat} {m n M s j z s' j' : Nat} (H : srt c o m n) (hn : n < 1000) (hw : ∀ i, i < m → w i = c (o i)) (hj : m ≤ j) (hmo : ∀ i, m ≤ i → i + 1 < M → w i ≤ w (i + 1)) (hp : pick w m M s j z s' j') : ∀ i, ((s ≤ i ∧ i < m) ∨ (j ≤ i ∧ i < M)) → i ≠ z → pc_ w o m n z i := by
  intro i hi hne
  have hsym : ∀ x y, x < y → y < m → pc_ w o m n x y := fun x y h1 h2 => by
    have q1 := H.1 x y h1 h2
    have q2 := (H.2.1 x (by omega)).1
    have q3 := (H.2.1 y h2).1
    have q4 := hw x (by omega)
    have q5 := hw y h2
    simp only [ky] at q1
    unfold pc_ sg
    rw [if_pos (by omega), if_pos h2]
    omega
  have hjo : ∀ x y, m ≤ x → x < y → y < M → pc_ w o m n x y := fun x y h0 h1 h2 => by
    have q1 := mono_le hmo (y - x) x h0 (by omega)
    have e : x + (y - x) = y := by omega
    rw [e] at q1
    unfold pc_ sg
    rw [if_neg (by omega), if_neg (by omega)]
    omega
  rcases hp with ⟨rfl, h1, h2, _, _⟩ | ⟨rfl, h1, h2, _, _⟩
  · rcases hi with hi | hi
    · exact hsym z i (by omega) hi.2
    · have q1 := mono_le hmo (i - j) j hj (by omega)
      have e : j + (i - j) = i := by omega
      rw [e] at q1
      have q3 := (H.2.1 z h1).1
      have h3 : w z ≤ w j := by rcases h2 with h2 | h2 <;> omega
      unfold pc_ sg
      rw [if_pos h1, if_neg (by omega)]
      omega
  · rcases hi with hi | hi
    · have h3 : w z < w s := by rcases h2 with h2 | h2 <;> omega
      left
      by_cases e : s = i
      · rw [← e]; exact h3
      · have := hsym s i (by omega) hi.2
        unfold pc_ at this
        omega
    · exact hjo z i hj (by omega) hi.2
theorem pick_sum {w : Nat → Nat} {m M s j z s' j' : Nat} (hs : s ≤ m) (hj : j ≤ M) (hp : pick w m M s j z s' j') : sm w s (m - s) + sm w j (M - j) = w z + (sm w s' (m - s') + sm w j' (M - j')) := by
  rcases hp with ⟨rfl, h1, h2, rfl, rfl⟩ | ⟨rfl, h1, h2, rfl, rfl⟩
  · have e : m - z = (m - (z + 1)) + 1 := by omega
    rw [e, sm_first]; omega
  · have e : M - z = (M - (z + 1)) + 1 := by omega
    rw [e, sm_first]; omega
theorem jiv_step {c o w a : Nat → Nat} {m n T t s j x y s1 j1 s2 j2 : Nat} (H : srt c o m n) (hn : n < 1000) (I : jiv c o w a m n T t s j) (ht : t + 1 < m) (p1 : pick w m (m + t) s j x s1 j1) (p2 : pick w m (m + t) s1 j1 y s2 j2) : jiv c o (updN w (m + t) (w x + w y)) (updN (updN a x (m + t)) y (m + t)) m n T (t + 1) s2 j2 := by
  obtain ⟨i1, i2, i3, i4, i5, i6, i7, i8, i9, i10, i11, i12, i13⟩ := I
  have j2m : m ≤ j1 := by rcases p1 with ⟨_, _, _, _, rfl⟩ | ⟨_, _, _, _, rfl⟩ <;> omega
  have hs1 : s1 ≤ m ∧ j1 ≤ m + t := by rcases p1 with ⟨_, _, _, rfl, rfl⟩ | ⟨_, _, _, rfl, rfl⟩ <;> omega
  have m1 := pick_min H hn i6 i2 i9 p1
  have m2 := pick_min H hn i6 j2m i9 p2
  have u1 := pick_sum i1 i3 p1
  have u2 := pick_sum hs1.1 hs1.2 p2
  have ux : (s ≤ x ∧ x < m) ∨ (j ≤ x ∧ x < m + t) := by rcases p1 with ⟨rfl, h, _⟩ | ⟨rfl, h, _⟩ <;> omega
  have uy : (s1 ≤ y ∧ y < m) ∨ (j1 ≤ y ∧ y < m + t) := by rcases p2 with ⟨rfl, h, _⟩ | ⟨rfl, h, _⟩ <;> omega
  have l1 : ∀ i, ((s1 ≤ i ∧ i < m) ∨ (j1 ≤ i ∧ i < m + t)) ↔ (((s ≤ i ∧ i < m) ∨ (j ≤ i ∧ i < m + t)) ∧ i ≠ x) := by
    intro i; rcases p1 with ⟨rfl, h, _, rfl, rfl⟩ | ⟨rfl, h, _, rfl, rfl⟩ <;> omega
  have l2 : ∀ i, ((s2 ≤ i ∧ i < m) ∨ (j2 ≤ i ∧ i < m + t)) ↔ (((s1 ≤ i ∧ i < m) ∨ (j1 ≤ i ∧ i < m + t)) ∧ i ≠ y) := by
    intro i; rcases p2 with ⟨rfl, h, _, rfl, rfl⟩ | ⟨rfl, h, _, rfl, rfl⟩ <;> omega
  have b : s2 ≤ m ∧ m ≤ j2 ∧ j2 ≤ m + t ∧ s2 + j2 = s + j + 2 := by
    rcases p1 with ⟨_, _, _, rfl, rfl⟩ | ⟨_, _, _, rfl, rfl⟩ <;> rcases p2 with ⟨_, _, _, rfl, rfl⟩ | ⟨_, _, _, rfl, rfl⟩ <;> omega
  have hxm : x < m + t := by omega
  have hym : y < m + t := by omega
  have hne : x ≠ y := fun e => by have := (l1 y).mp uy; exact this.2 e.symm
  have pxy : pc_ w o m n x y := m1 y ((l1 y).mp uy).1 (Ne.symm hne)
  have hxy : w x ≤ w y := by unfold pc_ at pxy; omega
  have hy : ∀ i, i < m + t → ¬ (i < s ∨ (m ≤ i ∧ i < j)) → i ≠ x → i ≠ y → pc_ w o m n y i := fun i h1 h2 h3 h4 => m2 i ((l1 i).mpr ⟨by omega, h3⟩) h4
  have ew : ∀ i, i ≠ m + t → updN w (m + t) (w x + w y) i = w i := fun i h => updN_n h
  have ewm : updN w (m + t) (w x + w y) (m + t) = w x + w y := updN_e
  have hlast : 0 < t → w (m + t - 1) ≤ 2 * w x := fun h0 => i10 x hxm (by omega) h0
  have pcc : ∀ u v, u ≠ m + t → v ≠ m + t → pc_ w o m n u v → pc_ (updN w (m + t) (w x + w y)) o m n u v := fun u v h1 h2 h => by unfold pc_ at *; rw [ew u h1, ew v h2]; exact h
  refine ⟨b.1, b.2.1, by omega, by omega, by omega, ?_, ?_, ?_, ?_, ?_, ?_, ?_, ?_⟩
  · intro i hi
    rw [ew i (by omega)]; exact i6 i hi
  · intro i hi
    by_cases e2 : i = y
    · rw [e2, updN_e]; omega
    · rw [updN_n e2]
      by_cases e1 : i = x
      · rw [e1, updN_e]; omega
      · rw [updN_n e1]
        have := i7 i (by have := l1 i; have := l2 i; omega)
        omega
  · intro i hi
    have q1 := l1 i
    have q2 := l2 i
    have e2 : i ≠ y := by intro e; subst e; apply hi; omega
    have e1 : i ≠ x := by intro e; subst e; apply hi; omega
    rw [updN_n e2, updN_n e1]
    apply i8
    intro h
    apply hi
    omega
  · intro i h1 h2
    by_cases e : i + 1 = m + t
    · rw [e, ewm, ew i (by omega)]
      have e' : m + t - 1 = i := by omega
      have := hlast (by omega)
      rw [e'] at this
      omega
    · rw [ew i (by omega), ew (i + 1) e]; exact i9 i h1 (by omega)
  · intro i h1 h2 h3
    have e : m + (t + 1) - 1 = m + t := by omega
    rw [e, ewm]
    by_cases e1 : i = m + t
    · rw [e1, ewm]; omega
    · rw [ew i e1]
      have q1 := l1 i
      have q2 := l2 i
      have h5 : i ≠ x := by intro e; subst e; apply h2; omega
      have h6 : i ≠ y := by intro e; subst e; apply h2; omega
      have h7 : ¬ (i < s ∨ (m ≤ i ∧ i < j)) := by intro h; apply h2; omega
      have := hy i (by omega) h7 h5 h6
      unfold pc_ at this
      omega
  · intro t' ht'
    by_cases e : t' = t
    · subst e
      refine ⟨x, y, hxm, hym, hne, ?_, updN_e, ?_, pcc x y (by omega) (by omega) pxy, ?_⟩
      · rw [updN_n hne, updN_e]
      · rw [ewm, ew x (by omega), ew y (by omega)]
      · intro i h1 h2 h3
        rw [updN_n h3, updN_n h2]
        by_cases h4 : i < s ∨ (m ≤ i ∧ i < j)
        · exact Or.inl (i7 i h4).2.2
        · exact Or.inr ⟨by rw [i8 i h4]; have := H.2.2.2.1; omega, pcc y i (by omega) (by omega) (hy i h1 h4 h2 h3)⟩
    · obtain ⟨x', y', g1, g2, g3, g4, g5, g6, g7, g8⟩ := i11 t' (by omega)
      have ax : ∀ i, a i ≠ 1000000 → i ≠ x ∧ i ≠ y := fun i h => ⟨fun e => h (by rw [e]; exact i8 x (by omega)), fun e => h (by rw [e]; exact i8 y (by have := (l1 y).mp uy; omega))⟩
      have hnm := H.2.2.2.1
      have ax' := ax x' (by rw [g4]; omega)
      have ay' := ax y' (by rw [g5]; omega)
      refine ⟨x', y', g1, g2, g3, ?_, ?_, ?_, pcc x' y' (by omega) (by omega) g7, ?_⟩
      · rw [updN_n ax'.2, updN_n ax'.1]; exact g4
      · rw [updN_n ay'.2, updN_n ay'.1]; exact g5
      · rw [ew _ (by omega), ew x' (by omega), ew y' (by omega)]; exact g6
      · intro i h1 h2 h3
        rcases g8 i h1 h2 h3 with h | ⟨h, h'⟩
        · have := ax i (by omega)
          rw [updN_n this.2, updN_n this.1]; exact Or.inl h
        · refine Or.inr ⟨?_, pcc y' i (by omega) (by omega) h'⟩
          by_cases e2 : i = y
          · rw [e2, updN_e]; omega
          · rw [updN_n e2]
            by_cases e1 : i = x
            · rw [e1, updN_e]; omega
            · rw [updN_n e1]; exact h
  · have e : m + (t + 1) - j2 = (m + t - j2) + 1 := by omega
    rw [e, sm]
    have e2 : j2 + (m + t - j2) = m + t := by omega
    rw [e2, ewm]
    have c1 : sm (updN w (m + t) (w x + w y)) s2 (m - s2) = sm w s2 (m - s2) := sm_congr (fun i h1 h2 => ew i (by omega))
    have c2 : sm (updN w (m + t) (w x + w y)) j2 (m + t - j2) = sm w j2 (m + t - j2) := sm_congr (fun i h1 h2 => ew i (by omega))
    rw [c1, c2]
    omega
  · intro i hi
    by_cases e : i = m + t
    · rw [e, ewm]; omega
    · rw [ew i e]; exact i13 i (by omega)
