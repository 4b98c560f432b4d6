/-! tools for the pure claim -/
theorem iterN {S X : Type} {f : S → Option (X ⊕ S)} {P : Nat → S → Prop} {Q : X → Prop} (st : ∀ k s, P k s → (∃ x, f s = some (.inl x) ∧ Q x) ∨ (∃ s' k', k' < k ∧ f s = some (.inr s') ∧ P k' s')) : ∀ (n k : Nat) (s : S), P k s → k < n → ∃ x, iter f n s = some x ∧ Q x
  | 0, k, s, _, h => by omega
  | n + 1, k, s, hp, h => by
    rcases st k s hp with ⟨x, e, q⟩ | ⟨s', k', hk, e, p'⟩
    · exact ⟨x, by rw [iter, e], q⟩
    · obtain ⟨x, e2, q⟩ := iterN st n k' s' p' (by omega)
      exact ⟨x, by rw [iter, e]; exact e2, q⟩
theorem iterR {S X T Y : Type} {f : S → Option (X ⊕ S)} {g : T → Option (Y ⊕ T)} {P : Nat → S → T → Prop} {Q : X → Y → Prop} (st : ∀ k s t, P k s t → (∃ x y, f s = some (.inl x) ∧ g t = some (.inl y) ∧ Q x y) ∨ (∃ s' t' k', k' < k ∧ f s = some (.inr s') ∧ g t = some (.inr t') ∧ P k' s' t')) : ∀ (n k : Nat) (s : S) (t : T), P k s t → k < n → ∃ x y, iter f n s = some x ∧ iter g n t = some y ∧ Q x y
  | 0, k, s, t, _, h => by omega
  | n + 1, k, s, t, hp, h => by
    rcases st k s t hp with ⟨x, y, e, e1, q⟩ | ⟨s', t', k', hk, e, e1, p'⟩
    · exact ⟨x, y, by rw [iter, e], by rw [iter, e1], q⟩
    · obtain ⟨x, y, e2, e3, q⟩ := iterR st n k' s' t' p' (by omega)
      exact ⟨x, y, by rw [iter, e]; exact e2, by rw [iter, e1]; exact e3, q⟩
/-- the first k below n with p k, counted from i -/
def ffr (p : Nat → Bool) : Nat → Nat → Option Nat
  | 0, _ => none
  | n + 1, i => if p i then some i else ffr p n (i + 1)
def ffi (p : Nat → Bool) (n : Nat) : Option Nat := ffr p n 0
theorem ffr_some {p : Nat → Bool} : ∀ {n i k : Nat}, ffr p n i = some k → i ≤ k ∧ k < i + n ∧ p k = true ∧ ∀ j, i ≤ j → j < k → p j = false
  | 0, i, k, h => by cases h
  | n + 1, i, k, h => by
    rw [ffr] at h
    by_cases q : p i = true
    · rw [if_pos q] at h
      cases h
      exact ⟨Nat.le_refl _, by omega, q, fun j a b => by omega⟩
    · rw [if_neg q] at h
      obtain ⟨a, b, c, d⟩ := ffr_some h
      refine ⟨by omega, by omega, c, fun j a1 b1 => ?_⟩
      by_cases e : j = i
      · subst e; simpa using q
      · exact d j (by omega) b1
theorem ffr_none {p : Nat → Bool} : ∀ {n i : Nat}, ffr p n i = none → ∀ j, i ≤ j → j < i + n → p j = false
  | 0, i, h => fun j a b => by omega
  | n + 1, i, h => fun j a b => by
    rw [ffr] at h
    by_cases q : p i = true
    · rw [if_pos q] at h; cases h
    · rw [if_neg q] at h
      by_cases e : j = i
      · subst e; simpa using q
      · exact ffr_none h j (by omega) (by omega)
theorem ffi_some {p : Nat → Bool} {n k : Nat} (h : ffi p n = some k) : k < n ∧ p k = true ∧ ∀ j, j < k → p j = false := by
  obtain ⟨a, b, c, d⟩ := ffr_some h
  exact ⟨by omega, c, fun j hj => d j (by omega) hj⟩
theorem ffi_none {p : Nat → Bool} {n : Nat} (h : ffi p n = none) : ∀ j, j < n → p j = false := fun j hj => ffr_none h j (by omega) (by omega)
theorem ffr_congr {p q : Nat → Bool} : ∀ {n i : Nat}, (∀ j, i ≤ j → j < i + n → p j = q j) → ffr p n i = ffr q n i
  | 0, i, _ => rfl
  | n + 1, i, h => by
    rw [ffr, ffr, h i (by omega) (by omega), ffr_congr fun j a b => h j (by omega) (by omega)]
theorem ffi_congr {p q : Nat → Bool} {n : Nat} (h : ∀ j, j < n → p j = q j) : ffi p n = ffi q n := ffr_congr fun j _ b => h j (by omega)
/-- a search loop -/
theorem iter_find {X : Type} {f : Int32 → Option (X ⊕ Int32)} {p : Nat → Bool} {y : Nat → X} {z : X} {n : Nat} (h1 : ∀ k, k < n → f (nI k) = some (if p k = true then .inl (y k) else .inr (nI (k + 1)))) (h2 : f (nI n) = some (.inl z)) : ∀ (m i : Nat), i + m = n → ∀ F, m < F → iter f F (nI i) = some (match ffr p m i with | some k => y k | none => z)
  | 0, i, e, F, hF => by
    obtain ⟨F, rfl⟩ : ∃ k, F = k + 1 := ⟨F - 1, by omega⟩
    rw [iter, show i = n by omega, h2]; rfl
  | m + 1, i, e, F, hF => by
    obtain ⟨F, rfl⟩ : ∃ k, F = k + 1 := ⟨F - 1, by omega⟩
    rw [iter, h1 i (by omega), ffr]
    by_cases q : p i = true
    · rw [if_pos q, if_pos q]
    · rw [if_neg q, if_neg q]
      exact iter_find h1 h2 m (i + 1) (by omega) F (by omega)
theorem iter_find0 {X : Type} {f : Int32 → Option (X ⊕ Int32)} {n : Nat} (p : Nat → Bool) (y : Nat → X) (z : X) (hn : n < 1000) (h1 : ∀ k, k < n → f (nI k) = some (if p k = true then .inl (y k) else .inr (nI (k + 1)))) (h2 : f (nI n) = some (.inl z)) : iter f FU (0 : Int32) = some (match ffi p n with | some k => y k | none => z) := iter_find h1 h2 n 0 (by omega) FU hn
/-- a counted loop -/
def fo {A : Type} (g : Nat → A → A) (a : A) : Nat → A
  | 0 => a
  | k + 1 => g k (fo g a k)
theorem fo_congr {A : Type} {g g' : Nat → A → A} {a : A} : ∀ {n : Nat}, (∀ k x, k < n → g k x = g' k x) → fo g a n = fo g' a n
  | 0, _ => rfl
  | n + 1, h => by rw [fo, fo, fo_congr fun k x hk => h k x (by omega), h n _ (by omega)]
theorem fo_ind {A : Type} {g : Nat → A → A} {a : A} (P : Nat → A → Prop) (h0 : P 0 a) : ∀ (n : Nat), (∀ k x, k < n → P k x → P (k + 1) (g k x)) → P n (fo g a n)
  | 0, _ => h0
  | n + 1, h => h n _ (by omega) (fo_ind P h0 n fun k x hk => h k x (by omega))
theorem fo_ind2 {A B : Type} {g : Nat → A → A} {g' : Nat → B → B} {a : A} {b : B} (P : Nat → A → B → Prop) (h0 : P 0 a b) : ∀ (n : Nat), (∀ k x y, k < n → P k x y → P (k + 1) (g k x) (g' k y)) → P n (fo g a n) (fo g' b n)
  | 0, _ => h0
  | n + 1, h => h n _ _ (by omega) (fo_ind2 P h0 n fun k x y hk => h k x y (by omega))
theorem iter_fold {A X : Type} {f : A × Int32 → Option (X ⊕ A × Int32)} {g : Nat → A → A} {a0 : A} {n : Nat} {z : A → X} (I : Nat → A → Prop) (h1 : ∀ k a, k < n → I k a → f (a, nI k) = some (.inr (g k a, nI (k + 1))) ∧ I (k + 1) (g k a)) (h2 : ∀ a, I n a → f (a, nI n) = some (.inl (z a))) : ∀ (m i : Nat), i + m = n → I i (fo g a0 i) → ∀ F, m < F → iter f F (fo g a0 i, nI i) = some (z (fo g a0 n))
  | 0, i, e, hi, F, hF => by
    obtain ⟨F, rfl⟩ : ∃ k, F = k + 1 := ⟨F - 1, by omega⟩
    obtain rfl : i = n := by omega
    rw [iter, h2 _ hi]
  | m + 1, i, e, hi, F, hF => by
    obtain ⟨F, rfl⟩ : ∃ k, F = k + 1 := ⟨F - 1, by omega⟩
    obtain ⟨h3, h4⟩ := h1 i _ (by omega) hi
    rw [iter, h3]
    exact iter_fold I h1 h2 m (i + 1) (by omega) h4 F (by omega)
theorem iter_fold0 {A X : Type} {f : A × Int32 → Option (X ⊕ A × Int32)} {n : Nat} (g : Nat → A → A) (a0 : A) (z : A → X) (hn : n < 1000) (h1 : ∀ k a, k < n → f (a, nI k) = some (.inr (g k a, nI (k + 1)))) (h2 : ∀ a, f (a, nI n) = some (.inl (z a))) : iter f FU (a0, (0 : Int32)) = some (z (fo g a0 n)) := iter_fold (fun _ _ => True) (fun k a hk _ => ⟨h1 k a hk, trivial⟩) (fun a _ => h2 a) n 0 (by omega) trivial FU hn
theorem l_m1 : (-1 : Int32).toInt = -1 := rfl
theorem gB {A : Type} {k n : Nat} {o : Option A} (h : k < n) (hn : n < 2 ^ 31) : guardB (nI k) n o = o := by
  unfold guardB
  rw [if_pos]
  have hk : (nI k).toNatClampNeg = k := nI_clamp (by omega)
  simp only [inB, hk, Bool.and_eq_true, decide_eq_true_eq]
  exact ⟨nI_pos' (by omega), h⟩
theorem gZ1 {A : Type} {o : Option A} : guardZ (1 : Int32) o = o := rfl
theorem gZ0 {A : Type} {o : Option A} : guardZ (0 : Int32) o = o := rfl
theorem gZi {A : Type} {b : Prop} [Decidable b] {o : Option A} : guardZ (if b then (1 : Int32) else 0) o = o := by
  by_cases h : b
  · rw [if_pos h]; rfl
  · rw [if_neg h]; rfl
/-- a reference as the twin keeps it -/
def on : Option Nat → Int32
  | none => -1
  | some i => nI i
theorem on_s (i : Nat) : on (some i) = nI i := rfl
theorem on_n : on none = -1 := rfl
