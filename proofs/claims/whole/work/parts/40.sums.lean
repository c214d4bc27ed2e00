/-! sums -/
def sm : Nat → (Nat → Nat) → Nat
  | 0, _ => 0
  | n + 1, f => sm n f + f n
theorem sm_congr {f g : Nat → Nat} : ∀ {n : Nat}, (∀ i, i < n → f i = g i) → sm n f = sm n g
  | 0, _ => rfl
  | n + 1, h => by rw [sm, sm, sm_congr (fun i hi => h i (by omega)), h n (by omega)]
theorem sm_add (f g : Nat → Nat) : ∀ n, sm n (fun i => f i + g i) = sm n f + sm n g
  | 0 => rfl
  | n + 1 => by rw [sm, sm, sm, sm_add f g n]; omega
theorem sm_mul (c : Nat) (f : Nat → Nat) : ∀ n, sm n (fun i => c * f i) = c * sm n f
  | 0 => rfl
  | n + 1 => by rw [sm, sm, sm_mul c f n, Nat.mul_add]
theorem sm_0 : ∀ n, sm n (fun _ => 0) = 0
  | 0 => rfl
  | n + 1 => by rw [sm, sm_0 n]
theorem sm_z {f : Nat → Nat} {n : Nat} (h : ∀ i, i < n → f i = 0) : sm n f = 0 := by rw [sm_congr h, sm_0]
theorem sm_le {f g : Nat → Nat} : ∀ {n : Nat}, (∀ i, i < n → f i ≤ g i) → sm n f ≤ sm n g
  | 0, _ => Nat.le_refl _
  | n + 1, h => by
    rw [sm, sm]
    have := sm_le (n := n) (fun i hi => h i (by omega))
    have := h n (by omega)
    omega
theorem sm_const (c : Nat) : ∀ n, sm n (fun _ => c) = n * c
  | 0 => by simp [sm]
  | n + 1 => by rw [sm, sm_const c n, Nat.succ_mul]
theorem sm_swap (f : Nat → Nat → Nat) (b : Nat) : ∀ a, sm a (fun i => sm b (fun j => f i j)) = sm b (fun j => sm a (fun i => f i j))
  | 0 => by rw [sm]; exact (sm_0 b).symm
  | a + 1 => by
    rw [sm, sm_swap f b a, ← sm_add]
    rfl
theorem sm_app (f : Nat → Nat) (a : Nat) : ∀ b, sm (a + b) f = sm a f + sm b (fun i => f (a + i))
  | 0 => rfl
  | b + 1 => by
    rw [← Nat.add_assoc, sm, sm_app f a b, sm]
    omega
theorem sm_prod (b : Nat) (hb : 0 < b) (F : Nat → Nat → Nat) : ∀ a, sm (a * b) (fun m => F (m / b) (m % b)) = sm a (fun i => sm b (fun j => F i j))
  | 0 => by rw [Nat.zero_mul]; rfl
  | a + 1 => by
    rw [Nat.succ_mul, sm_app, sm_prod b hb F a, sm]
    congr 1
    refine sm_congr (fun j hj => ?_)
    have e1 : (a * b + j) / b = a := by
      rw [Nat.mul_comm, Nat.mul_add_div hb, Nat.div_eq_of_lt hj, Nat.add_zero]
    have e2 : (a * b + j) % b = j := by
      rw [Nat.mul_comm, Nat.mul_add_mod, Nat.mod_eq_of_lt hj]
    rw [e1, e2]
theorem sm_1 (k : Nat) : ∀ n, sm n (fun t => if k = t then 1 else 0) = if k < n then 1 else 0
  | 0 => by simp [sm]
  | n + 1 => by
    rw [sm, sm_1 k n]
    by_cases h : k = n
    · subst h; simp
    · by_cases h2 : k < n
      · rw [if_pos h2, if_neg h, if_pos (by omega)]
      · rw [if_neg h2, if_neg h, if_neg (by omega)]
theorem sm_pos {f : Nat → Nat} : ∀ {n : Nat}, sm n f ≠ 0 → ∃ i, i < n ∧ f i ≠ 0
  | 0, h => absurd rfl h
  | n + 1, h => by
    rw [sm] at h
    by_cases hf : f n = 0
    · obtain ⟨i, h1, h2⟩ := sm_pos (n := n) (f := f) (by omega)
      exact ⟨i, by omega, h2⟩
    · exact ⟨n, by omega, hf⟩
theorem sm_ge {f : Nat → Nat} : ∀ {n i : Nat}, i < n → f i ≤ sm n f
  | 0, i, h => by omega
  | n + 1, i, h => by
    rw [sm]
    by_cases e : i = n
    · subst e; omega
    · have := sm_ge (f := f) (show i < n by omega)
      omega
/-- a sum over a list -/
def ls {α : Type} (l : List α) (f : α → Nat) : Nat := l.foldr (fun e a => f e + a) 0
theorem ls_nil {α : Type} (f : α → Nat) : ls [] f = 0 := rfl
theorem ls_cons {α : Type} (e : α) (l : List α) (f : α → Nat) : ls (e :: l) f = f e + ls l f := rfl
theorem ls_app {α : Type} (f : α → Nat) : ∀ (l r : List α), ls (l ++ r) f = ls l f + ls r f
  | [], r => by rw [List.nil_append, ls_nil, Nat.zero_add]
  | e :: l, r => by rw [List.cons_append, ls_cons, ls_cons, ls_app f l r, Nat.add_assoc]
theorem ls_congr {α : Type} {f g : α → Nat} : ∀ {l : List α}, (∀ e, e ∈ l → f e = g e) → ls l f = ls l g
  | [], _ => rfl
  | e :: l, h => by rw [ls_cons, ls_cons, h e List.mem_cons_self, ls_congr (fun x hx => h x (List.mem_cons_of_mem _ hx))]
theorem ls_mul {α : Type} (c : Nat) (f : α → Nat) : ∀ l : List α, ls l (fun e => c * f e) = c * ls l f
  | [] => rfl
  | e :: l => by rw [ls_cons, ls_cons, ls_mul c f l, Nat.mul_add]
theorem ls_filterMap {α β : Type} (p : α → Option β) (f : β → Nat) : ∀ l : List α, ls (l.filterMap p) f = ls l (fun e => match p e with | some x => f x | none => 0)
  | [] => rfl
  | e :: l => by
    rw [List.filterMap_cons, ls_cons]
    cases h : p e with
    | none => simp only [Nat.zero_add]; exact ls_filterMap p f l
    | some x => simp only [ls_cons]; rw [ls_filterMap p f l]
theorem ls_flatMap {α β : Type} (p : α → List β) (f : β → Nat) : ∀ l : List α, ls (l.flatMap p) f = ls l (fun e => ls (p e) f)
  | [] => rfl
  | e :: l => by rw [List.flatMap_cons, ls_app, ls_cons, ls_flatMap p f l]
theorem ls_set {f : T3 → Nat} {x : T3} : ∀ {l : List T3} {j : Nat}, j < l.length → ls (l.set j x) f + f (g3 l j) = ls l f + f x
  | [], j, h => absurd h (Nat.not_lt_zero _)
  | e :: l, 0, _ => by
    show f x + ls l f + f e = f e + ls l f + f x
    omega
  | e :: l, j + 1, h => by
    have ih := ls_set (f := f) (x := x) (l := l) (j := j) (by rw [List.length_cons] at h; omega)
    show f e + ls (l.set j x) f + f (g3 l j) = f e + ls l f + f x
    omega
