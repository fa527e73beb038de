/-! helpers for the pure part -/
theorem w32_i {x : Int} (h1 : -2147483648 ≤ x) (h2 : x < 2147483648) : w32 x = x := by unfold w32; omega
theorem w64_i {x : Int} (h1 : -9223372036854775808 ≤ x) (h2 : x < 9223372036854775808) : w64 x = x := by unfold w64; omega
theorem rd_k {n : Nat} {i x : Int} {f : Int → Rs} (h1 : 0 ≤ i) (h2 : i < (n : Int)) : rd n i x f = f x := if_pos ⟨h1, h2⟩
theorem wr_k {n : Nat} {i : Int} {s : Sg} {f : Sg → Rs} (h1 : 0 ≤ i) (h2 : i < (n : Int)) : wr n i s f = f s := if_pos ⟨h1, h2⟩
theorem dv_k {y v : Int} {f : Int → Rs} (h : y ≠ 0) : dv y v f = f v := if_neg h
theorem zb_0 {f : Rs} : zb 0 f = f := if_pos (.inl rfl)
theorem zb_1 {f : Rs} : zb 1 f = f := if_pos (.inr rfl)
theorem bd_s {r : Int} {s : Sg} {f : Int → Sg → Rs} : bd (some (r, s)) f = f r s := rfl
theorem nm_k {α : Type} {x : α} {f : α → Rs} : nm x f = f x := rfl
theorem up_e {σ : Sg} {o k : Nat} {x : Int} : up_s σ o k x o k = x := by rw [up_v, if_pos ⟨rfl, rfl⟩]
theorem up_o {σ : Sg} {o k : Nat} {x : Int} {a b : Nat} (h : a ≠ o) : up_s σ o k x a b = σ a b := by rw [up_v, if_neg (fun q => h q.1)]
theorem up_k {σ : Sg} {o k : Nat} {x : Int} {a b : Nat} (h : b ≠ k) : up_s σ o k x a b = σ a b := by rw [up_v, if_neg (fun q => h q.2)]
/-- a loop that counts up, with what it carries told ahead -/
theorem loopN {β : Type} {X : Nat → Nat → β} {R : β} {W : Nat} (hs : ∀ k n, k < W → X (n + 1) k = X n (k + 1)) (he : ∀ n, X (n + 1) W = R) : ∀ n, W < n → X n 0 = R := by
  have key : ∀ d k n, k + d = W → d < n → X n k = R := by
    intro d
    induction d with
    | zero => intro k n hk hn; obtain ⟨m, rfl⟩ : ∃ m, n = m + 1 := ⟨n - 1, by omega⟩; rw [show k = W by omega]; exact he m
    | succ d ih => intro k n hk hn; obtain ⟨m, rfl⟩ : ∃ m, n = m + 1 := ⟨n - 1, by omega⟩; rw [hs k m (by omega)]; exact ih (k + 1) m (by omega) (by omega)
  intro n hn
  exact key W 0 n (by omega) hn
/-- two loops side by side -/
theorem loop2 {LH LM : Nat → Nat → Sg → Rs} {I : Nat → Sg → Sg → Prop} {W : Nat} {Q : Int → Sg → Int → Sg → Prop}
    (hs : ∀ k σ τ, k < W → I k σ τ → ∃ σ' τ', (∀ n, LH (n + 1) k σ = LH n (k + 1) σ') ∧ (∀ n, LM (n + 1) k τ = LM n (k + 1) τ') ∧ I (k + 1) σ' τ')
    (he : ∀ σ τ, I W σ τ → ∃ r σ' r' τ', (∀ n, LH (n + 1) W σ = some (r, σ')) ∧ (∀ n, LM (n + 1) W τ = some (r', τ')) ∧ Q r σ' r' τ') :
    ∀ n m σ τ, W < n → W < m → I 0 σ τ → ∃ r σ' r' τ', LH n 0 σ = some (r, σ') ∧ LM m 0 τ = some (r', τ') ∧ Q r σ' r' τ' := by
  have key : ∀ d k n m σ τ, k + d = W → d < n → d < m → I k σ τ → ∃ r σ' r' τ', LH n k σ = some (r, σ') ∧ LM m k τ = some (r', τ') ∧ Q r σ' r' τ' := by
    intro d
    induction d with
    | zero =>
      intro k n m σ τ hk hn hm hi
      obtain ⟨n, rfl⟩ : ∃ x, n = x + 1 := ⟨n - 1, by omega⟩
      obtain ⟨m, rfl⟩ : ∃ x, m = x + 1 := ⟨m - 1, by omega⟩
      obtain rfl : k = W := by omega
      obtain ⟨r, σ', r', τ', h1, h2, h3⟩ := he σ τ hi
      exact ⟨r, σ', r', τ', h1 n, h2 m, h3⟩
    | succ d ih =>
      intro k n m σ τ hk hn hm hi
      obtain ⟨n, rfl⟩ : ∃ x, n = x + 1 := ⟨n - 1, by omega⟩
      obtain ⟨m, rfl⟩ : ∃ x, m = x + 1 := ⟨m - 1, by omega⟩
      obtain ⟨σ', τ', h1, h2, h3⟩ := hs k σ τ (by omega) hi
      rw [h1, h2]
      exact ih (k + 1) n m σ' τ' (by omega) (by omega) (by omega) h3
  intro n m σ τ hn hm hi
  exact key W 0 n m σ τ (by omega) hn hm hi
