/-! which lock to ask for: both sides -/
/-- one of the m places from e on fits and is as long as k -/
def exB (P : Nat → Bool) (len : Nat → Int) (k e : Nat) : Nat → Bool
  | 0 => false
  | m + 1 => (P e && decide (len e = len k)) || exB P len k (e + 1) m
theorem exB_e (P : Nat → Bool) (len : Nat → Int) (k : Nat) : ∀ m e, exB P len k e m = true ↔ ∃ x, e ≤ x ∧ x < e + m ∧ P x = true ∧ len x = len k
  | 0, e => ⟨fun h => absurd h ff_t, fun ⟨x, a, b, _⟩ => by omega⟩
  | m + 1, e => by
    rw [exB, Bool.or_eq_true, exB_e P len k m (e + 1), Bool.and_eq_true, decide_eq_true_eq]
    constructor
    · rintro (a | ⟨x, a, b, c⟩)
      · exact ⟨e, by omega, by omega, a⟩
      · exact ⟨x, by omega, by omega, c⟩
    · rintro ⟨x, a, b, c⟩
      by_cases z : x = e
      · subst z; exact .inl c
      · exact .inr ⟨x, by omega, by omega, c⟩
section
variable {σ τ σ' τ' : Sg} {W N D E : Nat}
theorem l42 {P : Nat → Bool} {len : Nat → Int} {k : Nat} {a1 v2 : Int} {k92 : Int → Int → Int → Sg → Rs} (hk : k < 256) (hf : ∀ x, x ≤ k → τ 9 x = if P x then 1 else 0) (hl : ∀ x, x ≤ k → P x = true → τ 10 x = len x) (hP : P k = true) : ∀ (m e n : Nat), e + m = k → m + 1 < n →
    M_unlike_L42 a1 v2 k k92 n 1 e τ = k92 v2 k (if exB P len k e m = true then 0 else 1) τ := by
  intro m
  induction m with
  | zero =>
    intro e n he hn
    obtain ⟨n, rfl⟩ : ∃ x, n = x + 1 := ⟨n - 1, by omega⟩
    rw [M_unlike_L42, if_neg (by omega), exB, if_neg ff_t]
  | succ m ih =>
    intro e n he hn
    obtain ⟨n, rfl⟩ : ∃ x, n = x + 1 := ⟨n - 1, by omega⟩
    have w := ih (e + 1) n (by omega) (by omega)
    rw [M_unlike_L42, if_pos (by omega), if_neg i10, rd_k (by omega) (by omega), Int.toNat_natCast, hf e (by omega), rd_k (by omega) (by omega), rd_k (by omega) (by omega), Int.toNat_natCast, hl k (by omega) hP, exB]
    simp only [nm_k]
    rw [w32_i (x := (e : Int) + 1) (by omega) (by omega), suc]
    cases c : P e
    · rw [if_neg ff_t, if_pos rfl, w, Bool.false_and, Bool.false_or]
    · rw [if_pos rfl, if_neg i10, hl e (by omega) c, Bool.true_and]
      by_cases d : len e = len k
      · obtain ⟨n, rfl⟩ : ∃ x, n = x + 1 := ⟨n - 1, by omega⟩
        rw [if_pos d, decide_eq_true d, Bool.true_or, if_pos rfl, M_unlike_L42]
        by_cases y : ((e + 1 : Nat) : Int) < k
        · rw [if_pos y, if_pos rfl]
        · rw [if_neg y]
      · rw [if_neg d, decide_eq_false d, Bool.false_or, w]
theorem mem_f {P : Nat → Bool} {len : Nat → Int} {k : Nat} : exB P len k 0 k = true ↔ len k ∈ [] ++ ((rg k).filter P).map len := by
  rw [exB_e, List.nil_append, List.mem_map]
  constructor
  · rintro ⟨x, _, a, b, c⟩
    have hx : ∀ j, x < j → x ∈ rg j := by
      intro j
      induction j with
      | zero => intro h; omega
      | succ j ih =>
        intro h
        rw [rg, List.mem_append, List.mem_singleton]
        by_cases z : x = j
        · exact .inr z
        · exact .inl (ih (by omega))
    exact ⟨x, List.mem_filter.mpr ⟨hx k (by omega), b⟩, c⟩
  · rintro ⟨x, a, b⟩
    have := List.mem_filter.mp a
    exact ⟨x, by omega, by have := rg_m this.1; omega, this.2, b⟩
def F10 (τ τ' : Sg) : Prop := ∀ o k, o ≠ 10 → τ' o k = τ o k
theorem um_l {τ0 : Sg} {p : Nat} (h : PR p σ τ0 W N D E) {P : Nat → Bool} {d : Int} (hf : ∀ x, x < 2 ^ W → τ0 9 x = if P x then 1 else 0) : ∀ (m k n : Nat) (τ : Sg), k + m = 2 ^ W → m < n → F10 τ0 τ → (∀ x, x < k → P x = true → τ 10 x = gtS (τ0 5) x d W) →
    ∃ τ', M_unlike_L4 d n (dc (fun x => gtS (τ0 5) x d W) [] ((rg k).filter P) : Nat) k τ = some (((dc (fun x => gtS (τ0 5) x d W) [] ((rg (2 ^ W)).filter P) : Nat) : Int), τ') ∧ F10 τ0 τ' := by
  have bW := h.bW
  have e8 : 2 ^ W ≤ 2 ^ 8 := Nat.pow_le_pow_right (by omega) bW
  intro m
  induction m with
  | zero =>
    intro k n τ hk hn hF hL
    obtain ⟨n, rfl⟩ : ∃ x, n = x + 1 := ⟨n - 1, by omega⟩
    have hp : PR p σ τ W N D E := h.cg (fun _ _ _ _ => rfl) (fun x _ => hF _ _ (by omega))
    have al : M_allWords τ = some (((2 ^ W : Nat) : Int) - 1, τ) := by rw [al_m hp, ← cast_pow]
    obtain rfl : k = 2 ^ W := by omega
    exact ⟨τ, by rw [M_unlike_L4, al, bd_s, if_pos (by omega)], hF⟩
  | succ m ih =>
    intro k n τ hk hn hF hL
    obtain ⟨n, rfl⟩ : ∃ x, n = x + 1 := ⟨n - 1, by omega⟩
    have hp : PR p σ τ W N D E := h.cg (fun _ _ _ _ => rfl) (fun x _ => hF _ _ (by omega))
    have c5 : τ 5 = τ0 5 := by funext x; exact hF _ _ (by omega)
    have al : M_allWords τ = some (((2 ^ W : Nat) : Int) - 1, τ) := by rw [al_m hp, ← cast_pow]
    have fr := rg_f P k
    have ll : dc (fun x => gtS (τ0 5) x d W) [] ((rg k).filter P) ≤ k := Nat.le_trans (dc_le _ _ _) (Nat.le_trans (List.length_filter_le _ _) (by rw [rg_l]; omega))
    rw [M_unlike_L4, al, bd_s, if_neg (by omega), rd_k (by omega) (by omega), Int.toNat_natCast, hF 9 k (by omega), hf k (by omega)]
    cases c : P k
    · rw [c, if_neg ff_t] at fr
      have w := ih (k + 1) n τ (by omega) (by omega) hF (fun x hx q => by
        by_cases z : x = k
        · rw [z, c] at q; cases q
        · exact hL x (by omega) q)
      rw [fr] at w
      rw [if_neg ff_t, if_pos rfl, nm_k, w32_i (by omega) (by omega), suc]
      exact w
    · rw [c, if_pos rfl] at fr
      rw [if_pos rfl, if_neg i10, gt_m hp, c5, bd_s, wr_k (by omega) (by omega)]
      have hF' : F10 τ0 (up_s τ 10 k (gtS (τ0 5) k d W)) := fun o x z => by rw [up_o z]; exact hF o x z
      have hL' : ∀ x, x < k + 1 → P x = true → up_s τ 10 k (gtS (τ0 5) k d W) 10 x = gtS (τ0 5) x d W := fun x hx q => by
        by_cases z : x = k
        · rw [z, up_e]
        · rw [up_k z]; exact hL x (by omega) q
      have w := ih (k + 1) n _ (by omega) (by omega) hF' hL'
      have l := l42 (τ := up_s τ 10 k (gtS (τ0 5) k d W)) (P := P) (len := fun x => gtS (τ0 5) x d W) (k := k) (a1 := d) (v2 := (dc (fun x => gtS (τ0 5) x d W) [] ((rg k).filter P) : Nat)) (k92 := fun x14 x15 x16 s17 => M_unlike_J92 d x14 x15 x16 (fun x22 x23 s24 => M_unlike_L4 d n x22 x23 s24) s17) (by omega) (fun x hx => by rw [hF' 9 x (by omega)]; exact hf x (by omega)) (fun x hx q => hL' x (by omega) q) c k 0 fu (by omega) (by unfold fu; omega)
      rw [show M_unlike_L42 d (dc (fun x => gtS (τ0 5) x d W) [] ((rg k).filter P) : Nat) (k : Int) (fun x14 x15 x16 s17 => M_unlike_J92 d x14 x15 x16 (fun x22 x23 s24 => M_unlike_L4 d n x22 x23 s24) s17) fu 1 0 (up_s τ 10 k (gtS (τ0 5) k d W)) = _ from l]
      rw [fr, dc_a] at w
      by_cases e : exB P (fun x => gtS (τ0 5) x d W) k 0 k = true
      · rw [if_pos (mem_f.mp e), Nat.add_zero] at w
        rw [if_pos e, M_unlike_J92, if_pos rfl, nm_k, nm_k, Int.add_zero, w32_i (by omega) (by omega), w32_i (by omega) (by omega), suc]
        exact w
      · rw [if_neg (fun z => e (mem_f.mpr z))] at w
        rw [if_neg e, M_unlike_J92, if_neg i10, nm_k, nm_k, w32_i (x := ((dc (fun x => gtS (τ0 5) x d W) [] ((rg k).filter P) : Nat) : Int) + 1) (by omega) (by omega), w32_i (by omega) (by omega), show ((dc (fun x => gtS (τ0 5) x d W) [] ((rg k).filter P) : Nat) : Int) + 1 = ((dc (fun x => gtS (τ0 5) x d W) [] ((rg k).filter P) + 1 : Nat) : Int) by omega, suc]
        exact w
theorem um_m {p : Nat} (h : PR p σ τ W N D E) {P : Nat → Bool} {d : Int} (hf : ∀ x, x < 2 ^ W → τ 9 x = if P x then 1 else 0) : ∃ τ', M_unlike d τ = some (((dc (fun x => gtS (τ 5) x d W) [] ((rg (2 ^ W)).filter P) : Nat) : Int), τ') ∧ F10 τ τ' := by
  have e8 : 2 ^ W ≤ 2 ^ 8 := Nat.pow_le_pow_right (by omega) h.bW
  rw [M_unlike]
  exact um_l h hf (2 ^ W) 0 fu τ (by omega) (by unfold fu; omega) (fun _ _ _ => rfl) (fun x hx => absurd hx (by omega))
/-- as many unlike lengths as there are sets: no later day tells more -/
theorem ask_z {τ0 : Sg} {p : Nat} (h : PR p σ τ0 W N D E) {P : Nat → Bool} (hf : ∀ x, x < 2 ^ W → τ0 9 x = if P x then 1 else 0) (b : Int) {v : Int} (hv : ¬ v < (((rg (2 ^ W)).filter P).length : Int)) : ∀ (m d n : Nat) (τ : Sg), d + m = 100 → m < n → F10 τ0 τ →
    ∃ τ' : Sg, M_ask_L53 n b v d τ = some (b, τ') ∧ F10 τ0 τ' := by
  have bW := h.bW
  intro m
  induction m with
  | zero =>
    intro d n τ hd hn hT
    obtain ⟨n, rfl⟩ : ∃ x, n = x + 1 := ⟨n - 1, by omega⟩
    exact ⟨τ, by rw [M_ask_L53, if_pos (by omega)], hT⟩
  | succ m ih =>
    intro d n τ hd hn hT
    obtain ⟨n, rfl⟩ : ∃ x, n = x + 1 := ⟨n - 1, by omega⟩
    have hp : PR p σ τ W N D E := h.cg (fun _ _ _ _ => rfl) (fun k _ => hT _ _ (by omega))
    obtain ⟨τ1, b1, b2⟩ := um_m hp (P := P) (d := (d : Int)) (fun x hx => by rw [hT _ _ (by omega)]; exact hf x hx)
    have le := dc_le (fun x => gtS (τ 5) x d W) ((rg (2 ^ W)).filter P) []
    obtain ⟨τ2, c1, c2⟩ := ih (d + 1) n τ1 (by omega) (by omega) (fun o k z => (b2 o k z).trans (hT o k z))
    refine ⟨τ2, ?_, c2⟩
    rw [M_ask_L53, if_neg (show ¬ (99 : Int) < (d : Int) by omega), b1, bd_s]
    simp only [nm_k]
    rw [w32_i (x := (d : Int) + 1) (by omega) (by omega), suc, if_neg (by omega)]
    exact c1
theorem ask_l {σ0 τ0 : Sg} (h : RR σ0 τ0 W N D E) (hz : τ0 0 0 = 0) {P : Nat → Bool} (hs : FTS σ0 ((rg (2 ^ W)).filter P)) (hf : ∀ x, x < 2 ^ W → τ0 9 x = if P x then 1 else 0) : ∀ (m d n n' : Nat) (σ τ : Sg) (b v : Int), d + m = 100 → m < n → m < n' → F101 σ0 σ → F10 τ0 τ →
    ∃ (r : Int) (σ' τ' : Sg), Fi_tellingDays_L7 8 n b v d σ = some (r, σ') ∧ M_ask_L53 n' b v d τ = some (r, τ') ∧ F101 σ0 σ' ∧ F10 τ0 τ' := by
  have bW := h.pr.bW
  have e8 : 2 ^ W ≤ 2 ^ 8 := Nat.pow_le_pow_right (by omega) bW
  have ll : ((rg (2 ^ W)).filter P).length ≤ 256 := Nat.le_trans (List.length_filter_le _ _) (by rw [rg_l]; omega)
  intro m
  induction m with
  | zero =>
    intro d n n' σ τ b v hd hn hn' hF hT
    obtain ⟨n, rfl⟩ : ∃ x, n = x + 1 := ⟨n - 1, by omega⟩
    obtain ⟨n', rfl⟩ : ∃ x, n' = x + 1 := ⟨n' - 1, by omega⟩
    exact ⟨b, σ, τ, by rw [Fi_tellingDays_L7, if_pos (by omega)], by rw [M_ask_L53, if_pos (by omega)], hF, hT⟩
  | succ m ih =>
    intro d n n' σ τ b v hd hn hn' hF hT
    have f1 : σ 99 1 = (((rg (2 ^ W)).filter P).length : Int) := by rw [hF _ _ (by omega) (by omega)]; exact hs.1
    by_cases c0 : v < (((rg (2 ^ W)).filter P).length : Int)
    · obtain ⟨n, rfl⟩ : ∃ x, n = x + 1 := ⟨n - 1, by omega⟩
      obtain ⟨n', rfl⟩ : ∃ x, n' = x + 1 := ⟨n' - 1, by omega⟩
      have hp0 : PR 8 σ τ W N D E := h.pr.cg (fun j k _ _ => hF _ _ (by omega) (by omega)) (fun k _ => hT _ _ (by omega))
      obtain ⟨σ1, m1, m2, m3⟩ := me_h hp0 (by rw [hF _ _ (by omega) (by omega)]; exact h.rb.mz) (d := (d : Int)) (by omega)
      have hF1 : F101 σ0 σ1 := fun o k z1 z2 => (m2 o k z2).trans (hF o k z1 z2)
      have hp : PR 8 σ1 τ W N D E := hp0.cg (fun j k _ _ => m2 _ _ (by omega)) (fun _ _ => rfl)
      obtain ⟨σ2, a1, a2⟩ := un_h hp (d := (d : Int)) (by omega) m3 ll (fun x hx => rg_m (List.mem_filter.mp hx).1) ⟨by rw [m2 _ _ (by omega)]; exact f1, hs.2.cg (fun k _ _ => hF1 _ _ (by omega) (by omega))⟩
      obtain ⟨τ1, b1, b2⟩ := um_m hp (P := P) (d := (d : Int)) (fun x hx => by rw [hT _ _ (by omega)]; exact hf x hx)
      have hF2 : F101 σ0 σ2 := fun o k z1 z2 => (a2 o k z1).trans (hF1 o k z1 z2)
      have hT1 : F10 τ0 τ1 := fun o k z => (b2 o k z).trans (hT o k z)
      rw [Fi_tellingDays_L7, if_neg (by omega), f1, if_pos c0, m1, bd_s, a1, bd_s, M_ask_L53, if_neg (show ¬ (99 : Int) < (d : Int) by omega), b1, bd_s]
      simp only [nm_k]
      rw [w32_i (x := (d : Int) + 1) (by omega) (by omega), suc]
      by_cases c : v < ((dc (fun x => gtS (τ 5) x d W) [] ((rg (2 ^ W)).filter P) : Nat) : Int)
      · rw [if_pos c, if_pos c]; exact ih (d + 1) n n' σ2 τ1 _ _ (by omega) (by omega) (by omega) hF2 hT1
      · rw [if_neg c, if_neg c]; exact ih (d + 1) n n' σ2 τ1 _ _ (by omega) (by omega) (by omega) hF2 hT1
    · obtain ⟨τ', g1, g2⟩ := ask_z h.pr hf b c0 (m + 1) d n' τ (by omega) (by omega) hT
      obtain ⟨n, rfl⟩ : ∃ x, n = x + 1 := ⟨n - 1, by omega⟩
      exact ⟨b, σ, τ', by rw [Fi_tellingDays_L7, if_neg (by omega), f1, if_neg c0], g1, hF, g2⟩
theorem k_ask (h : RR σ τ W N D E) (a n : Int) (hn : c32 n) : Ag (H_ask a n σ) (M_ask a n τ) := by
  rw [M_ask, nm_k]
  obtain ⟨r, σ1, e1, e2, e3, h2, e5⟩ := un_c h a n hn
  rw [H_ask, e1, e2, bd_s, bd_s, nm_k, up_e]
  by_cases e : r = 0
  · subst e
    obtain ⟨τ', P, f1, f2, f3, f4, f5⟩ := e5 rfl
    rw [if_pos rfl, if_neg (show ¬ (0 : Int) < 0 by omega), f1, bd_s, f2.1, f3.n]
    by_cases c : (((rg (2 ^ W)).filter P).length : Int) < 2
    · rw [if_pos c, if_pos c]; exact ag_fail f4 8
    · rw [if_neg c, if_neg c, Fi_tellingDays]
      obtain ⟨x, σ2, τ2, g1, g2, g3, g4⟩ := ask_l f4 f5 f2 f3.f 99 1 fu fu σ1 τ' 0 0 (by omega) (by unfold fu; omega) (by unfold fu; omega) (fun _ _ _ _ => rfl) (fun _ _ _ => rfl)
      rw [show Fi_tellingDays_L7 8 fu 0 0 1 σ1 = _ from g1, bd_s, show M_ask_L53 fu 0 0 1 τ' = _ from g2]
      refine ag_give (f4.fr (fun o k z => g3 o k (by unfold SbH at z; omega) (by unfold SbH at z; omega)) (fun o k z => g4 o k (by unfold SbM at z; omega))) (by rw [g4 0 0 (by omega)]; exact f5) _
  · rw [if_neg e, if_pos (by omega), H_fail, nm_k, bd_s]
    exact ag_h ((h2.t0 r).s0 r) (by rw [up_e, up_e]) _
end
