/-! writes side by side -/
def FH (p : Nat) (σ σ' : Sg) : Prop := ∀ o k, (o < p ∨ p + 10 < o ∨ o = p + 1) → σ' o k = σ o k
def FM (τ τ' : Sg) : Prop := ∀ o k, (o ≠ 5 ∨ 175 ≤ k) → τ' o k = τ o k
theorem FH.rfl {p : Nat} {σ : Sg} : FH p σ σ := fun _ _ _ => Eq.refl _
theorem FM.rfl {τ : Sg} : FM τ τ := fun _ _ _ => Eq.refl _
theorem FH.tr {p : Nat} {a b c : Sg} (h : FH p a b) (h' : FH p b c) : FH p a c := fun o k q => (h' o k q).trans (h o k q)
theorem FM.tr {a b c : Sg} (h : FM a b) (h' : FM b c) : FM a c := fun o k q => (h' o k q).trans (h o k q)
theorem FH.up {p : Nat} {σ : Sg} {o k : Nat} {x : Int} (h1 : p ≤ o) (h2 : o ≤ p + 10) (h3 : o ≠ p + 1) : FH p σ (up_s σ o k x) := fun a b q => up_o (by omega)
theorem FM.up {τ : Sg} {k : Nat} {x : Int} (h : k < 175) : FM τ (up_s τ 5 k x) := fun a b q => by rw [up_v, if_neg (by omega)]
section
variable {p : Nat} {σ τ : Sg} {W N D E : Nat}
theorem PR.cg {p' : Nat} {σ' τ' : Sg} (h : PR p σ τ W N D E) (h0 : ∀ j k, j ≤ 10 → j ≠ 1 → σ' (p' + j) k = σ (p + j) k) (ht : ∀ k, k < 175 → τ' 5 k = τ 5 k) : PR p' σ' τ' W N D E :=
  PR.mk (h.toPS.cg (fun k _ _ _ => h0 0 k (by omega) (by omega)) (fun j k h1 h2 => h0 j k (by omega) (by omega)) (fun k h1 _ _ => ht k h1))
   (h.toPD.cg h.bW h.bN (fun k _ => h0 0 k (by omega) (by omega)) (fun j k h1 h2 => h0 j k (by omega) (by omega)) (fun k h1 h2 _ => ht k (by omega)))
theorem up_same {σ : Sg} {o k : Nat} {x : Int} (h : σ o k = x) : up_s σ o k x = σ := by
  funext a b; rw [up_v]; split
  · next q => rw [q.1, q.2, h]
  · rfl
theorem PR.sKn (h : PR p σ τ W N D E) {i : Nat} (hi : i < N) {x : Int} (h0 : 0 ≤ x) (h1 : x < 2 ^ W) : PR p (up_s σ (p + 6) i x) (up_s τ 5 (37 + i) x) W N D E := by
  have bN := h.bN
  have bW := h.bW
  refine PR.mk (h.toPS.cg (fun k _ _ _ => by rw [up_o (by omega)]) (fun j k _ _ => by rw [up_o (by omega)]) (fun k _ _ _ => by rw [up_k (by omega)])) ?_
  refine PD.mk ?_ ?_ ?_ ?_ ?_ ?_ ?_ ?_ ?_ ?_ ?_ ?_ ?_
  · rw [up_o (by omega), up_k (by omega)]; exact h.dt
  · rw [up_k (by omega)]; exact h.dtb
  · rw [up_o (by omega), up_k (by omega)]; exact h.sd
  · rw [up_k (by omega)]; exact h.sdb
  · rw [up_o (by omega), up_k (by omega)]; exact h.ct
  · rw [up_k (by omega)]; exact h.ctb
  · intro j hj; by_cases e : j = i
    · rw [e, up_e, up_e]
    · rw [up_k (by omega), up_k (by omega)]; exact h.kn j hj
  · intro j hj; by_cases e : j = i
    · rw [e, up_e]; exact ⟨h0, h1⟩
    · rw [up_k (by omega)]; exact h.knb j hj
  · intro j hj; rw [up_o (by omega), up_k (by omega)]; exact h.kp j hj
  · intro j hj; rw [up_k (by omega)]; exact h.kpb j hj
  · intro j k hj hk hb; rw [up_k (by omega)] at hb; exact (h.st j k hj hk hb).cg (fun a _ => by rw [up_o (by omega)]) (fun a _ => by rw [up_k (by omega)])
  · intro j k hj hk; rw [up_k (by omega), up_k (by omega)]; exact h.lnb j k hj hk
  · intro j k hj hk; rw [up_k (by omega)]; exact h.agb j k hj hk
/-- fewer strands -/
theorem PR.sKp (h : PR p σ τ W N D E) {i : Nat} (hi : i < N) {x : Int} (h0 : 0 ≤ x) (h1 : x < 2 ^ W) (hx : ∀ k : Nat, k < W → an32 (sr32 x k) 1 = 1 → an32 (sr32 (τ 5 (43 + i)) k) 1 = 1) : PR p (up_s σ (p + 7) i x) (up_s τ 5 (43 + i) x) W N D E := by
  have bN := h.bN
  have bW := h.bW
  refine PR.mk (h.toPS.cg (fun k _ _ _ => by rw [up_o (by omega)]) (fun j k _ _ => by rw [up_o (by omega)]) (fun k _ _ _ => by rw [up_k (by omega)])) ?_
  refine PD.mk ?_ ?_ ?_ ?_ ?_ ?_ ?_ ?_ ?_ ?_ ?_ ?_ ?_
  · rw [up_o (by omega), up_k (by omega)]; exact h.dt
  · rw [up_k (by omega)]; exact h.dtb
  · rw [up_o (by omega), up_k (by omega)]; exact h.sd
  · rw [up_k (by omega)]; exact h.sdb
  · rw [up_o (by omega), up_k (by omega)]; exact h.ct
  · rw [up_k (by omega)]; exact h.ctb
  · intro j hj; rw [up_o (by omega), up_k (by omega)]; exact h.kn j hj
  · intro j hj; rw [up_k (by omega)]; exact h.knb j hj
  · intro j hj; by_cases e : j = i
    · rw [e, up_e, up_e]
    · rw [up_k (by omega), up_k (by omega)]; exact h.kp j hj
  · intro j hj; by_cases e : j = i
    · rw [e, up_e]; exact ⟨h0, h1⟩
    · rw [up_k (by omega)]; exact h.kpb j hj
  · intro j k hj hk hb
    have hb' : an32 (sr32 (τ 5 (43 + j)) k) 1 = 1 := by
      by_cases e : j = i
      · subst e; rw [up_e] at hb; exact hx k hk hb
      · rw [up_k (by omega)] at hb; exact hb
    exact (h.st j k hj hk hb').cg (fun a _ => by rw [up_o (by omega)]) (fun a _ => by rw [up_k (by omega)])
  · intro j k hj hk; rw [up_k (by omega), up_k (by omega)]; exact h.lnb j k hj hk
  · intro j k hj hk; rw [up_k (by omega)]; exact h.agb j k hj hk
theorem lnF_0 {g y d b : Int} : lnF g y d b d = 0 := by
  unfold lnF
  by_cases q : d < b + y
  · simp only [if_pos q]; rw [if_neg (by omega)]
  · simp only [if_neg q]
/-- a strand shorn today -/
theorem PR.sSh (h : PR p σ τ W N D E) {i w : Nat} (hi : i < N) (hw : w < W) : PR p (up_s σ (p + 9) (i * 8 + w) (τ 5 6)) (up_s τ 5 (49 + (8 * i + w)) 0) W N D E := by
  have bN := h.bN
  have bW := h.bW
  refine PR.mk (h.toPS.cg (fun k _ _ _ => by rw [up_o (by omega)]) (fun j k _ _ => by rw [up_o (by omega)]) (fun k _ _ _ => by rw [up_k (by omega)])) ?_
  refine PD.mk ?_ ?_ ?_ ?_ ?_ ?_ ?_ ?_ ?_ ?_ ?_ ?_ ?_
  · rw [up_o (by omega), up_k (by omega)]; exact h.dt
  · rw [up_k (by omega)]; exact h.dtb
  · rw [up_o (by omega), up_k (by omega)]; exact h.sd
  · rw [up_k (by omega)]; exact h.sdb
  · rw [up_o (by omega), up_k (by omega)]; exact h.ct
  · rw [up_k (by omega)]; exact h.ctb
  · intro j hj; rw [up_o (by omega), up_k (by omega)]; exact h.kn j hj
  · intro j hj; rw [up_k (by omega)]; exact h.knb j hj
  · intro j hj; rw [up_o (by omega), up_k (by omega)]; exact h.kp j hj
  · intro j hj; rw [up_k (by omega)]; exact h.kpb j hj
  · intro j k hj hk hb
    rw [up_k (by omega)] at hb
    by_cases e : j = i ∧ k = w
    · have q := h.st j k hj hk hb
      obtain ⟨rfl, rfl⟩ := e
      unfold SA at q ⊢
      rw [up_o (by omega), up_e, up_k (by omega), up_k (b := 97 + (8 * j + k)) (by omega), up_e, lnF_0]
      exact ⟨⟨q.1.1, by omega, by omega⟩, q.2.1, rfl⟩
    · exact (h.st j k hj hk hb).cg (fun a _ => by rw [up_v, if_neg (by omega)]) (fun a _ => by rw [up_k (by omega)])
  · intro j k hj hk
    have q := h.agb j k hj hk
    rw [up_k (o := 5) (b := 97 + (8 * j + k)) (by omega)]
    by_cases e : j = i ∧ k = w
    · rw [e.1, e.2] at q ⊢; rw [up_e]; omega
    · rw [up_k (by omega)]; exact h.lnb j k hj hk
  · intro j k hj hk; rw [up_k (by omega)]; exact h.agb j k hj hk
/-- a strand begun today -/
theorem PR.sBg (h : PR p σ τ W N D E) {i w : Nat} (hi : i < N) (hw : w < W) {x : Int} (h0 : 0 ≤ x) (h1 : x < 2 ^ W) (hx : ∀ k : Nat, k < W → k ≠ w → an32 (sr32 x k) 1 = 1 → an32 (sr32 (τ 5 (43 + i)) k) 1 = 1) : PR p (up_s (up_s (up_s σ (p + 7) i x) (p + 8) (i * 8 + w) (τ 5 6)) (p + 9) (i * 8 + w) (τ 5 6)) (up_s (up_s (up_s τ 5 (43 + i) x) 5 (49 + (8 * i + w)) 0) 5 (97 + (8 * i + w)) 0) W N D E := by
  have bN := h.bN
  have bW := h.bW
  refine PR.mk (h.toPS.cg (fun k _ _ _ => by rw [up_o (by omega), up_o (by omega), up_o (by omega)]) (fun j k _ _ => by rw [up_o (by omega), up_o (by omega), up_o (by omega)]) (fun k _ _ _ => by rw [up_k (by omega), up_k (by omega), up_k (by omega)])) ?_
  refine PD.mk ?_ ?_ ?_ ?_ ?_ ?_ ?_ ?_ ?_ ?_ ?_ ?_ ?_
  · rw [up_o (by omega), up_o (by omega), up_o (by omega), up_k (by omega), up_k (by omega), up_k (by omega)]; exact h.dt
  · rw [up_k (by omega), up_k (by omega), up_k (by omega)]; exact h.dtb
  · rw [up_o (by omega), up_o (by omega), up_o (by omega), up_k (by omega), up_k (by omega), up_k (by omega)]; exact h.sd
  · rw [up_k (by omega), up_k (by omega), up_k (by omega)]; exact h.sdb
  · rw [up_o (by omega), up_o (by omega), up_o (by omega), up_k (by omega), up_k (by omega), up_k (by omega)]; exact h.ct
  · rw [up_k (by omega), up_k (by omega), up_k (by omega)]; exact h.ctb
  · intro j hj; rw [up_o (by omega), up_o (by omega), up_o (by omega), up_k (by omega), up_k (by omega), up_k (by omega)]; exact h.kn j hj
  · intro j hj; rw [up_k (by omega), up_k (by omega), up_k (by omega)]; exact h.knb j hj
  · intro j hj; rw [up_o (by omega), up_o (by omega), up_k (o := 5) (k := 97 + (8 * i + w)) (by omega), up_k (o := 5) (k := 49 + (8 * i + w)) (by omega)]; by_cases e : j = i
    · rw [e, up_e, up_e]
    · rw [up_k (by omega), up_k (by omega)]; exact h.kp j hj
  · intro j hj; rw [up_k (o := 5) (k := 97 + (8 * i + w)) (by omega), up_k (o := 5) (k := 49 + (8 * i + w)) (by omega)]; by_cases e : j = i
    · rw [e, up_e]; exact ⟨h0, h1⟩
    · rw [up_k (by omega)]; exact h.kpb j hj
  · intro j k hj hk hb
    rw [up_k (by omega), up_k (by omega)] at hb
    by_cases e : j = i ∧ k = w
    · obtain ⟨rfl, rfl⟩ := e
      unfold SA
      have q6 : ∀ x y z : Int, up_s (up_s (up_s τ 5 (43 + j) x) 5 (49 + (8 * j + k)) y) 5 (97 + (8 * j + k)) z 5 6 = τ 5 6 := fun x y z => by rw [up_k (by omega), up_k (by omega), up_k (by omega)]
      rw [q6, up_o (by omega), up_e, up_e, up_e, up_k (b := 49 + (8 * j + k)) (by omega), up_e, lnF_0]
      have := h.dtb
      exact ⟨by omega, by omega, rfl⟩
    · have hb' : an32 (sr32 (τ 5 (43 + j)) k) 1 = 1 := by
        by_cases z : j = i
        · subst z; rw [up_e] at hb; exact hx k hk (fun q => e ⟨rfl, q⟩) hb
        · rw [up_k (by omega)] at hb; exact hb
      exact (h.st j k hj hk hb').cg (fun a _ => by rw [up_v, if_neg (by omega), up_v, if_neg (by omega), up_o (by omega)]) (fun a _ => by rw [up_k (by omega), up_k (by omega), up_k (by omega)])
  · intro j k hj hk
    by_cases e : j = i ∧ k = w
    · rw [e.1, e.2, up_e, up_k (by omega), up_e]; omega
    · rw [up_k (b := 49 + (8 * j + k)) (k := 97 + (8 * i + w)) (by omega), up_k (b := 49 + (8 * j + k)) (k := 49 + (8 * i + w)) (by omega), up_k (b := 49 + (8 * j + k)) (by omega), up_k (b := 97 + (8 * j + k)) (k := 97 + (8 * i + w)) (by omega), up_k (b := 97 + (8 * j + k)) (k := 49 + (8 * i + w)) (by omega), up_k (b := 97 + (8 * j + k)) (by omega)]; exact h.lnb j k hj hk
  · intro j k hj hk
    by_cases e : j = i ∧ k = w
    · rw [e.1, e.2, up_e]; omega
    · rw [up_k (by omega), up_k (by omega), up_k (by omega)]; exact h.agb j k hj hk
theorem PR.sSd (h : PR p σ τ W N D E) {x : Int} (hx : c32 x) : PR p (up_s σ p 18 x) (up_s τ 5 7 x) W N D E := by
  have bN := h.bN
  have bW := h.bW
  refine PR.mk (h.toPS.cg (fun k _ _ _ => by rw [up_k (by omega)]) (fun j k _ _ => by rw [up_o (by omega)]) (fun k _ _ _ => by rw [up_k (by omega)])) ?_
  refine PD.mk ?_ ?_ ?_ ?_ ?_ ?_ ?_ ?_ ?_ ?_ ?_ ?_ ?_
  · rw [up_k (by omega), up_k (by omega)]; exact h.dt
  · rw [up_k (by omega)]; exact h.dtb
  · rw [up_e, up_e]
  · rw [up_e]; exact hx
  · rw [up_k (by omega), up_k (by omega)]; exact h.ct
  · rw [up_k (by omega)]; exact h.ctb
  · intro j hj; rw [up_o (by omega), up_k (by omega)]; exact h.kn j hj
  · intro j hj; rw [up_k (by omega)]; exact h.knb j hj
  · intro j hj; rw [up_o (by omega), up_k (by omega)]; exact h.kp j hj
  · intro j hj; rw [up_k (by omega)]; exact h.kpb j hj
  · intro j k hj hk hb; rw [up_k (by omega)] at hb; exact (h.st j k hj hk hb).cg (fun a _ => by rw [up_o (by omega)]) (fun a _ => by rw [up_k (by omega)])
  · intro j k hj hk; rw [up_k (by omega), up_k (by omega)]; exact h.lnb j k hj hk
  · intro j k hj hk; rw [up_k (by omega)]; exact h.agb j k hj hk
theorem PR.sCt (h : PR p σ τ W N D E) {x : Int} (hx : c32 x) : PR p (up_s σ p 19 x) (up_s τ 5 8 x) W N D E := by
  have bN := h.bN
  have bW := h.bW
  refine PR.mk (h.toPS.cg (fun k _ _ _ => by rw [up_k (by omega)]) (fun j k _ _ => by rw [up_o (by omega)]) (fun k _ _ _ => by rw [up_k (by omega)])) ?_
  refine PD.mk ?_ ?_ ?_ ?_ ?_ ?_ ?_ ?_ ?_ ?_ ?_ ?_ ?_
  · rw [up_k (by omega), up_k (by omega)]; exact h.dt
  · rw [up_k (by omega)]; exact h.dtb
  · rw [up_k (by omega), up_k (by omega)]; exact h.sd
  · rw [up_k (by omega)]; exact h.sdb
  · rw [up_e, up_e]
  · rw [up_e]; exact hx
  · intro j hj; rw [up_o (by omega), up_k (by omega)]; exact h.kn j hj
  · intro j hj; rw [up_k (by omega)]; exact h.knb j hj
  · intro j hj; rw [up_o (by omega), up_k (by omega)]; exact h.kp j hj
  · intro j hj; rw [up_k (by omega)]; exact h.kpb j hj
  · intro j k hj hk hb; rw [up_k (by omega)] at hb; exact (h.st j k hj hk hb).cg (fun a _ => by rw [up_o (by omega)]) (fun a _ => by rw [up_k (by omega)])
  · intro j k hj hk; rw [up_k (by omega), up_k (by omega)]; exact h.lnb j k hj hk
  · intro j k hj hk; rw [up_k (by omega)]; exact h.agb j k hj hk
end
