/-! the call mean -/
section
variable {σ τ σ' τ' : Sg} {W N D E : Nat}
def pm (τ : Sg) (n : Nat) : Sg := fun o k => if o = 7 ∧ k < n then τ 5 k else τ o k
def gm (τ : Sg) (n : Nat) : Sg := fun o k => if o = 5 ∧ k < n then τ 7 k else τ o k
theorem mean_p {a b : Int} {k93 : Int → Int → Sg → Rs} (τ : Sg) : M_mean_L63 a b k93 fu 0 τ = k93 0 0 (pm τ 175) := by
  have q := loopN (X := fun n k => M_mean_L63 a b k93 n k (pm τ k)) (W := 175) (R := k93 0 0 (pm τ 175)) ?_ ?_ fu (by unfold fu; omega)
  · rw [show pm τ 0 = τ by funext o k; unfold pm; rw [if_neg (by omega)]] at q; exact q
  · intro k n hk
    show M_mean_L63 a b k93 (n + 1) k _ = _
    rw [M_mean_L63, if_pos (by omega), rd_k (by omega) (by omega), wr_k (by omega) (by omega), Int.toNat_natCast, nm_k, w32_i (by omega) (by omega), suc]
    congr 1
    funext o x; rw [up_v]; unfold pm
    by_cases e : o = 7 ∧ x = k
    · rw [if_pos e, if_neg (by omega), if_pos (by omega), e.2]
    · rw [if_neg e]
      by_cases g : o = 7 ∧ x < k
      · rw [if_pos g, if_pos (by omega)]
      · rw [if_neg g, if_neg (by omega)]
  · intro n
    show M_mean_L63 a b k93 (n + 1) (175 : Nat) _ = _
    rw [M_mean_L63, if_neg (by omega)]
theorem mean_g {a b v3 v5 : Int} {k93 : Int → Int → Sg → Rs} (τ : Sg) : M_mean_L118 a b v3 v5 k93 fu 0 τ = k93 v3 (w32 (v5 + 1)) (gm τ 175) := by
  have q := loopN (X := fun n k => M_mean_L118 a b v3 v5 k93 n k (gm τ k)) (W := 175) (R := k93 v3 (w32 (v5 + 1)) (gm τ 175)) ?_ ?_ fu (by unfold fu; omega)
  · rw [show gm τ 0 = τ by funext o k; unfold gm; rw [if_neg (by omega)]] at q; exact q
  · intro k n hk
    show M_mean_L118 a b v3 v5 k93 (n + 1) k _ = _
    rw [M_mean_L118, if_pos (by omega), rd_k (by omega) (by omega), wr_k (by omega) (by omega), Int.toNat_natCast, nm_k, w32_i (by omega) (by omega), suc]
    congr 1
    funext o x; rw [up_v]; unfold gm
    by_cases e : o = 5 ∧ x = k
    · rw [if_pos e, if_neg (by omega), if_pos (by omega), e.2]
    · rw [if_neg e]
      by_cases g : o = 5 ∧ x < k
      · rw [if_pos g, if_pos (by omega)]
      · rw [if_neg g, if_neg (by omega)]
  · intro n
    show M_mean_L118 a b v3 v5 k93 (n + 1) (175 : Nat) _ = _
    rw [M_mean_L118, if_neg (by omega), nm_k]
end
