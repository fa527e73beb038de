/-! rows: an instruction each -/
section GR
variable {l : Launch} {K : Ly} {P : Nat → Nat → Nat} {own : String} {cc : ByteArray} {nL rt d pc : Nat} {lv : List (Option Pv)} {st : List Pv} {σ : Sg} {R A B : Rs}
theorem cn_c {a : Pv} {st : List Pv} (h : cn_v a) (hs : ∀ v ∈ st, cn_v v) : ∀ v ∈ a :: st, cn_v v := List.forall_mem_cons.mpr ⟨h, hs⟩
def pcat : Pv → Nat
  | .inl _ => 1
  | .inr (.inl _) => 2
  | .inr (.inr _) => 1
theorem en_cat {adr : Nat → Nat} {v : Pv} : (en_v adr v).category = pcat v := by rcases v with x | x | x <;> rfl
def stw (st : List Pv) : Nat := (st.map pcat).sum
theorem en_stw {adr : Nat → Nat} {st : List Pv} : ((st.map (en_v adr)).map fun v => v.category).sum = stw st := by
  unfold stw
  rw [List.map_map]
  congr 1
  exact List.map_congr_left fun v _ => en_cat
theorem fl_at {adr : Nat → Nat} {q : Nat → Nat} {f : Nat → Int} {ci k : Nat} (h : k < nfl ci) : (fl_v adr q f ci)[k]? = some (fv_v adr q f k (fty ci k)) := by
  unfold fl_v
  rw [List.getElem?_map, List.getElem?_range h]; rfl
theorem fl_set {adr : Nat → Nat} {q : Nat → Nat} {f : Nat → Int} {ci k : Nat} {x : Int} (v : Value) (hv : v = fv_v adr q (fun b => if b = k then x else f b) k (fty ci k)) : (fl_v adr q f ci).set k v = fl_v adr q (fun b => if b = k then x else f b) ci := by
  apply List.ext_getElem?
  intro i
  rw [List.getElem?_set]
  by_cases hi : i < nfl ci
  · rw [fl_at hi, fl_at hi]
    by_cases e : k = i
    · subst e
      rw [if_pos rfl, if_pos (by unfold fl_v; simpa using hi), hv]
    · rw [if_neg e]
      have : ∀ t, fv_v adr q f i t = fv_v adr q (fun b => if b = k then x else f b) i t := by
        intro t
        unfold fv_v
        split <;> simp [show ¬ i = k from fun q => e q.symm]
      rw [this]
  · have h1 : (fl_v adr q f ci)[i]? = none := List.getElem?_eq_none (by unfold fl_v; simpa using hi)
    have h2 : (fl_v adr q (fun b => if b = k then x else f b) ci)[i]? = none := List.getElem?_eq_none (by unfold fl_v; simpa using hi)
    rw [h1, h2]
    split
    · split
      · rename_i a b
        exfalso
        apply hi
        have : (fl_v adr q f ci).length = nfl ci := by unfold fl_v; simp
        omega
      · rfl
    · rfl
theorem up_v {σ : Sg} {o k : Nat} {x : Int} (a b : Nat) : up_s σ o k x a b = if a = o ∧ b = k then x else σ a b := by
  unfold up_s
  by_cases h : a = o <;> simp [h]
theorem cn_up {σ : Sg} {o k : Nat} {κ : Nat ⊕ (Nat × Nat)} {x : Int} (h : cn_s K σ) (ho : K[o]? = some κ) (hx : cn_k κ k x) : cn_s K (up_s σ o k x) := by
  intro a κ' ha j
  rw [up_v]
  by_cases e : a = o ∧ j = k
  · obtain ⟨rfl, rfl⟩ := e
    rw [if_pos ⟨rfl, rfl⟩]
    cases ho.symm.trans ha
    exact hx
  · rw [if_neg e]
    exact h a κ' ha j
theorem up_at {σ : Sg} {o k : Nat} {x : Int} : up_s σ o k x o = fun b => if b = k then x else σ o b := by unfold up_s; rw [if_pos rfl]
theorem up_off {σ : Sg} {o k : Nat} {x : Int} {a : Nat} (h : a ≠ o) : up_s σ o k x a = σ a := by unfold up_s; rw [if_neg h]
theorem g_iconst {n : Int} (hd : decode cc pc = .ok (.iconst n, 1)) (hn : -2147483648 ≤ n ∧ n < 2147483648) (kk : G l K P own cc nL rt d (pc + 1) lv (.inl n :: st) σ R) : G l K P own cc nL rt d pc lv st σ R := by
  intro p e s m args below meth c adr D dA r σ' ok H locs ls hin hl hst hR
  obtain ⟨hx, hb, hml, hown, hT, hK, hr, hlk, hs⟩ := id ok
  exact lv_iconst hx hb hd rfl (kk p e s m args below meth c adr D dA r σ' ok H locs ls hin hl (cn_c hn hst) hR)
theorem g_bipush {n : Int} (hd : decode cc pc = .ok (.bipush n, 2)) (hn : (-128 ≤ n ∧ n < 128) ∧ (Int8.ofInt n).toInt32 = Int32.ofInt n) (kk : G l K P own cc nL rt d (pc + 2) lv (.inl n :: st) σ R) : G l K P own cc nL rt d pc lv st σ R := by
  intro p e s m args below meth c adr D dA r σ' ok H locs ls hin hl hst hR
  obtain ⟨hx, hb, hml, hown, hT, hK, hr, hlk, hs⟩ := id ok
  exact lv_bipush hx hb hd hn.2 (kk p e s m args below meth c adr D dA r σ' ok H locs ls hin hl (cn_c (show c32 n by unfold c32; omega) hst) hR)
theorem g_sipush {n : Int} (hd : decode cc pc = .ok (.sipush n, 3)) (hn : (-32768 ≤ n ∧ n < 32768) ∧ (Int16.ofInt n).toInt32 = Int32.ofInt n) (kk : G l K P own cc nL rt d (pc + 3) lv (.inl n :: st) σ R) : G l K P own cc nL rt d pc lv st σ R := by
  intro p e s m args below meth c adr D dA r σ' ok H locs ls hin hl hst hR
  obtain ⟨hx, hb, hml, hown, hT, hK, hr, hlk, hs⟩ := id ok
  exact lv_sipush hx hb hd hn.2 (kk p e s m args below meth c adr D dA r σ' ok H locs ls hin hl (cn_c (show c32 n by unfold c32; omega) hst) hR)
theorem g_lconst {n : Fin 2} {v : Int} (hd : decode cc pc = .ok (.lconst n, 1)) (hn : (-128 ≤ v ∧ v < 128) ∧ Int64.ofNat (n : Nat) = Int64.ofInt v) (kk : G l K P own cc nL rt d (pc + 1) lv (.inr (.inl v) :: st) σ R) : G l K P own cc nL rt d pc lv st σ R := by
  intro p e s m args below meth c adr D dA r σ' ok H locs ls hin hl hst hR
  obtain ⟨hx, hb, hml, hown, hT, hK, hr, hlk, hs⟩ := id ok
  exact lv_lconst hx hb hd hn.2 (kk p e s m args below meth c adr D dA r σ' ok H locs ls hin hl (cn_c (show c64 v by unfold c64; omega) hst) hR)
theorem g_ldc {idx : Nat} {n : Int} (hw : Cond.constant own idx (Int32.ofInt n) ∈ tbf) (hn : -2147483648 ≤ n ∧ n < 2147483648) (hd : decode cc pc = .ok (.ldc idx, 2)) (kk : G l K P own cc nL rt d (pc + 2) lv (.inl n :: st) σ R) : G l K P own cc nL rt d pc lv st σ R := by
  intro p e s m args below meth c adr D dA r σ' ok H locs ls hin hl hst hR
  obtain ⟨hx, hb, hml, hown, hT, hK, hr, hlk, hs⟩ := id ok
  exact lv_ldc hx hb hown (hT.hts _ hw) hd (kk p e s m args below meth c adr D dA r σ' ok H locs ls hin hl (cn_c hn hst) hR)
theorem g_ldcw {idx : Nat} {n : Int} (hw : Cond.constant own idx (Int32.ofInt n) ∈ tbf) (hn : -2147483648 ≤ n ∧ n < 2147483648) (hd : decode cc pc = .ok (.ldc_w idx, 3)) (kk : G l K P own cc nL rt d (pc + 3) lv (.inl n :: st) σ R) : G l K P own cc nL rt d pc lv st σ R := by
  intro p e s m args below meth c adr D dA r σ' ok H locs ls hin hl hst hR
  obtain ⟨hx, hb, hml, hown, hT, hK, hr, hlk, hs⟩ := id ok
  exact lv_ldcw hx hb hown (hT.hts _ hw) hd (kk p e s m args below meth c adr D dA r σ' ok H locs ls hin hl (cn_c hn hst) hR)
theorem g_ldc2 {idx : Nat} {n : Int} (hw : Cond.constantLong own idx (Int64.ofInt n) ∈ tbf) (hn : -9223372036854775808 ≤ n ∧ n < 9223372036854775808) (hd : decode cc pc = .ok (.ldc2_w idx, 3)) (kk : G l K P own cc nL rt d (pc + 3) lv (.inr (.inl n) :: st) σ R) : G l K P own cc nL rt d pc lv st σ R := by
  intro p e s m args below meth c adr D dA r σ' ok H locs ls hin hl hst hR
  obtain ⟨hx, hb, hml, hown, hT, hK, hr, hlk, hs⟩ := id ok
  exact lv_ldc2 hx hb hown (hT.hts _ hw) hd (kk p e s m args below meth c adr D dA r σ' ok H locs ls hin hl (cn_c hn hst) hR)
theorem g_iload_n {k : Fin 4} {i : Nat} {x : Int} (hd : decode cc pc = .ok (.iload_n k, 1)) (hk : (k : Nat) = i) (hi : lv[i]? = some (some (.inl x))) (kk : G l K P own cc nL rt d (pc + 1) lv (.inl x :: st) σ R) : G l K P own cc nL rt d pc lv st σ R := by
  intro p e s m args below meth c adr D dA r σ' ok H locs ls hin hl hst hR
  obtain ⟨hx, hb, hml, hown, hT, hK, hr, hlk, hs⟩ := id ok
  exact lv_iload_n hx hb hd hk (hl.at_ hi) (kk p e s m args below meth c adr D dA r σ' ok H locs ls hin hl (cn_c (hl.cn hi) hst) hR)
theorem g_iload {i : Nat} {x : Int} (hd : decode cc pc = .ok (.iload i, 2)) (hi : lv[i]? = some (some (.inl x))) (kk : G l K P own cc nL rt d (pc + 2) lv (.inl x :: st) σ R) : G l K P own cc nL rt d pc lv st σ R := by
  intro p e s m args below meth c adr D dA r σ' ok H locs ls hin hl hst hR
  obtain ⟨hx, hb, hml, hown, hT, hK, hr, hlk, hs⟩ := id ok
  exact lv_iload hx hb hd (hl.at_ hi) (kk p e s m args below meth c adr D dA r σ' ok H locs ls hin hl (cn_c (hl.cn hi) hst) hR)
theorem g_lload_n {k : Fin 4} {i : Nat} {x : Int} (hd : decode cc pc = .ok (.lload_n k, 1)) (hk : (k : Nat) = i) (hi : lv[i]? = some (some (.inr (.inl x)))) (kk : G l K P own cc nL rt d (pc + 1) lv (.inr (.inl x) :: st) σ R) : G l K P own cc nL rt d pc lv st σ R := by
  intro p e s m args below meth c adr D dA r σ' ok H locs ls hin hl hst hR
  obtain ⟨hx, hb, hml, hown, hT, hK, hr, hlk, hs⟩ := id ok
  exact lv_lload_n hx hb hd hk (hl.at_ hi) (kk p e s m args below meth c adr D dA r σ' ok H locs ls hin hl (cn_c (hl.cn hi) hst) hR)
theorem g_lload {i : Nat} {x : Int} (hd : decode cc pc = .ok (.lload i, 2)) (hi : lv[i]? = some (some (.inr (.inl x)))) (kk : G l K P own cc nL rt d (pc + 2) lv (.inr (.inl x) :: st) σ R) : G l K P own cc nL rt d pc lv st σ R := by
  intro p e s m args below meth c adr D dA r σ' ok H locs ls hin hl hst hR
  obtain ⟨hx, hb, hml, hown, hT, hK, hr, hlk, hs⟩ := id ok
  exact lv_lload hx hb hd (hl.at_ hi) (kk p e s m args below meth c adr D dA r σ' ok H locs ls hin hl (cn_c (hl.cn hi) hst) hR)
theorem g_aload_n {k : Fin 4} {i : Nat} {x : Nat} (hd : decode cc pc = .ok (.aload_n k, 1)) (hk : (k : Nat) = i) (hi : lv[i]? = some (some (.inr (.inr x)))) (kk : G l K P own cc nL rt d (pc + 1) lv (.inr (.inr x) :: st) σ R) : G l K P own cc nL rt d pc lv st σ R := by
  intro p e s m args below meth c adr D dA r σ' ok H locs ls hin hl hst hR
  obtain ⟨hx, hb, hml, hown, hT, hK, hr, hlk, hs⟩ := id ok
  exact lv_aload_n hx hb hd hk (hl.at_ hi) (kk p e s m args below meth c adr D dA r σ' ok H locs ls hin hl (cn_c (hl.cn hi) hst) hR)
theorem g_aload {i : Nat} {x : Nat} (hd : decode cc pc = .ok (.aload i, 2)) (hi : lv[i]? = some (some (.inr (.inr x)))) (kk : G l K P own cc nL rt d (pc + 2) lv (.inr (.inr x) :: st) σ R) : G l K P own cc nL rt d pc lv st σ R := by
  intro p e s m args below meth c adr D dA r σ' ok H locs ls hin hl hst hR
  obtain ⟨hx, hb, hml, hown, hT, hK, hr, hlk, hs⟩ := id ok
  exact lv_aload hx hb hd (hl.at_ hi) (kk p e s m args below meth c adr D dA r σ' ok H locs ls hin hl (cn_c (hl.cn hi) hst) hR)
theorem g_istore_n {k : Fin 4} {i : Nat} {x : Int} {lv' : List (Option Pv)} (hd : decode cc pc = .ok (.istore_n k, 1)) (hk : (k : Nat) = i) (hn : i < nL) (hl' : s1_l lv i (.inl x) = lv') (kk : G l K P own cc nL rt d (pc + 1) lv' st σ R) : G l K P own cc nL rt d pc lv (.inl x :: st) σ R := by
  intro p e s m args below meth c adr D dA r σ' ok H locs ls hin hl hst hR
  obtain ⟨hx, hb, hml, hown, hT, hK, hr, hlk, hs⟩ := id ok
  obtain ⟨h0, hst⟩ := List.forall_mem_cons.mp hst
  exact lv_istore_n hx hb hd hk hl.1 hn rfl (fun ls' hl2 => kk p e s m args below meth c adr D dA r σ' ok H locs ls' hin (hl' ▸ LR.s1 (w := .inl x) h0 hl.2 hl2) hst hR)
theorem n_istore_n {k : Fin 4} {i : Nat} {x : Int} {F : Int → Rs} (lf : Int → List (Option Pv)) (hd : decode cc pc = .ok (.istore_n k, 1)) (hk : (k : Nat) = i) (hn : i < nL) (hl' : ∀ y, s1_l lv i (.inl y) = lf y) (kk : ∀ y, G l K P own cc nL rt d (pc + 1) (lf y) st σ (F y)) : G l K P own cc nL rt d pc lv (.inl x :: st) σ (nm x F) := g_istore_n hd hk hn (hl' x) (kk x)
theorem g_istore {i : Nat} {x : Int} {lv' : List (Option Pv)} (hd : decode cc pc = .ok (.istore i, 2)) (hn : i < nL) (hl' : s1_l lv i (.inl x) = lv') (kk : G l K P own cc nL rt d (pc + 2) lv' st σ R) : G l K P own cc nL rt d pc lv (.inl x :: st) σ R := by
  intro p e s m args below meth c adr D dA r σ' ok H locs ls hin hl hst hR
  obtain ⟨hx, hb, hml, hown, hT, hK, hr, hlk, hs⟩ := id ok
  obtain ⟨h0, hst⟩ := List.forall_mem_cons.mp hst
  exact lv_istore hx hb hd hl.1 hn rfl (fun ls' hl2 => kk p e s m args below meth c adr D dA r σ' ok H locs ls' hin (hl' ▸ LR.s1 (w := .inl x) h0 hl.2 hl2) hst hR)
theorem n_istore {i : Nat} {x : Int} {F : Int → Rs} (lf : Int → List (Option Pv)) (hd : decode cc pc = .ok (.istore i, 2)) (hn : i < nL) (hl' : ∀ y, s1_l lv i (.inl y) = lf y) (kk : ∀ y, G l K P own cc nL rt d (pc + 2) (lf y) st σ (F y)) : G l K P own cc nL rt d pc lv (.inl x :: st) σ (nm x F) := g_istore hd hn (hl' x) (kk x)
theorem g_astore_n {k : Fin 4} {i : Nat} {x : Nat} {lv' : List (Option Pv)} (hd : decode cc pc = .ok (.astore_n k, 1)) (hk : (k : Nat) = i) (hn : i < nL) (hl' : s1_l lv i (.inr (.inr x)) = lv') (kk : G l K P own cc nL rt d (pc + 1) lv' st σ R) : G l K P own cc nL rt d pc lv (.inr (.inr x) :: st) σ R := by
  intro p e s m args below meth c adr D dA r σ' ok H locs ls hin hl hst hR
  obtain ⟨hx, hb, hml, hown, hT, hK, hr, hlk, hs⟩ := id ok
  obtain ⟨h0, hst⟩ := List.forall_mem_cons.mp hst
  exact lv_astore_n hx hb hd hk hl.1 hn rfl (fun ls' hl2 => kk p e s m args below meth c adr D dA r σ' ok H locs ls' hin (hl' ▸ LR.s1 (w := .inr (.inr x)) h0 hl.2 hl2) hst hR)
theorem g_astore {i : Nat} {x : Nat} {lv' : List (Option Pv)} (hd : decode cc pc = .ok (.astore i, 2)) (hn : i < nL) (hl' : s1_l lv i (.inr (.inr x)) = lv') (kk : G l K P own cc nL rt d (pc + 2) lv' st σ R) : G l K P own cc nL rt d pc lv (.inr (.inr x) :: st) σ R := by
  intro p e s m args below meth c adr D dA r σ' ok H locs ls hin hl hst hR
  obtain ⟨hx, hb, hml, hown, hT, hK, hr, hlk, hs⟩ := id ok
  obtain ⟨h0, hst⟩ := List.forall_mem_cons.mp hst
  exact lv_astore hx hb hd hl.1 hn rfl (fun ls' hl2 => kk p e s m args below meth c adr D dA r σ' ok H locs ls' hin (hl' ▸ LR.s1 (w := .inr (.inr x)) h0 hl.2 hl2) hst hR)
theorem g_lstore_n {k : Fin 4} {i : Nat} {x : Int} {lv' : List (Option Pv)} (hd : decode cc pc = .ok (.lstore_n k, 1)) (hk : (k : Nat) = i) (hn : i + 1 < nL) (hl' : s2_l lv i (.inr (.inl x)) = lv') (kk : G l K P own cc nL rt d (pc + 1) lv' st σ R) : G l K P own cc nL rt d pc lv (.inr (.inl x) :: st) σ R := by
  intro p e s m args below meth c adr D dA r σ' ok H locs ls hin hl hst hR
  obtain ⟨hx, hb, hml, hown, hT, hK, hr, hlk, hs⟩ := id ok
  obtain ⟨h0, hst⟩ := List.forall_mem_cons.mp hst
  exact lv_lstore_n hx hb hd hk hl.1 hn rfl (fun ls' hl2 => kk p e s m args below meth c adr D dA r σ' ok H locs ls' hin (hl' ▸ LR.s2 (w := .inr (.inl x)) h0 hl.2 hl2) hst hR)
theorem n_lstore_n {k : Fin 4} {i : Nat} {x : Int} {F : Int → Rs} (lf : Int → List (Option Pv)) (hd : decode cc pc = .ok (.lstore_n k, 1)) (hk : (k : Nat) = i) (hn : i + 1 < nL) (hl' : ∀ y, s2_l lv i (.inr (.inl y)) = lf y) (kk : ∀ y, G l K P own cc nL rt d (pc + 1) (lf y) st σ (F y)) : G l K P own cc nL rt d pc lv (.inr (.inl x) :: st) σ (nm x F) := g_lstore_n hd hk hn (hl' x) (kk x)
theorem g_lstore {i : Nat} {x : Int} {lv' : List (Option Pv)} (hd : decode cc pc = .ok (.lstore i, 2)) (hn : i + 1 < nL) (hl' : s2_l lv i (.inr (.inl x)) = lv') (kk : G l K P own cc nL rt d (pc + 2) lv' st σ R) : G l K P own cc nL rt d pc lv (.inr (.inl x) :: st) σ R := by
  intro p e s m args below meth c adr D dA r σ' ok H locs ls hin hl hst hR
  obtain ⟨hx, hb, hml, hown, hT, hK, hr, hlk, hs⟩ := id ok
  obtain ⟨h0, hst⟩ := List.forall_mem_cons.mp hst
  exact lv_lstore hx hb hd hl.1 hn rfl (fun ls' hl2 => kk p e s m args below meth c adr D dA r σ' ok H locs ls' hin (hl' ▸ LR.s2 (w := .inr (.inl x)) h0 hl.2 hl2) hst hR)
theorem n_lstore {i : Nat} {x : Int} {F : Int → Rs} (lf : Int → List (Option Pv)) (hd : decode cc pc = .ok (.lstore i, 2)) (hn : i + 1 < nL) (hl' : ∀ y, s2_l lv i (.inr (.inl y)) = lf y) (kk : ∀ y, G l K P own cc nL rt d (pc + 2) (lf y) st σ (F y)) : G l K P own cc nL rt d pc lv (.inr (.inl x) :: st) σ (nm x F) := g_lstore hd hn (hl' x) (kk x)
theorem g_iinc {i : Nat} {n x : Int} {lv' : List (Option Pv)} (hd : decode cc pc = .ok (.iinc i n, 3)) (hi : lv[i]? = some (some (.inl x))) (hn : i < nL) (hl' : s1_l lv i (.inl (w32 (x + n))) = lv') (kk : G l K P own cc nL rt d (pc + 3) lv' st σ R) : G l K P own cc nL rt d pc lv st σ R := by
  intro p e s m args below meth c adr D dA r σ' ok H locs ls hin hl hst hR
  obtain ⟨hx, hb, hml, hown, hT, hK, hr, hlk, hs⟩ := id ok
  obtain ⟨j, hj⟩ := List.getElem?_of_mem (prs_mem.mpr ⟨i, .inl x, hi, rfl⟩ : ((0 + i, en_v adr (.inl x)) : Nat × Value) ∈ prs adr 0 lv)
  rw [Nat.zero_add] at hj
  exact lv_iinc (lv := prs adr 0 lv) (x := Int32.ofInt x) (v := Int32.ofInt (w32 (x + n))) hx hb hd hl.1 hj (by rw [i32_add]) hn rfl (fun ls' hl2 => kk p e s m args below meth c adr D dA r σ' ok H locs ls' hin (hl' ▸ LR.s1 (w := .inl (w32 (x + n))) (w32_c _) hl.2 hl2) hst hR)
theorem n_iinc {i : Nat} {n x : Int} {F : Int → Rs} (lf : Int → List (Option Pv)) (hd : decode cc pc = .ok (.iinc i n, 3)) (hi : lv[i]? = some (some (.inl x))) (hn : i < nL) (hl' : ∀ y, s1_l lv i (.inl y) = lf y) (kk : ∀ y, G l K P own cc nL rt d (pc + 3) (lf y) st σ (F y)) : G l K P own cc nL rt d pc lv st σ (nm (w32 (x + n)) F) := g_iinc hd hi hn (hl' _) (kk _)
theorem g_iadd {x y : Int} (hd : decode cc pc = .ok (.iadd, 1)) (kk : G l K P own cc nL rt d (pc + 1) lv (.inl (w32 (x + y)) :: st) σ R) : G l K P own cc nL rt d pc lv (.inl y :: .inl x :: st) σ R := by
  intro p e s m args below meth c adr D dA r σ' ok H locs ls hin hl hst hR
  obtain ⟨hx, hb, hml, hown, hT, hK, hr, hlk, hs⟩ := id ok
  obtain ⟨h0, hst⟩ := List.forall_mem_cons.mp hst
  obtain ⟨h1, hst⟩ := List.forall_mem_cons.mp hst
  refine lv_iadd hx hb hd ?_
  rw [← i32_add]
  exact kk p e s m args below meth c adr D dA r σ' ok H locs ls hin hl (cn_c (w32_c _) hst) hR
theorem g_isub {x y : Int} (hd : decode cc pc = .ok (.isub, 1)) (kk : G l K P own cc nL rt d (pc + 1) lv (.inl (w32 (x - y)) :: st) σ R) : G l K P own cc nL rt d pc lv (.inl y :: .inl x :: st) σ R := by
  intro p e s m args below meth c adr D dA r σ' ok H locs ls hin hl hst hR
  obtain ⟨hx, hb, hml, hown, hT, hK, hr, hlk, hs⟩ := id ok
  obtain ⟨h0, hst⟩ := List.forall_mem_cons.mp hst
  obtain ⟨h1, hst⟩ := List.forall_mem_cons.mp hst
  refine lv_isub hx hb hd ?_
  rw [← i32_sub]
  exact kk p e s m args below meth c adr D dA r σ' ok H locs ls hin hl (cn_c (w32_c _) hst) hR
theorem g_imul {x y : Int} (hd : decode cc pc = .ok (.imul, 1)) (kk : G l K P own cc nL rt d (pc + 1) lv (.inl (w32 (x * y)) :: st) σ R) : G l K P own cc nL rt d pc lv (.inl y :: .inl x :: st) σ R := by
  intro p e s m args below meth c adr D dA r σ' ok H locs ls hin hl hst hR
  obtain ⟨hx, hb, hml, hown, hT, hK, hr, hlk, hs⟩ := id ok
  obtain ⟨h0, hst⟩ := List.forall_mem_cons.mp hst
  obtain ⟨h1, hst⟩ := List.forall_mem_cons.mp hst
  refine lv_imul hx hb hd ?_
  rw [← i32_mul]
  exact kk p e s m args below meth c adr D dA r σ' ok H locs ls hin hl (cn_c (w32_c _) hst) hR
theorem g_ladd {x y : Int} (hd : decode cc pc = .ok (.ladd, 1)) (kk : G l K P own cc nL rt d (pc + 1) lv (.inr (.inl (w64 (x + y))) :: st) σ R) : G l K P own cc nL rt d pc lv (.inr (.inl y) :: .inr (.inl x) :: st) σ R := by
  intro p e s m args below meth c adr D dA r σ' ok H locs ls hin hl hst hR
  obtain ⟨hx, hb, hml, hown, hT, hK, hr, hlk, hs⟩ := id ok
  obtain ⟨h0, hst⟩ := List.forall_mem_cons.mp hst
  obtain ⟨h1, hst⟩ := List.forall_mem_cons.mp hst
  refine lv_ladd hx hb hd ?_
  rw [← i64_add]
  exact kk p e s m args below meth c adr D dA r σ' ok H locs ls hin hl (cn_c (w64_c _) hst) hR
theorem g_lsub {x y : Int} (hd : decode cc pc = .ok (.lsub, 1)) (kk : G l K P own cc nL rt d (pc + 1) lv (.inr (.inl (w64 (x - y))) :: st) σ R) : G l K P own cc nL rt d pc lv (.inr (.inl y) :: .inr (.inl x) :: st) σ R := by
  intro p e s m args below meth c adr D dA r σ' ok H locs ls hin hl hst hR
  obtain ⟨hx, hb, hml, hown, hT, hK, hr, hlk, hs⟩ := id ok
  obtain ⟨h0, hst⟩ := List.forall_mem_cons.mp hst
  obtain ⟨h1, hst⟩ := List.forall_mem_cons.mp hst
  refine lv_lsub hx hb hd ?_
  rw [← i64_sub]
  exact kk p e s m args below meth c adr D dA r σ' ok H locs ls hin hl (cn_c (w64_c _) hst) hR
theorem g_lmul {x y : Int} (hd : decode cc pc = .ok (.lmul, 1)) (kk : G l K P own cc nL rt d (pc + 1) lv (.inr (.inl (w64 (x * y))) :: st) σ R) : G l K P own cc nL rt d pc lv (.inr (.inl y) :: .inr (.inl x) :: st) σ R := by
  intro p e s m args below meth c adr D dA r σ' ok H locs ls hin hl hst hR
  obtain ⟨hx, hb, hml, hown, hT, hK, hr, hlk, hs⟩ := id ok
  obtain ⟨h0, hst⟩ := List.forall_mem_cons.mp hst
  obtain ⟨h1, hst⟩ := List.forall_mem_cons.mp hst
  refine lv_lmul hx hb hd ?_
  rw [← i64_mul]
  exact kk p e s m args below meth c adr D dA r σ' ok H locs ls hin hl (cn_c (w64_c _) hst) hR
theorem g_iand {x y : Int} (hd : decode cc pc = .ok (.iand, 1)) (kk : G l K P own cc nL rt d (pc + 1) lv (.inl (an32 x y) :: st) σ R) : G l K P own cc nL rt d pc lv (.inl y :: .inl x :: st) σ R := by
  intro p e s m args below meth c adr D dA r σ' ok H locs ls hin hl hst hR
  obtain ⟨hx, hb, hml, hown, hT, hK, hr, hlk, hs⟩ := id ok
  obtain ⟨h0, hst⟩ := List.forall_mem_cons.mp hst
  obtain ⟨h1, hst⟩ := List.forall_mem_cons.mp hst
  refine lv_iand hx hb hd ?_
  rw [show Int32.ofInt x &&& Int32.ofInt y = Int32.ofInt (an32 x y) from (Int32.ofInt_toInt _).symm]
  exact kk p e s m args below meth c adr D dA r σ' ok H locs ls hin hl (cn_c (i32_c _) hst) hR
theorem g_ior {x y : Int} (hd : decode cc pc = .ok (.ior, 1)) (kk : G l K P own cc nL rt d (pc + 1) lv (.inl (or32 x y) :: st) σ R) : G l K P own cc nL rt d pc lv (.inl y :: .inl x :: st) σ R := by
  intro p e s m args below meth c adr D dA r σ' ok H locs ls hin hl hst hR
  obtain ⟨hx, hb, hml, hown, hT, hK, hr, hlk, hs⟩ := id ok
  obtain ⟨h0, hst⟩ := List.forall_mem_cons.mp hst
  obtain ⟨h1, hst⟩ := List.forall_mem_cons.mp hst
  refine lv_ior hx hb hd ?_
  rw [show Int32.ofInt x ||| Int32.ofInt y = Int32.ofInt (or32 x y) from (Int32.ofInt_toInt _).symm]
  exact kk p e s m args below meth c adr D dA r σ' ok H locs ls hin hl (cn_c (i32_c _) hst) hR
theorem g_ixor {x y : Int} (hd : decode cc pc = .ok (.ixor, 1)) (kk : G l K P own cc nL rt d (pc + 1) lv (.inl (xo32 x y) :: st) σ R) : G l K P own cc nL rt d pc lv (.inl y :: .inl x :: st) σ R := by
  intro p e s m args below meth c adr D dA r σ' ok H locs ls hin hl hst hR
  obtain ⟨hx, hb, hml, hown, hT, hK, hr, hlk, hs⟩ := id ok
  obtain ⟨h0, hst⟩ := List.forall_mem_cons.mp hst
  obtain ⟨h1, hst⟩ := List.forall_mem_cons.mp hst
  refine lv_ixor hx hb hd ?_
  rw [show Int32.ofInt x ^^^ Int32.ofInt y = Int32.ofInt (xo32 x y) from (Int32.ofInt_toInt _).symm]
  exact kk p e s m args below meth c adr D dA r σ' ok H locs ls hin hl (cn_c (i32_c _) hst) hR
theorem g_land {x y : Int} (hd : decode cc pc = .ok (.land, 1)) (kk : G l K P own cc nL rt d (pc + 1) lv (.inr (.inl (an64 x y)) :: st) σ R) : G l K P own cc nL rt d pc lv (.inr (.inl y) :: .inr (.inl x) :: st) σ R := by
  intro p e s m args below meth c adr D dA r σ' ok H locs ls hin hl hst hR
  obtain ⟨hx, hb, hml, hown, hT, hK, hr, hlk, hs⟩ := id ok
  obtain ⟨h0, hst⟩ := List.forall_mem_cons.mp hst
  obtain ⟨h1, hst⟩ := List.forall_mem_cons.mp hst
  refine lv_land hx hb hd ?_
  rw [show Int64.ofInt x &&& Int64.ofInt y = Int64.ofInt (an64 x y) from (Int64.ofInt_toInt _).symm]
  exact kk p e s m args below meth c adr D dA r σ' ok H locs ls hin hl (cn_c (i64_c _) hst) hR
theorem g_lor {x y : Int} (hd : decode cc pc = .ok (.lor, 1)) (kk : G l K P own cc nL rt d (pc + 1) lv (.inr (.inl (or64 x y)) :: st) σ R) : G l K P own cc nL rt d pc lv (.inr (.inl y) :: .inr (.inl x) :: st) σ R := by
  intro p e s m args below meth c adr D dA r σ' ok H locs ls hin hl hst hR
  obtain ⟨hx, hb, hml, hown, hT, hK, hr, hlk, hs⟩ := id ok
  obtain ⟨h0, hst⟩ := List.forall_mem_cons.mp hst
  obtain ⟨h1, hst⟩ := List.forall_mem_cons.mp hst
  refine lv_lor hx hb hd ?_
  rw [show Int64.ofInt x ||| Int64.ofInt y = Int64.ofInt (or64 x y) from (Int64.ofInt_toInt _).symm]
  exact kk p e s m args below meth c adr D dA r σ' ok H locs ls hin hl (cn_c (i64_c _) hst) hR
theorem g_ishl {x y : Int} (hd : decode cc pc = .ok (.ishl, 1)) (kk : G l K P own cc nL rt d (pc + 1) lv (.inl (sl32 x y) :: st) σ R) : G l K P own cc nL rt d pc lv (.inl y :: .inl x :: st) σ R := by
  intro p e s m args below meth c adr D dA r σ' ok H locs ls hin hl hst hR
  obtain ⟨hx, hb, hml, hown, hT, hK, hr, hlk, hs⟩ := id ok
  obtain ⟨h0, hst⟩ := List.forall_mem_cons.mp hst
  obtain ⟨h1, hst⟩ := List.forall_mem_cons.mp hst
  refine lv_ishl hx hb hd ?_
  rw [show Int32.ofInt x <<< (Int32.ofInt y &&& 31) = Int32.ofInt (sl32 x y) from (Int32.ofInt_toInt _).symm]
  exact kk p e s m args below meth c adr D dA r σ' ok H locs ls hin hl (cn_c (i32_c _) hst) hR
theorem g_ishr {x y : Int} (hd : decode cc pc = .ok (.ishr, 1)) (kk : G l K P own cc nL rt d (pc + 1) lv (.inl (sr32 x y) :: st) σ R) : G l K P own cc nL rt d pc lv (.inl y :: .inl x :: st) σ R := by
  intro p e s m args below meth c adr D dA r σ' ok H locs ls hin hl hst hR
  obtain ⟨hx, hb, hml, hown, hT, hK, hr, hlk, hs⟩ := id ok
  obtain ⟨h0, hst⟩ := List.forall_mem_cons.mp hst
  obtain ⟨h1, hst⟩ := List.forall_mem_cons.mp hst
  refine lv_ishr hx hb hd ?_
  rw [show Int32.ofInt x >>> (Int32.ofInt y &&& 31) = Int32.ofInt (sr32 x y) from (Int32.ofInt_toInt _).symm]
  exact kk p e s m args below meth c adr D dA r σ' ok H locs ls hin hl (cn_c (i32_c _) hst) hR
theorem g_iushr {x y : Int} (hd : decode cc pc = .ok (.iushr, 1)) (kk : G l K P own cc nL rt d (pc + 1) lv (.inl (su32 x y) :: st) σ R) : G l K P own cc nL rt d pc lv (.inl y :: .inl x :: st) σ R := by
  intro p e s m args below meth c adr D dA r σ' ok H locs ls hin hl hst hR
  obtain ⟨hx, hb, hml, hown, hT, hK, hr, hlk, hs⟩ := id ok
  obtain ⟨h0, hst⟩ := List.forall_mem_cons.mp hst
  obtain ⟨h1, hst⟩ := List.forall_mem_cons.mp hst
  exact lv_iushr hx hb hd (Int32.ofInt_toInt _).symm (kk p e s m args below meth c adr D dA r σ' ok H locs ls hin hl (cn_c (i32_c _) hst) hR)
theorem g_lshl {x y : Int} (hd : decode cc pc = .ok (.lshl, 1)) (kk : G l K P own cc nL rt d (pc + 1) lv (.inr (.inl (sl64 x y)) :: st) σ R) : G l K P own cc nL rt d pc lv (.inl y :: .inr (.inl x) :: st) σ R := by
  intro p e s m args below meth c adr D dA r σ' ok H locs ls hin hl hst hR
  obtain ⟨hx, hb, hml, hown, hT, hK, hr, hlk, hs⟩ := id ok
  obtain ⟨h0, hst⟩ := List.forall_mem_cons.mp hst
  obtain ⟨h1, hst⟩ := List.forall_mem_cons.mp hst
  exact lv_lshl hx hb hd (Int64.ofInt_toInt _).symm (kk p e s m args below meth c adr D dA r σ' ok H locs ls hin hl (cn_c (i64_c _) hst) hR)
theorem g_lshr {x y : Int} (hd : decode cc pc = .ok (.lshr, 1)) (kk : G l K P own cc nL rt d (pc + 1) lv (.inr (.inl (sr64 x y)) :: st) σ R) : G l K P own cc nL rt d pc lv (.inl y :: .inr (.inl x) :: st) σ R := by
  intro p e s m args below meth c adr D dA r σ' ok H locs ls hin hl hst hR
  obtain ⟨hx, hb, hml, hown, hT, hK, hr, hlk, hs⟩ := id ok
  obtain ⟨h0, hst⟩ := List.forall_mem_cons.mp hst
  obtain ⟨h1, hst⟩ := List.forall_mem_cons.mp hst
  exact lv_lshr hx hb hd (Int64.ofInt_toInt _).symm (kk p e s m args below meth c adr D dA r σ' ok H locs ls hin hl (cn_c (i64_c _) hst) hR)
theorem g_i2b {x : Int} (hd : decode cc pc = .ok (.i2b, 1)) (kk : G l K P own cc nL rt d (pc + 1) lv (.inl (b32 x) :: st) σ R) : G l K P own cc nL rt d pc lv (.inl x :: st) σ R := by
  intro p e s m args below meth c adr D dA r σ' ok H locs ls hin hl hst hR
  obtain ⟨hx, hb, hml, hown, hT, hK, hr, hlk, hs⟩ := id ok
  obtain ⟨h0, hst⟩ := List.forall_mem_cons.mp hst
  exact lv_i2b hx hb hd (Int32.ofInt_toInt _).symm (kk p e s m args below meth c adr D dA r σ' ok H locs ls hin hl (cn_c (i32_c _) hst) hR)
theorem g_i2s {x : Int} (hd : decode cc pc = .ok (.i2s, 1)) (kk : G l K P own cc nL rt d (pc + 1) lv (.inl (s32 x) :: st) σ R) : G l K P own cc nL rt d pc lv (.inl x :: st) σ R := by
  intro p e s m args below meth c adr D dA r σ' ok H locs ls hin hl hst hR
  obtain ⟨hx, hb, hml, hown, hT, hK, hr, hlk, hs⟩ := id ok
  obtain ⟨h0, hst⟩ := List.forall_mem_cons.mp hst
  exact lv_i2s hx hb hd (Int32.ofInt_toInt _).symm (kk p e s m args below meth c adr D dA r σ' ok H locs ls hin hl (cn_c (i32_c _) hst) hR)
theorem g_i2c {x : Int} (hd : decode cc pc = .ok (.i2c, 1)) (kk : G l K P own cc nL rt d (pc + 1) lv (.inl (ch32 x) :: st) σ R) : G l K P own cc nL rt d pc lv (.inl x :: st) σ R := by
  intro p e s m args below meth c adr D dA r σ' ok H locs ls hin hl hst hR
  obtain ⟨hx, hb, hml, hown, hT, hK, hr, hlk, hs⟩ := id ok
  obtain ⟨h0, hst⟩ := List.forall_mem_cons.mp hst
  exact lv_i2c hx hb hd (Int32.ofInt_toInt _).symm (kk p e s m args below meth c adr D dA r σ' ok H locs ls hin hl (cn_c (i32_c _) hst) hR)
theorem g_i2l {x : Int} (hd : decode cc pc = .ok (.i2l, 1)) (kk : G l K P own cc nL rt d (pc + 1) lv (.inr (.inl x) :: st) σ R) : G l K P own cc nL rt d pc lv (.inl x :: st) σ R := by
  intro p e s m args below meth c adr D dA r σ' ok H locs ls hin hl hst hR
  obtain ⟨hx, hb, hml, hown, hT, hK, hr, hlk, hs⟩ := id ok
  obtain ⟨h0, hst⟩ := List.forall_mem_cons.mp hst
  exact lv_i2l hx hb hd (i32_l h0) (kk p e s m args below meth c adr D dA r σ' ok H locs ls hin hl (cn_c (c32_64 h0) hst) hR)
theorem g_l2i {x : Int} (hd : decode cc pc = .ok (.l2i, 1)) (kk : G l K P own cc nL rt d (pc + 1) lv (.inl (w32 x) :: st) σ R) : G l K P own cc nL rt d pc lv (.inr (.inl x) :: st) σ R := by
  intro p e s m args below meth c adr D dA r σ' ok H locs ls hin hl hst hR
  obtain ⟨hx, hb, hml, hown, hT, hK, hr, hlk, hs⟩ := id ok
  obtain ⟨h0, hst⟩ := List.forall_mem_cons.mp hst
  exact lv_l2i hx hb hd (i64_i x) (kk p e s m args below meth c adr D dA r σ' ok H locs ls hin hl (cn_c (w32_c _) hst) hR)
theorem g_idiv {x y : Int} {F : Int → Rs} (hd : decode cc pc = .ok (.idiv, 1)) (kk : ∀ z, G l K P own cc nL rt d (pc + 1) lv (.inl z :: st) σ (F z)) : G l K P own cc nL rt d pc lv (.inl y :: .inl x :: st) σ (dv y (dv32 x y) F) := by
  intro p e s m args below meth c adr D dA r σ' ok H locs ls hin hl hst hR
  obtain ⟨hx, hb, hml, hown, hT, hK, hr, hlk, hs⟩ := id ok
  obtain ⟨h0, hst⟩ := List.forall_mem_cons.mp hst
  obtain ⟨h1, hst⟩ := List.forall_mem_cons.mp hst
  unfold dv at hR
  by_cases hy : y = 0
  · rw [if_pos hy] at hR; cases hR
  · rw [if_neg hy] at hR
    refine lv_idiv hx hb hd (fun q => hy ((i32_inj h0 c32_0).mp q)) ?_
    have e1 : Int32.ofInt (dv32 x y) = _ := Int32.ofInt_toInt _
    rw [← e1]
    exact kk _ p e s m args below meth c adr D dA r σ' ok H locs ls hin hl (cn_c (i32_c _) hst) hR
theorem g_irem {x y : Int} {F : Int → Rs} (hd : decode cc pc = .ok (.irem, 1)) (kk : ∀ z, G l K P own cc nL rt d (pc + 1) lv (.inl z :: st) σ (F z)) : G l K P own cc nL rt d pc lv (.inl y :: .inl x :: st) σ (dv y (rm32 x y) F) := by
  intro p e s m args below meth c adr D dA r σ' ok H locs ls hin hl hst hR
  obtain ⟨hx, hb, hml, hown, hT, hK, hr, hlk, hs⟩ := id ok
  obtain ⟨h0, hst⟩ := List.forall_mem_cons.mp hst
  obtain ⟨h1, hst⟩ := List.forall_mem_cons.mp hst
  unfold dv at hR
  by_cases hy : y = 0
  · rw [if_pos hy] at hR; cases hR
  · rw [if_neg hy] at hR
    refine lv_irem hx hb hd (fun q => hy ((i32_inj h0 c32_0).mp q)) ?_
    have e1 : Int32.ofInt (rm32 x y) = _ := Int32.ofInt_toInt _
    rw [← e1]
    exact kk _ p e s m args below meth c adr D dA r σ' ok H locs ls hin hl (cn_c (i32_c _) hst) hR
theorem g_ldiv {x y : Int} {F : Int → Rs} (hd : decode cc pc = .ok (.ldiv, 1)) (kk : ∀ z, G l K P own cc nL rt d (pc + 1) lv (.inr (.inl z) :: st) σ (F z)) : G l K P own cc nL rt d pc lv (.inr (.inl y) :: .inr (.inl x) :: st) σ (dv y (dv64 x y) F) := by
  intro p e s m args below meth c adr D dA r σ' ok H locs ls hin hl hst hR
  obtain ⟨hx, hb, hml, hown, hT, hK, hr, hlk, hs⟩ := id ok
  obtain ⟨h0, hst⟩ := List.forall_mem_cons.mp hst
  obtain ⟨h1, hst⟩ := List.forall_mem_cons.mp hst
  unfold dv at hR
  by_cases hy : y = 0
  · rw [if_pos hy] at hR; cases hR
  · rw [if_neg hy] at hR
    refine lv_ldiv hx hb hd (fun q => hy ((i64_inj h0 c64_0).mp q)) ?_
    have e1 : Int64.ofInt (dv64 x y) = _ := Int64.ofInt_toInt _
    rw [← e1]
    exact kk _ p e s m args below meth c adr D dA r σ' ok H locs ls hin hl (cn_c (i64_c _) hst) hR
theorem g_lrem {x y : Int} {F : Int → Rs} (hd : decode cc pc = .ok (.lrem, 1)) (kk : ∀ z, G l K P own cc nL rt d (pc + 1) lv (.inr (.inl z) :: st) σ (F z)) : G l K P own cc nL rt d pc lv (.inr (.inl y) :: .inr (.inl x) :: st) σ (dv y (rm64 x y) F) := by
  intro p e s m args below meth c adr D dA r σ' ok H locs ls hin hl hst hR
  obtain ⟨hx, hb, hml, hown, hT, hK, hr, hlk, hs⟩ := id ok
  obtain ⟨h0, hst⟩ := List.forall_mem_cons.mp hst
  obtain ⟨h1, hst⟩ := List.forall_mem_cons.mp hst
  unfold dv at hR
  by_cases hy : y = 0
  · rw [if_pos hy] at hR; cases hR
  · rw [if_neg hy] at hR
    refine lv_lrem hx hb hd (fun q => hy ((i64_inj h0 c64_0).mp q)) ?_
    have e1 : Int64.ofInt (rm64 x y) = _ := Int64.ofInt_toInt _
    rw [← e1]
    exact kk _ p e s m args below meth c adr D dA r σ' ok H locs ls hin hl (cn_c (i64_c _) hst) hR
theorem g_dup {v : Pv} (hd : decode cc pc = .ok (.dup, 1)) (hv : pcat v = 1) (kk : G l K P own cc nL rt d (pc + 1) lv (v :: v :: st) σ R) : G l K P own cc nL rt d pc lv (v :: st) σ R := by
  intro p e s m args below meth c adr D dA r σ' ok H locs ls hin hl hst hR
  obtain ⟨hx, hb, hml, hown, hT, hK, hr, hlk, hs⟩ := id ok
  exact lv_dup hx hb hd (en_cat.trans hv) (kk p e s m args below meth c adr D dA r σ' ok H locs ls hin hl (cn_c (List.forall_mem_cons.mp hst).1 hst) hR)
theorem g_pop {v : Pv} (hd : decode cc pc = .ok (.pop, 1)) (hv : pcat v = 1) (kk : G l K P own cc nL rt d (pc + 1) lv st σ R) : G l K P own cc nL rt d pc lv (v :: st) σ R := by
  intro p e s m args below meth c adr D dA r σ' ok H locs ls hin hl hst hR
  obtain ⟨hx, hb, hml, hown, hT, hK, hr, hlk, hs⟩ := id ok
  exact lv_pop hx hb hd (en_cat.trans hv) (kk p e s m args below meth c adr D dA r σ' ok H locs ls hin hl (List.forall_mem_cons.mp hst).2 hR)
theorem g_dup2 {v u : Pv} (hd : decode cc pc = .ok (.dup2, 1)) (hv : pcat v = 1) (hu : pcat u = 1) (kk : G l K P own cc nL rt d (pc + 1) lv (v :: u :: v :: u :: st) σ R) : G l K P own cc nL rt d pc lv (v :: u :: st) σ R := by
  intro p e s m args below meth c adr D dA r σ' ok H locs ls hin hl hst hR
  obtain ⟨hx, hb, hml, hown, hT, hK, hr, hlk, hs⟩ := id ok
  exact lv_dup2_11 hx hb hd (en_cat.trans hv) (en_cat.trans hu) (kk p e s m args below meth c adr D dA r σ' ok H locs ls hin hl (cn_c (List.forall_mem_cons.mp hst).1 (cn_c (List.forall_mem_cons.mp (List.forall_mem_cons.mp hst).2).1 hst)) hR)
theorem g_goto {off : Int} {tgt : Nat} (hd : decode cc pc = .ok (.goto off, 3)) (ht : (pc : Int) + off = (tgt : Int)) (kk : G l K P own cc nL rt d tgt lv st σ R) : G l K P own cc nL rt d pc lv st σ R := by
  intro p e s m args below meth c adr D dA r σ' ok H locs ls hin hl hst hR
  obtain ⟨hx, hb, hml, hown, hT, hK, hr, hlk, hs⟩ := id ok
  exact lv_goto hx hb hd ht (kk p e s m args below meth c adr D dA r σ' ok H locs ls hin hl hst hR)
theorem g_ifeq {x : Int} {off : Int} {tgt : Nat} (hd : decode cc pc = .ok (.ifCond .eq off, 3)) (ht : (pc : Int) + off = (tgt : Int)) (k1 : G l K P own cc nL rt d tgt lv st σ A) (k2 : G l K P own cc nL rt d (pc + 3) lv st σ B) : G l K P own cc nL rt d pc lv (.inl x :: st) σ (if x = 0 then A else B) := by
  intro p e s m args below meth c adr D dA r σ' ok H locs ls hin hl hst hR
  obtain ⟨hx, hb, hml, hown, hT, hK, hr, hlk, hs⟩ := id ok
  obtain ⟨h0, hst⟩ := List.forall_mem_cons.mp hst
  have hi : Int32.ofInt x = 0 ↔ x = 0 := i32_inj h0 c32_0
  refine lv_if_eq hx hb hd ht (fun q => ?_) (fun q => ?_)
  · rw [if_pos (hi.mp q)] at hR
    exact k1 p e s m args below meth c adr D dA r σ' ok H locs ls hin hl hst hR
  · rw [if_neg (fun z => q (hi.mpr z))] at hR
    exact k2 p e s m args below meth c adr D dA r σ' ok H locs ls hin hl hst hR
theorem g_ifne {x : Int} {off : Int} {tgt : Nat} (hd : decode cc pc = .ok (.ifCond .ne off, 3)) (ht : (pc : Int) + off = (tgt : Int)) (k2 : G l K P own cc nL rt d (pc + 3) lv st σ A) (k1 : G l K P own cc nL rt d tgt lv st σ B) : G l K P own cc nL rt d pc lv (.inl x :: st) σ (if x = 0 then A else B) := by
  intro p e s m args below meth c adr D dA r σ' ok H locs ls hin hl hst hR
  obtain ⟨hx, hb, hml, hown, hT, hK, hr, hlk, hs⟩ := id ok
  obtain ⟨h0, hst⟩ := List.forall_mem_cons.mp hst
  have hi : (¬ Int32.ofInt x = 0) ↔ ¬ x = 0 := not_congr (i32_inj h0 c32_0)
  refine lv_if_ne hx hb hd ht (fun q => ?_) (fun q => ?_)
  · rw [if_neg (fun z => (hi.mp q) z)] at hR
    exact k1 p e s m args below meth c adr D dA r σ' ok H locs ls hin hl hst hR
  · rw [if_pos (Classical.not_not.mp (fun z => by first | exact absurd (hi.mpr z) q | exact absurd q (hi.mpr z)))] at hR
    exact k2 p e s m args below meth c adr D dA r σ' ok H locs ls hin hl hst hR
theorem g_iflt {x : Int} {off : Int} {tgt : Nat} (hd : decode cc pc = .ok (.ifCond .lt off, 3)) (ht : (pc : Int) + off = (tgt : Int)) (k1 : G l K P own cc nL rt d tgt lv st σ A) (k2 : G l K P own cc nL rt d (pc + 3) lv st σ B) : G l K P own cc nL rt d pc lv (.inl x :: st) σ (if x < 0 then A else B) := by
  intro p e s m args below meth c adr D dA r σ' ok H locs ls hin hl hst hR
  obtain ⟨hx, hb, hml, hown, hT, hK, hr, hlk, hs⟩ := id ok
  obtain ⟨h0, hst⟩ := List.forall_mem_cons.mp hst
  have hi : Int32.ofInt x < 0 ↔ x < 0 := i32_lt h0 c32_0
  refine lv_if_lt hx hb hd ht (fun q => ?_) (fun q => ?_)
  · rw [if_pos (hi.mp q)] at hR
    exact k1 p e s m args below meth c adr D dA r σ' ok H locs ls hin hl hst hR
  · rw [if_neg (fun z => q (hi.mpr z))] at hR
    exact k2 p e s m args below meth c adr D dA r σ' ok H locs ls hin hl hst hR
theorem g_ifge {x : Int} {off : Int} {tgt : Nat} (hd : decode cc pc = .ok (.ifCond .ge off, 3)) (ht : (pc : Int) + off = (tgt : Int)) (k2 : G l K P own cc nL rt d (pc + 3) lv st σ A) (k1 : G l K P own cc nL rt d tgt lv st σ B) : G l K P own cc nL rt d pc lv (.inl x :: st) σ (if x < 0 then A else B) := by
  intro p e s m args below meth c adr D dA r σ' ok H locs ls hin hl hst hR
  obtain ⟨hx, hb, hml, hown, hT, hK, hr, hlk, hs⟩ := id ok
  obtain ⟨h0, hst⟩ := List.forall_mem_cons.mp hst
  have hi : (0 ≤ Int32.ofInt x) ↔ ¬ x < 0 := (i32_le c32_0 h0).trans (by omega)
  refine lv_if_ge hx hb hd ht (fun q => ?_) (fun q => ?_)
  · rw [if_neg (fun z => (hi.mp q) z)] at hR
    exact k1 p e s m args below meth c adr D dA r σ' ok H locs ls hin hl hst hR
  · rw [if_pos (Classical.not_not.mp (fun z => by first | exact absurd (hi.mpr z) q | exact absurd q (hi.mpr z)))] at hR
    exact k2 p e s m args below meth c adr D dA r σ' ok H locs ls hin hl hst hR
theorem g_ifgt {x : Int} {off : Int} {tgt : Nat} (hd : decode cc pc = .ok (.ifCond .gt off, 3)) (ht : (pc : Int) + off = (tgt : Int)) (k1 : G l K P own cc nL rt d tgt lv st σ A) (k2 : G l K P own cc nL rt d (pc + 3) lv st σ B) : G l K P own cc nL rt d pc lv (.inl x :: st) σ (if 0 < x then A else B) := by
  intro p e s m args below meth c adr D dA r σ' ok H locs ls hin hl hst hR
  obtain ⟨hx, hb, hml, hown, hT, hK, hr, hlk, hs⟩ := id ok
  obtain ⟨h0, hst⟩ := List.forall_mem_cons.mp hst
  have hi : 0 < Int32.ofInt x ↔ 0 < x := i32_lt c32_0 h0
  refine lv_if_gt hx hb hd ht (fun q => ?_) (fun q => ?_)
  · rw [if_pos (hi.mp q)] at hR
    exact k1 p e s m args below meth c adr D dA r σ' ok H locs ls hin hl hst hR
  · rw [if_neg (fun z => q (hi.mpr z))] at hR
    exact k2 p e s m args below meth c adr D dA r σ' ok H locs ls hin hl hst hR
theorem g_ifle {x : Int} {off : Int} {tgt : Nat} (hd : decode cc pc = .ok (.ifCond .le off, 3)) (ht : (pc : Int) + off = (tgt : Int)) (k2 : G l K P own cc nL rt d (pc + 3) lv st σ A) (k1 : G l K P own cc nL rt d tgt lv st σ B) : G l K P own cc nL rt d pc lv (.inl x :: st) σ (if 0 < x then A else B) := by
  intro p e s m args below meth c adr D dA r σ' ok H locs ls hin hl hst hR
  obtain ⟨hx, hb, hml, hown, hT, hK, hr, hlk, hs⟩ := id ok
  obtain ⟨h0, hst⟩ := List.forall_mem_cons.mp hst
  have hi : (Int32.ofInt x ≤ 0) ↔ ¬ 0 < x := (i32_le h0 c32_0).trans (by omega)
  refine lv_if_le hx hb hd ht (fun q => ?_) (fun q => ?_)
  · rw [if_neg (fun z => (hi.mp q) z)] at hR
    exact k1 p e s m args below meth c adr D dA r σ' ok H locs ls hin hl hst hR
  · rw [if_pos (Classical.not_not.mp (fun z => by first | exact absurd (hi.mpr z) q | exact absurd q (hi.mpr z)))] at hR
    exact k2 p e s m args below meth c adr D dA r σ' ok H locs ls hin hl hst hR
theorem g_icmpeq {x y : Int} {off : Int} {tgt : Nat} (hd : decode cc pc = .ok (.if_icmp .eq off, 3)) (ht : (pc : Int) + off = (tgt : Int)) (k1 : G l K P own cc nL rt d tgt lv st σ A) (k2 : G l K P own cc nL rt d (pc + 3) lv st σ B) : G l K P own cc nL rt d pc lv (.inl y :: .inl x :: st) σ (if x = y then A else B) := by
  intro p e s m args below meth c adr D dA r σ' ok H locs ls hin hl hst hR
  obtain ⟨hx, hb, hml, hown, hT, hK, hr, hlk, hs⟩ := id ok
  obtain ⟨h0, hst⟩ := List.forall_mem_cons.mp hst
  obtain ⟨h1, hst⟩ := List.forall_mem_cons.mp hst
  have hi : Int32.ofInt x = Int32.ofInt y ↔ x = y := i32_inj h1 h0
  refine lv_icmp_eq hx hb hd ht (fun q => ?_) (fun q => ?_)
  · rw [if_pos (hi.mp q)] at hR
    exact k1 p e s m args below meth c adr D dA r σ' ok H locs ls hin hl hst hR
  · rw [if_neg (fun z => q (hi.mpr z))] at hR
    exact k2 p e s m args below meth c adr D dA r σ' ok H locs ls hin hl hst hR
theorem g_icmpne {x y : Int} {off : Int} {tgt : Nat} (hd : decode cc pc = .ok (.if_icmp .ne off, 3)) (ht : (pc : Int) + off = (tgt : Int)) (k2 : G l K P own cc nL rt d (pc + 3) lv st σ A) (k1 : G l K P own cc nL rt d tgt lv st σ B) : G l K P own cc nL rt d pc lv (.inl y :: .inl x :: st) σ (if x = y then A else B) := by
  intro p e s m args below meth c adr D dA r σ' ok H locs ls hin hl hst hR
  obtain ⟨hx, hb, hml, hown, hT, hK, hr, hlk, hs⟩ := id ok
  obtain ⟨h0, hst⟩ := List.forall_mem_cons.mp hst
  obtain ⟨h1, hst⟩ := List.forall_mem_cons.mp hst
  have hi : (¬ Int32.ofInt x = Int32.ofInt y) ↔ ¬ x = y := not_congr (i32_inj h1 h0)
  refine lv_icmp_ne hx hb hd ht (fun q => ?_) (fun q => ?_)
  · rw [if_neg (fun z => (hi.mp q) z)] at hR
    exact k1 p e s m args below meth c adr D dA r σ' ok H locs ls hin hl hst hR
  · rw [if_pos (Classical.not_not.mp (fun z => by first | exact absurd (hi.mpr z) q | exact absurd q (hi.mpr z)))] at hR
    exact k2 p e s m args below meth c adr D dA r σ' ok H locs ls hin hl hst hR
theorem g_icmplt {x y : Int} {off : Int} {tgt : Nat} (hd : decode cc pc = .ok (.if_icmp .lt off, 3)) (ht : (pc : Int) + off = (tgt : Int)) (k1 : G l K P own cc nL rt d tgt lv st σ A) (k2 : G l K P own cc nL rt d (pc + 3) lv st σ B) : G l K P own cc nL rt d pc lv (.inl y :: .inl x :: st) σ (if x < y then A else B) := by
  intro p e s m args below meth c adr D dA r σ' ok H locs ls hin hl hst hR
  obtain ⟨hx, hb, hml, hown, hT, hK, hr, hlk, hs⟩ := id ok
  obtain ⟨h0, hst⟩ := List.forall_mem_cons.mp hst
  obtain ⟨h1, hst⟩ := List.forall_mem_cons.mp hst
  have hi : Int32.ofInt x < Int32.ofInt y ↔ x < y := i32_lt h1 h0
  refine lv_icmp_lt hx hb hd ht (fun q => ?_) (fun q => ?_)
  · rw [if_pos (hi.mp q)] at hR
    exact k1 p e s m args below meth c adr D dA r σ' ok H locs ls hin hl hst hR
  · rw [if_neg (fun z => q (hi.mpr z))] at hR
    exact k2 p e s m args below meth c adr D dA r σ' ok H locs ls hin hl hst hR
theorem g_icmpge {x y : Int} {off : Int} {tgt : Nat} (hd : decode cc pc = .ok (.if_icmp .ge off, 3)) (ht : (pc : Int) + off = (tgt : Int)) (k2 : G l K P own cc nL rt d (pc + 3) lv st σ A) (k1 : G l K P own cc nL rt d tgt lv st σ B) : G l K P own cc nL rt d pc lv (.inl y :: .inl x :: st) σ (if x < y then A else B) := by
  intro p e s m args below meth c adr D dA r σ' ok H locs ls hin hl hst hR
  obtain ⟨hx, hb, hml, hown, hT, hK, hr, hlk, hs⟩ := id ok
  obtain ⟨h0, hst⟩ := List.forall_mem_cons.mp hst
  obtain ⟨h1, hst⟩ := List.forall_mem_cons.mp hst
  have hi : (Int32.ofInt y ≤ Int32.ofInt x) ↔ ¬ x < y := (i32_le h0 h1).trans (by omega)
  refine lv_icmp_ge hx hb hd ht (fun q => ?_) (fun q => ?_)
  · rw [if_neg (fun z => (hi.mp q) z)] at hR
    exact k1 p e s m args below meth c adr D dA r σ' ok H locs ls hin hl hst hR
  · rw [if_pos (Classical.not_not.mp (fun z => by first | exact absurd (hi.mpr z) q | exact absurd q (hi.mpr z)))] at hR
    exact k2 p e s m args below meth c adr D dA r σ' ok H locs ls hin hl hst hR
theorem g_icmpgt {x y : Int} {off : Int} {tgt : Nat} (hd : decode cc pc = .ok (.if_icmp .gt off, 3)) (ht : (pc : Int) + off = (tgt : Int)) (k1 : G l K P own cc nL rt d tgt lv st σ A) (k2 : G l K P own cc nL rt d (pc + 3) lv st σ B) : G l K P own cc nL rt d pc lv (.inl y :: .inl x :: st) σ (if y < x then A else B) := by
  intro p e s m args below meth c adr D dA r σ' ok H locs ls hin hl hst hR
  obtain ⟨hx, hb, hml, hown, hT, hK, hr, hlk, hs⟩ := id ok
  obtain ⟨h0, hst⟩ := List.forall_mem_cons.mp hst
  obtain ⟨h1, hst⟩ := List.forall_mem_cons.mp hst
  have hi : Int32.ofInt y < Int32.ofInt x ↔ y < x := i32_lt h0 h1
  refine lv_icmp_gt hx hb hd ht (fun q => ?_) (fun q => ?_)
  · rw [if_pos (hi.mp q)] at hR
    exact k1 p e s m args below meth c adr D dA r σ' ok H locs ls hin hl hst hR
  · rw [if_neg (fun z => q (hi.mpr z))] at hR
    exact k2 p e s m args below meth c adr D dA r σ' ok H locs ls hin hl hst hR
theorem g_icmple {x y : Int} {off : Int} {tgt : Nat} (hd : decode cc pc = .ok (.if_icmp .le off, 3)) (ht : (pc : Int) + off = (tgt : Int)) (k2 : G l K P own cc nL rt d (pc + 3) lv st σ A) (k1 : G l K P own cc nL rt d tgt lv st σ B) : G l K P own cc nL rt d pc lv (.inl y :: .inl x :: st) σ (if y < x then A else B) := by
  intro p e s m args below meth c adr D dA r σ' ok H locs ls hin hl hst hR
  obtain ⟨hx, hb, hml, hown, hT, hK, hr, hlk, hs⟩ := id ok
  obtain ⟨h0, hst⟩ := List.forall_mem_cons.mp hst
  obtain ⟨h1, hst⟩ := List.forall_mem_cons.mp hst
  have hi : (Int32.ofInt x ≤ Int32.ofInt y) ↔ ¬ y < x := (i32_le h1 h0).trans (by omega)
  refine lv_icmp_le hx hb hd ht (fun q => ?_) (fun q => ?_)
  · rw [if_neg (fun z => (hi.mp q) z)] at hR
    exact k1 p e s m args below meth c adr D dA r σ' ok H locs ls hin hl hst hR
  · rw [if_pos (Classical.not_not.mp (fun z => by first | exact absurd (hi.mpr z) q | exact absurd q (hi.mpr z)))] at hR
    exact k2 p e s m args below meth c adr D dA r σ' ok H locs ls hin hl hst hR
end GR
