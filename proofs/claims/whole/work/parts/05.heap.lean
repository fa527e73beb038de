/-! rows: fields, arrays, answers -/
section GH
variable {l : Launch} {K : Ly} {P : Nat → Nat → Nat} {own : String} {cc : ByteArray} {nL rt d pc : Nat} {lv : List (Option Pv)} {st : List Pv} {σ : Sg} {R A B : Rs}
theorem g_geti {idx ci k o : Nat} (hf : FL own idx ci k) (ho : K[o]? = some (.inl ci)) (ht : fty ci k = 0) (hd : decode cc pc = .ok (.getfield idx, 3)) (kk : G l K P own cc nL rt d (pc + 3) lv (.inl (σ o k) :: st) σ R) : G l K P own cc nL rt d pc lv (.inr (.inr o) :: st) σ R := by
  intro p e s m args below meth c adr D dA r σ' ok H locs ls hin hl hst hR
  obtain ⟨hx, hb, hml, hown, hT, hK, hr, hlk, hs⟩ := id ok
  obtain ⟨h0, hst⟩ := List.forall_mem_cons.mp hst
  obtain ⟨C, T, N, ty, ⟨hc, hN, hws, hty, hnm⟩, hk, -, -, hlink⟩ := hf
  have he : (ws_l K P adr dA σ)[o]? = some (adr o, .inr (ci, fl_v adr (P o) (σ o) ci)) := ws_at ho
  have hv : (fl_v adr (P o) (σ o) ci)[k]? = some (.int (Int32.ofInt (σ o k))) := by
    rw [fl_at (by omega), ht]; rfl
  rcases hlink with h | ⟨host, h⟩
  · exact va_get hx hb hT.hts hws hown hK hin.1 o he hc k hk (hT.hts _ h) (fun _ q => q) hv hd (kk p e s m args below meth c adr D dA r σ' ok H locs ls hin hl (cn_c (show c32 (σ o k) from (hin.2.2.2 o _ ho k).2 (by rw [ht]; decide)) hst) hR)
  · exact va_getN hx hb hT.hts hws hown hK hin.1 o he hc k hk (hT.hts _ h) (fun _ q => q) hv hd (kk p e s m args below meth c adr D dA r σ' ok H locs ls hin hl (cn_c (show c32 (σ o k) from (hin.2.2.2 o _ ho k).2 (by rw [ht]; decide)) hst) hR)
theorem g_getz {idx ci k o : Nat} (hf : FL own idx ci k) (ho : K[o]? = some (.inl ci)) (ht : fty ci k = 3) (hd : decode cc pc = .ok (.getfield idx, 3)) (kk : G l K P own cc nL rt d (pc + 3) lv (.inl (σ o k) :: st) σ R) : G l K P own cc nL rt d pc lv (.inr (.inr o) :: st) σ R := by
  intro p e s m args below meth c adr D dA r σ' ok H locs ls hin hl hst hR
  obtain ⟨hx, hb, hml, hown, hT, hK, hr, hlk, hs⟩ := id ok
  obtain ⟨h0, hst⟩ := List.forall_mem_cons.mp hst
  obtain ⟨C, T, N, ty, ⟨hc, hN, hws, hty, hnm⟩, hk, -, -, hlink⟩ := hf
  have he : (ws_l K P adr dA σ)[o]? = some (adr o, .inr (ci, fl_v adr (P o) (σ o) ci)) := ws_at ho
  have hv : (fl_v adr (P o) (σ o) ci)[k]? = some (.int (Int32.ofInt (σ o k))) := by
    rw [fl_at (by omega), ht]; rfl
  rcases hlink with h | ⟨host, h⟩
  · exact va_get hx hb hT.hts hws hown hK hin.1 o he hc k hk (hT.hts _ h) (fun _ q => q) hv hd (kk p e s m args below meth c adr D dA r σ' ok H locs ls hin hl (cn_c (show c32 (σ o k) from (hin.2.2.2 o _ ho k).2 (by rw [ht]; decide)) hst) hR)
  · exact va_getN hx hb hT.hts hws hown hK hin.1 o he hc k hk (hT.hts _ h) (fun _ q => q) hv hd (kk p e s m args below meth c adr D dA r σ' ok H locs ls hin hl (cn_c (show c32 (σ o k) from (hin.2.2.2 o _ ho k).2 (by rw [ht]; decide)) hst) hR)
theorem g_getl {idx ci k o : Nat} (hf : FL own idx ci k) (ho : K[o]? = some (.inl ci)) (ht : fty ci k = 1) (hd : decode cc pc = .ok (.getfield idx, 3)) (kk : G l K P own cc nL rt d (pc + 3) lv (.inr (.inl (σ o k)) :: st) σ R) : G l K P own cc nL rt d pc lv (.inr (.inr o) :: st) σ R := by
  intro p e s m args below meth c adr D dA r σ' ok H locs ls hin hl hst hR
  obtain ⟨hx, hb, hml, hown, hT, hK, hr, hlk, hs⟩ := id ok
  obtain ⟨h0, hst⟩ := List.forall_mem_cons.mp hst
  obtain ⟨C, T, N, ty, ⟨hc, hN, hws, hty, hnm⟩, hk, -, -, hlink⟩ := hf
  have he : (ws_l K P adr dA σ)[o]? = some (adr o, .inr (ci, fl_v adr (P o) (σ o) ci)) := ws_at ho
  have hv : (fl_v adr (P o) (σ o) ci)[k]? = some (.long (Int64.ofInt (σ o k))) := by
    rw [fl_at (by omega), ht]; rfl
  rcases hlink with h | ⟨host, h⟩
  · exact va_get hx hb hT.hts hws hown hK hin.1 o he hc k hk (hT.hts _ h) (fun _ q => q) hv hd (kk p e s m args below meth c adr D dA r σ' ok H locs ls hin hl (cn_c (show c64 (σ o k) from (hin.2.2.2 o _ ho k).1 ht) hst) hR)
  · exact va_getN hx hb hT.hts hws hown hK hin.1 o he hc k hk (hT.hts _ h) (fun _ q => q) hv hd (kk p e s m args below meth c adr D dA r σ' ok H locs ls hin hl (cn_c (show c64 (σ o k) from (hin.2.2.2 o _ ho k).1 ht) hst) hR)
theorem g_getr {idx ci k o : Nat} (hf : FL own idx ci k) (ho : K[o]? = some (.inl ci)) (ht : fty ci k = 4) (hd : decode cc pc = .ok (.getfield idx, 3)) (kk : G l K P own cc nL rt d (pc + 3) lv (.inr (.inr (P o k)) :: st) σ R) : G l K P own cc nL rt d pc lv (.inr (.inr o) :: st) σ R := by
  intro p e s m args below meth c adr D dA r σ' ok H locs ls hin hl hst hR
  obtain ⟨hx, hb, hml, hown, hT, hK, hr, hlk, hs⟩ := id ok
  obtain ⟨h0, hst⟩ := List.forall_mem_cons.mp hst
  obtain ⟨C, T, N, ty, ⟨hc, hN, hws, hty, hnm⟩, hk, -, -, hlink⟩ := hf
  have he : (ws_l K P adr dA σ)[o]? = some (adr o, .inr (ci, fl_v adr (P o) (σ o) ci)) := ws_at ho
  have hv : (fl_v adr (P o) (σ o) ci)[k]? = some (.ref (adr (P o k))) := by
    rw [fl_at (by omega), ht]; rfl
  rcases hlink with h | ⟨host, h⟩
  · exact va_get hx hb hT.hts hws hown hK hin.1 o he hc k hk (hT.hts _ h) (fun _ q => q) hv hd (kk p e s m args below meth c adr D dA r σ' ok H locs ls hin hl (cn_c trivial hst) hR)
  · exact va_getN hx hb hT.hts hws hown hK hin.1 o he hc k hk (hT.hts _ h) (fun _ q => q) hv hd (kk p e s m args below meth c adr D dA r σ' ok H locs ls hin hl (cn_c trivial hst) hR)
theorem g_getr' {idx ci k o q : Nat} (hf : FL own idx ci k) (ho : K[o]? = some (.inl ci)) (ht : fty ci k = 4) (hq : P o k = q) (hd : decode cc pc = .ok (.getfield idx, 3)) (kk : G l K P own cc nL rt d (pc + 3) lv (.inr (.inr q) :: st) σ R) : G l K P own cc nL rt d pc lv (.inr (.inr o) :: st) σ R := g_getr hf ho ht hd (hq ▸ kk)
theorem na_z {x : Int} (h : x = 0 ∨ x = 1) : narrow .boolean (.int (Int32.ofInt x)) = .int (Int32.ofInt x) ∧ fits .boolean (.int (Int32.ofInt x)) = true := by
  rcases h with rfl | rfl <;> exact ⟨by decide, by decide⟩
theorem g_puti {idx ci k o : Nat} {x : Int} {F : Sg → Rs} (hf : FL own idx ci k) (ho : K[o]? = some (.inl ci)) (ht : fty ci k = 0) (hd : decode cc pc = .ok (.putfield idx, 3)) (kk : ∀ σ1, G l K P own cc nL rt d (pc + 3) lv st σ1 (F σ1)) : G l K P own cc nL rt d pc lv (.inl x :: .inr (.inr o) :: st) σ (nm (up_s σ o k x) F) := by
  intro p e s m args below meth c adr D dA r σ' ok H locs ls hin hl hst hR
  obtain ⟨hx, hb, hml, hown, hT, hK, hr, hlk, hs⟩ := id ok
  obtain ⟨h0, hst⟩ := List.forall_mem_cons.mp hst
  obtain ⟨h1, hst⟩ := List.forall_mem_cons.mp hst
  obtain ⟨C, T, N, ty, ⟨hc, hN, hws, hty, hnm⟩, hk, htc, hfin, hlink⟩ := hf
  have hfin : (T k).2.2.2 = false := hfin.resolve_left (by rw [ht]; decide)
  have he : (ws_l K P adr dA σ)[o]? = some (adr o, .inr (ci, fl_v adr (P o) (σ o) ci)) := ws_at ho
  rcases htc with ⟨q, -⟩ | ⟨-, q⟩ | ⟨-, q⟩ | q
  rotate_left
  · exact absurd (ht.symm.trans q) (by decide)
  · exact absurd (ht.symm.trans q) (by decide)
  · exact absurd (ht.symm.trans q) (by decide)
  have hd2 : parseFieldDescriptor (T k).2.2.1 = some _ := (hty k hk).trans (congrArg some q)
  have hlen : k < (fl_v adr (P o) (σ o) ci).length := by unfold fl_v; simp; omega
  have hset : (ws_l K P adr dA σ).set o (adr o, .inr (ci, (fl_v adr (P o) (σ o) ci).set k (.int (Int32.ofInt x)))) = ws_l K P adr dA (up_s σ o k x) := by
    refine ws_set ho ?_ (fun a ha => up_off ha)
    rw [up_at, fl_set (x := x) _ (by rw [ht]; simp [fv_v])]; rfl
  have fin : ∀ (H1 : Heap) (locs1 : List Loc), va_P D vwCl ((ws_l K P adr dA σ).set o (adr o, .inr (ci, (fl_v adr (P o) (σ o) ci).set k (.int (Int32.ofInt x))))) H1 → va_D (Ad K adr) ((ws_l K P adr dA σ).set o (adr o, .inr (ci, (fl_v adr (P o) (σ o) ci).set k (.int (Int32.ofInt x))))) → va_S (Ad K adr) s.heap H1 locs1 → W p l e (rmd d) s m args below meth c H1 locs1 0 0 (MQ below (QQ K P adr D dA rt r σ') args s 0 0 (Ad K adr)) (F0 m (pc + 3) ls (st.map (en_v adr))) := by
    intro H1 locs1 q1 q2 q3
    rw [hset] at q1 q2
    exact kk _ p e s m args below meth c adr D dA r σ' ok H1 locs1 ls ⟨q1, q2, q3, cn_up hin.2.2.2 ho ⟨fun q => absurd (ht.symm.trans q) (by decide), fun _ => h0⟩⟩ hl hst hR
  rcases hlink with h | ⟨host, h⟩
  · exact va_put hx hb hT.hts hws ty hty hnm hown hK hin.1 hin.2.1 hin.2.2.1 o he hc k hk (hT.hts _ h) (fun _ q => q) hfin hd2 rfl rfl hlen hd fin
  · exact va_putN hx hb hT.hts hws ty hty hnm hown hK hin.1 hin.2.1 hin.2.2.1 o he hc k hk (hT.hts _ h) (fun _ q => q) hfin hd2 rfl rfl hlen hd fin
theorem g_putl {idx ci k o : Nat} {x : Int} {F : Sg → Rs} (hf : FL own idx ci k) (ho : K[o]? = some (.inl ci)) (ht : fty ci k = 1) (hd : decode cc pc = .ok (.putfield idx, 3)) (kk : ∀ σ1, G l K P own cc nL rt d (pc + 3) lv st σ1 (F σ1)) : G l K P own cc nL rt d pc lv (.inr (.inl x) :: .inr (.inr o) :: st) σ (nm (up_s σ o k x) F) := by
  intro p e s m args below meth c adr D dA r σ' ok H locs ls hin hl hst hR
  obtain ⟨hx, hb, hml, hown, hT, hK, hr, hlk, hs⟩ := id ok
  obtain ⟨h0, hst⟩ := List.forall_mem_cons.mp hst
  obtain ⟨h1, hst⟩ := List.forall_mem_cons.mp hst
  obtain ⟨C, T, N, ty, ⟨hc, hN, hws, hty, hnm⟩, hk, htc, hfin, hlink⟩ := hf
  have hfin : (T k).2.2.2 = false := hfin.resolve_left (by rw [ht]; decide)
  have he : (ws_l K P adr dA σ)[o]? = some (adr o, .inr (ci, fl_v adr (P o) (σ o) ci)) := ws_at ho
  rcases htc with ⟨-, q⟩ | ⟨q, -⟩ | ⟨-, q⟩ | q
  · exact absurd (ht.symm.trans q) (by decide)
  rotate_left
  · exact absurd (ht.symm.trans q) (by decide)
  · exact absurd (ht.symm.trans q) (by decide)
  have hd2 : parseFieldDescriptor (T k).2.2.1 = some _ := (hty k hk).trans (congrArg some q)
  have hlen : k < (fl_v adr (P o) (σ o) ci).length := by unfold fl_v; simp; omega
  have hset : (ws_l K P adr dA σ).set o (adr o, .inr (ci, (fl_v adr (P o) (σ o) ci).set k (.long (Int64.ofInt x)))) = ws_l K P adr dA (up_s σ o k x) := by
    refine ws_set ho ?_ (fun a ha => up_off ha)
    rw [up_at, fl_set (x := x) _ (by rw [ht]; simp [fv_v])]; rfl
  have fin : ∀ (H1 : Heap) (locs1 : List Loc), va_P D vwCl ((ws_l K P adr dA σ).set o (adr o, .inr (ci, (fl_v adr (P o) (σ o) ci).set k (.long (Int64.ofInt x))))) H1 → va_D (Ad K adr) ((ws_l K P adr dA σ).set o (adr o, .inr (ci, (fl_v adr (P o) (σ o) ci).set k (.long (Int64.ofInt x))))) → va_S (Ad K adr) s.heap H1 locs1 → W p l e (rmd d) s m args below meth c H1 locs1 0 0 (MQ below (QQ K P adr D dA rt r σ') args s 0 0 (Ad K adr)) (F0 m (pc + 3) ls (st.map (en_v adr))) := by
    intro H1 locs1 q1 q2 q3
    rw [hset] at q1 q2
    exact kk _ p e s m args below meth c adr D dA r σ' ok H1 locs1 ls ⟨q1, q2, q3, cn_up hin.2.2.2 ho ⟨fun _ => h0, fun q => absurd ht q⟩⟩ hl hst hR
  rcases hlink with h | ⟨host, h⟩
  · exact va_put hx hb hT.hts hws ty hty hnm hown hK hin.1 hin.2.1 hin.2.2.1 o he hc k hk (hT.hts _ h) (fun _ q => q) hfin hd2 rfl rfl hlen hd fin
  · exact va_putN hx hb hT.hts hws ty hty hnm hown hK hin.1 hin.2.1 hin.2.2.1 o he hc k hk (hT.hts _ h) (fun _ q => q) hfin hd2 rfl rfl hlen hd fin
theorem g_putz {idx ci k o : Nat} {x : Int} {F : Sg → Rs} (hf : FL own idx ci k) (ho : K[o]? = some (.inl ci)) (ht : fty ci k = 3) (hd : decode cc pc = .ok (.putfield idx, 3)) (kk : ∀ σ1, G l K P own cc nL rt d (pc + 3) lv st σ1 (F σ1)) : G l K P own cc nL rt d pc lv (.inl x :: .inr (.inr o) :: st) σ (zb x (nm (up_s σ o k x) F)) := by
  intro p e s m args below meth c adr D dA r σ' ok H locs ls hin hl hst hR
  obtain ⟨hx, hb, hml, hown, hT, hK, hr, hlk, hs⟩ := id ok
  obtain ⟨h0, hst⟩ := List.forall_mem_cons.mp hst
  obtain ⟨h1, hst⟩ := List.forall_mem_cons.mp hst
  unfold zb at hR
  by_cases hz : x = 0 ∨ x = 1
  rotate_left
  · rw [if_neg hz] at hR; cases hR
  rw [if_pos hz] at hR
  obtain ⟨C, T, N, ty, ⟨hc, hN, hws, hty, hnm⟩, hk, htc, hfin, hlink⟩ := hf
  have hfin : (T k).2.2.2 = false := hfin.resolve_left (by rw [ht]; decide)
  have he : (ws_l K P adr dA σ)[o]? = some (adr o, .inr (ci, fl_v adr (P o) (σ o) ci)) := ws_at ho
  rcases htc with ⟨-, q⟩ | ⟨-, q⟩ | ⟨q, -⟩ | q
  · exact absurd (ht.symm.trans q) (by decide)
  · exact absurd (ht.symm.trans q) (by decide)
  rotate_left
  · exact absurd (ht.symm.trans q) (by decide)
  have hd2 : parseFieldDescriptor (T k).2.2.1 = some _ := (hty k hk).trans (congrArg some q)
  have hlen : k < (fl_v adr (P o) (σ o) ci).length := by unfold fl_v; simp; omega
  have hset : (ws_l K P adr dA σ).set o (adr o, .inr (ci, (fl_v adr (P o) (σ o) ci).set k (.int (Int32.ofInt x)))) = ws_l K P adr dA (up_s σ o k x) := by
    refine ws_set ho ?_ (fun a ha => up_off ha)
    rw [up_at, fl_set (x := x) _ (by rw [ht]; simp [fv_v])]; rfl
  have fin : ∀ (H1 : Heap) (locs1 : List Loc), va_P D vwCl ((ws_l K P adr dA σ).set o (adr o, .inr (ci, (fl_v adr (P o) (σ o) ci).set k (.int (Int32.ofInt x))))) H1 → va_D (Ad K adr) ((ws_l K P adr dA σ).set o (adr o, .inr (ci, (fl_v adr (P o) (σ o) ci).set k (.int (Int32.ofInt x))))) → va_S (Ad K adr) s.heap H1 locs1 → W p l e (rmd d) s m args below meth c H1 locs1 0 0 (MQ below (QQ K P adr D dA rt r σ') args s 0 0 (Ad K adr)) (F0 m (pc + 3) ls (st.map (en_v adr))) := by
    intro H1 locs1 q1 q2 q3
    rw [hset] at q1 q2
    exact kk _ p e s m args below meth c adr D dA r σ' ok H1 locs1 ls ⟨q1, q2, q3, cn_up hin.2.2.2 ho ⟨fun q => absurd (ht.symm.trans q) (by decide), fun _ => h0⟩⟩ hl hst hR
  rcases hlink with h | ⟨host, h⟩
  · exact va_put hx hb hT.hts hws ty hty hnm hown hK hin.1 hin.2.1 hin.2.2.1 o he hc k hk (hT.hts _ h) (fun _ q => q) hfin hd2 (na_z hz).1 (na_z hz).2 hlen hd fin
  · exact va_putN hx hb hT.hts hws ty hty hnm hown hK hin.1 hin.2.1 hin.2.2.1 o he hc k hk (hT.hts _ h) (fun _ q => q) hfin hd2 (na_z hz).1 (na_z hz).2 hlen hd fin
theorem ix_in {i : Int} {n : Nat} (hi : c32 i) (h : 0 ≤ i ∧ i < (n : Int)) : vp_in (Int32.ofInt i) n := vp_in_iff.mpr (by rw [i32_of hi]; exact h)
theorem ix_cl {i : Int} (hi : c32 i) : (Int32.ofInt i).toNatClampNeg = i.toNat := by
  show (Int32.ofInt i).toInt.toNat = i.toNat
  rw [i32_of hi]
theorem g_iald {a n : Nat} {i : Int} {F : Int → Rs} (ha : K[a]? = some (.inr (0, n))) (hd : decode cc pc = .ok (.iaload, 1)) (kk : ∀ z, G l K P own cc nL rt d (pc + 1) lv (.inl z :: st) σ (F z)) : G l K P own cc nL rt d pc lv (.inl i :: .inr (.inr a) :: st) σ (rd n i (σ a i.toNat) F) := by
  intro p e s m args below meth c adr D dA r σ' ok H locs ls hin hl hst hR
  obtain ⟨hx, hb, hml, hown, hT, hK, hr, hlk, hs⟩ := id ok
  obtain ⟨h0, hst⟩ := List.forall_mem_cons.mp hst
  obtain ⟨h1, hst⟩ := List.forall_mem_cons.mp hst
  unfold rd at hR
  by_cases hi : 0 ≤ i ∧ i < (n : Int)
  rotate_left
  · rw [if_neg hi] at hR; cases hR
  rw [if_pos hi] at hR
  have he : (ws_l K P adr dA σ)[a]? = some (adr a, .inl (dA 0, n, .inl (fun j => Int32.ofInt (σ a j)))) := ws_at ha
  refine va_iald hx hb hK hin.1 a 0 he rfl (ix_in h0 hi) hd ?_
  rw [ix_cl h0]
  exact kk _ p e s m args below meth c adr D dA r σ' ok H locs ls hin hl (cn_c (show c32 (σ a i.toNat) from (hin.2.2.2 a _ ha _).2 (by show (0 : Nat) ≠ 1; decide)) hst) hR
theorem g_bald {a n : Nat} {i : Int} {F : Int → Rs} (ha : K[a]? = some (.inr (2, n))) (hd : decode cc pc = .ok (.baload, 1)) (kk : ∀ z, G l K P own cc nL rt d (pc + 1) lv (.inl z :: st) σ (F z)) : G l K P own cc nL rt d pc lv (.inl i :: .inr (.inr a) :: st) σ (rd n i (σ a i.toNat) F) := by
  intro p e s m args below meth c adr D dA r σ' ok H locs ls hin hl hst hR
  obtain ⟨hx, hb, hml, hown, hT, hK, hr, hlk, hs⟩ := id ok
  obtain ⟨h0, hst⟩ := List.forall_mem_cons.mp hst
  obtain ⟨h1, hst⟩ := List.forall_mem_cons.mp hst
  unfold rd at hR
  by_cases hi : 0 ≤ i ∧ i < (n : Int)
  rotate_left
  · rw [if_neg hi] at hR; cases hR
  rw [if_pos hi] at hR
  have he : (ws_l K P adr dA σ)[a]? = some (adr a, .inl (dA 2, n, .inl (fun j => Int32.ofInt (σ a j)))) := ws_at ha
  refine va_bald hx hb hK hin.1 a 2 he rfl (ix_in h0 hi) hd ?_
  rw [ix_cl h0]
  exact kk _ p e s m args below meth c adr D dA r σ' ok H locs ls hin hl (cn_c (show c32 (σ a i.toNat) from (hin.2.2.2 a _ ha _).2 (by show (2 : Nat) ≠ 1; decide)) hst) hR
theorem g_zald {a n : Nat} {i : Int} {F : Int → Rs} (ha : K[a]? = some (.inr (3, n))) (hd : decode cc pc = .ok (.baload, 1)) (kk : ∀ z, G l K P own cc nL rt d (pc + 1) lv (.inl z :: st) σ (F z)) : G l K P own cc nL rt d pc lv (.inl i :: .inr (.inr a) :: st) σ (rd n i (σ a i.toNat) F) := by
  intro p e s m args below meth c adr D dA r σ' ok H locs ls hin hl hst hR
  obtain ⟨hx, hb, hml, hown, hT, hK, hr, hlk, hs⟩ := id ok
  obtain ⟨h0, hst⟩ := List.forall_mem_cons.mp hst
  obtain ⟨h1, hst⟩ := List.forall_mem_cons.mp hst
  unfold rd at hR
  by_cases hi : 0 ≤ i ∧ i < (n : Int)
  rotate_left
  · rw [if_neg hi] at hR; cases hR
  rw [if_pos hi] at hR
  have he : (ws_l K P adr dA σ)[a]? = some (adr a, .inl (dA 3, n, .inl (fun j => Int32.ofInt (σ a j)))) := ws_at ha
  refine va_zald hx hb hK hin.1 a 3 he rfl (ix_in h0 hi) hd ?_
  rw [ix_cl h0]
  exact kk _ p e s m args below meth c adr D dA r σ' ok H locs ls hin hl (cn_c (show c32 (σ a i.toNat) from (hin.2.2.2 a _ ha _).2 (by show (3 : Nat) ≠ 1; decide)) hst) hR
theorem g_lald {a n : Nat} {i : Int} {F : Int → Rs} (ha : K[a]? = some (.inr (1, n))) (hd : decode cc pc = .ok (.laload, 1)) (kk : ∀ z, G l K P own cc nL rt d (pc + 1) lv (.inr (.inl z) :: st) σ (F z)) : G l K P own cc nL rt d pc lv (.inl i :: .inr (.inr a) :: st) σ (rd n i (σ a i.toNat) F) := by
  intro p e s m args below meth c adr D dA r σ' ok H locs ls hin hl hst hR
  obtain ⟨hx, hb, hml, hown, hT, hK, hr, hlk, hs⟩ := id ok
  obtain ⟨h0, hst⟩ := List.forall_mem_cons.mp hst
  obtain ⟨h1, hst⟩ := List.forall_mem_cons.mp hst
  unfold rd at hR
  by_cases hi : 0 ≤ i ∧ i < (n : Int)
  rotate_left
  · rw [if_neg hi] at hR; cases hR
  rw [if_pos hi] at hR
  have he : (ws_l K P adr dA σ)[a]? = some (adr a, .inl (dA 1, n, .inr (.inl (fun j => Int64.ofInt (σ a j))))) := ws_at ha
  refine va_lald hx hb hK hin.1 a 1 he rfl (ix_in h0 hi) hd ?_
  rw [ix_cl h0]
  exact kk _ p e s m args below meth c adr D dA r σ' ok H locs ls hin hl (cn_c (show c64 (σ a i.toNat) from (hin.2.2.2 a _ ha _).1 rfl) hst) hR
theorem g_aald {a n t : Nat} {i : Int} {F : Int → Rs} (ha : K[a]? = some (.inr (t, n))) (ht : t = 4 ∨ t = 5) (hd : decode cc pc = .ok (.aaload, 1)) (kk : (0 ≤ i ∧ i < (n : Int)) → G l K P own cc nL rt d (pc + 1) lv (.inr (.inr (P a i.toNat)) :: st) σ (F 0)) : G l K P own cc nL rt d pc lv (.inl i :: .inr (.inr a) :: st) σ (rd n i 0 F) := by
  intro p e s m args below meth c adr D dA r σ' ok H locs ls hin hl hst hR
  obtain ⟨hx, hb, hml, hown, hT, hK, hr, hlk, hs⟩ := id ok
  obtain ⟨h0, hst⟩ := List.forall_mem_cons.mp hst
  obtain ⟨h1, hst⟩ := List.forall_mem_cons.mp hst
  unfold rd at hR
  by_cases hi : 0 ≤ i ∧ i < (n : Int)
  rotate_left
  · rw [if_neg hi] at hR; cases hR
  rw [if_pos hi] at hR
  have hk := kk hi p e s m args below meth c adr D dA r σ' ok H locs ls hin hl (cn_c trivial hst) hR
  have hv : vp_in (Int32.ofInt i) n := ix_in h0 hi
  rcases ht with rfl | rfl
  · have he : (ws_l K P adr dA σ)[a]? = some (adr a, .inl (dA 4, n, .inr (.inr (.inr (.inr (fun j => some (adr (P a j)))))))) := ws_at ha
    refine va_aldq (C := "HairProvince$Province") hx hb hK hin.1 a 4 he rfl hv hd ?_
    rw [ix_cl h0]
    exact hk
  · have he : (ws_l K P adr dA σ)[a]? = some (adr a, .inl (dA 5, n, .inr (.inr (.inr (.inr (fun j => some (adr (P a j)))))))) := ws_at ha
    refine va_aldq (C := "HairProvince$Years") hx hb hK hin.1 a 5 he rfl hv hd ?_
    rw [ix_cl h0]
    exact hk
theorem fn_up {f : Nat → Int} {k : Nat} {x : Int} : (fun j => Int32.ofInt ((fun b => if b = k then x else f b) j)) = upd (fun j => Int32.ofInt (f j)) k (Int32.ofInt x) := by
  funext j
  by_cases e : j = k
  · subst e; simp [pk_us]
  · rw [pk_un e]; simp [e]
theorem fn_upL {f : Nat → Int} {k : Nat} {x : Int} : (fun j => Int64.ofInt ((fun b => if b = k then x else f b) j)) = vp_updL (fun j => Int64.ofInt (f j)) k (Int64.ofInt x) := by
  funext j
  by_cases e : j = k
  · subst e; simp [pk_uLs]
  · rw [pk_uLn e]; simp [e]
theorem g_iast {a n : Nat} {i x : Int} {F : Sg → Rs} (ha : K[a]? = some (.inr (0, n))) (hd : decode cc pc = .ok (.iastore, 1)) (kk : ∀ σ1, G l K P own cc nL rt d (pc + 1) lv st σ1 (F σ1)) : G l K P own cc nL rt d pc lv (.inl x :: .inl i :: .inr (.inr a) :: st) σ (wr n i (up_s σ a i.toNat x) F) := by
  intro p e s m args below meth c adr D dA r σ' ok H locs ls hin hl hst hR
  obtain ⟨hx, hb, hml, hown, hT, hK, hr, hlk, hs⟩ := id ok
  obtain ⟨h0, hst⟩ := List.forall_mem_cons.mp hst
  obtain ⟨h1, hst⟩ := List.forall_mem_cons.mp hst
  obtain ⟨h2, hst⟩ := List.forall_mem_cons.mp hst
  unfold wr at hR
  by_cases hi : 0 ≤ i ∧ i < (n : Int)
  rotate_left
  · rw [if_neg hi] at hR; cases hR
  rw [if_pos hi] at hR
  have he : (ws_l K P adr dA σ)[a]? = some (adr a, .inl (dA 0, n, .inl (fun j => Int32.ofInt (σ a j)))) := ws_at ha
  have hset : (ws_l K P adr dA σ).set a (adr a, .inl (dA 0, n, .inl (upd (fun j => Int32.ofInt (σ a j)) i.toNat (Int32.ofInt x)))) = ws_l K P adr dA (up_s σ a i.toNat x) := by
    refine ws_set ha ?_ (fun a ha => up_off ha)
    rw [up_at]
    simp only [ce_l, ar_v, fn_up]
  refine va_iast hx hb hK hin.1 hin.2.1 hin.2.2.1 a 0 he rfl (ix_in h1 hi) hd ?_
  intro H1 locs1 q1 q2 q3
  rw [ix_cl h1] at q1 q2
  rw [hset] at q1 q2
  exact kk _ p e s m args below meth c adr D dA r σ' ok H1 locs1 ls ⟨q1, q2, q3, cn_up hin.2.2.2 ha ⟨fun q => absurd q (by show ¬ (0 : Nat) = 1; decide), fun _ => h0⟩⟩ hl hst hR
theorem g_bast {a n : Nat} {i x : Int} {F : Sg → Rs} (ha : K[a]? = some (.inr (2, n))) (hd : decode cc pc = .ok (.bastore, 1)) (kk : ∀ σ1, G l K P own cc nL rt d (pc + 1) lv st σ1 (F σ1)) : G l K P own cc nL rt d pc lv (.inl x :: .inl i :: .inr (.inr a) :: st) σ (wr n i (up_s σ a i.toNat (b32 x)) F) := by
  intro p e s m args below meth c adr D dA r σ' ok H locs ls hin hl hst hR
  obtain ⟨hx, hb, hml, hown, hT, hK, hr, hlk, hs⟩ := id ok
  obtain ⟨h0, hst⟩ := List.forall_mem_cons.mp hst
  obtain ⟨h1, hst⟩ := List.forall_mem_cons.mp hst
  obtain ⟨h2, hst⟩ := List.forall_mem_cons.mp hst
  unfold wr at hR
  by_cases hi : 0 ≤ i ∧ i < (n : Int)
  rotate_left
  · rw [if_neg hi] at hR; cases hR
  rw [if_pos hi] at hR
  have he : (ws_l K P adr dA σ)[a]? = some (adr a, .inl (dA 2, n, .inl (fun j => Int32.ofInt (σ a j)))) := ws_at ha
  have hnar : vp_nar .byte (Int32.ofInt x) = Int32.ofInt (b32 x) := by rw [vp_nar_byte]; exact (Int32.ofInt_toInt _).symm
  have hset : (ws_l K P adr dA σ).set a (adr a, .inl (dA 2, n, .inl (upd (fun j => Int32.ofInt (σ a j)) i.toNat (Int32.ofInt (b32 x))))) = ws_l K P adr dA (up_s σ a i.toNat (b32 x)) := by
    refine ws_set ha ?_ (fun a ha => up_off ha)
    rw [up_at]
    simp only [ce_l, ar_v, fn_up]
  refine va_bast hx hb hK hin.1 hin.2.1 hin.2.2.1 a 2 he rfl (ix_in h1 hi) hd ?_
  intro H1 locs1 q1 q2 q3
  rw [ix_cl h1, hnar] at q1 q2
  rw [hset] at q1 q2
  exact kk _ p e s m args below meth c adr D dA r σ' ok H1 locs1 ls ⟨q1, q2, q3, cn_up hin.2.2.2 ha ⟨fun q => absurd q (by show ¬ (2 : Nat) = 1; decide), fun _ => i32_c _⟩⟩ hl hst hR
theorem g_zast {a n : Nat} {i x : Int} {F : Sg → Rs} (ha : K[a]? = some (.inr (3, n))) (hd : decode cc pc = .ok (.bastore, 1)) (kk : ∀ σ1, G l K P own cc nL rt d (pc + 1) lv st σ1 (F σ1)) : G l K P own cc nL rt d pc lv (.inl x :: .inl i :: .inr (.inr a) :: st) σ (zb x (wr n i (up_s σ a i.toNat x) F)) := by
  intro p e s m args below meth c adr D dA r σ' ok H locs ls hin hl hst hR
  obtain ⟨hx, hb, hml, hown, hT, hK, hr, hlk, hs⟩ := id ok
  obtain ⟨h0, hst⟩ := List.forall_mem_cons.mp hst
  obtain ⟨h1, hst⟩ := List.forall_mem_cons.mp hst
  obtain ⟨h2, hst⟩ := List.forall_mem_cons.mp hst
  unfold zb at hR
  by_cases hz : x = 0 ∨ x = 1
  rotate_left
  · rw [if_neg hz] at hR; cases hR
  rw [if_pos hz] at hR
  unfold wr at hR
  by_cases hi : 0 ≤ i ∧ i < (n : Int)
  rotate_left
  · rw [if_neg hi] at hR; cases hR
  rw [if_pos hi] at hR
  have he : (ws_l K P adr dA σ)[a]? = some (adr a, .inl (dA 3, n, .inl (fun j => Int32.ofInt (σ a j)))) := ws_at ha
  have hnar : vp_nar .boolean (Int32.ofInt x) = Int32.ofInt x := by unfold vp_nar; rw [(na_z hz).1]
  have hset : (ws_l K P adr dA σ).set a (adr a, .inl (dA 3, n, .inl (upd (fun j => Int32.ofInt (σ a j)) i.toNat (Int32.ofInt x)))) = ws_l K P adr dA (up_s σ a i.toNat x) := by
    refine ws_set ha ?_ (fun a ha => up_off ha)
    rw [up_at]
    simp only [ce_l, ar_v, fn_up]
  refine va_zast hx hb hK hin.1 hin.2.1 hin.2.2.1 a 3 he rfl (ix_in h1 hi) hd ?_
  intro H1 locs1 q1 q2 q3
  rw [ix_cl h1, hnar] at q1 q2
  rw [hset] at q1 q2
  exact kk _ p e s m args below meth c adr D dA r σ' ok H1 locs1 ls ⟨q1, q2, q3, cn_up hin.2.2.2 ha ⟨fun q => absurd q (by show ¬ (3 : Nat) = 1; decide), fun _ => h0⟩⟩ hl hst hR
theorem g_last {a n : Nat} {i x : Int} {F : Sg → Rs} (ha : K[a]? = some (.inr (1, n))) (hd : decode cc pc = .ok (.lastore, 1)) (kk : ∀ σ1, G l K P own cc nL rt d (pc + 1) lv st σ1 (F σ1)) : G l K P own cc nL rt d pc lv (.inr (.inl x) :: .inl i :: .inr (.inr a) :: st) σ (wr n i (up_s σ a i.toNat x) F) := by
  intro p e s m args below meth c adr D dA r σ' ok H locs ls hin hl hst hR
  obtain ⟨hx, hb, hml, hown, hT, hK, hr, hlk, hs⟩ := id ok
  obtain ⟨h0, hst⟩ := List.forall_mem_cons.mp hst
  obtain ⟨h1, hst⟩ := List.forall_mem_cons.mp hst
  obtain ⟨h2, hst⟩ := List.forall_mem_cons.mp hst
  unfold wr at hR
  by_cases hi : 0 ≤ i ∧ i < (n : Int)
  rotate_left
  · rw [if_neg hi] at hR; cases hR
  rw [if_pos hi] at hR
  have he : (ws_l K P adr dA σ)[a]? = some (adr a, .inl (dA 1, n, .inr (.inl (fun j => Int64.ofInt (σ a j))))) := ws_at ha
  have hset : (ws_l K P adr dA σ).set a (adr a, .inl (dA 1, n, .inr (.inl (vp_updL (fun j => Int64.ofInt (σ a j)) i.toNat (Int64.ofInt x))))) = ws_l K P adr dA (up_s σ a i.toNat x) := by
    refine ws_set ha ?_ (fun a ha => up_off ha)
    rw [up_at]
    simp only [ce_l, ar_v, fn_upL]
  refine va_last hx hb hK hin.1 hin.2.1 hin.2.2.1 a 1 he rfl (ix_in h1 hi) hd ?_
  intro H1 locs1 q1 q2 q3
  rw [ix_cl h1] at q1 q2
  rw [hset] at q1 q2
  exact kk _ p e s m args below meth c adr D dA r σ' ok H1 locs1 ls ⟨q1, q2, q3, cn_up hin.2.2.2 ha ⟨fun _ => h0, fun q => absurd rfl q⟩⟩ hl hst hR
theorem g_alen {a n t : Nat} (ha : K[a]? = some (.inr (t, n))) (ht : t < 6) (hn : n < 100000) (hd : decode cc pc = .ok (.arraylength, 1)) (kk : G l K P own cc nL rt d (pc + 1) lv (.inl (n : Int) :: st) σ R) : G l K P own cc nL rt d pc lv (.inr (.inr a) :: st) σ R := by
  intro p e s m args below meth c adr D dA r σ' ok H locs ls hin hl hst hR
  obtain ⟨hx, hb, hml, hown, hT, hK, hr, hlk, hs⟩ := id ok
  obtain ⟨h0, hst⟩ := List.forall_mem_cons.mp hst
  have he : (ws_l K P adr dA σ)[a]? = some (adr a, .inl (dA t, n, ar_v adr (P a) (σ a) t)) := ws_at ha
  have hk := kk p e s m args below meth c adr D dA r σ' ok H locs ls hin hl (cn_c (show c32 (n : Int) by unfold c32; omega) hst) hR
  have hty : ∃ ty, (tyl dA)[t]? = some (dA t, ty) := by
    rcases (show t = 0 ∨ t = 1 ∨ t = 2 ∨ t = 3 ∨ t = 4 ∨ t = 5 by omega) with rfl | rfl | rfl | rfl | rfl | rfl <;> exact ⟨_, rfl⟩
  obtain ⟨ty, hty⟩ := hty
  exact va_alen hx hb hK hin.1 a t he hty (show Int32.ofNat n = Int32.ofInt (n : Int) from (Int32.ofInt_eq_ofNat ..).symm) hd hk
def cp_s (σ : Sg) (a0 a1 sp dp n : Nat) : Sg := fun a => if a = a1 then (fun b => if dp ≤ b ∧ b < dp + n then σ a0 (sp + (b - dp)) else σ a b) else σ a
def cpw (n0 n1 : Nat) (sp dp n : Int) (s : Sg) (F : Sg → Rs) : Rs := if 0 ≤ sp ∧ 0 ≤ dp ∧ 0 ≤ n ∧ sp + n ≤ (n0 : Int) ∧ dp + n ≤ (n1 : Int) then F s else none
def CY (own : String) (idx : Nat) : Prop := Cond.methodLink own idx arraycopyName ∈ tbf ∧ Cond.native arraycopyName ∈ tbf ∧ Cond.static arraycopyName ∈ tbf ∧ Cond.initialized "java/lang/System" ∈ tbf
theorem cp_off {σ : Sg} {a0 a1 sp dp n a : Nat} (h : a ≠ a1) : cp_s σ a0 a1 sp dp n a = σ a := by unfold cp_s; rw [if_neg h]
theorem cp_at {σ : Sg} {a0 a1 sp dp n : Nat} : cp_s σ a0 a1 sp dp n a1 = fun b => if dp ≤ b ∧ b < dp + n then σ a0 (sp + (b - dp)) else σ a1 b := by unfold cp_s; rw [if_pos rfl]
theorem g_copyi {idx a0 a1 n0 n1 : Nat} {sp dp n : Int} {F : Sg → Rs} (hw : CY own idx) (h0' : K[a0]? = some (.inr (0, n0))) (h1' : K[a1]? = some (.inr (0, n1))) (hdp : 1 ≤ d) (hsw : stw st ≤ 8) (hd : decode cc pc = .ok (.invokestatic idx, 3)) (kk : ∀ σ1, G l K P own cc nL rt d (pc + 3) lv st σ1 (F σ1)) : G l K P own cc nL rt d pc lv (.inl n :: .inl dp :: .inr (.inr a1) :: .inl sp :: .inr (.inr a0) :: st) σ (cpw n0 n1 sp dp n (cp_s σ a0 a1 sp.toNat dp.toNat n.toNat) F) := by
  intro p e s m args below meth c adr D dA r σ' ok H locs ls hin hl hst hR
  obtain ⟨hx, hb, hml, hown, hT, hK, hr, hlk, hs⟩ := id ok
  obtain ⟨h0, hst⟩ := List.forall_mem_cons.mp hst
  obtain ⟨h1, hst⟩ := List.forall_mem_cons.mp hst
  obtain ⟨h2, hst⟩ := List.forall_mem_cons.mp hst
  obtain ⟨h3, hst⟩ := List.forall_mem_cons.mp hst
  obtain ⟨h4, hst⟩ := List.forall_mem_cons.mp hst
  unfold cpw at hR
  by_cases hi : 0 ≤ sp ∧ 0 ≤ dp ∧ 0 ≤ n ∧ sp + n ≤ (n0 : Int) ∧ dp + n ≤ (n1 : Int)
  rotate_left
  · rw [if_neg hi] at hR; cases hR
  rw [if_pos hi] at hR
  obtain ⟨i1, i2, i3, i4, i5⟩ := hi
  have he0 : (ws_l K P adr dA σ)[a0]? = some (adr a0, .inl (dA 0, n0, .inl (fun j => Int32.ofInt (σ a0 j)))) := ws_at h0'
  have he1 : (ws_l K P adr dA σ)[a1]? = some (adr a1, .inl (dA 0, n1, .inl (fun j => Int32.ofInt (σ a1 j)))) := ws_at h1'
  have nn : ∀ {z : Int}, c32 z → 0 ≤ z → ¬ Int32.ofInt z < 0 := fun hz h q => by
    have := (i32_lt hz c32_0).mp q
    omega
  have hset : (ws_l K P adr dA σ).set a1 (adr a1, .inl (dA 0, n1, .inl (va_cpy (fun j => Int32.ofInt (σ a0 j)) (fun j => Int32.ofInt (σ a1 j)) sp.toNat dp.toNat n.toNat))) = ws_l K P adr dA (cp_s σ a0 a1 sp.toNat dp.toNat n.toNat) := by
    refine ws_set h1' ?_ (fun a ha => cp_off ha)
    rw [cp_at]
    simp only [ce_l, ar_v]
    congr 4
    skip
    funext j
    unfold va_cpy
    by_cases q : dp.toNat ≤ j ∧ j < dp.toNat + n.toNat
    · simp only [if_pos q]
    · simp only [if_neg q]
  refine va_copyi hx hb (hml.trans hl.1.1.symm) hown (hT.hts _ hw.1) (hT.hts _ hw.2.1) (hT.hts _ hw.2.2.1) (hT.hts _ hw.2.2.2) hK hin.1 hin.2.1 hin.2.2.1 a0 a1 0 0 he0 he1 rfl rfl rfl (nn h3 i1) (nn h1 i2) (nn h0 i3) (by rw [ix_cl h3, ix_cl h0]; omega) (by rw [ix_cl h1, ix_cl h0]; omega) (fun _ _ => rfl) hdp (by
    rw [en_stw]
    have : nativeFrameWords "java/lang/System" "arraycopy" 5 ≤ 40 := by decide
    show _ ≤ 64 * d
    omega) hd ?_
  intro H1 locs1 q1 q2 q3
  rw [ix_cl h3, ix_cl h1, ix_cl h0, hset] at q1 q2
  refine kk _ p e s m args below meth c adr D dA r σ' ok H1 locs1 ls ⟨q1, q2, q3, ?_⟩ hl hst hR
  intro a κ ha k
  by_cases ea : a = a1
  · subst ea
    cases ha.symm.trans h1'
    rw [cp_at]
    have g := hin.2.2.2 a _ ha
    have g0 := hin.2.2.2 a0 _ h0'
    by_cases q : dp.toNat ≤ k ∧ k < dp.toNat + n.toNat
    · simp only [if_pos q]; exact g0 _
    · simp only [if_neg q]; exact g _
  · rw [cp_off ea]; exact hin.2.2.2 a κ ha k
theorem g_copyl {idx a0 a1 n0 n1 : Nat} {sp dp n : Int} {F : Sg → Rs} (hw : CY own idx) (h0' : K[a0]? = some (.inr (1, n0))) (h1' : K[a1]? = some (.inr (1, n1))) (hdp : 1 ≤ d) (hsw : stw st ≤ 8) (hd : decode cc pc = .ok (.invokestatic idx, 3)) (kk : ∀ σ1, G l K P own cc nL rt d (pc + 3) lv st σ1 (F σ1)) : G l K P own cc nL rt d pc lv (.inl n :: .inl dp :: .inr (.inr a1) :: .inl sp :: .inr (.inr a0) :: st) σ (cpw n0 n1 sp dp n (cp_s σ a0 a1 sp.toNat dp.toNat n.toNat) F) := by
  intro p e s m args below meth c adr D dA r σ' ok H locs ls hin hl hst hR
  obtain ⟨hx, hb, hml, hown, hT, hK, hr, hlk, hs⟩ := id ok
  obtain ⟨h0, hst⟩ := List.forall_mem_cons.mp hst
  obtain ⟨h1, hst⟩ := List.forall_mem_cons.mp hst
  obtain ⟨h2, hst⟩ := List.forall_mem_cons.mp hst
  obtain ⟨h3, hst⟩ := List.forall_mem_cons.mp hst
  obtain ⟨h4, hst⟩ := List.forall_mem_cons.mp hst
  unfold cpw at hR
  by_cases hi : 0 ≤ sp ∧ 0 ≤ dp ∧ 0 ≤ n ∧ sp + n ≤ (n0 : Int) ∧ dp + n ≤ (n1 : Int)
  rotate_left
  · rw [if_neg hi] at hR; cases hR
  rw [if_pos hi] at hR
  obtain ⟨i1, i2, i3, i4, i5⟩ := hi
  have he0 : (ws_l K P adr dA σ)[a0]? = some (adr a0, .inl (dA 1, n0, .inr (.inl (fun j => Int64.ofInt (σ a0 j))))) := ws_at h0'
  have he1 : (ws_l K P adr dA σ)[a1]? = some (adr a1, .inl (dA 1, n1, .inr (.inl (fun j => Int64.ofInt (σ a1 j))))) := ws_at h1'
  have nn : ∀ {z : Int}, c32 z → 0 ≤ z → ¬ Int32.ofInt z < 0 := fun hz h q => by
    have := (i32_lt hz c32_0).mp q
    omega
  have hset : (ws_l K P adr dA σ).set a1 (adr a1, .inl (dA 1, n1, .inr (.inl (va_cpy (fun j => Int64.ofInt (σ a0 j)) (fun j => Int64.ofInt (σ a1 j)) sp.toNat dp.toNat n.toNat)))) = ws_l K P adr dA (cp_s σ a0 a1 sp.toNat dp.toNat n.toNat) := by
    refine ws_set h1' ?_ (fun a ha => cp_off ha)
    rw [cp_at]
    simp only [ce_l, ar_v]
    congr 4
    congr 1
    funext j
    unfold va_cpy
    by_cases q : dp.toNat ≤ j ∧ j < dp.toNat + n.toNat
    · simp only [if_pos q]
    · simp only [if_neg q]
  refine va_copyl hx hb (hml.trans hl.1.1.symm) hown (hT.hts _ hw.1) (hT.hts _ hw.2.1) (hT.hts _ hw.2.2.1) (hT.hts _ hw.2.2.2) hK hin.1 hin.2.1 hin.2.2.1 a0 a1 1 1 he0 he1 rfl rfl rfl (nn h3 i1) (nn h1 i2) (nn h0 i3) (by rw [ix_cl h3, ix_cl h0]; omega) (by rw [ix_cl h1, ix_cl h0]; omega) (fun _ _ => rfl) hdp (by
    rw [en_stw]
    have : nativeFrameWords "java/lang/System" "arraycopy" 5 ≤ 40 := by decide
    show _ ≤ 64 * d
    omega) hd ?_
  intro H1 locs1 q1 q2 q3
  rw [ix_cl h3, ix_cl h1, ix_cl h0, hset] at q1 q2
  refine kk _ p e s m args below meth c adr D dA r σ' ok H1 locs1 ls ⟨q1, q2, q3, ?_⟩ hl hst hR
  intro a κ ha k
  by_cases ea : a = a1
  · subst ea
    cases ha.symm.trans h1'
    rw [cp_at]
    have g := hin.2.2.2 a _ ha
    have g0 := hin.2.2.2 a0 _ h0'
    by_cases q : dp.toNat ≤ k ∧ k < dp.toNat + n.toNat
    · simp only [if_pos q]; exact g0 _
    · simp only [if_neg q]; exact g _
  · rw [cp_off ea]; exact hin.2.2.2 a κ ha k
theorem g_iret {x : Int} (hd : decode cc pc = .ok (.ireturn, 1)) : G l K P own cc nL 0 d pc lv [.inl x] σ (some (x, σ)) := by
  intro p e s m args below meth c adr D dA r σ' ok H locs ls hin hl hst hR
  obtain ⟨hx, hb, hml, hown, hT, hK, hr, hlk, hs⟩ := id ok
  obtain ⟨h0, hst⟩ := List.forall_mem_cons.mp hst
  cases hR
  exact W.iret hx hb hr (fun t ht hW => ⟨⟨rfl, h0, hin.2.2.2, by rw [ht]; exact hin.1⟩, hin.2.2.1.F ht⟩) hin.2.2.1.2.2 hd hlk
theorem g_lret {x : Int} (hd : decode cc pc = .ok (.lreturn, 1)) : G l K P own cc nL 1 d pc lv [.inr (.inl x)] σ (some (x, σ)) := by
  intro p e s m args below meth c adr D dA r σ' ok H locs ls hin hl hst hR
  obtain ⟨hx, hb, hml, hown, hT, hK, hr, hlk, hs⟩ := id ok
  obtain ⟨h0, hst⟩ := List.forall_mem_cons.mp hst
  cases hR
  exact W.lret hx hb hr (fun t ht hW => ⟨⟨rfl, h0, hin.2.2.2, by rw [ht]; exact hin.1⟩, hin.2.2.1.F ht⟩) hin.2.2.1.2.2 hd hlk
theorem g_vret (hd : decode cc pc = .ok (.return_, 1)) : G l K P own cc nL 2 d pc lv [] σ (some (0, σ)) := by
  intro p e s m args below meth c adr D dA r σ' ok H locs ls hin hl hst hR
  obtain ⟨hx, hb, hml, hown, hT, hK, hr, hlk, hs⟩ := id ok
  cases hR
  exact W.vret hx hb hr (fun t ht hW => ⟨⟨rfl, trivial, hin.2.2.2, by rw [ht]; exact hin.1⟩, hin.2.2.1.F ht⟩) hin.2.2.1.2.2 hd hlk
theorem g_zret {x : Int} (hd : decode cc pc = .ok (.ireturn, 1)) : G l K P own cc nL 3 d pc lv [.inl x] σ (zb x (some (x, σ))) := by
  intro p e s m args below meth c adr D dA r σ' ok H locs ls hin hl hst hR
  obtain ⟨hx, hb, hml, hown, hT, hK, hr, hlk, hs⟩ := id ok
  obtain ⟨h0, hst⟩ := List.forall_mem_cons.mp hst
  unfold zb at hR
  by_cases hz : x = 0 ∨ x = 1
  rotate_left
  · rw [if_neg hz] at hR; cases hR
  rw [if_pos hz] at hR
  cases hR
  exact W.zret hx hb hr (na_z hz).1 (fun t ht hW => ⟨⟨rfl, h0, hin.2.2.2, by rw [ht]; exact hin.1⟩, hin.2.2.1.F ht⟩) hin.2.2.1.2.2 hd hlk
theorem g_zret0 (hd : decode cc pc = .ok (.ireturn, 1)) : G l K P own cc nL 3 d pc lv [.inl 0] σ (some (0, σ)) := by
  have h : G l K P own cc nL 3 d pc lv [.inl 0] σ (zb 0 (some (0, σ))) := g_zret hd
  rw [show zb 0 (some ((0 : Int), σ)) = some (0, σ) from rfl] at h
  exact h
theorem g_zret1 (hd : decode cc pc = .ok (.ireturn, 1)) : G l K P own cc nL 3 d pc lv [.inl 1] σ (some (1, σ)) := by
  have h : G l K P own cc nL 3 d pc lv [.inl 1] σ (zb 1 (some (1, σ))) := g_zret hd
  rw [show zb 1 (some ((1 : Int), σ)) = some (1, σ) from rfl] at h
  exact h
theorem lg_c {x y : Int} (hx : c64 x) (hy : c64 y) : lg_cmp (Int64.ofInt x) (Int64.ofInt y) = if y < x then 1 else if x = y then 0 else -1 := by
  unfold lg_cmp
  simp only [gt_iff_lt, i64_lt hy hx, i64_inj hx hy]
theorem g_lcmpeq {x y : Int} {off : Int} {tgt : Nat} (hd : decode cc pc = .ok (.lcmp, 1)) (hd2 : decode cc (pc + 1) = .ok (.ifCond .eq off, 3)) (ht : ((pc + 1 : Nat) : Int) + off = (tgt : Int)) (k1 : G l K P own cc nL rt d tgt lv st σ A) (k2 : G l K P own cc nL rt d (pc + 4) lv st σ B) : G l K P own cc nL rt d pc lv (.inr (.inl y) :: .inr (.inl x) :: st) σ (if x = y then A else B) := by
  intro p e s m args below meth c adr D dA r σ' ok H locs ls hin hl hst hR
  obtain ⟨hx, hb, hml, hown, hT, hK, hr, hlk, hs⟩ := id ok
  obtain ⟨h0, hst⟩ := List.forall_mem_cons.mp hst
  obtain ⟨h1, hst⟩ := List.forall_mem_cons.mp hst
  refine W.lcmp hx hb hd ?_
  rw [lg_c h1 h0]
  refine lv_if_eq hx hb hd2 ht (fun q => ?_) (fun q => ?_)
  · rw [if_pos (by
      by_cases e1 : y < x
      · simp only [if_pos e1] at q; first | omega | (exfalso; revert q; decide)
      · by_cases e2 : x = y
        · simp only [if_neg e1, if_pos e2] at q; first | omega | (exfalso; revert q; decide)
        · simp only [if_neg e1, if_neg e2] at q; first | omega | (exfalso; revert q; decide))] at hR
    exact k1 p e s m args below meth c adr D dA r σ' ok H locs ls hin hl hst hR
  · rw [if_neg (by
      by_cases e1 : y < x
      · simp only [if_pos e1] at q; first | omega | (exfalso; revert q; decide)
      · by_cases e2 : x = y
        · simp only [if_neg e1, if_pos e2] at q; first | omega | (exfalso; revert q; decide)
        · simp only [if_neg e1, if_neg e2] at q; first | omega | (exfalso; revert q; decide))] at hR
    exact k2 p e s m args below meth c adr D dA r σ' ok H locs ls hin hl hst hR
theorem g_lcmpne {x y : Int} {off : Int} {tgt : Nat} (hd : decode cc pc = .ok (.lcmp, 1)) (hd2 : decode cc (pc + 1) = .ok (.ifCond .ne off, 3)) (ht : ((pc + 1 : Nat) : Int) + off = (tgt : Int)) (k2 : G l K P own cc nL rt d (pc + 4) lv st σ A) (k1 : G l K P own cc nL rt d tgt lv st σ B) : G l K P own cc nL rt d pc lv (.inr (.inl y) :: .inr (.inl x) :: st) σ (if x = y then A else B) := by
  intro p e s m args below meth c adr D dA r σ' ok H locs ls hin hl hst hR
  obtain ⟨hx, hb, hml, hown, hT, hK, hr, hlk, hs⟩ := id ok
  obtain ⟨h0, hst⟩ := List.forall_mem_cons.mp hst
  obtain ⟨h1, hst⟩ := List.forall_mem_cons.mp hst
  refine W.lcmp hx hb hd ?_
  rw [lg_c h1 h0]
  refine lv_if_ne hx hb hd2 ht (fun q => ?_) (fun q => ?_)
  · rw [if_neg (by
      by_cases e1 : y < x
      · simp only [if_pos e1] at q; first | omega | (exfalso; revert q; decide)
      · by_cases e2 : x = y
        · simp only [if_neg e1, if_pos e2] at q; first | omega | (exfalso; revert q; decide)
        · simp only [if_neg e1, if_neg e2] at q; first | omega | (exfalso; revert q; decide))] at hR
    exact k1 p e s m args below meth c adr D dA r σ' ok H locs ls hin hl hst hR
  · rw [if_pos (by
      by_cases e1 : y < x
      · simp only [if_pos e1] at q; first | omega | (exfalso; revert q; decide)
      · by_cases e2 : x = y
        · simp only [if_neg e1, if_pos e2] at q; first | omega | (exfalso; revert q; decide)
        · simp only [if_neg e1, if_neg e2] at q; first | omega | (exfalso; revert q; decide))] at hR
    exact k2 p e s m args below meth c adr D dA r σ' ok H locs ls hin hl hst hR
theorem g_lcmplt {x y : Int} {off : Int} {tgt : Nat} (hd : decode cc pc = .ok (.lcmp, 1)) (hd2 : decode cc (pc + 1) = .ok (.ifCond .lt off, 3)) (ht : ((pc + 1 : Nat) : Int) + off = (tgt : Int)) (k1 : G l K P own cc nL rt d tgt lv st σ A) (k2 : G l K P own cc nL rt d (pc + 4) lv st σ B) : G l K P own cc nL rt d pc lv (.inr (.inl y) :: .inr (.inl x) :: st) σ (if x < y then A else B) := by
  intro p e s m args below meth c adr D dA r σ' ok H locs ls hin hl hst hR
  obtain ⟨hx, hb, hml, hown, hT, hK, hr, hlk, hs⟩ := id ok
  obtain ⟨h0, hst⟩ := List.forall_mem_cons.mp hst
  obtain ⟨h1, hst⟩ := List.forall_mem_cons.mp hst
  refine W.lcmp hx hb hd ?_
  rw [lg_c h1 h0]
  refine lv_if_lt hx hb hd2 ht (fun q => ?_) (fun q => ?_)
  · rw [if_pos (by
      by_cases e1 : y < x
      · simp only [if_pos e1] at q; first | omega | (exfalso; revert q; decide)
      · by_cases e2 : x = y
        · simp only [if_neg e1, if_pos e2] at q; first | omega | (exfalso; revert q; decide)
        · simp only [if_neg e1, if_neg e2] at q; first | omega | (exfalso; revert q; decide))] at hR
    exact k1 p e s m args below meth c adr D dA r σ' ok H locs ls hin hl hst hR
  · rw [if_neg (by
      by_cases e1 : y < x
      · simp only [if_pos e1] at q; first | omega | (exfalso; revert q; decide)
      · by_cases e2 : x = y
        · simp only [if_neg e1, if_pos e2] at q; first | omega | (exfalso; revert q; decide)
        · simp only [if_neg e1, if_neg e2] at q; first | omega | (exfalso; revert q; decide))] at hR
    exact k2 p e s m args below meth c adr D dA r σ' ok H locs ls hin hl hst hR
theorem g_lcmpge {x y : Int} {off : Int} {tgt : Nat} (hd : decode cc pc = .ok (.lcmp, 1)) (hd2 : decode cc (pc + 1) = .ok (.ifCond .ge off, 3)) (ht : ((pc + 1 : Nat) : Int) + off = (tgt : Int)) (k2 : G l K P own cc nL rt d (pc + 4) lv st σ A) (k1 : G l K P own cc nL rt d tgt lv st σ B) : G l K P own cc nL rt d pc lv (.inr (.inl y) :: .inr (.inl x) :: st) σ (if x < y then A else B) := by
  intro p e s m args below meth c adr D dA r σ' ok H locs ls hin hl hst hR
  obtain ⟨hx, hb, hml, hown, hT, hK, hr, hlk, hs⟩ := id ok
  obtain ⟨h0, hst⟩ := List.forall_mem_cons.mp hst
  obtain ⟨h1, hst⟩ := List.forall_mem_cons.mp hst
  refine W.lcmp hx hb hd ?_
  rw [lg_c h1 h0]
  refine lv_if_ge hx hb hd2 ht (fun q => ?_) (fun q => ?_)
  · rw [if_neg (by
      by_cases e1 : y < x
      · simp only [if_pos e1] at q; first | omega | (exfalso; revert q; decide)
      · by_cases e2 : x = y
        · simp only [if_neg e1, if_pos e2] at q; first | omega | (exfalso; revert q; decide)
        · simp only [if_neg e1, if_neg e2] at q; first | omega | (exfalso; revert q; decide))] at hR
    exact k1 p e s m args below meth c adr D dA r σ' ok H locs ls hin hl hst hR
  · rw [if_pos (by
      by_cases e1 : y < x
      · simp only [if_pos e1] at q; first | omega | (exfalso; revert q; decide)
      · by_cases e2 : x = y
        · simp only [if_neg e1, if_pos e2] at q; first | omega | (exfalso; revert q; decide)
        · simp only [if_neg e1, if_neg e2] at q; first | omega | (exfalso; revert q; decide))] at hR
    exact k2 p e s m args below meth c adr D dA r σ' ok H locs ls hin hl hst hR
theorem g_lcmpgt {x y : Int} {off : Int} {tgt : Nat} (hd : decode cc pc = .ok (.lcmp, 1)) (hd2 : decode cc (pc + 1) = .ok (.ifCond .gt off, 3)) (ht : ((pc + 1 : Nat) : Int) + off = (tgt : Int)) (k1 : G l K P own cc nL rt d tgt lv st σ A) (k2 : G l K P own cc nL rt d (pc + 4) lv st σ B) : G l K P own cc nL rt d pc lv (.inr (.inl y) :: .inr (.inl x) :: st) σ (if y < x then A else B) := by
  intro p e s m args below meth c adr D dA r σ' ok H locs ls hin hl hst hR
  obtain ⟨hx, hb, hml, hown, hT, hK, hr, hlk, hs⟩ := id ok
  obtain ⟨h0, hst⟩ := List.forall_mem_cons.mp hst
  obtain ⟨h1, hst⟩ := List.forall_mem_cons.mp hst
  refine W.lcmp hx hb hd ?_
  rw [lg_c h1 h0]
  refine lv_if_gt hx hb hd2 ht (fun q => ?_) (fun q => ?_)
  · rw [if_pos (by
      by_cases e1 : y < x
      · simp only [if_pos e1] at q; first | omega | (exfalso; revert q; decide)
      · by_cases e2 : x = y
        · simp only [if_neg e1, if_pos e2] at q; first | omega | (exfalso; revert q; decide)
        · simp only [if_neg e1, if_neg e2] at q; first | omega | (exfalso; revert q; decide))] at hR
    exact k1 p e s m args below meth c adr D dA r σ' ok H locs ls hin hl hst hR
  · rw [if_neg (by
      by_cases e1 : y < x
      · simp only [if_pos e1] at q; first | omega | (exfalso; revert q; decide)
      · by_cases e2 : x = y
        · simp only [if_neg e1, if_pos e2] at q; first | omega | (exfalso; revert q; decide)
        · simp only [if_neg e1, if_neg e2] at q; first | omega | (exfalso; revert q; decide))] at hR
    exact k2 p e s m args below meth c adr D dA r σ' ok H locs ls hin hl hst hR
theorem g_lcmple {x y : Int} {off : Int} {tgt : Nat} (hd : decode cc pc = .ok (.lcmp, 1)) (hd2 : decode cc (pc + 1) = .ok (.ifCond .le off, 3)) (ht : ((pc + 1 : Nat) : Int) + off = (tgt : Int)) (k2 : G l K P own cc nL rt d (pc + 4) lv st σ A) (k1 : G l K P own cc nL rt d tgt lv st σ B) : G l K P own cc nL rt d pc lv (.inr (.inl y) :: .inr (.inl x) :: st) σ (if y < x then A else B) := by
  intro p e s m args below meth c adr D dA r σ' ok H locs ls hin hl hst hR
  obtain ⟨hx, hb, hml, hown, hT, hK, hr, hlk, hs⟩ := id ok
  obtain ⟨h0, hst⟩ := List.forall_mem_cons.mp hst
  obtain ⟨h1, hst⟩ := List.forall_mem_cons.mp hst
  refine W.lcmp hx hb hd ?_
  rw [lg_c h1 h0]
  refine lv_if_le hx hb hd2 ht (fun q => ?_) (fun q => ?_)
  · rw [if_neg (by
      by_cases e1 : y < x
      · simp only [if_pos e1] at q; first | omega | (exfalso; revert q; decide)
      · by_cases e2 : x = y
        · simp only [if_neg e1, if_pos e2] at q; first | omega | (exfalso; revert q; decide)
        · simp only [if_neg e1, if_neg e2] at q; first | omega | (exfalso; revert q; decide))] at hR
    exact k1 p e s m args below meth c adr D dA r σ' ok H locs ls hin hl hst hR
  · rw [if_pos (by
      by_cases e1 : y < x
      · simp only [if_pos e1] at q; first | omega | (exfalso; revert q; decide)
      · by_cases e2 : x = y
        · simp only [if_neg e1, if_pos e2] at q; first | omega | (exfalso; revert q; decide)
        · simp only [if_neg e1, if_neg e2] at q; first | omega | (exfalso; revert q; decide))] at hR
    exact k2 p e s m args below meth c adr D dA r σ' ok H locs ls hin hl hst hR
def sw (x : Int) : Int → List Rs → Rs → Rs
  | _, [], z => z
  | lo, a :: r, z => if x = lo then a else sw x (lo + 1) r z
def AG (g : Nat → Rs → Prop) : List Nat → List Rs → Prop
  | [], [] => True
  | t :: ts, a :: r => g t a ∧ AG g ts r
  | _, _ => False
theorem sw_in {x : Int} {As : List Rs} {z : Rs} {g : Nat → Rs → Prop} : ∀ {lo : Int} {ts : List Nat} (_ : AG g ts As) (i : Nat), i < ts.length → x = lo + i → g (ts.getD i 0) (sw x lo As z) := by
  induction As with
  | nil =>
    intro lo ts h i hi
    cases ts with
    | nil => simp at hi
    | cons t ts => exact h.elim
  | cons a r ih =>
    intro lo ts h i hi hx
    cases ts with
    | nil => simp at hi
    | cons t ts =>
      cases i with
      | zero => rw [sw, if_pos (by omega)]; exact h.1
      | succ i => rw [sw, if_neg (by omega)]; exact ih h.2 i (by simpa using hi) (by omega)
theorem sw_out {x : Int} {As : List Rs} {z : Rs} : ∀ {lo : Int}, (x < lo ∨ lo + As.length ≤ x) → sw x lo As z = z := by
  induction As with
  | nil => intro lo _; rfl
  | cons a r ih =>
    intro lo h
    rw [sw, if_neg (by simp at h; omega)]
    exact ih (by simp at h; omega)
theorem g_tsw {x dflt lo hi : Int} {offs : Array Int} {len td : Nat} {As : List Rs} {z : Rs} (ts : List Nat) (hd : decode cc pc = .ok (.tableswitch dflt lo hi offs, len)) (hts : (pc : Int) + dflt = (td : Int) ∧ hi = lo + ts.length - 1 ∧ offs.toList.map (fun o => (pc : Int) + o) = ts.map (fun t : Nat => (t : Int))) (hlen : As.length = ts.length) (hA : AG (fun t a => G l K P own cc nL rt d t lv st σ a) ts As) (hz : G l K P own cc nL rt d td lv st σ z) : G l K P own cc nL rt d pc lv (.inl x :: st) σ (sw x lo As z) := by
  intro p e s m args below meth c adr D dA r σ' ok H locs ls hin hl hst hR
  obtain ⟨hx, hb, hml, hown, hT, hK, hr, hlk, hs⟩ := id ok
  obtain ⟨h0, hst⟩ := List.forall_mem_cons.mp hst
  obtain ⟨t1, t2, t3⟩ := hts
  by_cases hi1 : x < lo ∨ hi < x
  · rw [sw_out (by omega)] at hR
    exact lv_tableOut hx hb hd (by rw [i32_of h0]; exact hi1) t1 (hz p e s m args below meth c adr D dA r σ' ok H locs ls hin hl hst hR)
  · have hn : (x - lo).toNat < ts.length := by omega
    have hg := sw_in (x := x) (lo := lo) (z := z) hA (x - lo).toNat hn (by omega)
    have hl2 : offs.toList.length = ts.length := by have := congrArg List.length t3; simpa using this
    have hlt : (x - lo).toNat < offs.toList.length := by omega
    have h5 : (offs.toList.map (fun o => (pc : Int) + o))[(x - lo).toNat]? = (ts.map (fun t : Nat => (t : Int)))[(x - lo).toNat]? := by rw [t3]
    rw [List.getElem?_map, List.getElem?_map, List.getElem?_eq_getElem hlt, List.getElem?_eq_getElem hn] at h5
    have h6 : (pc : Int) + offs.toList[(x - lo).toNat] = ((ts.getD (x - lo).toNat 0 : Nat) : Int) := by
      have h7 : (pc : Int) + offs.toList[(x - lo).toNat] = ((ts[(x - lo).toNat] : Nat) : Int) := Option.some.inj h5
      rw [h7]
      simp [List.getD, List.getElem?_eq_getElem hn]
    exact lv_tableIn hx hb hd (by rw [i32_of h0]; omega) (by rw [i32_of h0]; omega) (off := offs.toList[(x - lo).toNat]) (by rw [i32_of h0, ← Array.getElem?_toList, List.getElem?_eq_getElem hlt]) h6 (hg p e s m args below meth c adr D dA r σ' ok H locs ls hin hl hst hR)
def mk : List Bool → List (Option Pv) → List (Option Pv)
  | true :: m, x :: r => x :: mk m r
  | false :: m, _ :: r => none :: mk m r
  | _, _ => []
theorem mk_at : ∀ (m : List Bool) (lv : List (Option Pv)) (i : Nat) (v : Pv), (mk m lv)[i]? = some (some v) → lv[i]? = some (some v)
  | true :: m, x :: r, 0, v, h => h
  | true :: m, x :: r, i + 1, v, h => mk_at m r i v h
  | false :: m, _ :: r, 0, v, h => by simp [mk] at h
  | false :: m, _ :: r, i + 1, v, h => mk_at m r i v h
  | [], lv, i, v, h => by simp [mk] at h
  | _ :: m, [], i, v, h => by simp [mk] at h
/-- fewer locals -/
theorem g_weak (ms : List Bool) (kk : G l K P own cc nL rt d pc (mk ms lv) st σ R) : G l K P own cc nL rt d pc lv st σ R := by
  intro p e s m args below meth c adr D dA r σ' ok H locs ls hin hl hst hR
  obtain ⟨hx, hb, hml, hown, hT, hK, hr, hlk, hs⟩ := id ok
  refine kk p e s m args below meth c adr D dA r σ' ok H locs ls hin ⟨⟨hl.1.1, hl.1.2.1, fun q hq => ?_⟩, fun v hv => ?_⟩ hst hR
  · obtain ⟨i, v, hi, rfl⟩ := prs_mem.mp hq
    exact hl.1.2.2 _ (prs_mem.mpr ⟨i, v, mk_at _ _ _ _ hi, rfl⟩)
  · obtain ⟨i, hi⟩ := List.getElem?_of_mem hv
    exact hl.2 v (List.mem_of_getElem? (mk_at _ _ _ _ hi))
def lsw (x : Int) : List (Int × Rs) → Rs → Rs
  | [], z => z
  | q :: r, z => if x = q.1 then q.2 else lsw x r z
end GH
