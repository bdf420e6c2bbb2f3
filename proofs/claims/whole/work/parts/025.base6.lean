/-! BASE 6: stores of references, casts, switches, Math -/
section MORE
variable {K : JK} {cc : ByteArray} {nL : Nat} {own : String} {pc : Nat} {l : List (Option WV)} {st : List WV} {σ : St} {n1 n2 : Nat}
theorem uR_row {f a kd : Nat} {j : Int} {o : Option Nat} : (fun b => ((uR σ f a (nm j).toNat o).2.2.2.2 f a b).map (σ.1 kd)) = va_up (fun b => (σ.2.2.2.2 f a b).map (σ.1 kd)) (Int32.ofInt j).toNatClampNeg (o.map (σ.1 kd)) := by
  funext b
  show Option.map (σ.1 kd) (if f = f ∧ a = a ∧ b = (nm j).toNat then _ else _) = _
  unfold va_up
  by_cases hb : b = (nm j).toNat
  · rw [if_pos ⟨rfl, rfl, hb⟩, if_pos (show b = (Int32.ofInt j).toNatClampNeg from hb)]
  · rw [if_neg (fun z => hb z.2.2), if_neg (show ¬ b = (Int32.ofInt j).toNatClampNeg from hb)]
theorem r_aastore (hC : Cx K cc nL own) {k a kd : Nat} {j : Int} {o : Option Nat} (ht : (aTy k a = 4 ∧ kd = 10) ∨ (aTy k a = 5 ∧ kd = 20) ∨ (aTy k a = 6 ∧ kd = 12)) (h50 : k ≠ 50) (hkR : kR (aFd k) = kd) (hi : 0 ≤ nm j ∧ nm j < (aLen k a : Int)) (hd : decode cc pc = .ok (.aastore, 1)) (kk : ∀ σ', σ' = uR σ (aFd k) a (nm j).toNat o → J K (pc + 1) l st σ' n1 n2) : J K pc l (wr kd o :: wi j :: wr k (some a) :: st) σ n1 n2 := by
  intro H locs ls hw hl ho
  have hm := ok_tag (okc (okc (okc ho).2).2).1 h50
  obtain ⟨q, hq, hp⟩ := wd_place hw hm
  have hkd : kd ≠ 50 := by rcases ht with ⟨_, rfl⟩ | ⟨_, rfl⟩ | ⟨_, rfl⟩ <;> decide
  have hk : ownR (aFd k) = k := by
    rcases ht with ⟨ht, -⟩ | ⟨ht, -⟩ | ⟨ht, -⟩ <;> exact (fd_own (by rw [ht]; decide)).2.2 (by omega)
  have hT' : WT (uR σ (aFd k) a (nm j).toNat o) := wt_uR hw.2.2.1 (fun x hx => by subst hx; rw [hkR]; exact ok_tag (okc ho).1 hkd)
  have hs := same_uR (σ := σ) (f := aFd k) (a := a) (b := (nm j).toNat) (v := o)
  have hst := st_ext (okc (okc (okc ho).2).2).2 hs.ext
  have fin : ∀ (H1 : Heap) (locs1 : List Loc), Wd K H1 locs1 (uR σ (aFd k) a (nm j).toNat o) → WJ K H1 locs1 n1 n2 (F0 (kM K) (pc + 1) ls (st.map (den σ))) := by
    intro H1 locs1 hw1
    have h := kk _ rfl H1 locs1 ls hw1 (hl.ext hs.ext) hst.2
    rw [hst.1] at h
    exact h
  have hne : ∀ k' a', ¬ (k' = k ∧ a' = a) → cell (kC K) (uR σ (aFd k) a (nm j).toNat o) k' a' = cell (kC K) σ k' a' := fun k' a' h => cell_uR (by rw [hk]; exact h)
  rcases ht with ⟨ht, rfl⟩ | ⟨ht, rfl⟩ | ⟨ht, rfl⟩
  · rw [cell_4 ht] at hp
    have hc : cell (kC K) (uR σ (aFd k) a (nm j).toNat o) k a = .inl (kC K 3, aLen k a, .inr (.inr (.inr (.inr (va_up (fun b => (σ.2.2.2.2 (aFd k) a b).map (σ.1 10)) (Int32.ofInt j).toNatClampNeg (o.map (σ.1 10))))))) := by
      rw [cell_4 ht, ← uR_row]; rfl
    cases o with
    | none => exact va_astqN hC.1 hC.2.1 hC.2.2.2.2.2.1 hw.1 hw.2.1 hw.2.2.2.2 q 3 hp rfl (vp_of hi) hd (fun H1 locs1 hP hD hS => fin H1 locs1 (Wd.put hw hs hq hc hne hT' hP hD hS))
    | some x =>
      obtain ⟨qv, hqv, hpv⟩ := wd_place hw (ok_tag (okc ho).1 hkd)
      exact va_astq (r := (RX2, TX2, 12)) hC.1 hC.2.1 hC.2.2.2.2.2.1 hw.1 hw.2.1 hw.2.2.2.2 q 3 qv 2 hp rfl hpv rfl (vp_of hi) hd (fun H1 locs1 hP hD hS => fin H1 locs1 (Wd.put hw hs hq hc hne hT' hP hD hS))
  · rw [cell_5 ht] at hp
    have hc : cell (kC K) (uR σ (aFd k) a (nm j).toNat o) k a = .inl (kC K 4, aLen k a, .inr (.inr (.inr (.inr (va_up (fun b => (σ.2.2.2.2 (aFd k) a b).map (σ.1 20)) (Int32.ofInt j).toNatClampNeg (o.map (σ.1 20))))))) := by
      rw [cell_5 ht, ← uR_row]; rfl
    cases o with
    | none => exact va_astqN hC.1 hC.2.1 hC.2.2.2.2.2.1 hw.1 hw.2.1 hw.2.2.2.2 q 4 hp rfl (vp_of hi) hd (fun H1 locs1 hP hD hS => fin H1 locs1 (Wd.put hw hs hq hc hne hT' hP hD hS))
    | some x =>
      obtain ⟨qv, hqv, hpv⟩ := wd_place hw (ok_tag (okc ho).1 hkd)
      rw [cell_obj (show aTy 20 x = 0 from rfl)] at hpv
      by_cases hx : x < 12
      · rw [show oCi 20 x = 3 by simp [oCi, hx]] at hpv
        exact va_astqO (r := (RX3, TX3, 14)) hC.1 hC.2.1 hC.2.2.2.2.2.1 hw.1 hw.2.1 hw.2.2.2.2 q 4 qv 3 hp rfl hC.2.2.2.2.2.2.2.2.2.2.2.2.1 hpv rfl (vp_of hi) hd (fun H1 locs1 hP hD hS => fin H1 locs1 (Wd.put hw hs hq hc hne hT' hP hD hS))
      · rw [show oCi 20 x = 0 by simp [oCi, hx]] at hpv
        exact va_astqO (r := (RX0, TX0, 17)) hC.1 hC.2.1 hC.2.2.2.2.2.1 hw.1 hw.2.1 hw.2.2.2.2 q 4 qv 0 hp rfl hC.2.2.2.2.2.2.2.2.2.2.2.2.2 hpv rfl (vp_of hi) hd (fun H1 locs1 hP hD hS => fin H1 locs1 (Wd.put hw hs hq hc hne hT' hP hD hS))
  · rw [cell_6 ht] at hp
    have hc : cell (kC K) (uR σ (aFd k) a (nm j).toNat o) k a = .inl (kC K 5, aLen k a, .inr (.inr (.inr (.inr (va_up (fun b => (σ.2.2.2.2 (aFd k) a b).map (σ.1 12)) (Int32.ofInt j).toNatClampNeg (o.map (σ.1 12))))))) := by
      rw [cell_6 ht, ← uR_row]; rfl
    cases o with
    | none => exact va_astqN hC.1 hC.2.1 hC.2.2.2.2.2.1 hw.1 hw.2.1 hw.2.2.2.2 q 5 hp rfl (vp_of hi) hd (fun H1 locs1 hP hD hS => fin H1 locs1 (Wd.put hw hs hq hc hne hT' hP hD hS))
    | some x =>
      obtain ⟨qv, hqv, hpv⟩ := wd_place hw (ok_tag (okc ho).1 hkd)
      exact va_astq (r := (RX1, TX1, 3)) hC.1 hC.2.1 hC.2.2.2.2.2.1 hw.1 hw.2.1 hw.2.2.2.2 q 5 qv 1 hp rfl hpv rfl (vp_of hi) hd (fun H1 locs1 hP hD hS => fin H1 locs1 (Wd.put hw hs hq hc hne hT' hP hD hS))
/-- instanceof, checkcast of a thing of the class that is named -/
theorem r_inst (hC : Cx K cc nL own) {idx ci : Nat} {o : Option Nat} {q : vw_C} {nme : String} (hcl : vwCl[ci]? = some q) (hq : q.1 = nme) (w1 : Cond.classLink own idx nme ∈ wsG) (hd : decode cc pc = .ok (.instanceof idx, 3)) (k0 : o = none → J K (pc + 3) l (wi 0 :: st) σ n1 n2) (k1 : ∀ a, o = some a → oCi 20 a = ci ∧ J K (pc + 3) l (wi 1 :: st) σ n1 n2) : J K pc l (wr 20 o :: st) σ n1 n2 := by
  subst hq
  intro H locs ls hw hl ho
  cases o with
  | none => exact lv_instN hC.1 hC.2.1 hd (k0 rfl H locs ls hw hl (okc2 trivial (okc ho).2))
  | some a =>
    obtain ⟨hci, k1⟩ := k1 a rfl
    exact va_instS hC.1 hC.2.1 hC.2.2.2.1 (hC.2.2.2.2.1 _ w1) (hC.2.2.2.2.2.1.1 ci q hcl).2 (recv_ok hC hw (ok_tag (okc ho).1 (by decide)) rfl hci hcl) hd (k1 H locs ls hw hl (okc2 trivial (okc ho).2))
theorem r_cast (hC : Cx K cc nL own) {idx ci : Nat} {o : Option Nat} {q : vw_C} {nme : String} (hcl : vwCl[ci]? = some q) (hq : q.1 = nme) (w1 : Cond.classLink own idx nme ∈ wsG) (hd : decode cc pc = .ok (.checkcast idx, 3)) (k1 : (∀ a, o = some a → oCi 20 a = ci) ∧ J K (pc + 3) l (wr 20 o :: st) σ n1 n2) : J K pc l (wr 20 o :: st) σ n1 n2 := by
  subst hq
  intro H locs ls hw hl ho
  cases o with
  | none => exact lv_castN hC.1 hC.2.1 hd (k1.2 H locs ls hw hl ho)
  | some a => exact va_castS hC.1 hC.2.1 hC.2.2.2.1 (hC.2.2.2.2.1 _ w1) (hC.2.2.2.2.2.1.1 ci q hcl).2 (recv_ok hC hw (ok_tag (okc ho).1 (by decide)) rfl (k1.1 a rfl) hcl) hd (k1.2 H locs ls hw hl ho)
theorem r_tabIn (hC : Cx K cc nL own) {dflt lo hi : Int} {offs : Array Int} {len : Nat} {x : Int} (c : Int) {off : Int} {tgt : Nat} (hx : nm x = c) (hd : decode cc pc = .ok (.tableswitch dflt lo hi offs, len)) (h1 : lo ≤ c) (h2 : c ≤ hi) (hof : offs[(c - lo).toNat]? = some off) (ht : (pc : Int) + off = (tgt : Int)) (k : J K tgt l st σ n1 n2) : J K pc l (wi x :: st) σ n1 n2 := by
  intro H locs ls hw hl ho
  subst hx
  exact lv_tableIn hC.1 hC.2.1 hd (show ¬ nm x < lo by omega) (show ¬ hi < nm x by omega) hof ht (k H locs ls hw hl (okc ho).2)
theorem r_tabOut (hC : Cx K cc nL own) {dflt lo hi : Int} {offs : Array Int} {len : Nat} {x : Int} {tgt : Nat} (hx : nm x < lo ∨ hi < nm x) (hd : decode cc pc = .ok (.tableswitch dflt lo hi offs, len)) (ht : (pc : Int) + dflt = (tgt : Int)) (k : J K tgt l st σ n1 n2) : J K pc l (wi x :: st) σ n1 n2 := by
  intro H locs ls hw hl ho
  exact lv_tableOut hC.1 hC.2.1 hd hx ht (k H locs ls hw hl (okc ho).2)
def zmin (x y : Int) : Int := if nm y < nm x then y else x
def zmax (x y : Int) : Int := if nm x < nm y then y else x
end MORE
