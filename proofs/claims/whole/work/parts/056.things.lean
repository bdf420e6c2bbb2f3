/-! LAYER 2: things by slots, keys, ids -/
theorem zrem12 {x : Int} (h0 : 0 ≤ x) (hx : nm x = x) : zrem x 12 = x % 12 := by
  have hr := nm_rng x
  rw [hx] at hr
  have e1 : (Int32.ofInt x).toInt = x := hx
  have e2 : (Int32.ofInt 12).toInt = 12 := by decide
  unfold zrem
  rw [Int32.toInt_sub, Int32.toInt_mul, Int32.toInt_div_of_ne_right _ _ (by decide), e1, e2, Int.tdiv_eq_ediv_of_nonneg h0]
  have e3 : (x / 12 * 12).bmod (2 ^ 32) = x / 12 * 12 := Int.bmod_eq_of_le (by omega) (by omega)
  rw [e3]
  have e4 : (x - x / 12 * 12).bmod (2 ^ 32) = x - x / 12 * 12 := Int.bmod_eq_of_le (by omega) (by omega)
  rw [e4]
  omega
theorem zdiv12 {x : Int} (h0 : 0 ≤ x) (hx : nm x = x) : zdiv x 12 = x / 12 := by
  have e1 : (Int32.ofInt x).toInt = x := hx
  have e2 : (Int32.ofInt 12).toInt = 12 := by decide
  unfold zdiv
  rw [Int32.toInt_div_of_ne_right _ _ (by decide), e1, e2, Int.tdiv_eq_ediv_of_nonneg h0]
theorem rt_lo (C : St) {s : Nat} (h : s < 12) : rt C s = gR C 2 0 s := by unfold rt; rw [if_pos h]
theorem rt_hi (C : St) (s : Nat) : rt C (12 + s) = gR C 3 0 s := by unfold rt; rw [if_neg (by omega)]; congr 1; omega
/-- k: the row of queues, or of sets; b: its things' first number -/
def kb (k b : Nat) : Prop := (k = 2 ∧ b = 0) ∨ (k = 3 ∧ b = 12)
def rootT (C : St) : Prop := ∀ t, t < 24 → rt C t = none ∨ rt C t = some t
theorem kb_rt {k b s : Nat} {C : St} (h : kb k b) (hs : s < 12) : aTy k 0 = 5 ∧ aLen k 0 = 12 ∧ gR C (aFd k) 0 s = rt C (b + s) := by
  rcases h with ⟨rfl, rfl⟩ | ⟨rfl, rfl⟩
  · refine ⟨rfl, rfl, ?_⟩
    rw [Nat.zero_add, rt_lo C hs]; rfl
  · refine ⟨rfl, rfl, ?_⟩
    rw [rt_hi C s]; rfl
theorem kb_ty {k b : Nat} (h : kb k b) : aTy k 0 = 5 ∧ aLen k 0 = 12 := by
  rcases h with ⟨rfl, rfl⟩ | ⟨rfl, rfl⟩ <;> exact ⟨rfl, rfl⟩
theorem sp_thingIn_some {k b s : Nat} {C : St} {po : Option Nat → St → Prop} (hk : kb k b) (hs : s < 12) (hh : hre C (b + s)) (h : po (some (b + s)) C) : wp_X7_thingIn k (some 0) (s : Int) C po := by
  obtain ⟨t1, t2, t3⟩ := kb_rt (C := C) hk hs
  have e : ((s : Int)).toNat = s := by omega
  have n12 : nm ((12 : Nat) : Int) = 12 := by decide
  unfold wp_X7_thingIn
  rw [nm_nat (n := 12) hs (by omega)]
  refine ⟨fun z => absurd z (by omega), fun _ => ⟨0, rfl, t1, ?_⟩⟩
  rw [t2, n12]
  refine ⟨fun _ => ⟨t1, ⟨by omega, by omega⟩, ?_⟩, fun z => absurd z (by omega)⟩
  rintro _ rfl
  rw [e, t3, hh.1]
  refine ⟨fun z => (by cases z), ?_⟩
  rintro _ ⟨rfl⟩
  rw [nm_gI]
  exact ⟨fun z => absurd z hh.2, fun _ => h⟩
theorem sp_thingIn_none {k b : Nat} {x : Int} {C : St} {po : Option Nat → St → Prop} (hk : kb k b) (hx : nm x = x) (hr : rootT C) (hh : ∀ s : Nat, s < 12 → x = s → ¬ hre C (b + s)) (h : po none C) : wp_X7_thingIn k (some 0) x C po := by
  obtain ⟨t1, t2⟩ := kb_ty hk
  have n12 : nm ((12 : Nat) : Int) = 12 := by decide
  unfold wp_X7_thingIn
  rw [hx]
  refine ⟨fun _ => h, fun h0 => ⟨0, rfl, t1, ?_⟩⟩
  rw [t2, n12]
  refine ⟨fun h12 => ⟨t1, ⟨by omega, by omega⟩, ?_⟩, fun _ => h⟩
  rintro _ rfl
  obtain ⟨s, hs, rfl⟩ : ∃ s : Nat, s < 12 ∧ x = s := ⟨x.toNat, by omega, by omega⟩
  have e : ((s : Int)).toNat = s := by omega
  obtain ⟨-, -, t3⟩ := kb_rt (C := C) hk hs
  rw [e, t3]
  have hn := hh s hs rfl
  have hb : b + s < 24 := by rcases hk with ⟨-, rfl⟩ | ⟨-, rfl⟩ <;> omega
  refine ⟨fun _ => h, ?_⟩
  intro a ha
  rcases hr (b + s) hb with h1 | h1
  · rw [h1] at ha; cases ha
  · rw [h1] at ha
    cases ha
    rw [nm_gI]
    refine ⟨fun _ => h, fun z => absurd ⟨h1, z⟩ hn⟩
/-- the thing of an id -/
def idC (C : St) (b t : Nat) (x : Int) : Prop := b ≤ t ∧ t < b + 12 ∧ hre C t ∧ gI C 33 t 0 = x
theorem sp_thingById_some {k b t : Nat} {x : Int} {C : St} {po : Option Nat → St → Prop} (hk : kb k b) (hx : nm x = x) (ht : idC C b t x) (hid : 0 ≤ x ∧ x % 12 = (t - b : Nat)) (h : po (some t) C) : wp_X7_thingById k (some 0) x C po := by
  obtain ⟨h1, h2, h3, h4⟩ := ht
  unfold wp_X7_thingById
  rw [hx]
  refine ⟨fun _ => ?_, fun z => absurd z (by omega)⟩
  rw [zrem12 hid.1 hx, hid.2]
  have e : b + (t - b) = t := by omega
  refine sp_thingIn_some hk (by omega) (by rw [e]; exact h3) ?_
  rw [e]
  refine ⟨fun z => (by cases z), ?_⟩
  rintro _ ⟨rfl⟩
  rw [nm_gI]
  exact ⟨fun z => absurd h4 z, fun _ => h⟩
theorem sp_thingById_none {k b : Nat} {x : Int} {C : St} {po : Option Nat → St → Prop} (hk : kb k b) (hx : nm x = x) (hr : rootT C) (hn : ∀ t, ¬ idC C b t x) (h : po none C) : wp_X7_thingById k (some 0) x C po := by
  unfold wp_X7_thingById
  rw [hx]
  refine ⟨fun h0 => ?_, fun _ => h⟩
  rw [zrem12 h0 hx]
  obtain ⟨s, hs, es⟩ : ∃ s : Nat, s < 12 ∧ x % 12 = s := ⟨(x % 12).toNat, by omega, by omega⟩
  rw [es]
  by_cases hh : hre C (b + s)
  · refine sp_thingIn_some hk hs hh ⟨fun z => (by cases z), ?_⟩
    rintro _ ⟨rfl⟩
    rw [nm_gI]
    exact ⟨fun _ => h, fun z => absurd ⟨by omega, by omega, hh, z⟩ (hn (b + s))⟩
  · refine sp_thingIn_none hk (nm_nat (n := 12) hs (by omega)) hr (fun s' hs' e => ?_) ⟨fun _ => h, fun a ha => (by cases ha)⟩
    have : s' = s := by omega
    rw [this]; exact hh
theorem sp_slotOf_some {b t : Nat} {x : Int} {M : St} {po : Int → St → Prop} (hb : b = 0 ∨ b = 12) (hx : nm x = x) (h1 : b ≤ t) (h2 : t < b + 12) (hi : gI M 110 24 t ≠ 0) (h0 : 0 ≤ x) (hm : x % 12 = (t - b : Nat)) (hd : gI M 110 25 t = x / 12) (h : po (t : Int) M) : wp_X8_slotOf x (b : Int) M po := by
  have hr := nm_rng x
  rw [hx] at hr
  unfold wp_X8_slotOf
  have e1 : nm ((b : Int) + zrem x 12) = (t : Int) := by rw [zrem12 h0 hx, hm, nm_id (by omega)]; omega
  have e2 : ((b : Int) + zrem x 12) = (t : Int) := by rw [zrem12 h0 hx, hm]; omega
  have e3 : ((t : Int)).toNat = t := by omega
  have e4 : nm (x / 12) = x / 12 := nm_id (by omega)
  rw [e1, e2, e3, hx, zdiv12 h0 hx, nm_gI, nm_gI, e4]
  refine ⟨fun _ => ⟨⟨by omega, by omega⟩, fun z => absurd z hi, fun _ => ⟨⟨by omega, by omega⟩, fun z => absurd hd z, fun _ => h⟩⟩, fun z => absurd z (by omega)⟩
theorem sp_slotOf_none {b : Nat} {x : Int} {M : St} {po : Int → St → Prop} (hb : b = 0 ∨ b = 12) (hx : nm x = x) (hn : ∀ t, b ≤ t → t < b + 12 → gI M 110 24 t ≠ 0 → 0 ≤ x → x % 12 = (t - b : Nat) → gI M 110 25 t = x / 12 → False) (h : po (-1) M) : wp_X8_slotOf x (b : Int) M po := by
  have hr := nm_rng x
  rw [hx] at hr
  unfold wp_X8_slotOf
  rw [hx]
  refine ⟨fun h0 => ?_, fun _ => h⟩
  obtain ⟨s, hs, es⟩ : ∃ s : Nat, s < 12 ∧ x % 12 = s := ⟨(x % 12).toNat, by omega, by omega⟩
  have e1 : nm ((b : Int) + zrem x 12) = ((b + s : Nat) : Int) := by rw [zrem12 h0 hx, es, nm_id (by omega)]; omega
  have e3 : (((b + s : Nat) : Int)).toNat = b + s := by omega
  have e4 : nm (x / 12) = x / 12 := nm_id (by omega)
  rw [e1, e3, zdiv12 h0 hx, nm_gI, nm_gI, e4]
  refine ⟨⟨by omega, by omega⟩, fun _ => h, fun h24 => ⟨⟨by omega, by omega⟩, fun _ => h, fun hd => ?_⟩⟩
  exact False.elim (hn (b + s) (by omega) (by omega) h24 h0 (by rw [es]; omega) hd)
