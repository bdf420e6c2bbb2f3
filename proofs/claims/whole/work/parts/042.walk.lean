/-! WALKS 2, printed by wip/whole/gen/mkwalks.py -/
def wp_X3_append_41 (po : St → Prop) (a0 : Nat) (o1 : Option Nat) (p0 : Option Nat) (σ : St) : Prop := ∃ a101, o1 = some a101 ∧ ∃ a102, p0 = some a102 ∧ wp_X1_fill a102 (gL σ 11 a101 0) (gI σ 17 a101 0) 13 (some a101) σ (fun s102 => a0 < 12 ∧ (0 ≤ nm (gI s102 40 a0 0) ∧ nm (gI s102 40 a0 0) < 40) ∧ ∀ s103, s103 = uR s102 11 a0 (nm (gI s102 40 a0 0)).toNat (some a102) → ∀ s104, s104 = uI s103 40 a0 0 ((gI s103 40 a0 0) + 1) → ∀ s105, s105 = uI s104 41 a0 0 ((gI s104 41 a0 0) + (gI s104 17 a101 0)) → po s105)
set_option maxRecDepth 100000 in
set_option maxHeartbeats 4000000 in
theorem j_X3_append_41 {K : JK} (hR : kRm K = ({ frames := 2, cells := 2, slots := 67, locals := 40 } : Room)) (hC : Cx K cX3_append 3 RX3) {po : St → Prop} (hM : Mx K none (PV po)) : ∀ (a0 : Nat) (o1 : Option Nat) (p0 : Option Nat) (σ : St), wp_X3_append_41 po a0 o1 p0 σ → J K 41 [some (wr 20 (some a0)), some (wr 12 o1), none] [wr 12 p0] σ 2 67 := by
  intro a0 o1 p0 σ hw
  unfold wp_X3_append_41 at hw
  refine r_astore_n (l' := [_, _, _]) hC dX3_append_41 rfl (by decide) rfl ?_
  refine r_aload_n hC dX3_append_42 rfl ?_
  refine r_aload_n hC dX3_append_43 rfl ?_
  obtain ⟨a101, rfl, hw⟩ := hw
  refine gf_X3_30 hC dX3_append_44 ?_
  refine r_aload_n hC dX3_append_47 rfl ?_
  refine gf_X3_34 hC dX3_append_48 ?_
  refine r_aload_n hC dX3_append_51 rfl ?_
  refine gf_X3_37 hC dX3_append_52 ?_
  obtain ⟨a102, rfl, hw⟩ := hw
  refine cl_X3_40 hC (c_X1_fill (kL K) hw) (by rw [hR]; decide) (Nat.le_of_ble_eq_true rfl) dX3_append_55 (fun s102 hq => ?_)
  clear hw
  have hw := hq
  clear hq
  refine r_aload_n hC dX3_append_58 rfl ?_
  have h102 := hw.1
  replace hw := hw.2
  refine gf_X3_11 hC h102 dX3_append_59 ?_
  refine r_aload_n hC dX3_append_62 rfl ?_
  refine gf_X3_17 hC h102 dX3_append_63 ?_
  refine r_aload_n hC dX3_append_66 rfl ?_
  refine r_aastore hC (kd := 12) (Or.inr (Or.inr ⟨rfl, rfl⟩)) (by decide) rfl hw.1 dX3_append_67 (fun s103 e9 => ?_)
  replace hw := hw.2 s103 e9
  clear e9
  refine r_aload_n hC dX3_append_68 rfl ?_
  refine r_dup hC dX3_append_69 rfl ?_
  refine gf_X3_17 hC h102 dX3_append_70 ?_
  refine r_iconst hC dX3_append_73 ?_
  refine r_iadd hC dX3_append_74 ?_
  refine pf_X3_17 hC h102 dX3_append_75 (fun s104 e9 => ?_)
  replace hw := hw s104 e9
  clear e9
  refine r_aload_n hC dX3_append_78 rfl ?_
  refine r_dup hC dX3_append_79 rfl ?_
  refine gf_X3_21 hC h102 dX3_append_80 ?_
  refine r_aload_n hC dX3_append_83 rfl ?_
  refine gf_X3_34 hC dX3_append_84 ?_
  refine r_iadd hC dX3_append_87 ?_
  refine pf_X3_21 hC h102 dX3_append_88 (fun s105 e9 => ?_)
  replace hw := hw s105 e9
  clear e9
  exact r_vreturn hC hM ⟨rfl, hw⟩ (by rw [hR]; decide) (by rw [hR]; decide) dX3_append_91
def wp_X3_append (a0 : Nat) (o1 : Option Nat) (σ : St) (po : St → Prop) : Prop := a0 < 12 ∧ (nm (gI σ 40 a0 0) < nm 40 → (0 ≤ nm (gI σ 40 a0 0) ∧ nm (gI σ 40 a0 0) < 40) ∧ ∀ o101, o101 = gR σ 11 a0 (nm (gI σ 40 a0 0)).toNat → (o101 = none → ∀ u101 s101, newMsg σ u101 s101 → wp_X3_append_41 po a0 o1 (some u101) s101) ∧
 (∀ a103, o101 = some a103 → (0 ≤ nm (gI σ 40 a0 0) ∧ nm (gI σ 40 a0 0) < 40) ∧ ∀ o102, o102 = gR σ 11 a0 (nm (gI σ 40 a0 0)).toNat → wp_X3_append_41 po a0 o1 o102 σ)) ∧
 (nm 40 ≤ nm (gI σ 40 a0 0) → po σ)
set_option maxRecDepth 100000 in
set_option maxHeartbeats 4000000 in
theorem c_X3_append (l : Launch) {a0 : Nat} {o1 : Option Nat} {σ : St} {po : St → Prop} (hw : wp_X3_append a0 o1 σ po) : MT l yX3_append cX3_append 3 none ({ frames := 2, cells := 2, slots := 67, locals := 40 } : Room) [wr 20 (some a0), wr 12 o1] σ (PV po) := by
  refine MT_of (by decide) (Nat.le_of_ble_eq_true rfl) (fun K hL hR hC hM => ?_)
  subst hL
  unfold wp_X3_append at hw
  show J K 0 [some (wr 20 (some a0)), some (wr 12 o1), none] [] σ 0 0
  refine r_aload_n hC dX3_append_0 rfl ?_
  have h101 := hw.1
  replace hw := hw.2
  refine gf_X3_17 hC h101 dX3_append_1 ?_
  refine r_bipush hC dX3_append_4 (by decide) ?_
  refine r_icmp_lt (tgt := 10) hC dX3_append_6 (by decide) (fun h => ?_) (fun h => ?_)
  · replace hw := hw.1 h
    refine r_aload_n hC dX3_append_10 rfl ?_
    refine gf_X3_11 hC h101 dX3_append_11 ?_
    refine r_aload_n hC dX3_append_14 rfl ?_
    refine gf_X3_17 hC h101 dX3_append_15 ?_
    refine r_aaload hC (kd := 12) (Or.inr (Or.inr ⟨rfl, rfl⟩)) (by decide) rfl hw.1 dX3_append_18 (fun o101 e9 => ?_)
    replace hw := hw.2 o101 e9
    clear e9
    refine r_ifnonnull (tgt := 32) hC dX3_append_19 (by decide) (fun a103 h => ?_) (fun h => ?_)
    · replace hw := hw.2 a103 h
      subst h
      refine r_aload_n hC dX3_append_32 rfl ?_
      refine gf_X3_11 hC h101 dX3_append_33 ?_
      refine r_aload_n hC dX3_append_36 rfl ?_
      refine gf_X3_17 hC h101 dX3_append_37 ?_
      refine r_aaload hC (kd := 12) (Or.inr (Or.inr ⟨rfl, rfl⟩)) (by decide) rfl hw.1 dX3_append_40 (fun o102 e9 => ?_)
      replace hw := hw.2 o102 e9
      clear e9
      refine J.widen (k1 := 2) (k2 := 67) (by decide) (by decide) ?_
      exact J.drop2 (j_X3_append_41 hR hC hM a0 o1 o102 σ hw) ⟨rfl, rfl, trivial⟩
    · replace hw := hw.1 h
      subst h
      refine new_X3_append hC (by rw [hR]; decide) (fun u101 s101 hn9 => ?_)
      replace hw := hw u101 s101 hn9
      clear hn9
      refine r_goto (tgt := 41) hC dX3_append_29 (by decide) ?_
      exact J.drop2 (j_X3_append_41 hR hC hM a0 o1 (some u101) s101 hw) ⟨rfl, rfl, trivial⟩
  · replace hw := hw.2 h
    exact r_vreturn hC hM ⟨rfl, hw⟩ (by rw [hR]; decide) (by rw [hR]; decide) dX3_append_9
def wp_X7_admitFirstSender_2 (po : Int → St → Prop) : Nat → Int → St → Prop
  | 0, _, _ => False
  | n + 1, x1, σ => (nm 16 ≤ nm x1 → po 0 σ) ∧
 (nm x1 < nm 16 → wp_X7_inLine x1 σ (fun o101 s101 => (o101 = none → wp_X7_admitFirstSender_2 po n (x1 + 1) s101) ∧
 (∀ a101, o101 = some a101 → (nm (gI s101 15 a101 0) = nm 1 → ∀ o102, o102 = gR s101 10 a101 0 → (o102 = none → wp_X7_admitFirstSender_2 po n (x1 + 1) s101) ∧
 (∀ a102, o102 = some a102 → a102 < 12 ∧ wp_X7_fits (some a102) (gI s101 17 (2 * a101) 0) s101 (fun r101 s102 => (nm r101 = 0 → wp_X7_admitFirstSender_2 po n (x1 + 1) s102) ∧
 (nm r101 ≠ 0 → wp_X7_goOn (some a101) 0 s102 (fun s103 => wp_X7_handToTaker (some a102) (some (2 * a101)) s103 (fun r102 s104 => (nm r102 ≠ 0 → po 1 s104) ∧
 (nm r102 = 0 → wp_X3_append a102 (some (2 * a101)) s104 (fun s105 => po 1 s105)))))))) ∧
 (nm (gI s101 15 a101 0) ≠ nm 1 → wp_X7_admitFirstSender_2 po n (x1 + 1) s101))))
set_option maxRecDepth 100000 in
set_option maxHeartbeats 4000000 in
theorem j_X7_admitFirstSender_2 {K : JK} (hR : kRm K = ({ frames := 3, cells := 2, slots := 67, locals := 69 } : Room)) (hC : Cx K cX7_admitFirstSender 5 RX7) {po : Int → St → Prop} (hM : Mx K (some .boolean) (PI po)) : ∀ (n : Nat) (x1 : Int) (σ : St), wp_X7_admitFirstSender_2 po n x1 σ → J K 2 [some (wr 0 (some 0)), some (wi x1), none, none, none] [] σ 0 0 := by
  intro n
  induction n with
  | zero =>
    intro x1 σ hw
    exact False.elim hw
  | succ n ih =>
    intro x1 σ hw
    unfold wp_X7_admitFirstSender_2 at hw
    refine r_iload_n hC dX7_admitFirstSender_2 rfl ?_
    refine r_bipush hC dX7_admitFirstSender_3 (by decide) ?_
    refine r_icmp_ge (tgt := 98) hC dX7_admitFirstSender_5 (by decide) (fun h => ?_) (fun h => ?_)
    · replace hw := hw.1 h
      refine r_iconst hC dX7_admitFirstSender_98 ?_
      exact r_zreturn hC hM (by decide) ⟨_, rfl, hw⟩ (by rw [hR]; decide) (by rw [hR]; decide) dX7_admitFirstSender_99
    · replace hw := hw.2 h
      refine r_aload_n hC dX7_admitFirstSender_8 rfl ?_
      refine r_iload_n hC dX7_admitFirstSender_9 rfl ?_
      refine cl_X7_230 hC (c_X7_inLine (kL K) hw) (by rw [hR]; decide) (Nat.le_of_ble_eq_true rfl) dX7_admitFirstSender_10 (fun o101 s101 hq => ?_)
      clear hw
      have hw := hq
      clear hq
      refine r_astore_n (l' := [_, _, _, _, _]) hC dX7_admitFirstSender_13 rfl (by decide) rfl ?_
      refine r_aload_n hC dX7_admitFirstSender_14 rfl ?_
      refine r_ifnull (tgt := 92) hC dX7_admitFirstSender_15 (by decide) (fun h => ?_) (fun a101 h => ?_)
      · replace hw := hw.1 h
        subst h
        refine r_iinc (l' := [_, _, _, _, _]) hC dX7_admitFirstSender_92 rfl rfl (by decide) rfl ?_
        refine r_goto (tgt := 2) hC dX7_admitFirstSender_95 (by decide) ?_
        exact J.drop2 (ih (x1 + 1) s101 hw) ⟨rfl, rfl, trivial⟩
      · replace hw := hw.2 a101 h
        subst h
        refine r_aload_n hC dX7_admitFirstSender_18 rfl ?_
        refine gf_X7_49 hC dX7_admitFirstSender_19 ?_
        refine r_iconst hC dX7_admitFirstSender_22 ?_
        refine r_icmp_eq (tgt := 29) hC dX7_admitFirstSender_23 (by decide) (fun h => ?_) (fun h => ?_)
        · replace hw := hw.1 h
          refine r_aload_n hC dX7_admitFirstSender_29 rfl ?_
          refine gf_X7_226 hC dX7_admitFirstSender_30 (fun o102 e9 => ?_)
          replace hw := hw o102 e9
          clear e9
          refine r_astore (l' := [_, _, _, _, _]) hC dX7_admitFirstSender_33 rfl (by decide) rfl ?_
          refine r_aload hC dX7_admitFirstSender_35 rfl ?_
          refine r_inst hC (ci := 3) rfl rfl (wg 363 (by decide +kernel) (by decide +kernel)) dX7_admitFirstSender_37 (fun h => ?_) (fun a102 h => ?_)
          · replace hw := hw.1 h
            subst h
            refine r_if_eq (tgt := 92) hC dX7_admitFirstSender_40 (by decide) (fun _ => ?_) (fun h => absurd h (by decide))
            refine r_iinc (l' := [_, _, _, _, _]) hC dX7_admitFirstSender_92 rfl rfl (by decide) rfl ?_
            refine r_goto (tgt := 2) hC dX7_admitFirstSender_95 (by decide) ?_
            exact J.drop2 (ih (x1 + 1) s101 hw) ⟨rfl, rfl, trivial⟩
          · replace hw := hw.2 a102 h
            subst h
            have h101 := hw.1
            replace hw := hw.2
            refine ⟨oCi_lt h101, ?_⟩
            refine r_if_eq (tgt := 92) hC dX7_admitFirstSender_40 (by decide) (fun h => absurd h (by decide)) (fun _ => ?_)
            refine r_aload hC dX7_admitFirstSender_43 rfl ?_
            refine r_cast hC (ci := 3) rfl rfl (wg 363 (by decide +kernel) (by decide +kernel)) dX7_admitFirstSender_45 ⟨(fun a9 h9 => by cases h9; exact oCi_lt h101), ?_⟩
            refine r_astore_n (l' := [_, _, _, _, _]) hC dX7_admitFirstSender_48 rfl (by decide) rfl ?_
            refine r_aload_n hC dX7_admitFirstSender_49 rfl ?_
            refine r_aload_n hC dX7_admitFirstSender_50 rfl ?_
            refine r_aload_n hC dX7_admitFirstSender_51 rfl ?_
            refine gf_X7_316 hC dX7_admitFirstSender_52 ?_
            refine gf_X7_170 hC dX7_admitFirstSender_55 ?_
            refine cl_X7_328 hC (c_X7_fits (kL K) hw) (by rw [hR]; decide) (Nat.le_of_ble_eq_true rfl) dX7_admitFirstSender_58 (fun r101 s102 hq => ?_)
            clear hw
            have hw := hq
            clear hq
            refine r_if_eq (tgt := 92) hC dX7_admitFirstSender_61 (by decide) (fun h => ?_) (fun h => ?_)
            · replace hw := hw.1 h
              refine r_iinc (l' := [_, _, _, _, _]) hC dX7_admitFirstSender_92 rfl rfl (by decide) rfl ?_
              refine r_goto (tgt := 2) hC dX7_admitFirstSender_95 (by decide) ?_
              exact J.drop2 (ih (x1 + 1) s102 hw) ⟨rfl, rfl, trivial⟩
            · replace hw := hw.2 h
              refine r_aload_n hC dX7_admitFirstSender_64 rfl ?_
              refine r_aload_n hC dX7_admitFirstSender_65 rfl ?_
              refine r_iconst hC dX7_admitFirstSender_66 ?_
              refine cl_X7_52 hC (c_X7_goOn (kL K) hw) (by rw [hR]; decide) (Nat.le_of_ble_eq_true rfl) dX7_admitFirstSender_67 (fun s103 hq => ?_)
              clear hw
              have hw := hq
              clear hq
              refine r_aload_n hC dX7_admitFirstSender_70 rfl ?_
              refine r_aload_n hC dX7_admitFirstSender_71 rfl ?_
              refine r_aload_n hC dX7_admitFirstSender_72 rfl ?_
              refine gf_X7_316 hC dX7_admitFirstSender_73 ?_
              refine cl_X7_324 hC (c_X7_handToTaker (kL K) hw) (by rw [hR]; decide) (Nat.le_of_ble_eq_true rfl) dX7_admitFirstSender_76 (fun r102 s104 hq => ?_)
              clear hw
              have hw := hq
              clear hq
              refine r_if_ne (tgt := 90) hC dX7_admitFirstSender_79 (by decide) (fun h => ?_) (fun h => ?_)
              · replace hw := hw.1 h
                refine r_iconst hC dX7_admitFirstSender_90 ?_
                exact r_zreturn hC hM (by decide) ⟨_, rfl, hw⟩ (by rw [hR]; decide) (by rw [hR]; decide) dX7_admitFirstSender_91
              · replace hw := hw.2 h
                refine r_aload_n hC dX7_admitFirstSender_82 rfl ?_
                refine r_aload_n hC dX7_admitFirstSender_83 rfl ?_
                refine gf_X7_316 hC dX7_admitFirstSender_84 ?_
                refine cl_X7_332 hC h101 (c_X3_append (kL K) hw) (by rw [hR]; decide) (Nat.le_of_ble_eq_true rfl) dX7_admitFirstSender_87 (fun s105 hq => ?_)
                clear hw
                have hw := hq
                clear hq
                refine r_iconst hC dX7_admitFirstSender_90 ?_
                exact r_zreturn hC hM (by decide) ⟨_, rfl, hw⟩ (by rw [hR]; decide) (by rw [hR]; decide) dX7_admitFirstSender_91
        · replace hw := hw.2 h
          refine r_goto (tgt := 92) hC dX7_admitFirstSender_26 (by decide) ?_
          refine r_iinc (l' := [_, _, _, _, _]) hC dX7_admitFirstSender_92 rfl rfl (by decide) rfl ?_
          refine r_goto (tgt := 2) hC dX7_admitFirstSender_95 (by decide) ?_
          exact J.drop2 (ih (x1 + 1) s101 hw) ⟨rfl, rfl, trivial⟩
def wp_X7_admitFirstSender  (σ : St) (po : Int → St → Prop) : Prop := ∃ n9, wp_X7_admitFirstSender_2 po n9 0 σ
set_option maxRecDepth 100000 in
set_option maxHeartbeats 4000000 in
theorem c_X7_admitFirstSender (l : Launch)  {σ : St} {po : Int → St → Prop} (hw : wp_X7_admitFirstSender  σ po) : MT l yX7_admitFirstSender cX7_admitFirstSender 5 (some .boolean) ({ frames := 3, cells := 2, slots := 67, locals := 69 } : Room) [wr 0 (some 0)] σ (PI po) := by
  refine MT_of (by decide) (Nat.le_of_ble_eq_true rfl) (fun K hL hR hC hM => ?_)
  subst hL
  unfold wp_X7_admitFirstSender at hw
  show J K 0 [some (wr 0 (some 0)), none, none, none, none] [] σ 0 0
  refine r_iconst hC dX7_admitFirstSender_0 ?_
  refine r_istore_n (l' := [_, _, _, _, _]) hC dX7_admitFirstSender_1 rfl (by decide) rfl ?_
  obtain ⟨n9, hw⟩ := hw
  exact J.drop2 (j_X7_admitFirstSender_2 hR hC hM n9 0 σ hw) ⟨rfl, rfl, trivial⟩
def wp_X7_admitSenders_4 (po : St → Prop) : Nat → Int → Int → St → Prop
  | 0, _, _, _ => False
  | n + 1, x1, x2, σ => (nm 16 ≤ nm x2 → po σ) ∧
 (nm x2 < nm 16 → (nm x1 = 0 → po σ) ∧
 (nm x1 ≠ 0 → wp_X7_admitFirstSender  σ (fun r101 s101 => wp_X7_admitSenders_4 po n r101 (x2 + 1) s101)))
set_option maxRecDepth 100000 in
set_option maxHeartbeats 4000000 in
theorem j_X7_admitSenders_4 {K : JK} (hR : kRm K = ({ frames := 4, cells := 32, slots := 1072, locals := 93 } : Room)) (hC : Cx K cX7_admitSenders 3 RX7) {po : St → Prop} (hM : Mx K none (PV po)) : ∀ (n : Nat) (x1 : Int) (x2 : Int) (σ : St) (m1 m2 : Nat), (0 ≤ x2 ∧ x2 ≤ 16 ∧ m1 ≤ 2 * x2.toNat ∧ m2 ≤ 67 * x2.toNat) → wp_X7_admitSenders_4 po n x1 x2 σ → J K 4 [some (wr 0 (some 0)), some (wi x1), some (wi x2)] [] σ m1 m2 := by
  intro n
  induction n with
  | zero =>
    intro x1 x2 σ m1 m2 hx hw
    exact False.elim hw
  | succ n ih =>
    intro x1 x2 σ m1 m2 hx hw
    have e16 : nm x2 = x2 := nm_id (by omega)
    unfold wp_X7_admitSenders_4 at hw
    refine r_iload_n hC dX7_admitSenders_4 rfl ?_
    refine r_bipush hC dX7_admitSenders_5 (by decide) ?_
    refine r_icmp_ge (tgt := 25) hC dX7_admitSenders_7 (by decide) (fun h => ?_) (fun h => ?_)
    · replace hw := hw.1 h
      exact r_vreturn hC hM ⟨rfl, hw⟩ (by rw [hR]; show m1 ≤ 32; omega) (by rw [hR]; show m2 ≤ 1072; omega) dX7_admitSenders_25
    · replace hw := hw.2 h
      refine r_iload_n hC dX7_admitSenders_10 rfl ?_
      refine r_if_eq (tgt := 25) hC dX7_admitSenders_11 (by decide) (fun h => ?_) (fun h => ?_)
      · replace hw := hw.1 h
        exact r_vreturn hC hM ⟨rfl, hw⟩ (by rw [hR]; show m1 ≤ 32; omega) (by rw [hR]; show m2 ≤ 1072; omega) dX7_admitSenders_25
      · replace hw := hw.2 h
        refine r_aload_n hC dX7_admitSenders_14 rfl ?_
        refine cl_X7_361 hC (c_X7_admitFirstSender (kL K) hw) ⟨by rw [hR]; decide, by rw [hR]; have e := (show nm 16 = 16 from by decide); show m1 + 2 ≤ 32 ∧ m2 + 67 ≤ 1072; omega⟩ (Nat.le_of_ble_eq_true rfl) dX7_admitSenders_15 (fun r101 s101 hq => ?_)
        clear hw
        have hw := hq
        clear hq
        refine r_istore_n (l' := [_, _, _]) hC dX7_admitSenders_18 rfl (by decide) rfl ?_
        refine r_iinc (l' := [_, _, _]) hC dX7_admitSenders_19 rfl rfl (by decide) rfl ?_
        refine r_goto (tgt := 4) hC dX7_admitSenders_22 (by decide) ?_
        exact J.drop2 (ih r101 (x2 + 1) s101 (m1 + 2) (m2 + 67) (by have e := (show nm 16 = 16 from by decide); omega) hw) ⟨rfl, rfl, rfl, trivial⟩
def wp_X7_admitSenders  (σ : St) (po : St → Prop) : Prop := ∃ n9, wp_X7_admitSenders_4 po n9 1 0 σ
set_option maxRecDepth 100000 in
set_option maxHeartbeats 4000000 in
theorem c_X7_admitSenders (l : Launch)  {σ : St} {po : St → Prop} (hw : wp_X7_admitSenders  σ po) : MT l yX7_admitSenders cX7_admitSenders 3 none ({ frames := 4, cells := 32, slots := 1072, locals := 93 } : Room) [wr 0 (some 0)] σ (PV po) := by
  refine MT_of (by decide) (Nat.le_of_ble_eq_true rfl) (fun K hL hR hC hM => ?_)
  subst hL
  unfold wp_X7_admitSenders at hw
  show J K 0 [some (wr 0 (some 0)), none, none] [] σ 0 0
  refine r_iconst hC dX7_admitSenders_0 ?_
  refine r_istore_n (l' := [_, _, _]) hC dX7_admitSenders_1 rfl (by decide) rfl ?_
  refine r_iconst hC dX7_admitSenders_2 ?_
  refine r_istore_n (l' := [_, _, _]) hC dX7_admitSenders_3 rfl (by decide) rfl ?_
  obtain ⟨n9, hw⟩ := hw
  exact J.drop2 (j_X7_admitSenders_4 hR hC hM n9 1 0 σ 0 0 (by omega) hw) ⟨rfl, rfl, rfl, trivial⟩
def wp_X7_removeThing (o1 : Option Nat) (x2 : Int) (x3 : Int) (σ : St) (po : Int → St → Prop) : Prop := wp_X7_isWithin x2 1 σ (fun r101 s101 => (nm r101 ≠ 0 → wp_X7_thingOf x2 x3 s101 (fun o101 s102 => (o101 = none → po (-5) s102) ∧
 (∀ a101, o101 = some a101 → wp_X5_isRuledBy a101 o1 s102 (fun r102 s103 => (nm r102 ≠ 0 → ∀ s104, s104 = uI s103 32 a101 0 0 → wp_X7_sendAway (some a101) s104 (fun s105 => (nm x2 ≠ 0 → po 0 s105) ∧
 (nm x2 = 0 → wp_X7_admitSenders  s105 (fun s106 => po 0 s106)))) ∧
 (nm r102 = 0 → po (-6) s103))))) ∧
 (nm r101 = 0 → po (-4) s101))
set_option maxRecDepth 100000 in
set_option maxHeartbeats 4000000 in
theorem c_X7_removeThing (l : Launch) {o1 : Option Nat} {x2 : Int} {x3 : Int} {σ : St} {po : Int → St → Prop} (hw : wp_X7_removeThing o1 x2 x3 σ po) : MT l yX7_removeThing cX7_removeThing 5 (some .int) ({ frames := 5, cells := 32, slots := 1072, locals := 115 } : Room) [wr 0 (some 0), wr 10 o1, wi x2, wi x3] σ (PI po) := by
  refine MT_of (by decide) (Nat.le_of_ble_eq_true rfl) (fun K hL hR hC hM => ?_)
  subst hL
  unfold wp_X7_removeThing at hw
  show J K 0 [some (wr 0 (some 0)), some (wr 10 o1), some (wi x2), some (wi x3), none] [] σ 0 0
  refine r_iload_n hC dX7_removeThing_0 rfl ?_
  refine r_iconst hC dX7_removeThing_1 ?_
  refine cl_X7_34 hC (c_X7_isWithin (kL K) hw) (by rw [hR]; decide) (Nat.le_of_ble_eq_true rfl) dX7_removeThing_2 (fun r101 s101 hq => ?_)
  clear hw
  have hw := hq
  clear hq
  refine r_if_ne (tgt := 11) hC dX7_removeThing_5 (by decide) (fun h => ?_) (fun h => ?_)
  · replace hw := hw.1 h
    refine r_aload_n hC dX7_removeThing_11 rfl ?_
    refine r_iload_n hC dX7_removeThing_12 rfl ?_
    refine r_iload_n hC dX7_removeThing_13 rfl ?_
    refine cl_X7_284 hC (c_X7_thingOf (kL K) hw) (by rw [hR]; decide) (Nat.le_of_ble_eq_true rfl) dX7_removeThing_14 (fun o101 s102 hq => ?_)
    clear hw
    have hw := hq
    clear hq
    refine r_astore (l' := [_, _, _, _, _]) hC dX7_removeThing_17 rfl (by decide) rfl ?_
    refine r_aload hC dX7_removeThing_19 rfl ?_
    refine r_ifnonnull (tgt := 27) hC dX7_removeThing_21 (by decide) (fun a101 h => ?_) (fun h => ?_)
    · replace hw := hw.2 a101 h
      subst h
      refine r_aload hC dX7_removeThing_27 rfl ?_
      refine r_aload_n hC dX7_removeThing_29 rfl ?_
      refine cl_X7_288 hC (c_X5_isRuledBy (kL K) hw) (by rw [hR]; decide) (Nat.le_of_ble_eq_true rfl) dX7_removeThing_30 (fun r102 s103 hq => ?_)
      clear hw
      have hw := hq
      clear hq
      refine r_if_ne (tgt := 39) hC dX7_removeThing_33 (by decide) (fun h => ?_) (fun h => ?_)
      · replace hw := hw.1 h
        refine r_aload hC dX7_removeThing_39 rfl ?_
        refine r_iconst hC dX7_removeThing_41 ?_
        refine pf_X7_209 hC (by decide) dX7_removeThing_42 (fun s104 e9 => ?_)
        replace hw := hw s104 e9
        clear e9
        refine r_aload_n hC dX7_removeThing_45 rfl ?_
        refine r_aload hC dX7_removeThing_46 rfl ?_
        refine cl_X7_292 hC (c_X7_sendAway (kL K) hw) (by rw [hR]; decide) (Nat.le_of_ble_eq_true rfl) dX7_removeThing_48 (fun s105 hq => ?_)
        clear hw
        have hw := hq
        clear hq
        refine r_iload_n hC dX7_removeThing_51 rfl ?_
        refine r_if_ne (tgt := 59) hC dX7_removeThing_52 (by decide) (fun h => ?_) (fun h => ?_)
        · replace hw := hw.1 h
          refine r_iconst hC dX7_removeThing_59 ?_
          exact r_ireturn hC hM ⟨_, rfl, hw⟩ (by rw [hR]; decide) (by rw [hR]; decide) dX7_removeThing_60
        · replace hw := hw.2 h
          refine r_aload_n hC dX7_removeThing_55 rfl ?_
          refine cl_X7_296 hC (c_X7_admitSenders (kL K) hw) (by rw [hR]; decide) (Nat.le_of_ble_eq_true rfl) dX7_removeThing_56 (fun s106 hq => ?_)
          clear hw
          have hw := hq
          clear hq
          refine r_iconst hC dX7_removeThing_59 ?_
          exact r_ireturn hC hM ⟨_, rfl, hw⟩ (by rw [hR]; decide) (by rw [hR]; decide) dX7_removeThing_60
      · replace hw := hw.2 h
        refine r_bipush hC dX7_removeThing_36 (by decide) ?_
        exact r_ireturn hC hM ⟨_, rfl, hw⟩ (by rw [hR]; decide) (by rw [hR]; decide) dX7_removeThing_38
    · replace hw := hw.1 h
      subst h
      refine r_bipush hC dX7_removeThing_24 (by decide) ?_
      exact r_ireturn hC hM ⟨_, rfl, hw⟩ (by rw [hR]; decide) (by rw [hR]; decide) dX7_removeThing_26
  · replace hw := hw.2 h
    refine r_bipush hC dX7_removeThing_8 (by decide) ?_
    exact r_ireturn hC hM ⟨_, rfl, hw⟩ (by rw [hR]; decide) (by rw [hR]; decide) dX7_removeThing_10
def wp_X7_remove (x1 : Int) (x2 : Int) (x3 : Int) (σ : St) (po : Int → St → Prop) : Prop := wp_X7_processAt x1 σ (fun o101 s101 => (o101 = none → po (-2) s101) ∧
 (∀ a101, o101 = some a101 → wp_X2_isFree a101 s101 (fun r101 s102 => (nm r101 = 0 → po (-3) s102) ∧
 (nm r101 ≠ 0 → wp_X7_removeThing (some a101) x2 x3 s102 (fun r102 s103 => wp_X2_told a101 r102 s103 (fun r103 s104 => po r103 s104))))))
set_option maxRecDepth 100000 in
set_option maxHeartbeats 4000000 in
theorem c_X7_remove (l : Launch) {x1 : Int} {x2 : Int} {x3 : Int} {σ : St} {po : Int → St → Prop} (hw : wp_X7_remove x1 x2 x3 σ po) : MT l yX7_remove cX7_remove 5 (some .int) ({ frames := 6, cells := 32, slots := 1072, locals := 139 } : Room) [wr 0 (some 0), wi x1, wi x2, wi x3] σ (PI po) := by
  refine MT_of (by decide) (Nat.le_of_ble_eq_true rfl) (fun K hL hR hC hM => ?_)
  subst hL
  unfold wp_X7_remove at hw
  show J K 0 [some (wr 0 (some 0)), some (wi x1), some (wi x2), some (wi x3), none] [] σ 0 0
  refine r_aload_n hC dX7_remove_0 rfl ?_
  refine r_iload_n hC dX7_remove_1 rfl ?_
  refine cl_X7_41 hC (c_X7_processAt (kL K) hw) (by rw [hR]; decide) (Nat.le_of_ble_eq_true rfl) dX7_remove_2 (fun o101 s101 hq => ?_)
  clear hw
  have hw := hq
  clear hq
  refine r_astore (l' := [_, _, _, _, _]) hC dX7_remove_5 rfl (by decide) rfl ?_
  refine r_aload hC dX7_remove_7 rfl ?_
  refine r_ifnonnull (tgt := 15) hC dX7_remove_9 (by decide) (fun a101 h => ?_) (fun h => ?_)
  · replace hw := hw.2 a101 h
    subst h
    refine r_aload hC dX7_remove_15 rfl ?_
    refine cl_X7_86 hC (c_X2_isFree (kL K) hw) (by rw [hR]; decide) (Nat.le_of_ble_eq_true rfl) dX7_remove_17 (fun r101 s102 hq => ?_)
    clear hw
    have hw := hq
    clear hq
    refine r_if_eq (tgt := 39) hC dX7_remove_20 (by decide) (fun h => ?_) (fun h => ?_)
    · replace hw := hw.1 h
      refine r_bipush hC dX7_remove_39 (by decide) ?_
      exact r_ireturn hC hM ⟨_, rfl, hw⟩ (by rw [hR]; decide) (by rw [hR]; decide) dX7_remove_41
    · replace hw := hw.2 h
      refine r_aload hC dX7_remove_23 rfl ?_
      refine r_aload_n hC dX7_remove_25 rfl ?_
      refine r_aload hC dX7_remove_26 rfl ?_
      refine r_iload_n hC dX7_remove_28 rfl ?_
      refine r_iload_n hC dX7_remove_29 rfl ?_
      refine cl_X7_102 hC (c_X7_removeThing (kL K) hw) (by rw [hR]; decide) (Nat.le_of_ble_eq_true rfl) dX7_remove_30 (fun r102 s103 hq => ?_)
      clear hw
      have hw := hq
      clear hq
      refine cl_X7_94 hC (c_X2_told (kL K) hw) (by rw [hR]; decide) (Nat.le_of_ble_eq_true rfl) dX7_remove_33 (fun r103 s104 hq => ?_)
      clear hw
      have hw := hq
      clear hq
      refine r_goto (tgt := 41) hC dX7_remove_36 (by decide) ?_
      exact r_ireturn hC hM ⟨_, rfl, hw⟩ (by rw [hR]; decide) (by rw [hR]; decide) dX7_remove_41
  · replace hw := hw.1 h
    subst h
    refine r_bipush hC dX7_remove_12 (by decide) ?_
    exact r_ireturn hC hM ⟨_, rfl, hw⟩ (by rw [hR]; decide) (by rw [hR]; decide) dX7_remove_14
def wp_X7_giveThing_25 (po : Int → St → Prop) (o1 : Option Nat) (x2 : Int) (x3 : Int) (x4 : Int) (x5 : Int) (x6 : Int) (y0 : Int) (σ : St) : Prop := wp_X7_isWithin x2 1 σ (fun r102 s102 => (nm r102 = 0 → po (-4) s102) ∧
 (nm r102 ≠ 0 → (nm y0 = 0 → po (-4) s102) ∧
 (nm y0 ≠ 0 → wp_X7_isWithin x6 511 s102 (fun r103 s103 => (nm r103 ≠ 0 → wp_X7_thingOf x2 x3 s103 (fun o101 s104 => (o101 = none → po (-5) s104) ∧
 (∀ a101, o101 = some a101 → wp_X5_isRuledBy a101 o1 s104 (fun r104 s105 => (nm r104 ≠ 0 → ∀ s106, s106 = uI s105 35 a101 0 x4 → ∀ s107, s107 = uI s106 36 a101 0 x5 → ∀ s108, s108 = uI s107 39 a101 0 x6 → po 0 s108) ∧
 (nm r104 = 0 → po (-6) s105))))) ∧
 (nm r103 = 0 → po (-4) s103)))))
set_option maxRecDepth 100000 in
set_option maxHeartbeats 4000000 in
theorem j_X7_giveThing_25 {K : JK} (hR : kRm K = ({ frames := 3, cells := 0, slots := 0, locals := 66 } : Room)) (hC : Cx K cX7_giveThing 9 RX7) {po : Int → St → Prop} (hM : Mx K (some .int) (PI po)) : ∀ (o1 : Option Nat) (x2 : Int) (x3 : Int) (x4 : Int) (x5 : Int) (x6 : Int) (y0 : Int) (σ : St), wp_X7_giveThing_25 po o1 x2 x3 x4 x5 x6 y0 σ → J K 25 [some (wr 0 (some 0)), some (wr 10 o1), some (wi x2), some (wi x3), some (wi x4), some (wi x5), some (wi x6), none, none] [wi y0] σ 0 0 := by
  intro o1 x2 x3 x4 x5 x6 y0 σ hw
  unfold wp_X7_giveThing_25 at hw
  refine r_istore (l' := [_, _, _, _, _, _, _, _, _]) hC dX7_giveThing_25 rfl (by decide) rfl ?_
  refine r_iload_n hC dX7_giveThing_27 rfl ?_
  refine r_iconst hC dX7_giveThing_28 ?_
  refine cl_X7_34 hC (c_X7_isWithin (kL K) hw) (by rw [hR]; decide) (Nat.le_of_ble_eq_true rfl) dX7_giveThing_29 (fun r102 s102 hq => ?_)
  clear hw
  have hw := hq
  clear hq
  refine r_if_eq (tgt := 51) hC dX7_giveThing_32 (by decide) (fun h => ?_) (fun h => ?_)
  · replace hw := hw.1 h
    refine r_bipush hC dX7_giveThing_51 (by decide) ?_
    exact r_ireturn hC hM ⟨_, rfl, hw⟩ (by rw [hR]; decide) (by rw [hR]; decide) dX7_giveThing_53
  · replace hw := hw.2 h
    refine r_iload hC dX7_giveThing_35 rfl ?_
    refine r_if_eq (tgt := 51) hC dX7_giveThing_37 (by decide) (fun h => ?_) (fun h => ?_)
    · replace hw := hw.1 h
      refine r_bipush hC dX7_giveThing_51 (by decide) ?_
      exact r_ireturn hC hM ⟨_, rfl, hw⟩ (by rw [hR]; decide) (by rw [hR]; decide) dX7_giveThing_53
    · replace hw := hw.2 h
      refine r_iload hC dX7_giveThing_40 rfl ?_
      refine r_sipush hC dX7_giveThing_42 (by decide) ?_
      refine cl_X7_34 hC (c_X7_isWithin (kL K) hw) (by rw [hR]; decide) (Nat.le_of_ble_eq_true rfl) dX7_giveThing_45 (fun r103 s103 hq => ?_)
      clear hw
      have hw := hq
      clear hq
      refine r_if_ne (tgt := 54) hC dX7_giveThing_48 (by decide) (fun h => ?_) (fun h => ?_)
      · replace hw := hw.1 h
        refine r_aload_n hC dX7_giveThing_54 rfl ?_
        refine r_iload_n hC dX7_giveThing_55 rfl ?_
        refine r_iload_n hC dX7_giveThing_56 rfl ?_
        refine cl_X7_284 hC (c_X7_thingOf (kL K) hw) (by rw [hR]; decide) (Nat.le_of_ble_eq_true rfl) dX7_giveThing_57 (fun o101 s104 hq => ?_)
        clear hw
        have hw := hq
        clear hq
        refine r_astore (l' := [_, _, _, _, _, _, _, _, _]) hC dX7_giveThing_60 rfl (by decide) rfl ?_
        refine r_aload hC dX7_giveThing_62 rfl ?_
        refine r_ifnonnull (tgt := 70) hC dX7_giveThing_64 (by decide) (fun a101 h => ?_) (fun h => ?_)
        · replace hw := hw.2 a101 h
          subst h
          refine r_aload hC dX7_giveThing_70 rfl ?_
          refine r_aload_n hC dX7_giveThing_72 rfl ?_
          refine cl_X7_288 hC (c_X5_isRuledBy (kL K) hw) (by rw [hR]; decide) (Nat.le_of_ble_eq_true rfl) dX7_giveThing_73 (fun r104 s105 hq => ?_)
          clear hw
          have hw := hq
          clear hq
          refine r_if_ne (tgt := 82) hC dX7_giveThing_76 (by decide) (fun h => ?_) (fun h => ?_)
          · replace hw := hw.1 h
            refine r_aload hC dX7_giveThing_82 rfl ?_
            refine r_iload hC dX7_giveThing_84 rfl ?_
            refine pf_X7_299 hC dX7_giveThing_86 (fun s106 e9 => ?_)
            replace hw := hw s106 e9
            clear e9
            refine r_aload hC dX7_giveThing_89 rfl ?_
            refine r_iload hC dX7_giveThing_91 rfl ?_
            refine pf_X7_302 hC dX7_giveThing_93 (fun s107 e9 => ?_)
            replace hw := hw s107 e9
            clear e9
            refine r_aload hC dX7_giveThing_96 rfl ?_
            refine r_iload hC dX7_giveThing_98 rfl ?_
            refine pf_X7_305 hC dX7_giveThing_100 (fun s108 e9 => ?_)
            replace hw := hw s108 e9
            clear e9
            refine r_iconst hC dX7_giveThing_103 ?_
            exact r_ireturn hC hM ⟨_, rfl, hw⟩ (by rw [hR]; decide) (by rw [hR]; decide) dX7_giveThing_104
          · replace hw := hw.2 h
            refine r_bipush hC dX7_giveThing_79 (by decide) ?_
            exact r_ireturn hC hM ⟨_, rfl, hw⟩ (by rw [hR]; decide) (by rw [hR]; decide) dX7_giveThing_81
        · replace hw := hw.1 h
          subst h
          refine r_bipush hC dX7_giveThing_67 (by decide) ?_
          exact r_ireturn hC hM ⟨_, rfl, hw⟩ (by rw [hR]; decide) (by rw [hR]; decide) dX7_giveThing_69
      · replace hw := hw.2 h
        refine r_bipush hC dX7_giveThing_51 (by decide) ?_
        exact r_ireturn hC hM ⟨_, rfl, hw⟩ (by rw [hR]; decide) (by rw [hR]; decide) dX7_giveThing_53
def wp_X7_giveThing (o1 : Option Nat) (x2 : Int) (x3 : Int) (x4 : Int) (x5 : Int) (x6 : Int) (σ : St) (po : Int → St → Prop) : Prop := wp_X7_isWithin x4 99 σ (fun r101 s101 => (nm r101 = 0 → wp_X7_giveThing_25 po o1 x2 x3 x4 x5 x6 0 s101) ∧
 (nm r101 ≠ 0 → wp_X7_isWithin x5 99 s101 (fun r105 s109 => (nm r105 = 0 → wp_X7_giveThing_25 po o1 x2 x3 x4 x5 x6 0 s109) ∧
 (nm r105 ≠ 0 → wp_X7_giveThing_25 po o1 x2 x3 x4 x5 x6 1 s109))))
set_option maxRecDepth 100000 in
set_option maxHeartbeats 4000000 in
theorem c_X7_giveThing (l : Launch) {o1 : Option Nat} {x2 : Int} {x3 : Int} {x4 : Int} {x5 : Int} {x6 : Int} {σ : St} {po : Int → St → Prop} (hw : wp_X7_giveThing o1 x2 x3 x4 x5 x6 σ po) : MT l yX7_giveThing cX7_giveThing 9 (some .int) ({ frames := 3, cells := 0, slots := 0, locals := 66 } : Room) [wr 0 (some 0), wr 10 o1, wi x2, wi x3, wi x4, wi x5, wi x6] σ (PI po) := by
  refine MT_of (by decide) (Nat.le_of_ble_eq_true rfl) (fun K hL hR hC hM => ?_)
  subst hL
  unfold wp_X7_giveThing at hw
  show J K 0 [some (wr 0 (some 0)), some (wr 10 o1), some (wi x2), some (wi x3), some (wi x4), some (wi x5), some (wi x6), none, none] [] σ 0 0
  refine r_iload hC dX7_giveThing_0 rfl ?_
  refine r_bipush hC dX7_giveThing_2 (by decide) ?_
  refine cl_X7_34 hC (c_X7_isWithin (kL K) hw) (by rw [hR]; decide) (Nat.le_of_ble_eq_true rfl) dX7_giveThing_4 (fun r101 s101 hq => ?_)
  clear hw
  have hw := hq
  clear hq
  refine r_if_eq (tgt := 24) hC dX7_giveThing_7 (by decide) (fun h => ?_) (fun h => ?_)
  · replace hw := hw.1 h
    refine r_iconst hC dX7_giveThing_24 ?_
    exact J.drop2 (j_X7_giveThing_25 hR hC hM o1 x2 x3 x4 x5 x6 0 s101 hw) ⟨rfl, rfl, rfl, rfl, rfl, rfl, rfl, trivial⟩
  · replace hw := hw.2 h
    refine r_iload hC dX7_giveThing_10 rfl ?_
    refine r_bipush hC dX7_giveThing_12 (by decide) ?_
    refine cl_X7_34 hC (c_X7_isWithin (kL K) hw) (by rw [hR]; decide) (Nat.le_of_ble_eq_true rfl) dX7_giveThing_14 (fun r105 s109 hq => ?_)
    clear hw
    have hw := hq
    clear hq
    refine r_if_eq (tgt := 24) hC dX7_giveThing_17 (by decide) (fun h => ?_) (fun h => ?_)
    · replace hw := hw.1 h
      refine r_iconst hC dX7_giveThing_24 ?_
      exact J.drop2 (j_X7_giveThing_25 hR hC hM o1 x2 x3 x4 x5 x6 0 s109 hw) ⟨rfl, rfl, rfl, rfl, rfl, rfl, rfl, trivial⟩
    · replace hw := hw.2 h
      refine r_iconst hC dX7_giveThing_20 ?_
      refine r_goto (tgt := 25) hC dX7_giveThing_21 (by decide) ?_
      exact J.drop2 (j_X7_giveThing_25 hR hC hM o1 x2 x3 x4 x5 x6 1 s109 hw) ⟨rfl, rfl, rfl, rfl, rfl, rfl, rfl, trivial⟩
def wp_X7_own (x1 : Int) (x2 : Int) (x3 : Int) (x4 : Int) (x5 : Int) (x6 : Int) (σ : St) (po : Int → St → Prop) : Prop := wp_X7_processAt x1 σ (fun o101 s101 => (o101 = none → po (-2) s101) ∧
 (∀ a101, o101 = some a101 → wp_X2_isFree a101 s101 (fun r101 s102 => (nm r101 = 0 → po (-3) s102) ∧
 (nm r101 ≠ 0 → wp_X7_giveThing (some a101) x2 x3 x4 x5 x6 s102 (fun r102 s103 => wp_X2_told a101 r102 s103 (fun r103 s104 => po r103 s104))))))
set_option maxRecDepth 100000 in
set_option maxHeartbeats 4000000 in
theorem c_X7_own (l : Launch) {x1 : Int} {x2 : Int} {x3 : Int} {x4 : Int} {x5 : Int} {x6 : Int} {σ : St} {po : Int → St → Prop} (hw : wp_X7_own x1 x2 x3 x4 x5 x6 σ po) : MT l yX7_own cX7_own 8 (some .int) ({ frames := 4, cells := 0, slots := 0, locals := 94 } : Room) [wr 0 (some 0), wi x1, wi x2, wi x3, wi x4, wi x5, wi x6] σ (PI po) := by
  refine MT_of (by decide) (Nat.le_of_ble_eq_true rfl) (fun K hL hR hC hM => ?_)
  subst hL
  unfold wp_X7_own at hw
  show J K 0 [some (wr 0 (some 0)), some (wi x1), some (wi x2), some (wi x3), some (wi x4), some (wi x5), some (wi x6), none] [] σ 0 0
  refine r_aload_n hC dX7_own_0 rfl ?_
  refine r_iload_n hC dX7_own_1 rfl ?_
  refine cl_X7_41 hC (c_X7_processAt (kL K) hw) (by rw [hR]; decide) (Nat.le_of_ble_eq_true rfl) dX7_own_2 (fun o101 s101 hq => ?_)
  clear hw
  have hw := hq
  clear hq
  refine r_astore (l' := [_, _, _, _, _, _, _, _]) hC dX7_own_5 rfl (by decide) rfl ?_
  refine r_aload hC dX7_own_7 rfl ?_
  refine r_ifnonnull (tgt := 15) hC dX7_own_9 (by decide) (fun a101 h => ?_) (fun h => ?_)
  · replace hw := hw.2 a101 h
    subst h
    refine r_aload hC dX7_own_15 rfl ?_
    refine cl_X7_86 hC (c_X2_isFree (kL K) hw) (by rw [hR]; decide) (Nat.le_of_ble_eq_true rfl) dX7_own_17 (fun r101 s102 hq => ?_)
    clear hw
    have hw := hq
    clear hq
    refine r_if_eq (tgt := 45) hC dX7_own_20 (by decide) (fun h => ?_) (fun h => ?_)
    · replace hw := hw.1 h
      refine r_bipush hC dX7_own_45 (by decide) ?_
      exact r_ireturn hC hM ⟨_, rfl, hw⟩ (by rw [hR]; decide) (by rw [hR]; decide) dX7_own_47
    · replace hw := hw.2 h
      refine r_aload hC dX7_own_23 rfl ?_
      refine r_aload_n hC dX7_own_25 rfl ?_
      refine r_aload hC dX7_own_26 rfl ?_
      refine r_iload_n hC dX7_own_28 rfl ?_
      refine r_iload_n hC dX7_own_29 rfl ?_
      refine r_iload hC dX7_own_30 rfl ?_
      refine r_iload hC dX7_own_32 rfl ?_
      refine r_iload hC dX7_own_34 rfl ?_
      refine cl_X7_105 hC (c_X7_giveThing (kL K) hw) (by rw [hR]; decide) (Nat.le_of_ble_eq_true rfl) dX7_own_36 (fun r102 s103 hq => ?_)
      clear hw
      have hw := hq
      clear hq
      refine cl_X7_94 hC (c_X2_told (kL K) hw) (by rw [hR]; decide) (Nat.le_of_ble_eq_true rfl) dX7_own_39 (fun r103 s104 hq => ?_)
      clear hw
      have hw := hq
      clear hq
      refine r_goto (tgt := 47) hC dX7_own_42 (by decide) ?_
      exact r_ireturn hC hM ⟨_, rfl, hw⟩ (by rw [hR]; decide) (by rw [hR]; decide) dX7_own_47
  · replace hw := hw.1 h
    subst h
    refine r_bipush hC dX7_own_12 (by decide) ?_
    exact r_ireturn hC hM ⟨_, rfl, hw⟩ (by rw [hR]; decide) (by rw [hR]; decide) dX7_own_14
def wp_X7_queueById (x1 : Int) (σ : St) (po : Option Nat → St → Prop) : Prop := wp_X7_thingById 2 (some 0) x1 σ (fun o101 s101 => (o101 = none → po none s101) ∧
 (∀ a101, o101 = some a101 → a101 < 12 ∧ po (some a101) s101))
set_option maxRecDepth 100000 in
set_option maxHeartbeats 4000000 in
theorem c_X7_queueById (l : Launch) {x1 : Int} {σ : St} {po : Option Nat → St → Prop} (hw : wp_X7_queueById x1 σ po) : MT l yX7_queueById cX7_queueById 4 (some (.object "QueuesAndGates$Queue")) ({ frames := 2, cells := 0, slots := 0, locals := 44 } : Room) [wr 0 (some 0), wi x1] σ (PR 20 po) := by
  refine MT_of (by decide) (Nat.le_of_ble_eq_true rfl) (fun K hL hR hC hM => ?_)
  subst hL
  unfold wp_X7_queueById at hw
  show J K 0 [some (wr 0 (some 0)), some (wi x1), none, none] [] σ 0 0
  refine r_aload_n hC dX7_queueById_0 rfl ?_
  refine gf_X7_21 hC dX7_queueById_1 ?_
  refine r_iload_n hC dX7_queueById_4 rfl ?_
  refine cl_X7_222 hC (c_X7_thingById (kL K) hw) (by rw [hR]; decide) (Nat.le_of_ble_eq_true rfl) dX7_queueById_5 (fun o101 s101 hq => ?_)
  clear hw
  have hw := hq
  clear hq
  refine r_astore_n (l' := [_, _, _, _]) hC dX7_queueById_8 rfl (by decide) rfl ?_
  refine r_aload_n hC dX7_queueById_9 rfl ?_
  refine r_inst hC (ci := 3) rfl rfl (wg 363 (by decide +kernel) (by decide +kernel)) dX7_queueById_10 (fun h => ?_) (fun a101 h => ?_)
  · replace hw := hw.1 h
    subst h
    refine r_if_eq (tgt := 25) hC dX7_queueById_13 (by decide) (fun _ => ?_) (fun h => absurd h (by decide))
    refine r_null hC 20 dX7_queueById_25 ?_
    exact r_areturn hC hM ⟨_, rfl, hw⟩ (by rw [hR]; decide) (by rw [hR]; decide) dX7_queueById_26
  · replace hw := hw.2 a101 h
    subst h
    have h101 := hw.1
    replace hw := hw.2
    refine ⟨oCi_lt h101, ?_⟩
    refine r_if_eq (tgt := 25) hC dX7_queueById_13 (by decide) (fun h => absurd h (by decide)) (fun _ => ?_)
    refine r_aload_n hC dX7_queueById_16 rfl ?_
    refine r_cast hC (ci := 3) rfl rfl (wg 363 (by decide +kernel) (by decide +kernel)) dX7_queueById_17 ⟨(fun a9 h9 => by cases h9; exact oCi_lt h101), ?_⟩
    refine r_astore_n (l' := [_, _, _, _]) hC dX7_queueById_20 rfl (by decide) rfl ?_
    refine r_aload_n hC dX7_queueById_21 rfl ?_
    refine r_goto (tgt := 26) hC dX7_queueById_22 (by decide) ?_
    exact r_areturn hC hM ⟨_, rfl, hw⟩ (by rw [hR]; decide) (by rw [hR]; decide) dX7_queueById_26
def wp_X7_changeRoom (o1 : Option Nat) (x2 : Int) (x3 : Int) (σ : St) (po : Int → St → Prop) : Prop := wp_X7_isWithin x3 1000 σ (fun r101 s101 => (nm r101 ≠ 0 → wp_X7_queueById x2 s101 (fun o101 s102 => (o101 = none → po (-5) s102) ∧
 (∀ a101, o101 = some a101 → a101 < 12 ∧ wp_X5_isRuledBy a101 o1 s102 (fun r102 s103 => (nm r102 = 0 → po (-6) s103) ∧
 (nm r102 ≠ 0 → (nm x3 ≤ nm (gI s103 42 a101 0) → ∀ s104, s104 = uI s103 42 a101 0 x3 → wp_X7_admitSenders  s104 (fun s105 => po 0 s105)) ∧
 (nm (gI s103 42 a101 0) < nm x3 → ∃ a102, o1 = some a102 ∧ (nm (gI s103 11 a102 0) = 0 → ∀ s106, s106 = uI s103 42 a101 0 x3 → wp_X7_admitSenders  s106 (fun s107 => po 0 s107)) ∧
 (nm (gI s103 11 a102 0) ≠ 0 → po (-6) s103))))))) ∧
 (nm r101 = 0 → po (-4) s101))
set_option maxRecDepth 100000 in
set_option maxHeartbeats 4000000 in
theorem c_X7_changeRoom (l : Launch) {o1 : Option Nat} {x2 : Int} {x3 : Int} {σ : St} {po : Int → St → Prop} (hw : wp_X7_changeRoom o1 x2 x3 σ po) : MT l yX7_changeRoom cX7_changeRoom 5 (some .int) ({ frames := 5, cells := 32, slots := 1072, locals := 115 } : Room) [wr 0 (some 0), wr 10 o1, wi x2, wi x3] σ (PI po) := by
  refine MT_of (by decide) (Nat.le_of_ble_eq_true rfl) (fun K hL hR hC hM => ?_)
  subst hL
  unfold wp_X7_changeRoom at hw
  show J K 0 [some (wr 0 (some 0)), some (wr 10 o1), some (wi x2), some (wi x3), none] [] σ 0 0
  refine r_iload_n hC dX7_changeRoom_0 rfl ?_
  refine r_sipush hC dX7_changeRoom_1 (by decide) ?_
  refine cl_X7_34 hC (c_X7_isWithin (kL K) hw) (by rw [hR]; decide) (Nat.le_of_ble_eq_true rfl) dX7_changeRoom_4 (fun r101 s101 hq => ?_)
  clear hw
  have hw := hq
  clear hq
  refine r_if_ne (tgt := 13) hC dX7_changeRoom_7 (by decide) (fun h => ?_) (fun h => ?_)
  · replace hw := hw.1 h
    refine r_aload_n hC dX7_changeRoom_13 rfl ?_
    refine r_iload_n hC dX7_changeRoom_14 rfl ?_
    refine cl_X7_308 hC (c_X7_queueById (kL K) hw) (by rw [hR]; decide) (Nat.le_of_ble_eq_true rfl) dX7_changeRoom_15 (fun o101 s102 hq => ?_)
    clear hw
    have hw := hq
    clear hq
    refine r_astore (l' := [_, _, _, _, _]) hC dX7_changeRoom_18 rfl (by decide) rfl ?_
    refine r_aload hC dX7_changeRoom_20 rfl ?_
    refine r_ifnonnull (tgt := 28) hC dX7_changeRoom_22 (by decide) (fun a101 h => ?_) (fun h => ?_)
    · replace hw := hw.2 a101 h
      subst h
      refine r_aload hC dX7_changeRoom_28 rfl ?_
      refine r_aload_n hC dX7_changeRoom_30 rfl ?_
      have h101 := hw.1
      replace hw := hw.2
      refine cl_X7_311 hC h101 (c_X5_isRuledBy (kL K) hw) (by rw [hR]; decide) (Nat.le_of_ble_eq_true rfl) dX7_changeRoom_31 (fun r102 s103 hq => ?_)
      clear hw
      have hw := hq
      clear hq
      refine r_if_eq (tgt := 53) hC dX7_changeRoom_34 (by decide) (fun h => ?_) (fun h => ?_)
      · replace hw := hw.1 h
        refine r_bipush hC dX7_changeRoom_53 (by decide) ?_
        exact r_ireturn hC hM ⟨_, rfl, hw⟩ (by rw [hR]; decide) (by rw [hR]; decide) dX7_changeRoom_55
      · replace hw := hw.2 h
        refine r_iload_n hC dX7_changeRoom_37 rfl ?_
        refine r_aload hC dX7_changeRoom_38 rfl ?_
        refine gf_X7_146 hC h101 dX7_changeRoom_40 ?_
        refine r_icmp_le (tgt := 56) hC dX7_changeRoom_43 (by decide) (fun h => ?_) (fun h => ?_)
        · replace hw := hw.1 h
          refine r_aload hC dX7_changeRoom_56 rfl ?_
          refine r_iload_n hC dX7_changeRoom_58 rfl ?_
          refine pf_X7_146 hC h101 dX7_changeRoom_59 (fun s104 e9 => ?_)
          replace hw := hw s104 e9
          clear e9
          refine r_aload_n hC dX7_changeRoom_62 rfl ?_
          refine cl_X7_296 hC (c_X7_admitSenders (kL K) hw) (by rw [hR]; decide) (Nat.le_of_ble_eq_true rfl) dX7_changeRoom_63 (fun s105 hq => ?_)
          clear hw
          have hw := hq
          clear hq
          refine r_iconst hC dX7_changeRoom_66 ?_
          exact r_ireturn hC hM ⟨_, rfl, hw⟩ (by rw [hR]; decide) (by rw [hR]; decide) dX7_changeRoom_67
        · replace hw := hw.2 h
          refine r_aload_n hC dX7_changeRoom_46 rfl ?_
          obtain ⟨a102, rfl, hw⟩ := hw
          refine gf_X7_312 hC dX7_changeRoom_47 ?_
          refine r_if_eq (tgt := 56) hC dX7_changeRoom_50 (by decide) (fun h => ?_) (fun h => ?_)
          · replace hw := hw.1 h
            refine r_aload hC dX7_changeRoom_56 rfl ?_
            refine r_iload_n hC dX7_changeRoom_58 rfl ?_
            refine pf_X7_146 hC h101 dX7_changeRoom_59 (fun s106 e9 => ?_)
            replace hw := hw s106 e9
            clear e9
            refine r_aload_n hC dX7_changeRoom_62 rfl ?_
            refine cl_X7_296 hC (c_X7_admitSenders (kL K) hw) (by rw [hR]; decide) (Nat.le_of_ble_eq_true rfl) dX7_changeRoom_63 (fun s107 hq => ?_)
            clear hw
            have hw := hq
            clear hq
            refine r_iconst hC dX7_changeRoom_66 ?_
            exact r_ireturn hC hM ⟨_, rfl, hw⟩ (by rw [hR]; decide) (by rw [hR]; decide) dX7_changeRoom_67
          · replace hw := hw.2 h
            refine r_bipush hC dX7_changeRoom_53 (by decide) ?_
            exact r_ireturn hC hM ⟨_, rfl, hw⟩ (by rw [hR]; decide) (by rw [hR]; decide) dX7_changeRoom_55
    · replace hw := hw.1 h
      subst h
      refine r_bipush hC dX7_changeRoom_25 (by decide) ?_
      exact r_ireturn hC hM ⟨_, rfl, hw⟩ (by rw [hR]; decide) (by rw [hR]; decide) dX7_changeRoom_27
  · replace hw := hw.2 h
    refine r_bipush hC dX7_changeRoom_10 (by decide) ?_
    exact r_ireturn hC hM ⟨_, rfl, hw⟩ (by rw [hR]; decide) (by rw [hR]; decide) dX7_changeRoom_12
def wp_X7_room (x1 : Int) (x2 : Int) (x3 : Int) (σ : St) (po : Int → St → Prop) : Prop := wp_X7_processAt x1 σ (fun o101 s101 => (o101 = none → po (-2) s101) ∧
 (∀ a101, o101 = some a101 → wp_X2_isFree a101 s101 (fun r101 s102 => (nm r101 = 0 → po (-3) s102) ∧
 (nm r101 ≠ 0 → wp_X7_changeRoom (some a101) x2 x3 s102 (fun r102 s103 => wp_X2_told a101 r102 s103 (fun r103 s104 => po r103 s104))))))
set_option maxRecDepth 100000 in
set_option maxHeartbeats 4000000 in
theorem c_X7_room (l : Launch) {x1 : Int} {x2 : Int} {x3 : Int} {σ : St} {po : Int → St → Prop} (hw : wp_X7_room x1 x2 x3 σ po) : MT l yX7_room cX7_room 5 (some .int) ({ frames := 6, cells := 32, slots := 1072, locals := 139 } : Room) [wr 0 (some 0), wi x1, wi x2, wi x3] σ (PI po) := by
  refine MT_of (by decide) (Nat.le_of_ble_eq_true rfl) (fun K hL hR hC hM => ?_)
  subst hL
  unfold wp_X7_room at hw
  show J K 0 [some (wr 0 (some 0)), some (wi x1), some (wi x2), some (wi x3), none] [] σ 0 0
  refine r_aload_n hC dX7_room_0 rfl ?_
  refine r_iload_n hC dX7_room_1 rfl ?_
  refine cl_X7_41 hC (c_X7_processAt (kL K) hw) (by rw [hR]; decide) (Nat.le_of_ble_eq_true rfl) dX7_room_2 (fun o101 s101 hq => ?_)
  clear hw
  have hw := hq
  clear hq
  refine r_astore (l' := [_, _, _, _, _]) hC dX7_room_5 rfl (by decide) rfl ?_
  refine r_aload hC dX7_room_7 rfl ?_
  refine r_ifnonnull (tgt := 15) hC dX7_room_9 (by decide) (fun a101 h => ?_) (fun h => ?_)
  · replace hw := hw.2 a101 h
    subst h
    refine r_aload hC dX7_room_15 rfl ?_
    refine cl_X7_86 hC (c_X2_isFree (kL K) hw) (by rw [hR]; decide) (Nat.le_of_ble_eq_true rfl) dX7_room_17 (fun r101 s102 hq => ?_)
    clear hw
    have hw := hq
    clear hq
    refine r_if_eq (tgt := 39) hC dX7_room_20 (by decide) (fun h => ?_) (fun h => ?_)
    · replace hw := hw.1 h
      refine r_bipush hC dX7_room_39 (by decide) ?_
      exact r_ireturn hC hM ⟨_, rfl, hw⟩ (by rw [hR]; decide) (by rw [hR]; decide) dX7_room_41
    · replace hw := hw.2 h
      refine r_aload hC dX7_room_23 rfl ?_
      refine r_aload_n hC dX7_room_25 rfl ?_
      refine r_aload hC dX7_room_26 rfl ?_
      refine r_iload_n hC dX7_room_28 rfl ?_
      refine r_iload_n hC dX7_room_29 rfl ?_
      refine cl_X7_109 hC (c_X7_changeRoom (kL K) hw) (by rw [hR]; decide) (Nat.le_of_ble_eq_true rfl) dX7_room_30 (fun r102 s103 hq => ?_)
      clear hw
      have hw := hq
      clear hq
      refine cl_X7_94 hC (c_X2_told (kL K) hw) (by rw [hR]; decide) (Nat.le_of_ble_eq_true rfl) dX7_room_33 (fun r103 s104 hq => ?_)
      clear hw
      have hw := hq
      clear hq
      refine r_goto (tgt := 41) hC dX7_room_36 (by decide) ?_
      exact r_ireturn hC hM ⟨_, rfl, hw⟩ (by rw [hR]; decide) (by rw [hR]; decide) dX7_room_41
  · replace hw := hw.1 h
    subst h
    refine r_bipush hC dX7_room_12 (by decide) ?_
    exact r_ireturn hC hM ⟨_, rfl, hw⟩ (by rw [hR]; decide) (by rw [hR]; decide) dX7_room_14
def wp_X7_beginWait (o1 : Option Nat) (x2 : Int) (o3 : Option Nat) (σ : St) (po : St → Prop) : Prop := (nm 16 ≤ nm (gI σ 2 0 0) → po σ) ∧
 (nm (gI σ 2 0 0) < nm 16 → ∃ a101, o1 = some a101 ∧ ∀ s101, s101 = uI σ 15 a101 0 x2 → ∀ s102, s102 = uR s101 10 a101 0 o3 → (0 ≤ nm (gI s102 2 0 0) ∧ nm (gI s102 2 0 0) < 16) ∧ ∀ s103, s103 = uR s102 4 0 (nm (gI s102 2 0 0)).toNat (some a101) → ∀ s104, s104 = uI s103 2 0 0 ((gI s103 2 0 0) + 1) → po s104)
set_option maxRecDepth 100000 in
set_option maxHeartbeats 4000000 in
theorem c_X7_beginWait (l : Launch) {o1 : Option Nat} {x2 : Int} {o3 : Option Nat} {σ : St} {po : St → Prop} (hw : wp_X7_beginWait o1 x2 o3 σ po) : MT l yX7_beginWait cX7_beginWait 4 none ({ frames := 0, cells := 0, slots := 0, locals := 0 } : Room) [wr 0 (some 0), wr 10 o1, wi x2, wr 20 o3] σ (PV po) := by
  refine MT_of (by decide) (Nat.le_of_ble_eq_true rfl) (fun K hL hR hC hM => ?_)
  subst hL
  unfold wp_X7_beginWait at hw
  show J K 0 [some (wr 0 (some 0)), some (wr 10 o1), some (wi x2), some (wr 20 o3)] [] σ 0 0
  refine r_aload_n hC dX7_beginWait_0 rfl ?_
  refine gf_X7_31 hC dX7_beginWait_1 ?_
  refine r_bipush hC dX7_beginWait_4 (by decide) ?_
  refine r_icmp_ge (tgt := 39) hC dX7_beginWait_6 (by decide) (fun h => ?_) (fun h => ?_)
  · replace hw := hw.1 h
    exact r_vreturn hC hM ⟨rfl, hw⟩ (by rw [hR]; decide) (by rw [hR]; decide) dX7_beginWait_39
  · replace hw := hw.2 h
    refine r_aload_n hC dX7_beginWait_9 rfl ?_
    refine r_iload_n hC dX7_beginWait_10 rfl ?_
    obtain ⟨a101, rfl, hw⟩ := hw
    refine pf_X7_49 hC dX7_beginWait_11 (fun s101 e9 => ?_)
    replace hw := hw s101 e9
    clear e9
    refine r_aload_n hC dX7_beginWait_14 rfl ?_
    refine r_aload_n hC dX7_beginWait_15 rfl ?_
    refine pf_X7_226 hC dX7_beginWait_16 (fun s102 e9 => ?_)
    replace hw := hw s102 e9
    clear e9
    refine r_aload_n hC dX7_beginWait_19 rfl ?_
    refine gf_X7_28 hC dX7_beginWait_20 ?_
    refine r_aload_n hC dX7_beginWait_23 rfl ?_
    refine gf_X7_31 hC dX7_beginWait_24 ?_
    refine r_aload_n hC dX7_beginWait_27 rfl ?_
    refine r_aastore hC (kd := 10) (Or.inl ⟨rfl, rfl⟩) (by decide) rfl hw.1 dX7_beginWait_28 (fun s103 e9 => ?_)
    replace hw := hw.2 s103 e9
    clear e9
    refine r_aload_n hC dX7_beginWait_29 rfl ?_
    refine r_dup hC dX7_beginWait_30 rfl ?_
    refine gf_X7_31 hC dX7_beginWait_31 ?_
    refine r_iconst hC dX7_beginWait_34 ?_
    refine r_iadd hC dX7_beginWait_35 ?_
    refine pf_X7_31 hC dX7_beginWait_36 (fun s104 e9 => ?_)
    replace hw := hw s104 e9
    clear e9
    exact r_vreturn hC hM ⟨rfl, hw⟩ (by rw [hR]; decide) (by rw [hR]; decide) dX7_beginWait_39
def wp_X7_sendFrom (o1 : Option Nat) (x2 : Int) (x3 : Int) (x4 : Int) (x5 : Int) (σ : St) (po : Int → St → Prop) : Prop := (nmL x3 < nmL 1 → po (-4) σ) ∧
 (nmL 1 ≤ nmL x3 → wp_X7_isWithin x4 64 σ (fun r101 s101 => (nm r101 ≠ 0 → wp_X7_queueById x2 s101 (fun o101 s102 => (o101 = none → po (-5) s102) ∧
 (∀ a101, o101 = some a101 → a101 < 12 ∧ (nm x4 ≤ nm (gI s102 42 a101 0) → wp_X5_grantsAll a101 o1 2 s102 (fun r102 s103 => (nm r102 ≠ 0 → ∃ a102, o1 = some a102 ∧ wp_X1_fill (2 * a102) x3 x4 11 (some a102) s103 (fun s104 => wp_X7_handToTaker (some a101) (some (2 * a102)) s104 (fun r103 s105 => (nm r103 = 0 → wp_X7_fits (some a101) x4 s105 (fun r104 s106 => (nm r104 = 0 → (nm x5 = 0 → wp_X7_beginWait (some a102) 1 (some a101) s106 (fun s107 => po (-10) s107)) ∧
 (nm x5 ≠ 0 → po (-11) s106)) ∧
 (nm r104 ≠ 0 → wp_X3_append a101 (some (2 * a102)) s106 (fun s108 => po 0 s108)))) ∧
 (nm r103 ≠ 0 → po 0 s105)))) ∧
 (nm r102 = 0 → po (-6) s103))) ∧
 (nm (gI s102 42 a101 0) < nm x4 → po (-5) s102)))) ∧
 (nm r101 = 0 → po (-4) s101)))
set_option maxRecDepth 100000 in
set_option maxHeartbeats 4000000 in
theorem c_X7_sendFrom (l : Launch) {o1 : Option Nat} {x2 : Int} {x3 : Int} {x4 : Int} {x5 : Int} {σ : St} {po : Int → St → Prop} (hw : wp_X7_sendFrom o1 x2 x3 x4 x5 σ po) : MT l yX7_sendFrom cX7_sendFrom 8 (some .int) ({ frames := 3, cells := 2, slots := 67, locals := 69 } : Room) [wr 0 (some 0), wr 10 o1, wi x2, wl x3, wi x4, wi x5] σ (PI po) := by
  refine MT_of (by decide) (Nat.le_of_ble_eq_true rfl) (fun K hL hR hC hM => ?_)
  subst hL
  unfold wp_X7_sendFrom at hw
  show J K 0 [some (wr 0 (some 0)), some (wr 10 o1), some (wi x2), some (wl x3), none, some (wi x4), some (wi x5), none] [] σ 0 0
  refine r_lload_n hC dX7_sendFrom_0 rfl ?_
  refine r_lconst hC 1 rfl dX7_sendFrom_1 ?_
  refine r_lcmp_lt (tgt := 16) hC dX7_sendFrom_2 dX7_sendFrom_3 (by decide) (fun h => ?_) (fun h => ?_)
  · replace hw := hw.1 h
    refine r_bipush hC dX7_sendFrom_16 (by decide) ?_
    exact r_ireturn hC hM ⟨_, rfl, hw⟩ (by rw [hR]; decide) (by rw [hR]; decide) dX7_sendFrom_18
  · replace hw := hw.2 h
    refine r_iload hC dX7_sendFrom_6 rfl ?_
    refine r_bipush hC dX7_sendFrom_8 (by decide) ?_
    refine cl_X7_34 hC (c_X7_isWithin (kL K) hw) (by rw [hR]; decide) (Nat.le_of_ble_eq_true rfl) dX7_sendFrom_10 (fun r101 s101 hq => ?_)
    clear hw
    have hw := hq
    clear hq
    refine r_if_ne (tgt := 19) hC dX7_sendFrom_13 (by decide) (fun h => ?_) (fun h => ?_)
    · replace hw := hw.1 h
      refine r_aload_n hC dX7_sendFrom_19 rfl ?_
      refine r_iload_n hC dX7_sendFrom_20 rfl ?_
      refine cl_X7_308 hC (c_X7_queueById (kL K) hw) (by rw [hR]; decide) (Nat.le_of_ble_eq_true rfl) dX7_sendFrom_21 (fun o101 s102 hq => ?_)
      clear hw
      have hw := hq
      clear hq
      refine r_astore (l' := [_, _, _, _, _, _, _, _]) hC dX7_sendFrom_24 rfl (by decide) rfl ?_
      refine r_aload hC dX7_sendFrom_26 rfl ?_
      refine r_ifnull (tgt := 41) hC dX7_sendFrom_28 (by decide) (fun h => ?_) (fun a101 h => ?_)
      · replace hw := hw.1 h
        subst h
        refine r_bipush hC dX7_sendFrom_41 (by decide) ?_
        exact r_ireturn hC hM ⟨_, rfl, hw⟩ (by rw [hR]; decide) (by rw [hR]; decide) dX7_sendFrom_43
      · replace hw := hw.2 a101 h
        subst h
        refine r_iload hC dX7_sendFrom_31 rfl ?_
        refine r_aload hC dX7_sendFrom_33 rfl ?_
        have h101 := hw.1
        replace hw := hw.2
        refine gf_X7_146 hC h101 dX7_sendFrom_35 ?_
        refine r_icmp_le (tgt := 44) hC dX7_sendFrom_38 (by decide) (fun h => ?_) (fun h => ?_)
        · replace hw := hw.1 h
          refine r_aload hC dX7_sendFrom_44 rfl ?_
          refine r_aload_n hC dX7_sendFrom_46 rfl ?_
          refine r_iconst hC dX7_sendFrom_47 ?_
          refine cl_X7_315 hC h101 (c_X5_grantsAll (kL K) hw) (by rw [hR]; decide) (Nat.le_of_ble_eq_true rfl) dX7_sendFrom_48 (fun r102 s103 hq => ?_)
          clear hw
          have hw := hq
          clear hq
          refine r_if_ne (tgt := 57) hC dX7_sendFrom_51 (by decide) (fun h => ?_) (fun h => ?_)
          · replace hw := hw.1 h
            refine r_aload_n hC dX7_sendFrom_57 rfl ?_
            obtain ⟨a102, rfl, hw⟩ := hw
            refine gf_X7_316 hC dX7_sendFrom_58 ?_
            refine r_lload_n hC dX7_sendFrom_61 rfl ?_
            refine r_iload hC dX7_sendFrom_62 rfl ?_
            refine r_aload_n hC dX7_sendFrom_64 rfl ?_
            refine gf_X7_76 hC dX7_sendFrom_65 ?_
            refine cl_X7_320 hC (c_X1_fill (kL K) hw) (by rw [hR]; decide) (Nat.le_of_ble_eq_true rfl) dX7_sendFrom_68 (fun s104 hq => ?_)
            clear hw
            have hw := hq
            clear hq
            refine r_aload_n hC dX7_sendFrom_71 rfl ?_
            refine r_aload hC dX7_sendFrom_72 rfl ?_
            refine r_aload_n hC dX7_sendFrom_74 rfl ?_
            refine gf_X7_316 hC dX7_sendFrom_75 ?_
            refine cl_X7_324 hC (c_X7_handToTaker (kL K) hw) (by rw [hR]; decide) (Nat.le_of_ble_eq_true rfl) dX7_sendFrom_78 (fun r103 s105 hq => ?_)
            clear hw
            have hw := hq
            clear hq
            refine r_if_eq (tgt := 86) hC dX7_sendFrom_81 (by decide) (fun h => ?_) (fun h => ?_)
            · replace hw := hw.1 h
              refine r_aload_n hC dX7_sendFrom_86 rfl ?_
              refine r_aload hC dX7_sendFrom_87 rfl ?_
              refine r_iload hC dX7_sendFrom_89 rfl ?_
              refine cl_X7_328 hC (c_X7_fits (kL K) hw) (by rw [hR]; decide) (Nat.le_of_ble_eq_true rfl) dX7_sendFrom_91 (fun r104 s106 hq => ?_)
              clear hw
              have hw := hq
              clear hq
              refine r_if_eq (tgt := 108) hC dX7_sendFrom_94 (by decide) (fun h => ?_) (fun h => ?_)
              · replace hw := hw.1 h
                refine r_iload hC dX7_sendFrom_108 rfl ?_
                refine r_if_eq (tgt := 116) hC dX7_sendFrom_110 (by decide) (fun h => ?_) (fun h => ?_)
                · replace hw := hw.1 h
                  refine r_aload_n hC dX7_sendFrom_116 rfl ?_
                  refine r_aload_n hC dX7_sendFrom_117 rfl ?_
                  refine r_iconst hC dX7_sendFrom_118 ?_
                  refine r_aload hC dX7_sendFrom_119 rfl ?_
                  refine cl_X7_336 hC (c_X7_beginWait (kL K) hw) (by rw [hR]; decide) (Nat.le_of_ble_eq_true rfl) dX7_sendFrom_121 (fun s107 hq => ?_)
                  clear hw
                  have hw := hq
                  clear hq
                  refine r_bipush hC dX7_sendFrom_124 (by decide) ?_
                  exact r_ireturn hC hM ⟨_, rfl, hw⟩ (by rw [hR]; decide) (by rw [hR]; decide) dX7_sendFrom_126
                · replace hw := hw.2 h
                  refine r_bipush hC dX7_sendFrom_113 (by decide) ?_
                  exact r_ireturn hC hM ⟨_, rfl, hw⟩ (by rw [hR]; decide) (by rw [hR]; decide) dX7_sendFrom_115
              · replace hw := hw.2 h
                refine r_aload hC dX7_sendFrom_97 rfl ?_
                refine r_aload_n hC dX7_sendFrom_99 rfl ?_
                refine gf_X7_316 hC dX7_sendFrom_100 ?_
                refine cl_X7_332 hC h101 (c_X3_append (kL K) hw) (by rw [hR]; decide) (Nat.le_of_ble_eq_true rfl) dX7_sendFrom_103 (fun s108 hq => ?_)
                clear hw
                have hw := hq
                clear hq
                refine r_iconst hC dX7_sendFrom_106 ?_
                exact r_ireturn hC hM ⟨_, rfl, hw⟩ (by rw [hR]; decide) (by rw [hR]; decide) dX7_sendFrom_107
            · replace hw := hw.2 h
              refine r_iconst hC dX7_sendFrom_84 ?_
              exact r_ireturn hC hM ⟨_, rfl, hw⟩ (by rw [hR]; decide) (by rw [hR]; decide) dX7_sendFrom_85
          · replace hw := hw.2 h
            refine r_bipush hC dX7_sendFrom_54 (by decide) ?_
            exact r_ireturn hC hM ⟨_, rfl, hw⟩ (by rw [hR]; decide) (by rw [hR]; decide) dX7_sendFrom_56
        · replace hw := hw.2 h
          refine r_bipush hC dX7_sendFrom_41 (by decide) ?_
          exact r_ireturn hC hM ⟨_, rfl, hw⟩ (by rw [hR]; decide) (by rw [hR]; decide) dX7_sendFrom_43
    · replace hw := hw.2 h
      refine r_bipush hC dX7_sendFrom_16 (by decide) ?_
      exact r_ireturn hC hM ⟨_, rfl, hw⟩ (by rw [hR]; decide) (by rw [hR]; decide) dX7_sendFrom_18
def wp_X7_send (x1 : Int) (x2 : Int) (x3 : Int) (x4 : Int) (x5 : Int) (σ : St) (po : Int → St → Prop) : Prop := wp_X7_processAt x1 σ (fun o101 s101 => (o101 = none → po (-2) s101) ∧
 (∀ a101, o101 = some a101 → wp_X2_isFree a101 s101 (fun r101 s102 => (nm r101 = 0 → po (-3) s102) ∧
 (nm r101 ≠ 0 → wp_X7_sendFrom (some a101) x2 x3 x4 x5 s102 (fun r102 s103 => wp_X2_told a101 r102 s103 (fun r103 s104 => po r103 s104))))))
set_option maxRecDepth 100000 in
set_option maxHeartbeats 4000000 in
theorem c_X7_send (l : Launch) {x1 : Int} {x2 : Int} {x3 : Int} {x4 : Int} {x5 : Int} {σ : St} {po : Int → St → Prop} (hw : wp_X7_send x1 x2 x3 x4 x5 σ po) : MT l yX7_send cX7_send 8 (some .int) ({ frames := 4, cells := 2, slots := 67, locals := 96 } : Room) [wr 0 (some 0), wi x1, wi x2, wl x3, wi x4, wi x5] σ (PI po) := by
  refine MT_of (by decide) (Nat.le_of_ble_eq_true rfl) (fun K hL hR hC hM => ?_)
  subst hL
  unfold wp_X7_send at hw
  show J K 0 [some (wr 0 (some 0)), some (wi x1), some (wi x2), some (wl x3), none, some (wi x4), some (wi x5), none] [] σ 0 0
  refine r_aload_n hC dX7_send_0 rfl ?_
  refine r_iload_n hC dX7_send_1 rfl ?_
  refine cl_X7_41 hC (c_X7_processAt (kL K) hw) (by rw [hR]; decide) (Nat.le_of_ble_eq_true rfl) dX7_send_2 (fun o101 s101 hq => ?_)
  clear hw
  have hw := hq
  clear hq
  refine r_astore (l' := [_, _, _, _, _, _, _, _]) hC dX7_send_5 rfl (by decide) rfl ?_
  refine r_aload hC dX7_send_7 rfl ?_
  refine r_ifnonnull (tgt := 15) hC dX7_send_9 (by decide) (fun a101 h => ?_) (fun h => ?_)
  · replace hw := hw.2 a101 h
    subst h
    refine r_aload hC dX7_send_15 rfl ?_
    refine cl_X7_86 hC (c_X2_isFree (kL K) hw) (by rw [hR]; decide) (Nat.le_of_ble_eq_true rfl) dX7_send_17 (fun r101 s102 hq => ?_)
    clear hw
    have hw := hq
    clear hq
    refine r_if_eq (tgt := 43) hC dX7_send_20 (by decide) (fun h => ?_) (fun h => ?_)
    · replace hw := hw.1 h
      refine r_bipush hC dX7_send_43 (by decide) ?_
      exact r_ireturn hC hM ⟨_, rfl, hw⟩ (by rw [hR]; decide) (by rw [hR]; decide) dX7_send_45
    · replace hw := hw.2 h
      refine r_aload hC dX7_send_23 rfl ?_
      refine r_aload_n hC dX7_send_25 rfl ?_
      refine r_aload hC dX7_send_26 rfl ?_
      refine r_iload_n hC dX7_send_28 rfl ?_
      refine r_lload_n hC dX7_send_29 rfl ?_
      refine r_iload hC dX7_send_30 rfl ?_
      refine r_iload hC dX7_send_32 rfl ?_
      refine cl_X7_112 hC (c_X7_sendFrom (kL K) hw) (by rw [hR]; decide) (Nat.le_of_ble_eq_true rfl) dX7_send_34 (fun r102 s103 hq => ?_)
      clear hw
      have hw := hq
      clear hq
      refine cl_X7_94 hC (c_X2_told (kL K) hw) (by rw [hR]; decide) (Nat.le_of_ble_eq_true rfl) dX7_send_37 (fun r103 s104 hq => ?_)
      clear hw
      have hw := hq
      clear hq
      refine r_goto (tgt := 45) hC dX7_send_40 (by decide) ?_
      exact r_ireturn hC hM ⟨_, rfl, hw⟩ (by rw [hR]; decide) (by rw [hR]; decide) dX7_send_45
  · replace hw := hw.1 h
    subst h
    refine r_bipush hC dX7_send_12 (by decide) ?_
    exact r_ireturn hC hM ⟨_, rfl, hw⟩ (by rw [hR]; decide) (by rw [hR]; decide) dX7_send_14
def wp_X6_become (a0 : Nat) (x1 : Int) (x2 : Int) (x3 : Int) (σ : St) (po : St → Prop) : Prop := ∀ s101, s101 = uI σ 19 a0 0 x1 → ∀ s102, s102 = uL s101 12 a0 0 x2 → (nm (zand x3 2) = 0 → ∀ s103, s103 = uI s102 20 a0 0 0 → (nm (zand x3 4) = 0 → ∀ s104, s104 = uI s103 21 a0 0 0 → po s104) ∧
 (nm (zand x3 4) ≠ 0 → ∀ s105, s105 = uI s103 21 a0 0 1 → po s105)) ∧
 (nm (zand x3 2) ≠ 0 → ∀ s106, s106 = uI s102 20 a0 0 1 → (nm (zand x3 4) = 0 → ∀ s107, s107 = uI s106 21 a0 0 0 → po s107) ∧
 (nm (zand x3 4) ≠ 0 → ∀ s108, s108 = uI s106 21 a0 0 1 → po s108))
set_option maxRecDepth 100000 in
set_option maxHeartbeats 4000000 in
theorem c_X6_become (l : Launch) {a0 : Nat} {x1 : Int} {x2 : Int} {x3 : Int} {σ : St} {po : St → Prop} (hw : wp_X6_become a0 x1 x2 x3 σ po) : MT l yX6_become cX6_become 5 none ({ frames := 0, cells := 0, slots := 0, locals := 0 } : Room) [wr 14 (some a0), wi x1, wl x2, wi x3] σ (PV po) := by
  refine MT_of (by decide) (Nat.le_of_ble_eq_true rfl) (fun K hL hR hC hM => ?_)
  subst hL
  unfold wp_X6_become at hw
  show J K 0 [some (wr 14 (some a0)), some (wi x1), some (wl x2), none, some (wi x3)] [] σ 0 0
  refine r_aload_n hC dX6_become_0 rfl ?_
  refine r_iload_n hC dX6_become_1 rfl ?_
  refine pf_X6_9 hC dX6_become_2 (fun s101 e9 => ?_)
  replace hw := hw s101 e9
  clear e9
  refine r_aload_n hC dX6_become_5 rfl ?_
  refine r_lload_n hC dX6_become_6 rfl ?_
  refine pf_X6_15 hC dX6_become_7 (fun s102 e9 => ?_)
  replace hw := hw s102 e9
  clear e9
  refine r_aload_n hC dX6_become_10 rfl ?_
  refine r_iload hC dX6_become_11 rfl ?_
  refine r_iconst hC dX6_become_13 ?_
  refine r_iand hC dX6_become_14 ?_
  refine r_if_eq (tgt := 22) hC dX6_become_15 (by decide) (fun h => ?_) (fun h => ?_)
  · replace hw := hw.1 h
    refine r_iconst hC dX6_become_22 ?_
    refine pf_X6_19 hC (by decide) dX6_become_23 (fun s103 e9 => ?_)
    replace hw := hw s103 e9
    clear e9
    refine r_aload_n hC dX6_become_26 rfl ?_
    refine r_iload hC dX6_become_27 rfl ?_
    refine r_iconst hC dX6_become_29 ?_
    refine r_iand hC dX6_become_30 ?_
    refine r_if_eq (tgt := 38) hC dX6_become_31 (by decide) (fun h => ?_) (fun h => ?_)
    · replace hw := hw.1 h
      refine r_iconst hC dX6_become_38 ?_
      refine pf_X6_23 hC (by decide) dX6_become_39 (fun s104 e9 => ?_)
      replace hw := hw s104 e9
      clear e9
      exact r_vreturn hC hM ⟨rfl, hw⟩ (by rw [hR]; decide) (by rw [hR]; decide) dX6_become_42
    · replace hw := hw.2 h
      refine r_iconst hC dX6_become_34 ?_
      refine r_goto (tgt := 39) hC dX6_become_35 (by decide) ?_
      refine pf_X6_23 hC (by decide) dX6_become_39 (fun s105 e9 => ?_)
      replace hw := hw s105 e9
      clear e9
      exact r_vreturn hC hM ⟨rfl, hw⟩ (by rw [hR]; decide) (by rw [hR]; decide) dX6_become_42
  · replace hw := hw.2 h
    refine r_iconst hC dX6_become_18 ?_
    refine r_goto (tgt := 23) hC dX6_become_19 (by decide) ?_
    refine pf_X6_19 hC (by decide) dX6_become_23 (fun s106 e9 => ?_)
    replace hw := hw s106 e9
    clear e9
    refine r_aload_n hC dX6_become_26 rfl ?_
    refine r_iload hC dX6_become_27 rfl ?_
    refine r_iconst hC dX6_become_29 ?_
    refine r_iand hC dX6_become_30 ?_
    refine r_if_eq (tgt := 38) hC dX6_become_31 (by decide) (fun h => ?_) (fun h => ?_)
    · replace hw := hw.1 h
      refine r_iconst hC dX6_become_38 ?_
      refine pf_X6_23 hC (by decide) dX6_become_39 (fun s107 e9 => ?_)
      replace hw := hw s107 e9
      clear e9
      exact r_vreturn hC hM ⟨rfl, hw⟩ (by rw [hR]; decide) (by rw [hR]; decide) dX6_become_42
    · replace hw := hw.2 h
      refine r_iconst hC dX6_become_34 ?_
      refine r_goto (tgt := 39) hC dX6_become_35 (by decide) ?_
      refine pf_X6_23 hC (by decide) dX6_become_39 (fun s108 e9 => ?_)
      replace hw := hw s108 e9
      clear e9
      exact r_vreturn hC hM ⟨rfl, hw⟩ (by rw [hR]; decide) (by rw [hR]; decide) dX6_become_42
def wp_X3_messageAt (a0 : Nat) (x1 : Int) (σ : St) (po : Option Nat → St → Prop) : Prop := (nm x1 < 0 → po none σ) ∧
 (0 ≤ nm x1 → a0 < 12 ∧ (nm (gI σ 40 a0 0) ≤ nm x1 → po none σ) ∧
 (nm x1 < nm (gI σ 40 a0 0) → (nm 40 ≤ nm x1 → po none σ) ∧
 (nm x1 < nm 40 → (0 ≤ nm x1 ∧ nm x1 < 40) ∧ ∀ o101, o101 = gR σ 11 a0 (nm x1).toNat → po o101 σ)))
set_option maxRecDepth 100000 in
set_option maxHeartbeats 4000000 in
theorem c_X3_messageAt (l : Launch) {a0 : Nat} {x1 : Int} {σ : St} {po : Option Nat → St → Prop} (hw : wp_X3_messageAt a0 x1 σ po) : MT l yX3_messageAt cX3_messageAt 2 (some (.object "QueuesAndGates$Message")) ({ frames := 0, cells := 0, slots := 0, locals := 0 } : Room) [wr 20 (some a0), wi x1] σ (PR 12 po) := by
  refine MT_of (by decide) (Nat.le_of_ble_eq_true rfl) (fun K hL hR hC hM => ?_)
  subst hL
  unfold wp_X3_messageAt at hw
  show J K 0 [some (wr 20 (some a0)), some (wi x1)] [] σ 0 0
  refine r_iload_n hC dX3_messageAt_0 rfl ?_
  refine r_if_lt (tgt := 27) hC dX3_messageAt_1 (by decide) (fun h => ?_) (fun h => ?_)
  · replace hw := hw.1 h
    refine r_null hC 12 dX3_messageAt_27 ?_
    exact r_areturn hC hM ⟨_, rfl, hw⟩ (by rw [hR]; decide) (by rw [hR]; decide) dX3_messageAt_28
  · replace hw := hw.2 h
    refine r_iload_n hC dX3_messageAt_4 rfl ?_
    refine r_aload_n hC dX3_messageAt_5 rfl ?_
    have h101 := hw.1
    replace hw := hw.2
    refine gf_X3_17 hC h101 dX3_messageAt_6 ?_
    refine r_icmp_ge (tgt := 27) hC dX3_messageAt_9 (by decide) (fun h => ?_) (fun h => ?_)
    · replace hw := hw.1 h
      refine r_null hC 12 dX3_messageAt_27 ?_
      exact r_areturn hC hM ⟨_, rfl, hw⟩ (by rw [hR]; decide) (by rw [hR]; decide) dX3_messageAt_28
    · replace hw := hw.2 h
      refine r_iload_n hC dX3_messageAt_12 rfl ?_
      refine r_bipush hC dX3_messageAt_13 (by decide) ?_
      refine r_icmp_ge (tgt := 27) hC dX3_messageAt_15 (by decide) (fun h => ?_) (fun h => ?_)
      · replace hw := hw.1 h
        refine r_null hC 12 dX3_messageAt_27 ?_
        exact r_areturn hC hM ⟨_, rfl, hw⟩ (by rw [hR]; decide) (by rw [hR]; decide) dX3_messageAt_28
      · replace hw := hw.2 h
        refine r_aload_n hC dX3_messageAt_18 rfl ?_
        refine gf_X3_11 hC h101 dX3_messageAt_19 ?_
        refine r_iload_n hC dX3_messageAt_22 rfl ?_
        refine r_aaload hC (kd := 12) (Or.inr (Or.inr ⟨rfl, rfl⟩)) (by decide) rfl hw.1 dX3_messageAt_23 (fun o101 e9 => ?_)
        replace hw := hw.2 o101 e9
        clear e9
        refine r_goto (tgt := 28) hC dX3_messageAt_24 (by decide) ?_
        exact r_areturn hC hM ⟨_, rfl, hw⟩ (by rw [hR]; decide) (by rw [hR]; decide) dX3_messageAt_28
def wp_X3_placeOfWanted_46 (po : Int → St → Prop) (X7 : Nat → Option Nat → Int → Int → Int → St → Prop) (a0 : Nat) (o1 : Option Nat) (x2 : Int) (x3 : Int) (x5 : Int) (o6 : Option Nat) (y0 : Int) (σ : St) : Prop := (nm y0 = 0 → X7 a0 o1 x2 x3 (x5 + 1) σ) ∧
 (nm y0 ≠ 0 → (nm x2 = nm (-1) → ∃ a101, o6 = some a101 ∧ X7 a0 o1 x5 (gL σ 11 a101 0) (x5 + 1) σ) ∧
 (nm x2 ≠ nm (-1) → ∃ a102, o1 = some a102 ∧ (nmL 0 ≤ nmL (gL σ 12 a102 0) → X7 a0 (some a102) x2 x3 (x5 + 1) σ) ∧
 (nmL (gL σ 12 a102 0) < nmL 0 → ∃ a103, o6 = some a103 ∧ (nmL x3 ≤ nmL (gL σ 11 a103 0) → X7 a0 (some a102) x2 x3 (x5 + 1) σ) ∧
 (nmL (gL σ 11 a103 0) < nmL x3 → X7 a0 (some a102) x5 (gL σ 11 a103 0) (x5 + 1) σ))))
set_option maxRecDepth 100000 in
set_option maxHeartbeats 4000000 in
theorem j_X3_placeOfWanted_46 {K : JK} (hR : kRm K = ({ frames := 1, cells := 0, slots := 0, locals := 22 } : Room)) (hC : Cx K cX3_placeOfWanted 8 RX3) {po : Int → St → Prop} (hM : Mx K (some .int) (PI po)) {X7 : Nat → Option Nat → Int → Int → Int → St → Prop} (hX7 : ∀ (a0 : Nat) (o1 : Option Nat) (x2 : Int) (x3 : Int) (x5 : Int) (σ : St), X7 a0 o1 x2 x3 x5 σ → J K 7 [some (wr 20 (some a0)), some (wr 14 o1), some (wi x2), some (wl x3), none, some (wi x5), none, none] [] σ 0 0) : ∀ (a0 : Nat) (o1 : Option Nat) (x2 : Int) (x3 : Int) (x5 : Int) (o6 : Option Nat) (y0 : Int) (σ : St), wp_X3_placeOfWanted_46 po X7 a0 o1 x2 x3 x5 o6 y0 σ → J K 46 [some (wr 20 (some a0)), some (wr 14 o1), some (wi x2), some (wl x3), none, some (wi x5), some (wr 12 o6), none] [wi y0] σ 0 0 := by
  intro a0 o1 x2 x3 x5 o6 y0 σ hw
  unfold wp_X3_placeOfWanted_46 at hw
  refine r_istore (l' := [_, _, _, _, _, _, _, _]) hC dX3_placeOfWanted_46 rfl (by decide) rfl ?_
  refine r_iload hC dX3_placeOfWanted_48 rfl ?_
  refine r_if_eq (tgt := 86) hC dX3_placeOfWanted_50 (by decide) (fun h => ?_) (fun h => ?_)
  · replace hw := hw.1 h
    refine r_iinc (l' := [_, _, _, _, _, _, _, _]) hC dX3_placeOfWanted_86 rfl rfl (by decide) rfl ?_
    refine r_goto (tgt := 7) hC dX3_placeOfWanted_89 (by decide) ?_
    exact J.drop2 (hX7 a0 o1 x2 x3 (x5 + 1) σ hw) ⟨rfl, rfl, rfl, rfl, rfl, trivial⟩
  · replace hw := hw.2 h
    refine r_iload_n hC dX3_placeOfWanted_53 rfl ?_
    refine r_iconst hC dX3_placeOfWanted_54 ?_
    refine r_icmp_eq (tgt := 77) hC dX3_placeOfWanted_55 (by decide) (fun h => ?_) (fun h => ?_)
    · replace hw := hw.1 h
      refine r_iload hC dX3_placeOfWanted_77 rfl ?_
      refine r_istore_n (l' := [_, _, _, _, _, _, _, _]) hC dX3_placeOfWanted_79 rfl (by decide) rfl ?_
      refine r_aload hC dX3_placeOfWanted_80 rfl ?_
      obtain ⟨a101, rfl, hw⟩ := hw
      refine gf_X3_30 hC dX3_placeOfWanted_82 ?_
      refine r_lstore_n (l' := [_, _, _, _, _, _, _, _]) hC dX3_placeOfWanted_85 rfl (by decide) rfl ?_
      refine r_iinc (l' := [_, _, _, _, _, _, _, _]) hC dX3_placeOfWanted_86 rfl rfl (by decide) rfl ?_
      refine r_goto (tgt := 7) hC dX3_placeOfWanted_89 (by decide) ?_
      exact J.drop2 (hX7 a0 o1 x5 (gL σ 11 a101 0) (x5 + 1) σ hw) ⟨rfl, rfl, rfl, rfl, rfl, trivial⟩
    · replace hw := hw.2 h
      refine r_aload_n hC dX3_placeOfWanted_58 rfl ?_
      obtain ⟨a102, rfl, hw⟩ := hw
      refine gf_X3_60 hC dX3_placeOfWanted_59 ?_
      refine r_lconst hC 0 rfl dX3_placeOfWanted_62 ?_
      refine r_lcmp_ge (tgt := 86) hC dX3_placeOfWanted_63 dX3_placeOfWanted_64 (by decide) (fun h => ?_) (fun h => ?_)
      · replace hw := hw.1 h
        refine r_iinc (l' := [_, _, _, _, _, _, _, _]) hC dX3_placeOfWanted_86 rfl rfl (by decide) rfl ?_
        refine r_goto (tgt := 7) hC dX3_placeOfWanted_89 (by decide) ?_
        exact J.drop2 (hX7 a0 (some a102) x2 x3 (x5 + 1) σ hw) ⟨rfl, rfl, rfl, rfl, rfl, trivial⟩
      · replace hw := hw.2 h
        refine r_aload hC dX3_placeOfWanted_67 rfl ?_
        obtain ⟨a103, rfl, hw⟩ := hw
        refine gf_X3_30 hC dX3_placeOfWanted_69 ?_
        refine r_lload_n hC dX3_placeOfWanted_72 rfl ?_
        refine r_lcmp_ge (tgt := 86) hC dX3_placeOfWanted_73 dX3_placeOfWanted_74 (by decide) (fun h => ?_) (fun h => ?_)
        · replace hw := hw.1 h
          refine r_iinc (l' := [_, _, _, _, _, _, _, _]) hC dX3_placeOfWanted_86 rfl rfl (by decide) rfl ?_
          refine r_goto (tgt := 7) hC dX3_placeOfWanted_89 (by decide) ?_
          exact J.drop2 (hX7 a0 (some a102) x2 x3 (x5 + 1) σ hw) ⟨rfl, rfl, rfl, rfl, rfl, trivial⟩
        · replace hw := hw.2 h
          refine r_iload hC dX3_placeOfWanted_77 rfl ?_
          refine r_istore_n (l' := [_, _, _, _, _, _, _, _]) hC dX3_placeOfWanted_79 rfl (by decide) rfl ?_
          refine r_aload hC dX3_placeOfWanted_80 rfl ?_
          refine gf_X3_30 hC dX3_placeOfWanted_82 ?_
          refine r_lstore_n (l' := [_, _, _, _, _, _, _, _]) hC dX3_placeOfWanted_85 rfl (by decide) rfl ?_
          refine r_iinc (l' := [_, _, _, _, _, _, _, _]) hC dX3_placeOfWanted_86 rfl rfl (by decide) rfl ?_
          refine r_goto (tgt := 7) hC dX3_placeOfWanted_89 (by decide) ?_
          exact J.drop2 (hX7 a0 (some a102) x5 (gL σ 11 a103 0) (x5 + 1) σ hw) ⟨rfl, rfl, rfl, rfl, rfl, trivial⟩
def wp_X3_placeOfWanted_7 (po : Int → St → Prop) : Nat → Nat → Option Nat → Int → Int → Int → St → Prop
  | 0, _, _, _, _, _, _ => False
  | n + 1, a0, o1, x2, x3, x5, σ => a0 < 12 ∧ (nm (gI σ 40 a0 0) ≤ nm x5 → po x2 σ) ∧
 (nm x5 < nm (gI σ 40 a0 0) → wp_X3_messageAt a0 x5 σ (fun o101 s101 => (o101 = none → wp_X3_placeOfWanted_46 po (fun a0 o1 x2 x3 x5 s9 => wp_X3_placeOfWanted_7 po n a0 o1 x2 x3 x5 s9) a0 o1 x2 x3 x5 none 0 s101) ∧
 (∀ a104, o101 = some a104 → ∃ a105, o1 = some a105 ∧ wp_X6_wants a105 (gL s101 11 a104 0) s101 (fun r101 s102 => (nm r101 = 0 → wp_X3_placeOfWanted_46 po (fun a0 o1 x2 x3 x5 s9 => wp_X3_placeOfWanted_7 po n a0 o1 x2 x3 x5 s9) a0 (some a105) x2 x3 x5 (some a104) 0 s102) ∧
 (nm r101 ≠ 0 → wp_X3_placeOfWanted_46 po (fun a0 o1 x2 x3 x5 s9 => wp_X3_placeOfWanted_7 po n a0 o1 x2 x3 x5 s9) a0 (some a105) x2 x3 x5 (some a104) 1 s102)))))
set_option maxRecDepth 100000 in
set_option maxHeartbeats 4000000 in
theorem j_X3_placeOfWanted_7 {K : JK} (hR : kRm K = ({ frames := 1, cells := 0, slots := 0, locals := 22 } : Room)) (hC : Cx K cX3_placeOfWanted 8 RX3) {po : Int → St → Prop} (hM : Mx K (some .int) (PI po)) : ∀ (n : Nat) (a0 : Nat) (o1 : Option Nat) (x2 : Int) (x3 : Int) (x5 : Int) (σ : St), wp_X3_placeOfWanted_7 po n a0 o1 x2 x3 x5 σ → J K 7 [some (wr 20 (some a0)), some (wr 14 o1), some (wi x2), some (wl x3), none, some (wi x5), none, none] [] σ 0 0 := by
  intro n
  induction n with
  | zero =>
    intro a0 o1 x2 x3 x5 σ hw
    exact False.elim hw
  | succ n ih =>
    intro a0 o1 x2 x3 x5 σ hw
    unfold wp_X3_placeOfWanted_7 at hw
    refine r_iload hC dX3_placeOfWanted_7 rfl ?_
    refine r_aload_n hC dX3_placeOfWanted_9 rfl ?_
    have h101 := hw.1
    replace hw := hw.2
    refine gf_X3_17 hC h101 dX3_placeOfWanted_10 ?_
    refine r_icmp_ge (tgt := 92) hC dX3_placeOfWanted_13 (by decide) (fun h => ?_) (fun h => ?_)
    · replace hw := hw.1 h
      refine r_iload_n hC dX3_placeOfWanted_92 rfl ?_
      exact r_ireturn hC hM ⟨_, rfl, hw⟩ (by rw [hR]; decide) (by rw [hR]; decide) dX3_placeOfWanted_93
    · replace hw := hw.2 h
      refine r_aload_n hC dX3_placeOfWanted_16 rfl ?_
      refine r_iload hC dX3_placeOfWanted_17 rfl ?_
      refine cl_X3_44 hC h101 (c_X3_messageAt (kL K) hw) (by rw [hR]; decide) (Nat.le_of_ble_eq_true rfl) dX3_placeOfWanted_19 (fun o101 s101 hq => ?_)
      clear hw
      have hw := hq
      clear hq
      refine r_astore (l' := [_, _, _, _, _, _, _, _]) hC dX3_placeOfWanted_22 rfl (by decide) rfl ?_
      refine r_aload hC dX3_placeOfWanted_24 rfl ?_
      refine r_ifnull (tgt := 45) hC dX3_placeOfWanted_26 (by decide) (fun h => ?_) (fun a104 h => ?_)
      · replace hw := hw.1 h
        subst h
        refine r_iconst hC dX3_placeOfWanted_45 ?_
        exact J.drop2 (j_X3_placeOfWanted_46 hR hC hM ih a0 o1 x2 x3 x5 none 0 s101 hw) ⟨rfl, rfl, rfl, rfl, rfl, rfl, trivial⟩
      · replace hw := hw.2 a104 h
        subst h
        refine r_aload_n hC dX3_placeOfWanted_29 rfl ?_
        refine r_aload hC dX3_placeOfWanted_30 rfl ?_
        refine gf_X3_30 hC dX3_placeOfWanted_32 ?_
        obtain ⟨a105, rfl, hw⟩ := hw
        refine cl_X3_54 hC (c_X6_wants (kL K) hw) (by rw [hR]; decide) (Nat.le_of_ble_eq_true rfl) dX3_placeOfWanted_35 (fun r101 s102 hq => ?_)
        clear hw
        have hw := hq
        clear hq
        refine r_if_eq (tgt := 45) hC dX3_placeOfWanted_38 (by decide) (fun h => ?_) (fun h => ?_)
        · replace hw := hw.1 h
          refine r_iconst hC dX3_placeOfWanted_45 ?_
          exact J.drop2 (j_X3_placeOfWanted_46 hR hC hM ih a0 (some a105) x2 x3 x5 (some a104) 0 s102 hw) ⟨rfl, rfl, rfl, rfl, rfl, rfl, trivial⟩
        · replace hw := hw.2 h
          refine r_iconst hC dX3_placeOfWanted_41 ?_
          refine r_goto (tgt := 46) hC dX3_placeOfWanted_42 (by decide) ?_
          exact J.drop2 (j_X3_placeOfWanted_46 hR hC hM ih a0 (some a105) x2 x3 x5 (some a104) 1 s102 hw) ⟨rfl, rfl, rfl, rfl, rfl, rfl, trivial⟩
def wp_X3_placeOfWanted (a0 : Nat) (o1 : Option Nat) (σ : St) (po : Int → St → Prop) : Prop := ∃ n9, wp_X3_placeOfWanted_7 po n9 a0 o1 (-1) 0 0 σ
set_option maxRecDepth 100000 in
set_option maxHeartbeats 4000000 in
theorem c_X3_placeOfWanted (l : Launch) {a0 : Nat} {o1 : Option Nat} {σ : St} {po : Int → St → Prop} (hw : wp_X3_placeOfWanted a0 o1 σ po) : MT l yX3_placeOfWanted cX3_placeOfWanted 8 (some .int) ({ frames := 1, cells := 0, slots := 0, locals := 22 } : Room) [wr 20 (some a0), wr 14 o1] σ (PI po) := by
  refine MT_of (by decide) (Nat.le_of_ble_eq_true rfl) (fun K hL hR hC hM => ?_)
  subst hL
  unfold wp_X3_placeOfWanted at hw
  show J K 0 [some (wr 20 (some a0)), some (wr 14 o1), none, none, none, none, none, none] [] σ 0 0
  refine r_iconst hC dX3_placeOfWanted_0 ?_
  refine r_istore_n (l' := [_, _, _, _, _, _, _, _]) hC dX3_placeOfWanted_1 rfl (by decide) rfl ?_
  refine r_lconst hC 0 rfl dX3_placeOfWanted_2 ?_
  refine r_lstore_n (l' := [_, _, _, _, _, _, _, _]) hC dX3_placeOfWanted_3 rfl (by decide) rfl ?_
  refine r_iconst hC dX3_placeOfWanted_4 ?_
  refine r_istore (l' := [_, _, _, _, _, _, _, _]) hC dX3_placeOfWanted_5 rfl (by decide) rfl ?_
  obtain ⟨n9, hw⟩ := hw
  exact J.drop2 (j_X3_placeOfWanted_7 hR hC hM n9 a0 o1 (-1) 0 0 σ hw) ⟨rfl, rfl, rfl, rfl, rfl, trivial⟩
def wp_X3_drop_26 (po : St → Prop) : Nat → Nat → Option Nat → Int → Int → St → Prop
  | 0, _, _, _, _, _ => False
  | n + 1, a0, o2, x3, x4, σ => (nm x3 ≤ nm x4 → a0 < 12 ∧ (0 ≤ nm x3 ∧ nm x3 < 40) ∧ ∀ s102, s102 = uR σ 11 a0 (nm x3).toNat o2 → ∀ s103, s103 = uI s102 40 a0 0 x3 → ∃ a102, o2 = some a102 ∧ ∀ s104, s104 = uI s103 41 a0 0 ((gI s103 41 a0 0) - (gI s103 17 a102 0)) → po s104) ∧
 (nm x4 < nm x3 → a0 < 12 ∧ (0 ≤ nm (x4 + 1) ∧ nm (x4 + 1) < 40) ∧ ∀ o102, o102 = gR σ 11 a0 (nm (x4 + 1)).toNat → (0 ≤ nm x4 ∧ nm x4 < 40) ∧ ∀ s105, s105 = uR σ 11 a0 (nm x4).toNat o102 → wp_X3_drop_26 po n a0 o2 x3 (x4 + 1) s105)
set_option maxRecDepth 100000 in
set_option maxHeartbeats 4000000 in
theorem j_X3_drop_26 {K : JK} (hR : kRm K = ({ frames := 1, cells := 0, slots := 0, locals := 21 } : Room)) (hC : Cx K cX3_drop 5 RX3) {po : St → Prop} (hM : Mx K none (PV po)) : ∀ (n : Nat) (a0 : Nat) (o2 : Option Nat) (x3 : Int) (x4 : Int) (σ : St), wp_X3_drop_26 po n a0 o2 x3 x4 σ → J K 26 [some (wr 20 (some a0)), none, some (wr 12 o2), some (wi x3), some (wi x4)] [] σ 0 0 := by
  intro n
  induction n with
  | zero =>
    intro a0 o2 x3 x4 σ hw
    exact False.elim hw
  | succ n ih =>
    intro a0 o2 x3 x4 σ hw
    unfold wp_X3_drop_26 at hw
    refine r_iload hC dX3_drop_26 rfl ?_
    refine r_iload_n hC dX3_drop_28 rfl ?_
    refine r_icmp_ge (tgt := 54) hC dX3_drop_29 (by decide) (fun h => ?_) (fun h => ?_)
    · replace hw := hw.1 h
      refine r_aload_n hC dX3_drop_54 rfl ?_
      have h102 := hw.1
      replace hw := hw.2
      refine gf_X3_11 hC h102 dX3_drop_55 ?_
      refine r_iload_n hC dX3_drop_58 rfl ?_
      refine r_aload_n hC dX3_drop_59 rfl ?_
      refine r_aastore hC (kd := 12) (Or.inr (Or.inr ⟨rfl, rfl⟩)) (by decide) rfl hw.1 dX3_drop_60 (fun s102 e9 => ?_)
      replace hw := hw.2 s102 e9
      clear e9
      refine r_aload_n hC dX3_drop_61 rfl ?_
      refine r_iload_n hC dX3_drop_62 rfl ?_
      refine pf_X3_17 hC h102 dX3_drop_63 (fun s103 e9 => ?_)
      replace hw := hw s103 e9
      clear e9
      refine r_aload_n hC dX3_drop_66 rfl ?_
      refine r_dup hC dX3_drop_67 rfl ?_
      refine gf_X3_21 hC h102 dX3_drop_68 ?_
      refine r_aload_n hC dX3_drop_71 rfl ?_
      obtain ⟨a102, rfl, hw⟩ := hw
      refine gf_X3_34 hC dX3_drop_72 ?_
      refine r_isub hC dX3_drop_75 ?_
      refine pf_X3_21 hC h102 dX3_drop_76 (fun s104 e9 => ?_)
      replace hw := hw s104 e9
      clear e9
      exact r_vreturn hC hM ⟨rfl, hw⟩ (by rw [hR]; decide) (by rw [hR]; decide) dX3_drop_79
    · replace hw := hw.2 h
      refine r_aload_n hC dX3_drop_32 rfl ?_
      have h103 := hw.1
      replace hw := hw.2
      refine gf_X3_11 hC h103 dX3_drop_33 ?_
      refine r_iload hC dX3_drop_36 rfl ?_
      refine r_aload_n hC dX3_drop_38 rfl ?_
      refine gf_X3_11 hC h103 dX3_drop_39 ?_
      refine r_iload hC dX3_drop_42 rfl ?_
      refine r_iconst hC dX3_drop_44 ?_
      refine r_iadd hC dX3_drop_45 ?_
      refine r_aaload hC (kd := 12) (Or.inr (Or.inr ⟨rfl, rfl⟩)) (by decide) rfl hw.1 dX3_drop_46 (fun o102 e9 => ?_)
      replace hw := hw.2 o102 e9
      clear e9
      refine r_aastore hC (kd := 12) (Or.inr (Or.inr ⟨rfl, rfl⟩)) (by decide) rfl hw.1 dX3_drop_47 (fun s105 e9 => ?_)
      replace hw := hw.2 s105 e9
      clear e9
      refine r_iinc (l' := [_, _, _, _, _]) hC dX3_drop_48 rfl rfl (by decide) rfl ?_
      refine r_goto (tgt := 26) hC dX3_drop_51 (by decide) ?_
      exact J.drop2 (ih a0 o2 x3 (x4 + 1) s105 hw) ⟨rfl, rfl, rfl, rfl, trivial⟩
def wp_X3_drop (a0 : Nat) (x1 : Int) (σ : St) (po : St → Prop) : Prop := a0 < 12 ∧ wp_X3_messageAt a0 x1 σ (fun o101 s101 => (o101 = none → po s101) ∧
 (∀ a101, o101 = some a101 → ∃ n9, wp_X3_drop_26 po n9 a0 (some a101) ((zmin (gI s101 40 a0 0) 40) - 1) x1 s101))
set_option maxRecDepth 100000 in
set_option maxHeartbeats 4000000 in
theorem c_X3_drop (l : Launch) {a0 : Nat} {x1 : Int} {σ : St} {po : St → Prop} (hw : wp_X3_drop a0 x1 σ po) : MT l yX3_drop cX3_drop 5 none ({ frames := 1, cells := 0, slots := 0, locals := 21 } : Room) [wr 20 (some a0), wi x1] σ (PV po) := by
  refine MT_of (by decide) (Nat.le_of_ble_eq_true rfl) (fun K hL hR hC hM => ?_)
  subst hL
  unfold wp_X3_drop at hw
  show J K 0 [some (wr 20 (some a0)), some (wi x1), none, none, none] [] σ 0 0
  refine r_aload_n hC dX3_drop_0 rfl ?_
  refine r_iload_n hC dX3_drop_1 rfl ?_
  have h101 := hw.1
  replace hw := hw.2
  refine cl_X3_44 hC h101 (c_X3_messageAt (kL K) hw) (by rw [hR]; decide) (Nat.le_of_ble_eq_true rfl) dX3_drop_2 (fun o101 s101 hq => ?_)
  clear hw
  have hw := hq
  clear hq
  refine r_astore_n (l' := [_, _, _, _, _]) hC dX3_drop_5 rfl (by decide) rfl ?_
  refine r_aload_n hC dX3_drop_6 rfl ?_
  refine r_ifnonnull (tgt := 11) hC dX3_drop_7 (by decide) (fun a101 h => ?_) (fun h => ?_)
  · replace hw := hw.2 a101 h
    subst h
    refine r_aload_n hC dX3_drop_11 rfl ?_
    refine gf_X3_17 hC h101 dX3_drop_12 ?_
    refine r_bipush hC dX3_drop_15 (by decide) ?_
    refine r_mmin hC (wg 661 (by decide +kernel) (by decide +kernel)) w_mmin ⟨(by rw [hR]; decide), (by rw [hR]; decide)⟩ ⟨(by rw [hR]; decide), (by rw [hR]; decide)⟩ (Nat.le_of_ble_eq_true rfl) dX3_drop_17 ?_
    refine r_iconst hC dX3_drop_20 ?_
    refine r_isub hC dX3_drop_21 ?_
    refine r_istore_n (l' := [_, _, _, _, _]) hC dX3_drop_22 rfl (by decide) rfl ?_
    refine r_iload_n hC dX3_drop_23 rfl ?_
    refine r_istore (l' := [_, _, _, _, _]) hC dX3_drop_24 rfl (by decide) rfl ?_
    obtain ⟨n9, hw⟩ := hw
    exact J.drop2 (j_X3_drop_26 hR hC hM n9 a0 (some a101) ((zmin (gI s101 40 a0 0) 40) - 1) x1 s101 hw) ⟨rfl, rfl, rfl, rfl, trivial⟩
  · replace hw := hw.1 h
    subst h
    exact r_vreturn hC hM ⟨rfl, hw⟩ (by rw [hR]; decide) (by rw [hR]; decide) dX3_drop_10
def wp_X7_takeTo (o1 : Option Nat) (x2 : Int) (x3 : Int) (x4 : Int) (x5 : Int) (σ : St) (po : Int → St → Prop) : Prop := wp_X7_isWithin x3 64 σ (fun r101 s101 => (nm r101 = 0 → po (-4) s101) ∧
 (nm r101 ≠ 0 → wp_X7_isWithin x5 7 s101 (fun r102 s102 => (nm r102 ≠ 0 → wp_X7_queueById x2 s102 (fun o101 s103 => (o101 = none → po (-5) s103) ∧
 (∀ a101, o101 = some a101 → a101 < 12 ∧ wp_X5_grantsAll a101 o1 4 s103 (fun r103 s104 => (nm r103 ≠ 0 → ∃ a102, o1 = some a102 ∧ wp_X6_become a102 x3 x4 x5 s104 (fun s105 => wp_X3_placeOfWanted a101 (some a102) s105 (fun r104 s106 => wp_X3_messageAt a101 r104 s106 (fun o102 s107 => (o102 = none → (nm (zand x5 1) = 0 → wp_X7_beginWait (some a102) 2 (some a101) s107 (fun s108 => po (-10) s108)) ∧
 (nm (zand x5 1) ≠ 0 → po (-12) s107)) ∧
 (∀ a103, o102 = some a103 → wp_X6_isTooSmallFor a102 (some a103) s107 (fun r105 s109 => (nm r105 = 0 → wp_X2_receive a102 (some a103) s109 (fun r106 s110 => wp_X3_drop a101 r104 s110 (fun s111 => wp_X7_admitSenders  s111 (fun s112 => po r106 s112)))) ∧
 (nm r105 ≠ 0 → po (-13) s109))))))) ∧
 (nm r103 = 0 → po (-6) s104))))) ∧
 (nm r102 = 0 → po (-4) s102))))
set_option maxRecDepth 100000 in
set_option maxHeartbeats 4000000 in
theorem c_X7_takeTo (l : Launch) {o1 : Option Nat} {x2 : Int} {x3 : Int} {x4 : Int} {x5 : Int} {σ : St} {po : Int → St → Prop} (hw : wp_X7_takeTo o1 x2 x3 x4 x5 σ po) : MT l yX7_takeTo cX7_takeTo 11 (some .int) ({ frames := 5, cells := 32, slots := 1072, locals := 115 } : Room) [wr 0 (some 0), wr 10 o1, wi x2, wi x3, wl x4, wi x5] σ (PI po) := by
  refine MT_of (by decide) (Nat.le_of_ble_eq_true rfl) (fun K hL hR hC hM => ?_)
  subst hL
  unfold wp_X7_takeTo at hw
  show J K 0 [some (wr 0 (some 0)), some (wr 10 o1), some (wi x2), some (wi x3), some (wl x4), none, some (wi x5), none, none, none, none] [] σ 0 0
  refine r_iload_n hC dX7_takeTo_0 rfl ?_
  refine r_bipush hC dX7_takeTo_1 (by decide) ?_
  refine cl_X7_34 hC (c_X7_isWithin (kL K) hw) (by rw [hR]; decide) (Nat.le_of_ble_eq_true rfl) dX7_takeTo_3 (fun r101 s101 hq => ?_)
  clear hw
  have hw := hq
  clear hq
  refine r_if_eq (tgt := 19) hC dX7_takeTo_6 (by decide) (fun h => ?_) (fun h => ?_)
  · replace hw := hw.1 h
    refine r_bipush hC dX7_takeTo_19 (by decide) ?_
    exact r_ireturn hC hM ⟨_, rfl, hw⟩ (by rw [hR]; decide) (by rw [hR]; decide) dX7_takeTo_21
  · replace hw := hw.2 h
    refine r_iload hC dX7_takeTo_9 rfl ?_
    refine r_bipush hC dX7_takeTo_11 (by decide) ?_
    refine cl_X7_34 hC (c_X7_isWithin (kL K) hw) (by rw [hR]; decide) (Nat.le_of_ble_eq_true rfl) dX7_takeTo_13 (fun r102 s102 hq => ?_)
    clear hw
    have hw := hq
    clear hq
    refine r_if_ne (tgt := 22) hC dX7_takeTo_16 (by decide) (fun h => ?_) (fun h => ?_)
    · replace hw := hw.1 h
      refine r_aload_n hC dX7_takeTo_22 rfl ?_
      refine r_iload_n hC dX7_takeTo_23 rfl ?_
      refine cl_X7_308 hC (c_X7_queueById (kL K) hw) (by rw [hR]; decide) (Nat.le_of_ble_eq_true rfl) dX7_takeTo_24 (fun o101 s103 hq => ?_)
      clear hw
      have hw := hq
      clear hq
      refine r_astore (l' := [_, _, _, _, _, _, _, _, _, _, _]) hC dX7_takeTo_27 rfl (by decide) rfl ?_
      refine r_aload hC dX7_takeTo_29 rfl ?_
      refine r_ifnonnull (tgt := 37) hC dX7_takeTo_31 (by decide) (fun a101 h => ?_) (fun h => ?_)
      · replace hw := hw.2 a101 h
        subst h
        refine r_aload hC dX7_takeTo_37 rfl ?_
        refine r_aload_n hC dX7_takeTo_39 rfl ?_
        refine r_iconst hC dX7_takeTo_40 ?_
        have h101 := hw.1
        replace hw := hw.2
        refine cl_X7_315 hC h101 (c_X5_grantsAll (kL K) hw) (by rw [hR]; decide) (Nat.le_of_ble_eq_true rfl) dX7_takeTo_41 (fun r103 s104 hq => ?_)
        clear hw
        have hw := hq
        clear hq
        refine r_if_ne (tgt := 50) hC dX7_takeTo_44 (by decide) (fun h => ?_) (fun h => ?_)
        · replace hw := hw.1 h
          refine r_aload_n hC dX7_takeTo_50 rfl ?_
          obtain ⟨a102, rfl, hw⟩ := hw
          refine gf_X7_343 hC dX7_takeTo_51 ?_
          refine r_iload_n hC dX7_takeTo_54 rfl ?_
          refine r_lload hC dX7_takeTo_55 rfl ?_
          refine r_iload hC dX7_takeTo_57 rfl ?_
          refine cl_X7_364 hC (c_X6_become (kL K) hw) (by rw [hR]; decide) (Nat.le_of_ble_eq_true rfl) dX7_takeTo_59 (fun s105 hq => ?_)
          clear hw
          have hw := hq
          clear hq
          refine r_aload hC dX7_takeTo_62 rfl ?_
          refine r_aload_n hC dX7_takeTo_64 rfl ?_
          refine gf_X7_343 hC dX7_takeTo_65 ?_
          refine cl_X7_368 hC h101 (c_X3_placeOfWanted (kL K) hw) (by rw [hR]; decide) (Nat.le_of_ble_eq_true rfl) dX7_takeTo_68 (fun r104 s106 hq => ?_)
          clear hw
          have hw := hq
          clear hq
          refine r_istore (l' := [_, _, _, _, _, _, _, _, _, _, _]) hC dX7_takeTo_71 rfl (by decide) rfl ?_
          refine r_aload hC dX7_takeTo_73 rfl ?_
          refine r_iload hC dX7_takeTo_75 rfl ?_
          refine cl_X7_159 hC h101 (c_X3_messageAt (kL K) hw) (by rw [hR]; decide) (Nat.le_of_ble_eq_true rfl) dX7_takeTo_77 (fun o102 s107 hq => ?_)
          clear hw
          have hw := hq
          clear hq
          refine r_astore (l' := [_, _, _, _, _, _, _, _, _, _, _]) hC dX7_takeTo_80 rfl (by decide) rfl ?_
          refine r_aload hC dX7_takeTo_82 rfl ?_
          refine r_ifnonnull (tgt := 108) hC dX7_takeTo_84 (by decide) (fun a103 h => ?_) (fun h => ?_)
          · replace hw := hw.2 a103 h
            subst h
            refine r_aload_n hC dX7_takeTo_108 rfl ?_
            refine gf_X7_343 hC dX7_takeTo_109 ?_
            refine r_aload hC dX7_takeTo_112 rfl ?_
            refine cl_X7_353 hC (c_X6_isTooSmallFor (kL K) hw) (by rw [hR]; decide) (Nat.le_of_ble_eq_true rfl) dX7_takeTo_114 (fun r105 s109 hq => ?_)
            clear hw
            have hw := hq
            clear hq
            refine r_if_eq (tgt := 123) hC dX7_takeTo_117 (by decide) (fun h => ?_) (fun h => ?_)
            · replace hw := hw.1 h
              refine r_aload_n hC dX7_takeTo_123 rfl ?_
              refine r_aload hC dX7_takeTo_124 rfl ?_
              refine cl_X7_357 hC (c_X2_receive (kL K) hw) (by rw [hR]; decide) (Nat.le_of_ble_eq_true rfl) dX7_takeTo_126 (fun r106 s110 hq => ?_)
              clear hw
              have hw := hq
              clear hq
              refine r_istore (l' := [_, _, _, _, _, _, _, _, _, _, _]) hC dX7_takeTo_129 rfl (by decide) rfl ?_
              refine r_aload hC dX7_takeTo_131 rfl ?_
              refine r_iload hC dX7_takeTo_133 rfl ?_
              refine cl_X7_372 hC h101 (c_X3_drop (kL K) hw) (by rw [hR]; decide) (Nat.le_of_ble_eq_true rfl) dX7_takeTo_135 (fun s111 hq => ?_)
              clear hw
              have hw := hq
              clear hq
              refine r_aload_n hC dX7_takeTo_138 rfl ?_
              refine cl_X7_296 hC (c_X7_admitSenders (kL K) hw) (by rw [hR]; decide) (Nat.le_of_ble_eq_true rfl) dX7_takeTo_139 (fun s112 hq => ?_)
              clear hw
              have hw := hq
              clear hq
              refine r_iload hC dX7_takeTo_142 rfl ?_
              exact r_ireturn hC hM ⟨_, rfl, hw⟩ (by rw [hR]; decide) (by rw [hR]; decide) dX7_takeTo_144
            · replace hw := hw.2 h
              refine r_bipush hC dX7_takeTo_120 (by decide) ?_
              exact r_ireturn hC hM ⟨_, rfl, hw⟩ (by rw [hR]; decide) (by rw [hR]; decide) dX7_takeTo_122
          · replace hw := hw.1 h
            subst h
            refine r_iload hC dX7_takeTo_87 rfl ?_
            refine r_iconst hC dX7_takeTo_89 ?_
            refine r_iand hC dX7_takeTo_90 ?_
            refine r_if_eq (tgt := 97) hC dX7_takeTo_91 (by decide) (fun h => ?_) (fun h => ?_)
            · replace hw := hw.1 h
              refine r_aload_n hC dX7_takeTo_97 rfl ?_
              refine r_aload_n hC dX7_takeTo_98 rfl ?_
              refine r_iconst hC dX7_takeTo_99 ?_
              refine r_aload hC dX7_takeTo_100 rfl ?_
              refine cl_X7_336 hC (c_X7_beginWait (kL K) hw) (by rw [hR]; decide) (Nat.le_of_ble_eq_true rfl) dX7_takeTo_102 (fun s108 hq => ?_)
              clear hw
              have hw := hq
              clear hq
              refine r_bipush hC dX7_takeTo_105 (by decide) ?_
              exact r_ireturn hC hM ⟨_, rfl, hw⟩ (by rw [hR]; decide) (by rw [hR]; decide) dX7_takeTo_107
            · replace hw := hw.2 h
              refine r_bipush hC dX7_takeTo_94 (by decide) ?_
              exact r_ireturn hC hM ⟨_, rfl, hw⟩ (by rw [hR]; decide) (by rw [hR]; decide) dX7_takeTo_96
        · replace hw := hw.2 h
          refine r_bipush hC dX7_takeTo_47 (by decide) ?_
          exact r_ireturn hC hM ⟨_, rfl, hw⟩ (by rw [hR]; decide) (by rw [hR]; decide) dX7_takeTo_49
      · replace hw := hw.1 h
        subst h
        refine r_bipush hC dX7_takeTo_34 (by decide) ?_
        exact r_ireturn hC hM ⟨_, rfl, hw⟩ (by rw [hR]; decide) (by rw [hR]; decide) dX7_takeTo_36
    · replace hw := hw.2 h
      refine r_bipush hC dX7_takeTo_19 (by decide) ?_
      exact r_ireturn hC hM ⟨_, rfl, hw⟩ (by rw [hR]; decide) (by rw [hR]; decide) dX7_takeTo_21
def wp_X7_take (x1 : Int) (x2 : Int) (x3 : Int) (x4 : Int) (x5 : Int) (σ : St) (po : Int → St → Prop) : Prop := wp_X7_processAt x1 σ (fun o101 s101 => (o101 = none → po (-2) s101) ∧
 (∀ a101, o101 = some a101 → wp_X2_isFree a101 s101 (fun r101 s102 => (nm r101 = 0 → po (-3) s102) ∧
 (nm r101 ≠ 0 → wp_X7_takeTo (some a101) x2 x3 x4 x5 s102 (fun r102 s103 => wp_X2_told a101 r102 s103 (fun r103 s104 => po r103 s104))))))
set_option maxRecDepth 100000 in
set_option maxHeartbeats 4000000 in
theorem c_X7_take (l : Launch) {x1 : Int} {x2 : Int} {x3 : Int} {x4 : Int} {x5 : Int} {σ : St} {po : Int → St → Prop} (hw : wp_X7_take x1 x2 x3 x4 x5 σ po) : MT l yX7_take cX7_take 8 (some .int) ({ frames := 6, cells := 32, slots := 1072, locals := 145 } : Room) [wr 0 (some 0), wi x1, wi x2, wi x3, wl x4, wi x5] σ (PI po) := by
  refine MT_of (by decide) (Nat.le_of_ble_eq_true rfl) (fun K hL hR hC hM => ?_)
  subst hL
  unfold wp_X7_take at hw
  show J K 0 [some (wr 0 (some 0)), some (wi x1), some (wi x2), some (wi x3), some (wl x4), none, some (wi x5), none] [] σ 0 0
  refine r_aload_n hC dX7_take_0 rfl ?_
  refine r_iload_n hC dX7_take_1 rfl ?_
  refine cl_X7_41 hC (c_X7_processAt (kL K) hw) (by rw [hR]; decide) (Nat.le_of_ble_eq_true rfl) dX7_take_2 (fun o101 s101 hq => ?_)
  clear hw
  have hw := hq
  clear hq
  refine r_astore (l' := [_, _, _, _, _, _, _, _]) hC dX7_take_5 rfl (by decide) rfl ?_
  refine r_aload hC dX7_take_7 rfl ?_
  refine r_ifnonnull (tgt := 15) hC dX7_take_9 (by decide) (fun a101 h => ?_) (fun h => ?_)
  · replace hw := hw.2 a101 h
    subst h
    refine r_aload hC dX7_take_15 rfl ?_
    refine cl_X7_86 hC (c_X2_isFree (kL K) hw) (by rw [hR]; decide) (Nat.le_of_ble_eq_true rfl) dX7_take_17 (fun r101 s102 hq => ?_)
    clear hw
    have hw := hq
    clear hq
    refine r_if_eq (tgt := 43) hC dX7_take_20 (by decide) (fun h => ?_) (fun h => ?_)
    · replace hw := hw.1 h
      refine r_bipush hC dX7_take_43 (by decide) ?_
      exact r_ireturn hC hM ⟨_, rfl, hw⟩ (by rw [hR]; decide) (by rw [hR]; decide) dX7_take_45
    · replace hw := hw.2 h
      refine r_aload hC dX7_take_23 rfl ?_
      refine r_aload_n hC dX7_take_25 rfl ?_
      refine r_aload hC dX7_take_26 rfl ?_
      refine r_iload_n hC dX7_take_28 rfl ?_
      refine r_iload_n hC dX7_take_29 rfl ?_
      refine r_lload hC dX7_take_30 rfl ?_
      refine r_iload hC dX7_take_32 rfl ?_
      refine cl_X7_116 hC (c_X7_takeTo (kL K) hw) (by rw [hR]; decide) (Nat.le_of_ble_eq_true rfl) dX7_take_34 (fun r102 s103 hq => ?_)
      clear hw
      have hw := hq
      clear hq
      refine cl_X7_94 hC (c_X2_told (kL K) hw) (by rw [hR]; decide) (Nat.le_of_ble_eq_true rfl) dX7_take_37 (fun r103 s104 hq => ?_)
      clear hw
      have hw := hq
      clear hq
      refine r_goto (tgt := 45) hC dX7_take_40 (by decide) ?_
      exact r_ireturn hC hM ⟨_, rfl, hw⟩ (by rw [hR]; decide) (by rw [hR]; decide) dX7_take_45
  · replace hw := hw.1 h
    subst h
    refine r_bipush hC dX7_take_12 (by decide) ?_
    exact r_ireturn hC hM ⟨_, rfl, hw⟩ (by rw [hR]; decide) (by rw [hR]; decide) dX7_take_14
def wp_X4_add (a0 : Nat) (x1 : Int) (x2 : Int) (x3 : Int) (σ : St) (po : Int → St → Prop) : Prop := (nm (gI σ 25 a0 0) < nm 8 → (0 ≤ nm (gI σ 25 a0 0) ∧ nm (gI σ 25 a0 0) < 8) ∧ ∀ s101, s101 = uI σ 22 a0 (nm (gI σ 25 a0 0)).toNat x1 → (0 ≤ nm (gI s101 25 a0 0) ∧ nm (gI s101 25 a0 0) < 8) ∧ ∀ s102, s102 = uI s101 23 a0 (nm (gI s101 25 a0 0)).toNat x2 → (0 ≤ nm (gI s102 25 a0 0) ∧ nm (gI s102 25 a0 0) < 8) ∧ ∀ s103, s103 = uI s102 24 a0 (nm (gI s102 25 a0 0)).toNat x3 → ∀ s104, s104 = uI s103 25 a0 0 ((gI s103 25 a0 0) + 1) → po (gI s104 25 a0 0) s104) ∧
 (nm 8 ≤ nm (gI σ 25 a0 0) → po (-9) σ)
set_option maxRecDepth 100000 in
set_option maxHeartbeats 4000000 in
theorem c_X4_add (l : Launch) {a0 : Nat} {x1 : Int} {x2 : Int} {x3 : Int} {σ : St} {po : Int → St → Prop} (hw : wp_X4_add a0 x1 x2 x3 σ po) : MT l yX4_add cX4_add 4 (some .int) ({ frames := 0, cells := 0, slots := 0, locals := 0 } : Room) [wr 15 (some a0), wi x1, wi x2, wi x3] σ (PI po) := by
  refine MT_of (by decide) (Nat.le_of_ble_eq_true rfl) (fun K hL hR hC hM => ?_)
  subst hL
  unfold wp_X4_add at hw
  show J K 0 [some (wr 15 (some a0)), some (wi x1), some (wi x2), some (wi x3)] [] σ 0 0
  refine r_aload_n hC dX4_add_0 rfl ?_
  refine gf_X4_21 hC dX4_add_1 ?_
  refine r_bipush hC dX4_add_4 (by decide) ?_
  refine r_icmp_lt (tgt := 12) hC dX4_add_6 (by decide) (fun h => ?_) (fun h => ?_)
  · replace hw := hw.1 h
    refine r_aload_n hC dX4_add_12 rfl ?_
    refine gf_X4_9 hC dX4_add_13 ?_
    refine r_aload_n hC dX4_add_16 rfl ?_
    refine gf_X4_21 hC dX4_add_17 ?_
    refine r_iload_n hC dX4_add_20 rfl ?_
    refine r_iastore hC rfl (by decide) hw.1 dX4_add_21 (fun s101 e9 => ?_)
    replace hw := hw.2 s101 e9
    clear e9
    refine r_aload_n hC dX4_add_22 rfl ?_
    refine gf_X4_15 hC dX4_add_23 ?_
    refine r_aload_n hC dX4_add_26 rfl ?_
    refine gf_X4_21 hC dX4_add_27 ?_
    refine r_iload_n hC dX4_add_30 rfl ?_
    refine r_iastore hC rfl (by decide) hw.1 dX4_add_31 (fun s102 e9 => ?_)
    replace hw := hw.2 s102 e9
    clear e9
    refine r_aload_n hC dX4_add_32 rfl ?_
    refine gf_X4_18 hC dX4_add_33 ?_
    refine r_aload_n hC dX4_add_36 rfl ?_
    refine gf_X4_21 hC dX4_add_37 ?_
    refine r_iload_n hC dX4_add_40 rfl ?_
    refine r_iastore hC rfl (by decide) hw.1 dX4_add_41 (fun s103 e9 => ?_)
    replace hw := hw.2 s103 e9
    clear e9
    refine r_aload_n hC dX4_add_42 rfl ?_
    refine r_dup hC dX4_add_43 rfl ?_
    refine gf_X4_21 hC dX4_add_44 ?_
    refine r_iconst hC dX4_add_47 ?_
    refine r_iadd hC dX4_add_48 ?_
    refine pf_X4_21 hC dX4_add_49 (fun s104 e9 => ?_)
    replace hw := hw s104 e9
    clear e9
    refine r_aload_n hC dX4_add_52 rfl ?_
    refine gf_X4_21 hC dX4_add_53 ?_
    exact r_ireturn hC hM ⟨_, rfl, hw⟩ (by rw [hR]; decide) (by rw [hR]; decide) dX4_add_56
  · replace hw := hw.2 h
    refine r_bipush hC dX4_add_9 (by decide) ?_
    exact r_ireturn hC hM ⟨_, rfl, hw⟩ (by rw [hR]; decide) (by rw [hR]; decide) dX4_add_11
def wp_X7_step_45 (po : Int → St → Prop) (x2 : Int) (x3 : Int) (x4 : Int) (o5 : Option Nat) (y0 : Int) (σ : St) : Prop := wp_X7_isWithin x2 7 σ (fun r102 s103 => (nm r102 = 0 → po (-4) s103) ∧
 (nm r102 ≠ 0 → (nm y0 = 0 → po (-4) s103) ∧
 (nm y0 ≠ 0 → wp_X7_isWithin x4 3 s103 (fun r103 s104 => (nm r103 ≠ 0 → ∃ a102, o5 = some a102 ∧ wp_X4_add a102 x2 x3 x4 s104 (fun r104 s105 => po r104 s105)) ∧
 (nm r103 = 0 → po (-4) s104)))))
set_option maxRecDepth 100000 in
set_option maxHeartbeats 4000000 in
theorem j_X7_step_45 {K : JK} (hR : kRm K = ({ frames := 2, cells := 0, slots := 0, locals := 42 } : Room)) (hC : Cx K cX7_step 7 RX7) {po : Int → St → Prop} (hM : Mx K (some .int) (PI po)) : ∀ (x2 : Int) (x3 : Int) (x4 : Int) (o5 : Option Nat) (y0 : Int) (σ : St), wp_X7_step_45 po x2 x3 x4 o5 y0 σ → J K 45 [none, none, some (wi x2), some (wi x3), some (wi x4), some (wr 10 o5), none] [wi y0] σ 0 0 := by
  intro x2 x3 x4 o5 y0 σ hw
  unfold wp_X7_step_45 at hw
  refine r_istore (l' := [_, _, _, _, _, _, _]) hC dX7_step_45 rfl (by decide) rfl ?_
  refine r_iload_n hC dX7_step_47 rfl ?_
  refine r_bipush hC dX7_step_48 (by decide) ?_
  refine cl_X7_34 hC (c_X7_isWithin (kL K) hw) (by rw [hR]; decide) (Nat.le_of_ble_eq_true rfl) dX7_step_50 (fun r102 s103 hq => ?_)
  clear hw
  have hw := hq
  clear hq
  refine r_if_eq (tgt := 70) hC dX7_step_53 (by decide) (fun h => ?_) (fun h => ?_)
  · replace hw := hw.1 h
    refine r_bipush hC dX7_step_70 (by decide) ?_
    exact r_ireturn hC hM ⟨_, rfl, hw⟩ (by rw [hR]; decide) (by rw [hR]; decide) dX7_step_72
  · replace hw := hw.2 h
    refine r_iload hC dX7_step_56 rfl ?_
    refine r_if_eq (tgt := 70) hC dX7_step_58 (by decide) (fun h => ?_) (fun h => ?_)
    · replace hw := hw.1 h
      refine r_bipush hC dX7_step_70 (by decide) ?_
      exact r_ireturn hC hM ⟨_, rfl, hw⟩ (by rw [hR]; decide) (by rw [hR]; decide) dX7_step_72
    · replace hw := hw.2 h
      refine r_iload hC dX7_step_61 rfl ?_
      refine r_iconst hC dX7_step_63 ?_
      refine cl_X7_34 hC (c_X7_isWithin (kL K) hw) (by rw [hR]; decide) (Nat.le_of_ble_eq_true rfl) dX7_step_64 (fun r103 s104 hq => ?_)
      clear hw
      have hw := hq
      clear hq
      refine r_if_ne (tgt := 73) hC dX7_step_67 (by decide) (fun h => ?_) (fun h => ?_)
      · replace hw := hw.1 h
        refine r_aload hC dX7_step_73 rfl ?_
        obtain ⟨a102, rfl, hw⟩ := hw
        refine gf_X7_120 hC dX7_step_75 ?_
        refine r_iload_n hC dX7_step_78 rfl ?_
        refine r_iload_n hC dX7_step_79 rfl ?_
        refine r_iload hC dX7_step_80 rfl ?_
        refine cl_X7_124 hC (c_X4_add (kL K) hw) (by rw [hR]; decide) (Nat.le_of_ble_eq_true rfl) dX7_step_82 (fun r104 s105 hq => ?_)
        clear hw
        have hw := hq
        clear hq
        exact r_ireturn hC hM ⟨_, rfl, hw⟩ (by rw [hR]; decide) (by rw [hR]; decide) dX7_step_85
      · replace hw := hw.2 h
        refine r_bipush hC dX7_step_70 (by decide) ?_
        exact r_ireturn hC hM ⟨_, rfl, hw⟩ (by rw [hR]; decide) (by rw [hR]; decide) dX7_step_72
def wp_X7_step (x1 : Int) (x2 : Int) (x3 : Int) (x4 : Int) (σ : St) (po : Int → St → Prop) : Prop := wp_X7_processAt x1 σ (fun o101 s101 => (o101 = none → po (-2) s101) ∧
 (∀ a101, o101 = some a101 → wp_X2_isFree a101 s101 (fun r101 s102 => (nm r101 ≠ 0 → (nm x3 < nm (-32767) → wp_X7_step_45 po x2 x3 x4 (some a101) 0 s102) ∧
 (nm (-32767) ≤ nm x3 → (nm 32767 < nm x3 → wp_X7_step_45 po x2 x3 x4 (some a101) 0 s102) ∧
 (nm x3 ≤ nm 32767 → wp_X7_step_45 po x2 x3 x4 (some a101) 1 s102))) ∧
 (nm r101 = 0 → po (-3) s102))))
set_option maxRecDepth 100000 in
set_option maxHeartbeats 4000000 in
theorem c_X7_step (l : Launch) {x1 : Int} {x2 : Int} {x3 : Int} {x4 : Int} {σ : St} {po : Int → St → Prop} (hw : wp_X7_step x1 x2 x3 x4 σ po) : MT l yX7_step cX7_step 7 (some .int) ({ frames := 2, cells := 0, slots := 0, locals := 42 } : Room) [wr 0 (some 0), wi x1, wi x2, wi x3, wi x4] σ (PI po) := by
  refine MT_of (by decide) (Nat.le_of_ble_eq_true rfl) (fun K hL hR hC hM => ?_)
  subst hL
  unfold wp_X7_step at hw
  show J K 0 [some (wr 0 (some 0)), some (wi x1), some (wi x2), some (wi x3), some (wi x4), none, none] [] σ 0 0
  refine r_aload_n hC dX7_step_0 rfl ?_
  refine r_iload_n hC dX7_step_1 rfl ?_
  refine cl_X7_41 hC (c_X7_processAt (kL K) hw) (by rw [hR]; decide) (Nat.le_of_ble_eq_true rfl) dX7_step_2 (fun o101 s101 hq => ?_)
  clear hw
  have hw := hq
  clear hq
  refine r_astore (l' := [_, _, _, _, _, _, _]) hC dX7_step_5 rfl (by decide) rfl ?_
  refine r_aload hC dX7_step_7 rfl ?_
  refine r_ifnonnull (tgt := 15) hC dX7_step_9 (by decide) (fun a101 h => ?_) (fun h => ?_)
  · replace hw := hw.2 a101 h
    subst h
    refine r_aload hC dX7_step_15 rfl ?_
    refine cl_X7_86 hC (c_X2_isFree (kL K) hw) (by rw [hR]; decide) (Nat.le_of_ble_eq_true rfl) dX7_step_17 (fun r101 s102 hq => ?_)
    clear hw
    have hw := hq
    clear hq
    refine r_if_ne (tgt := 26) hC dX7_step_20 (by decide) (fun h => ?_) (fun h => ?_)
    · replace hw := hw.1 h
      refine r_iload_n hC dX7_step_26 rfl ?_
      refine r_sipush hC dX7_step_27 (by decide) ?_
      refine r_icmp_lt (tgt := 44) hC dX7_step_30 (by decide) (fun h => ?_) (fun h => ?_)
      · replace hw := hw.1 h
        refine r_iconst hC dX7_step_44 ?_
        exact J.drop2 (j_X7_step_45 hR hC hM x2 x3 x4 (some a101) 0 s102 hw) ⟨rfl, rfl, rfl, rfl, trivial⟩
      · replace hw := hw.2 h
        refine r_iload_n hC dX7_step_33 rfl ?_
        refine r_sipush hC dX7_step_34 (by decide) ?_
        refine r_icmp_gt (tgt := 44) hC dX7_step_37 (by decide) (fun h => ?_) (fun h => ?_)
        · replace hw := hw.1 h
          refine r_iconst hC dX7_step_44 ?_
          exact J.drop2 (j_X7_step_45 hR hC hM x2 x3 x4 (some a101) 0 s102 hw) ⟨rfl, rfl, rfl, rfl, trivial⟩
        · replace hw := hw.2 h
          refine r_iconst hC dX7_step_40 ?_
          refine r_goto (tgt := 45) hC dX7_step_41 (by decide) ?_
          exact J.drop2 (j_X7_step_45 hR hC hM x2 x3 x4 (some a101) 1 s102 hw) ⟨rfl, rfl, rfl, rfl, trivial⟩
    · replace hw := hw.2 h
      refine r_bipush hC dX7_step_23 (by decide) ?_
      exact r_ireturn hC hM ⟨_, rfl, hw⟩ (by rw [hR]; decide) (by rw [hR]; decide) dX7_step_25
  · replace hw := hw.1 h
    subst h
    refine r_bipush hC dX7_step_12 (by decide) ?_
    exact r_ireturn hC hM ⟨_, rfl, hw⟩ (by rw [hR]; decide) (by rw [hR]; decide) dX7_step_14
def wp_X4_takeUp (a0 : Nat) (σ : St) (po : St → Prop) : Prop := ∀ s101, s101 = uI σ 26 a0 0 (gI σ 25 a0 0) → ∀ s102, s102 = uI s101 25 a0 0 0 → po s102
set_option maxRecDepth 100000 in
set_option maxHeartbeats 4000000 in
theorem c_X4_takeUp (l : Launch) {a0 : Nat} {σ : St} {po : St → Prop} (hw : wp_X4_takeUp a0 σ po) : MT l yX4_takeUp cX4_takeUp 1 none ({ frames := 0, cells := 0, slots := 0, locals := 0 } : Room) [wr 15 (some a0)] σ (PV po) := by
  refine MT_of (by decide) (Nat.le_of_ble_eq_true rfl) (fun K hL hR hC hM => ?_)
  subst hL
  unfold wp_X4_takeUp at hw
  show J K 0 [some (wr 15 (some a0))] [] σ 0 0
  refine r_aload_n hC dX4_takeUp_0 rfl ?_
  refine r_aload_n hC dX4_takeUp_1 rfl ?_
  refine gf_X4_21 hC dX4_takeUp_2 ?_
  refine pf_X4_25 hC dX4_takeUp_5 (fun s101 e9 => ?_)
  replace hw := hw s101 e9
  clear e9
  refine r_aload_n hC dX4_takeUp_8 rfl ?_
  refine r_iconst hC dX4_takeUp_9 ?_
  refine pf_X4_21 hC dX4_takeUp_10 (fun s102 e9 => ?_)
  replace hw := hw s102 e9
  clear e9
  exact r_vreturn hC hM ⟨rfl, hw⟩ (by rw [hR]; decide) (by rw [hR]; decide) dX4_takeUp_13
def wp_X7_setById (x1 : Int) (σ : St) (po : Option Nat → St → Prop) : Prop := wp_X7_thingById 3 (some 0) x1 σ (fun o101 s101 => (o101 = none → po none s101) ∧
 (∀ a101, o101 = some a101 → 12 ≤ a101 ∧ po (some a101) s101))
set_option maxRecDepth 100000 in
set_option maxHeartbeats 4000000 in
theorem c_X7_setById (l : Launch) {x1 : Int} {σ : St} {po : Option Nat → St → Prop} (hw : wp_X7_setById x1 σ po) : MT l yX7_setById cX7_setById 4 (some (.object "QueuesAndGates$CounterSet")) ({ frames := 2, cells := 0, slots := 0, locals := 44 } : Room) [wr 0 (some 0), wi x1] σ (PR 20 po) := by
  refine MT_of (by decide) (Nat.le_of_ble_eq_true rfl) (fun K hL hR hC hM => ?_)
  subst hL
  unfold wp_X7_setById at hw
  show J K 0 [some (wr 0 (some 0)), some (wi x1), none, none] [] σ 0 0
  refine r_aload_n hC dX7_setById_0 rfl ?_
  refine gf_X7_25 hC dX7_setById_1 ?_
  refine r_iload_n hC dX7_setById_4 rfl ?_
  refine cl_X7_222 hC (c_X7_thingById (kL K) hw) (by rw [hR]; decide) (Nat.le_of_ble_eq_true rfl) dX7_setById_5 (fun o101 s101 hq => ?_)
  clear hw
  have hw := hq
  clear hq
  refine r_astore_n (l' := [_, _, _, _]) hC dX7_setById_8 rfl (by decide) rfl ?_
  refine r_aload_n hC dX7_setById_9 rfl ?_
  refine r_inst hC (ci := 0) rfl rfl (wg 258 (by decide +kernel) (by decide +kernel)) dX7_setById_10 (fun h => ?_) (fun a101 h => ?_)
  · replace hw := hw.1 h
    subst h
    refine r_if_eq (tgt := 25) hC dX7_setById_13 (by decide) (fun _ => ?_) (fun h => absurd h (by decide))
    refine r_null hC 20 dX7_setById_25 ?_
    exact r_areturn hC hM ⟨_, rfl, hw⟩ (by rw [hR]; decide) (by rw [hR]; decide) dX7_setById_26
  · replace hw := hw.2 a101 h
    subst h
    have h101 := hw.1
    replace hw := hw.2
    refine ⟨oCi_ge h101, ?_⟩
    refine r_if_eq (tgt := 25) hC dX7_setById_13 (by decide) (fun h => absurd h (by decide)) (fun _ => ?_)
    refine r_aload_n hC dX7_setById_16 rfl ?_
    refine r_cast hC (ci := 0) rfl rfl (wg 258 (by decide +kernel) (by decide +kernel)) dX7_setById_17 ⟨(fun a9 h9 => by cases h9; exact oCi_ge h101), ?_⟩
    refine r_astore_n (l' := [_, _, _, _]) hC dX7_setById_20 rfl (by decide) rfl ?_
    refine r_aload_n hC dX7_setById_21 rfl ?_
    refine r_goto (tgt := 26) hC dX7_setById_22 (by decide) ?_
    exact r_areturn hC hM ⟨_, rfl, hw⟩ (by rw [hR]; decide) (by rw [hR]; decide) dX7_setById_26
