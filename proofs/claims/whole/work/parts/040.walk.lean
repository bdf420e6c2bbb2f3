/-! WALKS 0, printed by wip/whole/gen/mkwalks.py -/
def wp_X7_isWithin (x1 : Int) (x2 : Int) (σ : St) (po : Int → St → Prop) : Prop := (nm x1 < 0 → po 0 σ) ∧
 (0 ≤ nm x1 → (nm x2 < nm x1 → po 0 σ) ∧
 (nm x1 ≤ nm x2 → po 1 σ))
set_option maxRecDepth 100000 in
set_option maxHeartbeats 4000000 in
theorem c_X7_isWithin (l : Launch) {x1 : Int} {x2 : Int} {σ : St} {po : Int → St → Prop} (hw : wp_X7_isWithin x1 x2 σ po) : MT l yX7_isWithin cX7_isWithin 2 (some .boolean) ({ frames := 0, cells := 0, slots := 0, locals := 0 } : Room) [wi x1, wi x2] σ (PI po) := by
  refine MT_of (by decide) (Nat.le_of_ble_eq_true rfl) (fun K hL hR hC hM => ?_)
  subst hL
  unfold wp_X7_isWithin at hw
  show J K 0 [some (wi x1), some (wi x2)] [] σ 0 0
  refine r_iload_n hC dX7_isWithin_0 rfl ?_
  refine r_if_lt (tgt := 13) hC dX7_isWithin_1 (by decide) (fun h => ?_) (fun h => ?_)
  · replace hw := hw.1 h
    refine r_iconst hC dX7_isWithin_13 ?_
    exact r_zreturn hC hM (by decide) ⟨_, rfl, hw⟩ (by rw [hR]; decide) (by rw [hR]; decide) dX7_isWithin_14
  · replace hw := hw.2 h
    refine r_iload_n hC dX7_isWithin_4 rfl ?_
    refine r_iload_n hC dX7_isWithin_5 rfl ?_
    refine r_icmp_gt (tgt := 13) hC dX7_isWithin_6 (by decide) (fun h => ?_) (fun h => ?_)
    · replace hw := hw.1 h
      refine r_iconst hC dX7_isWithin_13 ?_
      exact r_zreturn hC hM (by decide) ⟨_, rfl, hw⟩ (by rw [hR]; decide) (by rw [hR]; decide) dX7_isWithin_14
    · replace hw := hw.2 h
      refine r_iconst hC dX7_isWithin_9 ?_
      refine r_goto (tgt := 14) hC dX7_isWithin_10 (by decide) ?_
      exact r_zreturn hC hM (by decide) ⟨_, rfl, hw⟩ (by rw [hR]; decide) (by rw [hR]; decide) dX7_isWithin_14
def wp_X7_process (x1 : Int) (x2 : Int) (σ : St) (po : Int → St → Prop) : Prop := wp_X7_isWithin x1 99 σ (fun r101 s101 => (nm r101 = 0 → po (-4) s101) ∧
 (nm r101 ≠ 0 → wp_X7_isWithin x2 99 s101 (fun r102 s102 => (nm r102 ≠ 0 → (nm (gI s102 1 0 0) < nm 16 → freeProc s102 (gI s102 1 0 0) x1 x2 ∧ ∀ s103, newProc s102 (gI s102 1 0 0) x1 x2 s103 → (0 ≤ nm (gI s102 1 0 0) ∧ nm (gI s102 1 0 0) < 16) ∧ ∀ s104, s104 = uR s103 1 0 (nm (gI s102 1 0 0)).toNat (some ((nm (gI s102 1 0 0)).toNat)) → ∀ s105, s105 = uI s104 1 0 0 ((gI s104 1 0 0) + 1) → po (gI s102 1 0 0) s105) ∧
 (nm 16 ≤ nm (gI s102 1 0 0) → po (-9) s102)) ∧
 (nm r102 = 0 → po (-4) s102))))
set_option maxRecDepth 100000 in
set_option maxHeartbeats 4000000 in
theorem c_X7_process (l : Launch) {x1 : Int} {x2 : Int} {σ : St} {po : Int → St → Prop} (hw : wp_X7_process x1 x2 σ po) : MT l yX7_process cX7_process 4 (some .int) ({ frames := 3, cells := 9, slots := 177, locals := 63 } : Room) [wr 0 (some 0), wi x1, wi x2] σ (PI po) := by
  refine MT_of (by decide) (Nat.le_of_ble_eq_true rfl) (fun K hL hR hC hM => ?_)
  subst hL
  unfold wp_X7_process at hw
  show J K 0 [some (wr 0 (some 0)), some (wi x1), some (wi x2), none] [] σ 0 0
  refine r_iload_n hC dX7_process_0 rfl ?_
  refine r_bipush hC dX7_process_1 (by decide) ?_
  refine cl_X7_34 hC (c_X7_isWithin (kL K) hw) (by rw [hR]; decide) (Nat.le_of_ble_eq_true rfl) dX7_process_3 (fun r101 s101 hq => ?_)
  clear hw
  have hw := hq
  clear hq
  refine r_if_eq (tgt := 18) hC dX7_process_6 (by decide) (fun h => ?_) (fun h => ?_)
  · replace hw := hw.1 h
    refine r_bipush hC dX7_process_18 (by decide) ?_
    exact r_ireturn hC hM ⟨_, rfl, hw⟩ (by rw [hR]; decide) (by rw [hR]; decide) dX7_process_20
  · replace hw := hw.2 h
    refine r_iload_n hC dX7_process_9 rfl ?_
    refine r_bipush hC dX7_process_10 (by decide) ?_
    refine cl_X7_34 hC (c_X7_isWithin (kL K) hw) (by rw [hR]; decide) (Nat.le_of_ble_eq_true rfl) dX7_process_12 (fun r102 s102 hq => ?_)
    clear hw
    have hw := hq
    clear hq
    refine r_if_ne (tgt := 21) hC dX7_process_15 (by decide) (fun h => ?_) (fun h => ?_)
    · replace hw := hw.1 h
      refine r_aload_n hC dX7_process_21 rfl ?_
      refine gf_X7_15 hC dX7_process_22 ?_
      refine r_bipush hC dX7_process_25 (by decide) ?_
      refine r_icmp_lt (tgt := 33) hC dX7_process_27 (by decide) (fun h => ?_) (fun h => ?_)
      · replace hw := hw.1 h
        refine r_aload_n hC dX7_process_33 rfl ?_
        refine gf_X7_15 hC dX7_process_34 ?_
        refine r_istore_n (l' := [_, _, _, _]) hC dX7_process_37 rfl (by decide) rfl ?_
        refine r_aload_n hC dX7_process_38 rfl ?_
        refine gf_X7_11 hC dX7_process_39 ?_
        refine r_iload_n hC dX7_process_42 rfl ?_
        have hf9 := hw.1
        replace hw := hw.2
        refine new_X7_process hC (by rw [hR]; decide) rfl rfl rfl hf9 (fun s103 hn8 hn9 => ?_)
        replace hw := hw s103 hn9
        clear hn9
        refine r_aastore hC (kd := 10) (Or.inl ⟨rfl, rfl⟩) (by decide) rfl hw.1 dX7_process_53 (fun s104 e9 => ?_)
        replace hw := hw.2 s104 e9
        clear e9
        refine r_aload_n hC dX7_process_54 rfl ?_
        refine r_dup hC dX7_process_55 rfl ?_
        refine gf_X7_15 hC dX7_process_56 ?_
        refine r_iconst hC dX7_process_59 ?_
        refine r_iadd hC dX7_process_60 ?_
        refine pf_X7_15 hC dX7_process_61 (fun s105 e9 => ?_)
        replace hw := hw s105 e9
        clear e9
        refine r_iload_n hC dX7_process_64 rfl ?_
        exact r_ireturn hC hM ⟨_, rfl, hw⟩ (by rw [hR]; decide) (by rw [hR]; decide) dX7_process_65
      · replace hw := hw.2 h
        refine r_bipush hC dX7_process_30 (by decide) ?_
        exact r_ireturn hC hM ⟨_, rfl, hw⟩ (by rw [hR]; decide) (by rw [hR]; decide) dX7_process_32
    · replace hw := hw.2 h
      refine r_bipush hC dX7_process_18 (by decide) ?_
      exact r_ireturn hC hM ⟨_, rfl, hw⟩ (by rw [hR]; decide) (by rw [hR]; decide) dX7_process_20
def wp_X7_processAt (x1 : Int) (σ : St) (po : Option Nat → St → Prop) : Prop := wp_X7_isWithin x1 15 σ (fun r101 s101 => (nm r101 = 0 → po none s101) ∧
 (nm r101 ≠ 0 → (0 ≤ nm x1 ∧ nm x1 < 16) ∧ ∀ o101, o101 = gR s101 1 0 (nm x1).toNat → po o101 s101))
set_option maxRecDepth 100000 in
set_option maxHeartbeats 4000000 in
theorem c_X7_processAt (l : Launch) {x1 : Int} {σ : St} {po : Option Nat → St → Prop} (hw : wp_X7_processAt x1 σ po) : MT l yX7_processAt cX7_processAt 2 (some (.object "QueuesAndGates$Proc")) ({ frames := 1, cells := 0, slots := 0, locals := 21 } : Room) [wr 0 (some 0), wi x1] σ (PR 10 po) := by
  refine MT_of (by decide) (Nat.le_of_ble_eq_true rfl) (fun K hL hR hC hM => ?_)
  subst hL
  unfold wp_X7_processAt at hw
  show J K 0 [some (wr 0 (some 0)), some (wi x1)] [] σ 0 0
  refine r_iload_n hC dX7_processAt_0 rfl ?_
  refine r_bipush hC dX7_processAt_1 (by decide) ?_
  refine cl_X7_34 hC (c_X7_isWithin (kL K) hw) (by rw [hR]; decide) (Nat.le_of_ble_eq_true rfl) dX7_processAt_3 (fun r101 s101 hq => ?_)
  clear hw
  have hw := hq
  clear hq
  refine r_if_eq (tgt := 18) hC dX7_processAt_6 (by decide) (fun h => ?_) (fun h => ?_)
  · replace hw := hw.1 h
    refine r_null hC 10 dX7_processAt_18 ?_
    exact r_areturn hC hM ⟨_, rfl, hw⟩ (by rw [hR]; decide) (by rw [hR]; decide) dX7_processAt_19
  · replace hw := hw.2 h
    refine r_aload_n hC dX7_processAt_9 rfl ?_
    refine gf_X7_11 hC dX7_processAt_10 ?_
    refine r_iload_n hC dX7_processAt_13 rfl ?_
    refine r_aaload hC (kd := 10) (Or.inl ⟨rfl, rfl⟩) (by decide) rfl hw.1 dX7_processAt_14 (fun o101 e9 => ?_)
    replace hw := hw.2 o101 e9
    clear e9
    refine r_goto (tgt := 19) hC dX7_processAt_15 (by decide) ?_
    exact r_areturn hC hM ⟨_, rfl, hw⟩ (by rw [hR]; decide) (by rw [hR]; decide) dX7_processAt_19
def wp_X7_goOn_5 (po : St → Prop) : Nat → Option Nat → Int → Int → Int → St → Prop
  | 0, _, _, _, _, _ => False
  | n + 1, o1, x2, x3, x4, σ => (nm (gI σ 2 0 0) ≤ nm x4 → ∀ s101, s101 = uI σ 2 0 0 x3 → ∃ a101, o1 = some a101 ∧ ∀ s102, s102 = uI s101 15 a101 0 0 → ∀ s103, s103 = uR s102 10 a101 0 none → ∀ s104, s104 = uI s103 14 a101 0 x2 → po s104) ∧
 (nm x4 < nm (gI σ 2 0 0) → (nm 16 ≤ nm x4 → ∀ s105, s105 = uI σ 2 0 0 x3 → ∃ a102, o1 = some a102 ∧ ∀ s106, s106 = uI s105 15 a102 0 0 → ∀ s107, s107 = uR s106 10 a102 0 none → ∀ s108, s108 = uI s107 14 a102 0 x2 → po s108) ∧
 (nm x4 < nm 16 → (0 ≤ nm x4 ∧ nm x4 < 16) ∧ ∀ o101, o101 = gR σ 4 0 (nm x4).toNat → (0 ≤ nm x4 ∧ nm x4 < 16) ∧ ∀ s109, s109 = uR σ 4 0 (nm x4).toNat none → (o101 = o1 → wp_X7_goOn_5 po n o1 x2 x3 (x4 + 1) s109) ∧
 (o101 ≠ o1 → (0 ≤ nm x3 ∧ nm x3 < 16) ∧ ∀ s110, s110 = uR s109 4 0 (nm x3).toNat o101 → wp_X7_goOn_5 po n o1 x2 (x3 + 1) (x4 + 1) s110)))
set_option maxRecDepth 100000 in
set_option maxHeartbeats 4000000 in
theorem j_X7_goOn_5 {K : JK} (hR : kRm K = ({ frames := 0, cells := 0, slots := 0, locals := 0 } : Room)) (hC : Cx K cX7_goOn 6 RX7) {po : St → Prop} (hM : Mx K none (PV po)) : ∀ (n : Nat) (o1 : Option Nat) (x2 : Int) (x3 : Int) (x4 : Int) (σ : St), wp_X7_goOn_5 po n o1 x2 x3 x4 σ → J K 5 [some (wr 0 (some 0)), some (wr 10 o1), some (wi x2), some (wi x3), some (wi x4), none] [] σ 0 0 := by
  intro n
  induction n with
  | zero =>
    intro o1 x2 x3 x4 σ hw
    exact False.elim hw
  | succ n ih =>
    intro o1 x2 x3 x4 σ hw
    unfold wp_X7_goOn_5 at hw
    refine r_iload hC dX7_goOn_5 rfl ?_
    refine r_aload_n hC dX7_goOn_7 rfl ?_
    refine gf_X7_31 hC dX7_goOn_8 ?_
    refine r_icmp_ge (tgt := 61) hC dX7_goOn_11 (by decide) (fun h => ?_) (fun h => ?_)
    · replace hw := hw.1 h
      refine r_aload_n hC dX7_goOn_61 rfl ?_
      refine r_iload_n hC dX7_goOn_62 rfl ?_
      refine pf_X7_31 hC dX7_goOn_63 (fun s101 e9 => ?_)
      replace hw := hw s101 e9
      clear e9
      refine r_aload_n hC dX7_goOn_66 rfl ?_
      refine r_iconst hC dX7_goOn_67 ?_
      obtain ⟨a101, rfl, hw⟩ := hw
      refine pf_X7_49 hC dX7_goOn_68 (fun s102 e9 => ?_)
      replace hw := hw s102 e9
      clear e9
      refine r_aload_n hC dX7_goOn_71 rfl ?_
      refine r_null hC 20 dX7_goOn_72 ?_
      refine pf_X7_226 hC dX7_goOn_73 (fun s103 e9 => ?_)
      replace hw := hw s103 e9
      clear e9
      refine r_aload_n hC dX7_goOn_76 rfl ?_
      refine r_iload_n hC dX7_goOn_77 rfl ?_
      refine pf_X7_73 hC dX7_goOn_78 (fun s104 e9 => ?_)
      replace hw := hw s104 e9
      clear e9
      exact r_vreturn hC hM ⟨rfl, hw⟩ (by rw [hR]; decide) (by rw [hR]; decide) dX7_goOn_81
    · replace hw := hw.2 h
      refine r_iload hC dX7_goOn_14 rfl ?_
      refine r_bipush hC dX7_goOn_16 (by decide) ?_
      refine r_icmp_ge (tgt := 61) hC dX7_goOn_18 (by decide) (fun h => ?_) (fun h => ?_)
      · replace hw := hw.1 h
        refine r_aload_n hC dX7_goOn_61 rfl ?_
        refine r_iload_n hC dX7_goOn_62 rfl ?_
        refine pf_X7_31 hC dX7_goOn_63 (fun s105 e9 => ?_)
        replace hw := hw s105 e9
        clear e9
        refine r_aload_n hC dX7_goOn_66 rfl ?_
        refine r_iconst hC dX7_goOn_67 ?_
        obtain ⟨a102, rfl, hw⟩ := hw
        refine pf_X7_49 hC dX7_goOn_68 (fun s106 e9 => ?_)
        replace hw := hw s106 e9
        clear e9
        refine r_aload_n hC dX7_goOn_71 rfl ?_
        refine r_null hC 20 dX7_goOn_72 ?_
        refine pf_X7_226 hC dX7_goOn_73 (fun s107 e9 => ?_)
        replace hw := hw s107 e9
        clear e9
        refine r_aload_n hC dX7_goOn_76 rfl ?_
        refine r_iload_n hC dX7_goOn_77 rfl ?_
        refine pf_X7_73 hC dX7_goOn_78 (fun s108 e9 => ?_)
        replace hw := hw s108 e9
        clear e9
        exact r_vreturn hC hM ⟨rfl, hw⟩ (by rw [hR]; decide) (by rw [hR]; decide) dX7_goOn_81
      · replace hw := hw.2 h
        refine r_aload_n hC dX7_goOn_21 rfl ?_
        refine gf_X7_28 hC dX7_goOn_22 ?_
        refine r_iload hC dX7_goOn_25 rfl ?_
        refine r_aaload hC (kd := 10) (Or.inl ⟨rfl, rfl⟩) (by decide) rfl hw.1 dX7_goOn_27 (fun o101 e9 => ?_)
        replace hw := hw.2 o101 e9
        clear e9
        refine r_astore (l' := [_, _, _, _, _, _]) hC dX7_goOn_28 rfl (by decide) rfl ?_
        refine r_aload_n hC dX7_goOn_30 rfl ?_
        refine gf_X7_28 hC dX7_goOn_31 ?_
        refine r_iload hC dX7_goOn_34 rfl ?_
        refine r_null hC 10 dX7_goOn_36 ?_
        refine r_aastore hC (kd := 10) (Or.inl ⟨rfl, rfl⟩) (by decide) rfl hw.1 dX7_goOn_37 (fun s109 e9 => ?_)
        replace hw := hw.2 s109 e9
        clear e9
        refine r_aload hC dX7_goOn_38 rfl ?_
        refine r_aload_n hC dX7_goOn_40 rfl ?_
        refine r_acmp_eq (tgt := 55) hC (kd := 10) (by decide) dX7_goOn_41 (by decide) (fun h => ?_) (fun h => ?_)
        · replace hw := hw.1 h
          refine r_iinc (l' := [_, _, _, _, _, _]) hC dX7_goOn_55 rfl rfl (by decide) rfl ?_
          refine r_goto (tgt := 5) hC dX7_goOn_58 (by decide) ?_
          exact J.drop2 (ih o1 x2 x3 (x4 + 1) s109 hw) ⟨rfl, rfl, rfl, rfl, rfl, trivial⟩
        · replace hw := hw.2 h
          refine r_aload_n hC dX7_goOn_44 rfl ?_
          refine gf_X7_28 hC dX7_goOn_45 ?_
          refine r_iload_n hC dX7_goOn_48 rfl ?_
          refine r_aload hC dX7_goOn_49 rfl ?_
          refine r_aastore hC (kd := 10) (Or.inl ⟨rfl, rfl⟩) (by decide) rfl hw.1 dX7_goOn_51 (fun s110 e9 => ?_)
          replace hw := hw.2 s110 e9
          clear e9
          refine r_iinc (l' := [_, _, _, _, _, _]) hC dX7_goOn_52 rfl rfl (by decide) rfl ?_
          refine r_iinc (l' := [_, _, _, _, _, _]) hC dX7_goOn_55 rfl rfl (by decide) rfl ?_
          refine r_goto (tgt := 5) hC dX7_goOn_58 (by decide) ?_
          exact J.drop2 (ih o1 x2 (x3 + 1) (x4 + 1) s110 hw) ⟨rfl, rfl, rfl, rfl, rfl, trivial⟩
def wp_X7_goOn (o1 : Option Nat) (x2 : Int) (σ : St) (po : St → Prop) : Prop := ∃ n9, wp_X7_goOn_5 po n9 o1 x2 0 0 σ
set_option maxRecDepth 100000 in
set_option maxHeartbeats 4000000 in
theorem c_X7_goOn (l : Launch) {o1 : Option Nat} {x2 : Int} {σ : St} {po : St → Prop} (hw : wp_X7_goOn o1 x2 σ po) : MT l yX7_goOn cX7_goOn 6 none ({ frames := 0, cells := 0, slots := 0, locals := 0 } : Room) [wr 0 (some 0), wr 10 o1, wi x2] σ (PV po) := by
  refine MT_of (by decide) (Nat.le_of_ble_eq_true rfl) (fun K hL hR hC hM => ?_)
  subst hL
  unfold wp_X7_goOn at hw
  show J K 0 [some (wr 0 (some 0)), some (wr 10 o1), some (wi x2), none, none, none] [] σ 0 0
  refine r_iconst hC dX7_goOn_0 ?_
  refine r_istore_n (l' := [_, _, _, _, _, _]) hC dX7_goOn_1 rfl (by decide) rfl ?_
  refine r_iconst hC dX7_goOn_2 ?_
  refine r_istore (l' := [_, _, _, _, _, _]) hC dX7_goOn_3 rfl (by decide) rfl ?_
  obtain ⟨n9, hw⟩ := hw
  exact J.drop2 (j_X7_goOn_5 hR hC hM n9 o1 x2 0 0 σ hw) ⟨rfl, rfl, rfl, rfl, rfl, trivial⟩
def wp_X7_thingIn (k1 : Nat) (o1 : Option Nat) (x2 : Int) (σ : St) (po : Option Nat → St → Prop) : Prop := (nm x2 < 0 → po none σ) ∧
 (0 ≤ nm x2 → ∃ a101, o1 = some a101 ∧ aTy k1 a101 = 5 ∧ (nm x2 < nm (aLen k1 a101 : Int) → aTy k1 a101 = 5 ∧ (0 ≤ nm x2 ∧ nm x2 < (aLen k1 a101 : Int)) ∧ ∀ o101, o101 = gR σ (aFd k1) a101 (nm x2).toNat → (o101 = none → po none σ) ∧
 (∀ a102, o101 = some a102 → (nm (gI σ 32 a102 0) = 0 → po none σ) ∧
 (nm (gI σ 32 a102 0) ≠ 0 → po (some a102) σ))) ∧
 (nm (aLen k1 a101 : Int) ≤ nm x2 → po none σ))
set_option maxRecDepth 100000 in
set_option maxHeartbeats 4000000 in
theorem c_X7_thingIn (l : Launch) {k1 : Nat} {o1 : Option Nat} {x2 : Int} {σ : St} {po : Option Nat → St → Prop} (hw : wp_X7_thingIn k1 o1 x2 σ po) : MT l yX7_thingIn cX7_thingIn 3 (some (.object "QueuesAndGates$Thing")) ({ frames := 0, cells := 0, slots := 0, locals := 0 } : Room) [wr k1 o1, wi x2] σ (PR 20 po) := by
  refine MT_of (by decide) (Nat.le_of_ble_eq_true rfl) (fun K hL hR hC hM => ?_)
  subst hL
  unfold wp_X7_thingIn at hw
  show J K 0 [some (wr k1 o1), some (wi x2), none] [] σ 0 0
  refine r_iload_n hC dX7_thingIn_0 rfl ?_
  refine r_if_lt (tgt := 10) hC dX7_thingIn_1 (by decide) (fun h => ?_) (fun h => ?_)
  · replace hw := hw.1 h
    refine r_null hC 20 dX7_thingIn_10 ?_
    exact r_areturn hC hM ⟨_, rfl, hw⟩ (by rw [hR]; decide) (by rw [hR]; decide) dX7_thingIn_11
  · replace hw := hw.2 h
    refine r_iload_n hC dX7_thingIn_4 rfl ?_
    refine r_aload_n hC dX7_thingIn_5 rfl ?_
    obtain ⟨a101, rfl, hw⟩ := hw
    have h101 := hw.1
    replace hw := hw.2
    refine r_alen hC (aTy_ne0 h101) (aTy5_ne50 h101) (i32_nat _) dX7_thingIn_6 ?_
    refine r_icmp_lt (tgt := 12) hC dX7_thingIn_7 (by decide) (fun h => ?_) (fun h => ?_)
    · replace hw := hw.1 h
      refine r_aload_n hC dX7_thingIn_12 rfl ?_
      refine r_iload_n hC dX7_thingIn_13 rfl ?_
      refine r_aaload hC (kd := 20) (Or.inr (Or.inl ⟨hw.1, rfl⟩)) (aTy5_ne50 hw.1) (kR_T hw.1) hw.2.1 dX7_thingIn_14 (fun o101 e9 => ?_)
      replace hw := hw.2.2 o101 e9
      clear e9
      refine r_astore_n (l' := [_, _, _]) hC dX7_thingIn_15 rfl (by decide) rfl ?_
      refine r_aload_n hC dX7_thingIn_16 rfl ?_
      refine r_ifnull (tgt := 31) hC dX7_thingIn_17 (by decide) (fun h => ?_) (fun a102 h => ?_)
      · replace hw := hw.1 h
        subst h
        refine r_null hC 20 dX7_thingIn_31 ?_
        exact r_areturn hC hM ⟨_, rfl, hw⟩ (by rw [hR]; decide) (by rw [hR]; decide) dX7_thingIn_32
      · replace hw := hw.2 a102 h
        subst h
        refine r_aload_n hC dX7_thingIn_20 rfl ?_
        refine gf_X7_209 hC dX7_thingIn_21 ?_
        refine r_if_eq (tgt := 31) hC dX7_thingIn_24 (by decide) (fun h => ?_) (fun h => ?_)
        · replace hw := hw.1 h
          refine r_null hC 20 dX7_thingIn_31 ?_
          exact r_areturn hC hM ⟨_, rfl, hw⟩ (by rw [hR]; decide) (by rw [hR]; decide) dX7_thingIn_32
        · replace hw := hw.2 h
          refine r_aload_n hC dX7_thingIn_27 rfl ?_
          refine r_goto (tgt := 32) hC dX7_thingIn_28 (by decide) ?_
          exact r_areturn hC hM ⟨_, rfl, hw⟩ (by rw [hR]; decide) (by rw [hR]; decide) dX7_thingIn_32
    · replace hw := hw.2 h
      refine r_null hC 20 dX7_thingIn_10 ?_
      exact r_areturn hC hM ⟨_, rfl, hw⟩ (by rw [hR]; decide) (by rw [hR]; decide) dX7_thingIn_11
def wp_X7_setIn (x1 : Int) (σ : St) (po : Option Nat → St → Prop) : Prop := wp_X7_thingIn 3 (some 0) x1 σ (fun o101 s101 => (o101 = none → po none s101) ∧
 (∀ a101, o101 = some a101 → 12 ≤ a101 ∧ po (some a101) s101))
set_option maxRecDepth 100000 in
set_option maxHeartbeats 4000000 in
theorem c_X7_setIn (l : Launch) {x1 : Int} {σ : St} {po : Option Nat → St → Prop} (hw : wp_X7_setIn x1 σ po) : MT l yX7_setIn cX7_setIn 4 (some (.object "QueuesAndGates$CounterSet")) ({ frames := 1, cells := 0, slots := 0, locals := 22 } : Room) [wr 0 (some 0), wi x1] σ (PR 20 po) := by
  refine MT_of (by decide) (Nat.le_of_ble_eq_true rfl) (fun K hL hR hC hM => ?_)
  subst hL
  unfold wp_X7_setIn at hw
  show J K 0 [some (wr 0 (some 0)), some (wi x1), none, none] [] σ 0 0
  refine r_aload_n hC dX7_setIn_0 rfl ?_
  refine gf_X7_25 hC dX7_setIn_1 ?_
  refine r_iload_n hC dX7_setIn_4 rfl ?_
  refine cl_X7_212 hC (c_X7_thingIn (kL K) hw) (by rw [hR]; decide) (Nat.le_of_ble_eq_true rfl) dX7_setIn_5 (fun o101 s101 hq => ?_)
  clear hw
  have hw := hq
  clear hq
  refine r_astore_n (l' := [_, _, _, _]) hC dX7_setIn_8 rfl (by decide) rfl ?_
  refine r_aload_n hC dX7_setIn_9 rfl ?_
  refine r_inst hC (ci := 0) rfl rfl (wg 258 (by decide +kernel) (by decide +kernel)) dX7_setIn_10 (fun h => ?_) (fun a101 h => ?_)
  · replace hw := hw.1 h
    subst h
    refine r_if_eq (tgt := 25) hC dX7_setIn_13 (by decide) (fun _ => ?_) (fun h => absurd h (by decide))
    refine r_null hC 20 dX7_setIn_25 ?_
    exact r_areturn hC hM ⟨_, rfl, hw⟩ (by rw [hR]; decide) (by rw [hR]; decide) dX7_setIn_26
  · replace hw := hw.2 a101 h
    subst h
    have h101 := hw.1
    replace hw := hw.2
    refine ⟨oCi_ge h101, ?_⟩
    refine r_if_eq (tgt := 25) hC dX7_setIn_13 (by decide) (fun h => absurd h (by decide)) (fun _ => ?_)
    refine r_aload_n hC dX7_setIn_16 rfl ?_
    refine r_cast hC (ci := 0) rfl rfl (wg 258 (by decide +kernel) (by decide +kernel)) dX7_setIn_17 ⟨(fun a9 h9 => by cases h9; exact oCi_ge h101), ?_⟩
    refine r_astore_n (l' := [_, _, _, _]) hC dX7_setIn_20 rfl (by decide) rfl ?_
    refine r_aload_n hC dX7_setIn_21 rfl ?_
    refine r_goto (tgt := 26) hC dX7_setIn_22 (by decide) ?_
    exact r_areturn hC hM ⟨_, rfl, hw⟩ (by rw [hR]; decide) (by rw [hR]; decide) dX7_setIn_26
def wp_X0_hasCounter (a0 : Nat) (x1 : Int) (σ : St) (po : Int → St → Prop) : Prop := (nm x1 < 0 → po 0 σ) ∧
 (0 ≤ nm x1 → 12 ≤ a0 ∧ (nm (gI σ 45 a0 0) ≤ nm x1 → po 0 σ) ∧
 (nm x1 < nm (gI σ 45 a0 0) → (nm 8 ≤ nm x1 → po 0 σ) ∧
 (nm x1 < nm 8 → po 1 σ)))
set_option maxRecDepth 100000 in
set_option maxHeartbeats 4000000 in
theorem c_X0_hasCounter (l : Launch) {a0 : Nat} {x1 : Int} {σ : St} {po : Int → St → Prop} (hw : wp_X0_hasCounter a0 x1 σ po) : MT l yX0_hasCounter cX0_hasCounter 2 (some .boolean) ({ frames := 0, cells := 0, slots := 0, locals := 0 } : Room) [wr 20 (some a0), wi x1] σ (PI po) := by
  refine MT_of (by decide) (Nat.le_of_ble_eq_true rfl) (fun K hL hR hC hM => ?_)
  subst hL
  unfold wp_X0_hasCounter at hw
  show J K 0 [some (wr 20 (some a0)), some (wi x1)] [] σ 0 0
  refine r_iload_n hC dX0_hasCounter_0 rfl ?_
  refine r_if_lt (tgt := 22) hC dX0_hasCounter_1 (by decide) (fun h => ?_) (fun h => ?_)
  · replace hw := hw.1 h
    refine r_iconst hC dX0_hasCounter_22 ?_
    exact r_zreturn hC hM (by decide) ⟨_, rfl, hw⟩ (by rw [hR]; decide) (by rw [hR]; decide) dX0_hasCounter_23
  · replace hw := hw.2 h
    refine r_iload_n hC dX0_hasCounter_4 rfl ?_
    refine r_aload_n hC dX0_hasCounter_5 rfl ?_
    have h101 := hw.1
    replace hw := hw.2
    refine gf_X0_9 hC h101 dX0_hasCounter_6 ?_
    refine r_icmp_ge (tgt := 22) hC dX0_hasCounter_9 (by decide) (fun h => ?_) (fun h => ?_)
    · replace hw := hw.1 h
      refine r_iconst hC dX0_hasCounter_22 ?_
      exact r_zreturn hC hM (by decide) ⟨_, rfl, hw⟩ (by rw [hR]; decide) (by rw [hR]; decide) dX0_hasCounter_23
    · replace hw := hw.2 h
      refine r_iload_n hC dX0_hasCounter_12 rfl ?_
      refine r_bipush hC dX0_hasCounter_13 (by decide) ?_
      refine r_icmp_ge (tgt := 22) hC dX0_hasCounter_15 (by decide) (fun h => ?_) (fun h => ?_)
      · replace hw := hw.1 h
        refine r_iconst hC dX0_hasCounter_22 ?_
        exact r_zreturn hC hM (by decide) ⟨_, rfl, hw⟩ (by rw [hR]; decide) (by rw [hR]; decide) dX0_hasCounter_23
      · replace hw := hw.2 h
        refine r_iconst hC dX0_hasCounter_18 ?_
        refine r_goto (tgt := 23) hC dX0_hasCounter_19 (by decide) ?_
        exact r_zreturn hC hM (by decide) ⟨_, rfl, hw⟩ (by rw [hR]; decide) (by rw [hR]; decide) dX0_hasCounter_23
def wp_X0_undoOf (a0 : Nat) (x1 : Int) (x2 : Int) (σ : St) (po : Int → St → Prop) : Prop := 12 ≤ a0 ∧ wp_X0_hasCounter a0 x2 σ (fun r101 s101 => (nm r101 = 0 → po 0 s101) ∧
 (nm r101 ≠ 0 → wp_X7_isWithin x1 15 s101 (fun r102 s102 => (nm r102 = 0 → po 0 s102) ∧
 (nm r102 ≠ 0 → (0 ≤ nm ((x1 * 8) + x2) ∧ nm ((x1 * 8) + x2) < 128) ∧ po (gI s102 48 a0 (nm ((x1 * 8) + x2)).toNat) s102))))
set_option maxRecDepth 100000 in
set_option maxHeartbeats 4000000 in
theorem c_X0_undoOf (l : Launch) {a0 : Nat} {x1 : Int} {x2 : Int} {σ : St} {po : Int → St → Prop} (hw : wp_X0_undoOf a0 x1 x2 σ po) : MT l yX0_undoOf cX0_undoOf 3 (some .int) ({ frames := 1, cells := 0, slots := 0, locals := 21 } : Room) [wr 20 (some a0), wi x1, wi x2] σ (PI po) := by
  refine MT_of (by decide) (Nat.le_of_ble_eq_true rfl) (fun K hL hR hC hM => ?_)
  subst hL
  unfold wp_X0_undoOf at hw
  show J K 0 [some (wr 20 (some a0)), some (wi x1), some (wi x2)] [] σ 0 0
  refine r_aload_n hC dX0_undoOf_0 rfl ?_
  refine r_iload_n hC dX0_undoOf_1 rfl ?_
  have h101 := hw.1
  replace hw := hw.2
  refine cl_X0_35 hC h101 (c_X0_hasCounter (kL K) hw) (by rw [hR]; decide) (Nat.le_of_ble_eq_true rfl) dX0_undoOf_2 (fun r101 s101 hq => ?_)
  clear hw
  have hw := hq
  clear hq
  refine r_if_eq (tgt := 31) hC dX0_undoOf_5 (by decide) (fun h => ?_) (fun h => ?_)
  · replace hw := hw.1 h
    refine r_iconst hC dX0_undoOf_31 ?_
    exact r_ireturn hC hM ⟨_, rfl, hw⟩ (by rw [hR]; decide) (by rw [hR]; decide) dX0_undoOf_32
  · replace hw := hw.2 h
    refine r_iload_n hC dX0_undoOf_8 rfl ?_
    refine r_bipush hC dX0_undoOf_9 (by decide) ?_
    refine cl_X0_39 hC (c_X7_isWithin (kL K) hw) (by rw [hR]; decide) (Nat.le_of_ble_eq_true rfl) dX0_undoOf_11 (fun r102 s102 hq => ?_)
    clear hw
    have hw := hq
    clear hq
    refine r_if_eq (tgt := 31) hC dX0_undoOf_14 (by decide) (fun h => ?_) (fun h => ?_)
    · replace hw := hw.1 h
      refine r_iconst hC dX0_undoOf_31 ?_
      exact r_ireturn hC hM ⟨_, rfl, hw⟩ (by rw [hR]; decide) (by rw [hR]; decide) dX0_undoOf_32
    · replace hw := hw.2 h
      refine r_aload_n hC dX0_undoOf_17 rfl ?_
      refine gf_X0_22 hC h101 dX0_undoOf_18 ?_
      refine r_iload_n hC dX0_undoOf_21 rfl ?_
      refine r_bipush hC dX0_undoOf_22 (by decide) ?_
      refine r_imul hC dX0_undoOf_24 ?_
      refine r_iload_n hC dX0_undoOf_25 rfl ?_
      refine r_iadd hC dX0_undoOf_26 ?_
      refine r_iaload hC rfl (by decide) hw.1 dX0_undoOf_27 ?_
      replace hw := hw.2
      refine r_goto (tgt := 32) hC dX0_undoOf_28 (by decide) ?_
      exact r_ireturn hC hM ⟨_, rfl, hw⟩ (by rw [hR]; decide) (by rw [hR]; decide) dX0_undoOf_32
def wp_X0_putUndo (a0 : Nat) (x1 : Int) (x2 : Int) (x3 : Int) (σ : St) (po : St → Prop) : Prop := (nm x2 < 0 → po σ) ∧
 (0 ≤ nm x2 → (nm 8 ≤ nm x2 → po σ) ∧
 (nm x2 < nm 8 → (nm x1 < 0 → po σ) ∧
 (0 ≤ nm x1 → (nm 16 ≤ nm x1 → po σ) ∧
 (nm x1 < nm 16 → 12 ≤ a0 ∧ (0 ≤ nm ((x1 * 8) + x2) ∧ nm ((x1 * 8) + x2) < 128) ∧ ∀ s101, s101 = uI σ 48 a0 (nm ((x1 * 8) + x2)).toNat x3 → po s101))))
set_option maxRecDepth 100000 in
set_option maxHeartbeats 4000000 in
theorem c_X0_putUndo (l : Launch) {a0 : Nat} {x1 : Int} {x2 : Int} {x3 : Int} {σ : St} {po : St → Prop} (hw : wp_X0_putUndo a0 x1 x2 x3 σ po) : MT l yX0_putUndo cX0_putUndo 4 none ({ frames := 0, cells := 0, slots := 0, locals := 0 } : Room) [wr 20 (some a0), wi x1, wi x2, wi x3] σ (PV po) := by
  refine MT_of (by decide) (Nat.le_of_ble_eq_true rfl) (fun K hL hR hC hM => ?_)
  subst hL
  unfold wp_X0_putUndo at hw
  show J K 0 [some (wr 20 (some a0)), some (wi x1), some (wi x2), some (wi x3)] [] σ 0 0
  refine r_iload_n hC dX0_putUndo_0 rfl ?_
  refine r_if_lt (tgt := 32) hC dX0_putUndo_1 (by decide) (fun h => ?_) (fun h => ?_)
  · replace hw := hw.1 h
    exact r_vreturn hC hM ⟨rfl, hw⟩ (by rw [hR]; decide) (by rw [hR]; decide) dX0_putUndo_32
  · replace hw := hw.2 h
    refine r_iload_n hC dX0_putUndo_4 rfl ?_
    refine r_bipush hC dX0_putUndo_5 (by decide) ?_
    refine r_icmp_ge (tgt := 32) hC dX0_putUndo_7 (by decide) (fun h => ?_) (fun h => ?_)
    · replace hw := hw.1 h
      exact r_vreturn hC hM ⟨rfl, hw⟩ (by rw [hR]; decide) (by rw [hR]; decide) dX0_putUndo_32
    · replace hw := hw.2 h
      refine r_iload_n hC dX0_putUndo_10 rfl ?_
      refine r_if_lt (tgt := 32) hC dX0_putUndo_11 (by decide) (fun h => ?_) (fun h => ?_)
      · replace hw := hw.1 h
        exact r_vreturn hC hM ⟨rfl, hw⟩ (by rw [hR]; decide) (by rw [hR]; decide) dX0_putUndo_32
      · replace hw := hw.2 h
        refine r_iload_n hC dX0_putUndo_14 rfl ?_
        refine r_bipush hC dX0_putUndo_15 (by decide) ?_
        refine r_icmp_ge (tgt := 32) hC dX0_putUndo_17 (by decide) (fun h => ?_) (fun h => ?_)
        · replace hw := hw.1 h
          exact r_vreturn hC hM ⟨rfl, hw⟩ (by rw [hR]; decide) (by rw [hR]; decide) dX0_putUndo_32
        · replace hw := hw.2 h
          refine r_aload_n hC dX0_putUndo_20 rfl ?_
          have h101 := hw.1
          replace hw := hw.2
          refine gf_X0_22 hC h101 dX0_putUndo_21 ?_
          refine r_iload_n hC dX0_putUndo_24 rfl ?_
          refine r_bipush hC dX0_putUndo_25 (by decide) ?_
          refine r_imul hC dX0_putUndo_27 ?_
          refine r_iload_n hC dX0_putUndo_28 rfl ?_
          refine r_iadd hC dX0_putUndo_29 ?_
          refine r_iload_n hC dX0_putUndo_30 rfl ?_
          refine r_iastore hC rfl (by decide) hw.1 dX0_putUndo_31 (fun s101 e9 => ?_)
          replace hw := hw.2 s101 e9
          clear e9
          exact r_vreturn hC hM ⟨rfl, hw⟩ (by rw [hR]; decide) (by rw [hR]; decide) dX0_putUndo_32
def wp_X0_takeBack_72 (po : Int → St → Prop) (X4 : Nat → Int → Int → Int → St → Prop) (a0 : Nat) (x1 : Int) (x3 : Int) (x5 : Int) (y0 : Int) (σ : St) : Prop := 12 ≤ a0 ∧ (0 ≤ nm x3 ∧ nm x3 < 8) ∧ ∀ s102, s102 = uI σ 46 a0 (nm x3).toNat x5 → (0 ≤ nm x3 ∧ nm x3 < 8) ∧ ∀ s103, s103 = uI s102 47 a0 (nm x3).toNat x1 → wp_X0_putUndo a0 x1 x3 0 s103 (fun s104 => X4 a0 x1 y0 (x3 + 1) s104)
set_option maxRecDepth 100000 in
set_option maxHeartbeats 4000000 in
theorem j_X0_takeBack_72 {K : JK} (hR : kRm K = ({ frames := 2, cells := 0, slots := 0, locals := 43 } : Room)) (hC : Cx K cX0_takeBack 6 RX0) {po : Int → St → Prop} (hM : Mx K (some .boolean) (PI po)) {X4 : Nat → Int → Int → Int → St → Prop} (hX4 : ∀ (a0 : Nat) (x1 : Int) (x2 : Int) (x3 : Int) (σ : St), X4 a0 x1 x2 x3 σ → J K 4 [some (wr 20 (some a0)), some (wi x1), some (wi x2), some (wi x3), none, none] [] σ 0 0) : ∀ (a0 : Nat) (x1 : Int) (x3 : Int) (x5 : Int) (y0 : Int) (σ : St), wp_X0_takeBack_72 po X4 a0 x1 x3 x5 y0 σ → J K 72 [some (wr 20 (some a0)), some (wi x1), none, some (wi x3), none, some (wi x5)] [wi y0] σ 0 0 := by
  intro a0 x1 x3 x5 y0 σ hw
  unfold wp_X0_takeBack_72 at hw
  refine r_istore_n (l' := [_, _, _, _, _, _]) hC dX0_takeBack_72 rfl (by decide) rfl ?_
  refine r_aload_n hC dX0_takeBack_73 rfl ?_
  have h102 := hw.1
  replace hw := hw.2
  refine gf_X0_15 hC h102 dX0_takeBack_74 ?_
  refine r_iload_n hC dX0_takeBack_77 rfl ?_
  refine r_iload hC dX0_takeBack_78 rfl ?_
  refine r_iastore hC rfl (by decide) hw.1 dX0_takeBack_80 (fun s102 e9 => ?_)
  replace hw := hw.2 s102 e9
  clear e9
  refine r_aload_n hC dX0_takeBack_81 rfl ?_
  refine gf_X0_19 hC h102 dX0_takeBack_82 ?_
  refine r_iload_n hC dX0_takeBack_85 rfl ?_
  refine r_iload_n hC dX0_takeBack_86 rfl ?_
  refine r_iastore hC rfl (by decide) hw.1 dX0_takeBack_87 (fun s103 e9 => ?_)
  replace hw := hw.2 s103 e9
  clear e9
  refine r_aload_n hC dX0_takeBack_88 rfl ?_
  refine r_iload_n hC dX0_takeBack_89 rfl ?_
  refine r_iload_n hC dX0_takeBack_90 rfl ?_
  refine r_iconst hC dX0_takeBack_91 ?_
  refine cl_X0_43 hC h102 (c_X0_putUndo (kL K) hw) (by rw [hR]; decide) (Nat.le_of_ble_eq_true rfl) dX0_takeBack_92 (fun s104 hq => ?_)
  clear hw
  have hw := hq
  clear hq
  refine r_iinc (l' := [_, _, _, _, _, _]) hC dX0_takeBack_95 rfl rfl (by decide) rfl ?_
  refine r_goto (tgt := 4) hC dX0_takeBack_98 (by decide) ?_
  exact J.drop2 (hX4 a0 x1 y0 (x3 + 1) s104 hw) ⟨rfl, rfl, rfl, rfl, trivial⟩
def wp_X0_takeBack_4 (po : Int → St → Prop) : Nat → Nat → Int → Int → Int → St → Prop
  | 0, _, _, _, _, _ => False
  | n + 1, a0, x1, x2, x3, σ => 12 ≤ a0 ∧ (nm (gI σ 45 a0 0) ≤ nm x3 → (x2 = 0 ∨ x2 = 1) ∧ po x2 σ) ∧
 (nm x3 < nm (gI σ 45 a0 0) → (nm 8 ≤ nm x3 → (x2 = 0 ∨ x2 = 1) ∧ po x2 σ) ∧
 (nm x3 < nm 8 → wp_X0_undoOf a0 x1 x3 σ (fun r101 s101 => (nm r101 = 0 → wp_X0_takeBack_4 po n a0 x1 x2 (x3 + 1) s101) ∧
 (nm r101 ≠ 0 → (0 ≤ nm x3 ∧ nm x3 < 8) ∧ (nm x2 ≠ 0 → wp_X0_takeBack_72 po (fun a0 x1 x2 x3 s9 => wp_X0_takeBack_4 po n a0 x1 x2 x3 s9) a0 x1 x3 (zmax 0 (zmin 32767 ((gI s101 46 a0 (nm x3).toNat) + r101))) 1 s101) ∧
 (nm x2 = 0 → (0 ≤ nm x3 ∧ nm x3 < 8) ∧ (nm (zmax 0 (zmin 32767 ((gI s101 46 a0 (nm x3).toNat) + r101))) = nm (gI s101 46 a0 (nm x3).toNat) → wp_X0_takeBack_72 po (fun a0 x1 x2 x3 s9 => wp_X0_takeBack_4 po n a0 x1 x2 x3 s9) a0 x1 x3 (zmax 0 (zmin 32767 ((gI s101 46 a0 (nm x3).toNat) + r101))) 0 s101) ∧
 (nm (zmax 0 (zmin 32767 ((gI s101 46 a0 (nm x3).toNat) + r101))) ≠ nm (gI s101 46 a0 (nm x3).toNat) → wp_X0_takeBack_72 po (fun a0 x1 x2 x3 s9 => wp_X0_takeBack_4 po n a0 x1 x2 x3 s9) a0 x1 x3 (zmax 0 (zmin 32767 ((gI s101 46 a0 (nm x3).toNat) + r101))) 1 s101))))))
set_option maxRecDepth 100000 in
set_option maxHeartbeats 4000000 in
theorem j_X0_takeBack_4 {K : JK} (hR : kRm K = ({ frames := 2, cells := 0, slots := 0, locals := 43 } : Room)) (hC : Cx K cX0_takeBack 6 RX0) {po : Int → St → Prop} (hM : Mx K (some .boolean) (PI po)) : ∀ (n : Nat) (a0 : Nat) (x1 : Int) (x2 : Int) (x3 : Int) (σ : St), wp_X0_takeBack_4 po n a0 x1 x2 x3 σ → J K 4 [some (wr 20 (some a0)), some (wi x1), some (wi x2), some (wi x3), none, none] [] σ 0 0 := by
  intro n
  induction n with
  | zero =>
    intro a0 x1 x2 x3 σ hw
    exact False.elim hw
  | succ n ih =>
    intro a0 x1 x2 x3 σ hw
    unfold wp_X0_takeBack_4 at hw
    refine r_iload_n hC dX0_takeBack_4 rfl ?_
    refine r_aload_n hC dX0_takeBack_5 rfl ?_
    have h101 := hw.1
    replace hw := hw.2
    refine gf_X0_9 hC h101 dX0_takeBack_6 ?_
    refine r_icmp_ge (tgt := 101) hC dX0_takeBack_9 (by decide) (fun h => ?_) (fun h => ?_)
    · replace hw := hw.1 h
      refine r_iload_n hC dX0_takeBack_101 rfl ?_
      exact r_zreturn hC hM hw.1 ⟨_, rfl, hw.2⟩ (by rw [hR]; decide) (by rw [hR]; decide) dX0_takeBack_102
    · replace hw := hw.2 h
      refine r_iload_n hC dX0_takeBack_12 rfl ?_
      refine r_bipush hC dX0_takeBack_13 (by decide) ?_
      refine r_icmp_ge (tgt := 101) hC dX0_takeBack_15 (by decide) (fun h => ?_) (fun h => ?_)
      · replace hw := hw.1 h
        refine r_iload_n hC dX0_takeBack_101 rfl ?_
        exact r_zreturn hC hM hw.1 ⟨_, rfl, hw.2⟩ (by rw [hR]; decide) (by rw [hR]; decide) dX0_takeBack_102
      · replace hw := hw.2 h
        refine r_aload_n hC dX0_takeBack_18 rfl ?_
        refine r_iload_n hC dX0_takeBack_19 rfl ?_
        refine r_iload_n hC dX0_takeBack_20 rfl ?_
        refine cl_X0_47 hC h101 (c_X0_undoOf (kL K) hw) (by rw [hR]; decide) (Nat.le_of_ble_eq_true rfl) dX0_takeBack_21 (fun r101 s101 hq => ?_)
        clear hw
        have hw := hq
        clear hq
        refine r_istore (l' := [_, _, _, _, _, _]) hC dX0_takeBack_24 rfl (by decide) rfl ?_
        refine r_iload hC dX0_takeBack_26 rfl ?_
        refine r_if_eq (tgt := 95) hC dX0_takeBack_28 (by decide) (fun h => ?_) (fun h => ?_)
        · replace hw := hw.1 h
          refine r_iinc (l' := [_, _, _, _, _, _]) hC dX0_takeBack_95 rfl rfl (by decide) rfl ?_
          refine r_goto (tgt := 4) hC dX0_takeBack_98 (by decide) ?_
          exact J.drop2 (ih a0 x1 x2 (x3 + 1) s101 hw) ⟨rfl, rfl, rfl, rfl, trivial⟩
        · replace hw := hw.2 h
          refine r_iconst hC dX0_takeBack_31 ?_
          refine r_sipush hC dX0_takeBack_32 (by decide) ?_
          refine r_aload_n hC dX0_takeBack_35 rfl ?_
          refine gf_X0_15 hC h101 dX0_takeBack_36 ?_
          refine r_iload_n hC dX0_takeBack_39 rfl ?_
          refine r_iaload hC rfl (by decide) hw.1 dX0_takeBack_40 ?_
          replace hw := hw.2
          refine r_iload hC dX0_takeBack_41 rfl ?_
          refine r_iadd hC dX0_takeBack_43 ?_
          refine r_mmin hC (wg 272 (by decide +kernel) (by decide +kernel)) w_mmin ⟨(by rw [hR]; decide), (by rw [hR]; decide)⟩ ⟨(by rw [hR]; decide), (by rw [hR]; decide)⟩ (Nat.le_of_ble_eq_true rfl) dX0_takeBack_44 ?_
          refine r_mmax hC (wg 275 (by decide +kernel) (by decide +kernel)) w_mmax ⟨(by rw [hR]; decide), (by rw [hR]; decide)⟩ ⟨(by rw [hR]; decide), (by rw [hR]; decide)⟩ (Nat.le_of_ble_eq_true rfl) dX0_takeBack_47 ?_
          refine r_istore (l' := [_, _, _, _, _, _]) hC dX0_takeBack_50 rfl (by decide) rfl ?_
          refine r_iload_n hC dX0_takeBack_52 rfl ?_
          refine r_if_ne (tgt := 67) hC dX0_takeBack_53 (by decide) (fun h => ?_) (fun h => ?_)
          · replace hw := hw.1 h
            refine r_iconst hC dX0_takeBack_67 ?_
            refine r_goto (tgt := 72) hC dX0_takeBack_68 (by decide) ?_
            exact J.drop2 (j_X0_takeBack_72 hR hC hM ih a0 x1 x3 (zmax 0 (zmin 32767 ((gI s101 46 a0 (nm x3).toNat) + r101))) 1 s101 hw) ⟨rfl, rfl, rfl, rfl, trivial⟩
          · replace hw := hw.2 h
            refine r_iload hC dX0_takeBack_56 rfl ?_
            refine r_aload_n hC dX0_takeBack_58 rfl ?_
            refine gf_X0_15 hC h101 dX0_takeBack_59 ?_
            refine r_iload_n hC dX0_takeBack_62 rfl ?_
            refine r_iaload hC rfl (by decide) hw.1 dX0_takeBack_63 ?_
            replace hw := hw.2
            refine r_icmp_eq (tgt := 71) hC dX0_takeBack_64 (by decide) (fun h => ?_) (fun h => ?_)
            · replace hw := hw.1 h
              refine r_iconst hC dX0_takeBack_71 ?_
              exact J.drop2 (j_X0_takeBack_72 hR hC hM ih a0 x1 x3 (zmax 0 (zmin 32767 ((gI s101 46 a0 (nm x3).toNat) + r101))) 0 s101 hw) ⟨rfl, rfl, rfl, rfl, trivial⟩
            · replace hw := hw.2 h
              refine r_iconst hC dX0_takeBack_67 ?_
              refine r_goto (tgt := 72) hC dX0_takeBack_68 (by decide) ?_
              exact J.drop2 (j_X0_takeBack_72 hR hC hM ih a0 x1 x3 (zmax 0 (zmin 32767 ((gI s101 46 a0 (nm x3).toNat) + r101))) 1 s101 hw) ⟨rfl, rfl, rfl, rfl, trivial⟩
def wp_X0_takeBack (a0 : Nat) (x1 : Int) (σ : St) (po : Int → St → Prop) : Prop := ∃ n9, wp_X0_takeBack_4 po n9 a0 x1 0 0 σ
set_option maxRecDepth 100000 in
set_option maxHeartbeats 4000000 in
theorem c_X0_takeBack (l : Launch) {a0 : Nat} {x1 : Int} {σ : St} {po : Int → St → Prop} (hw : wp_X0_takeBack a0 x1 σ po) : MT l yX0_takeBack cX0_takeBack 6 (some .boolean) ({ frames := 2, cells := 0, slots := 0, locals := 43 } : Room) [wr 20 (some a0), wi x1] σ (PI po) := by
  refine MT_of (by decide) (Nat.le_of_ble_eq_true rfl) (fun K hL hR hC hM => ?_)
  subst hL
  unfold wp_X0_takeBack at hw
  show J K 0 [some (wr 20 (some a0)), some (wi x1), none, none, none, none] [] σ 0 0
  refine r_iconst hC dX0_takeBack_0 ?_
  refine r_istore_n (l' := [_, _, _, _, _, _]) hC dX0_takeBack_1 rfl (by decide) rfl ?_
  refine r_iconst hC dX0_takeBack_2 ?_
  refine r_istore_n (l' := [_, _, _, _, _, _]) hC dX0_takeBack_3 rfl (by decide) rfl ?_
  obtain ⟨n9, hw⟩ := hw
  exact J.drop2 (j_X0_takeBack_4 hR hC hM n9 a0 x1 0 0 σ hw) ⟨rfl, rfl, rfl, rfl, trivial⟩
def wp_X7_inLine (x1 : Int) (σ : St) (po : Option Nat → St → Prop) : Prop := (nm x1 < 0 → po none σ) ∧
 (0 ≤ nm x1 → (nm (gI σ 2 0 0) ≤ nm x1 → po none σ) ∧
 (nm x1 < nm (gI σ 2 0 0) → (nm 16 ≤ nm x1 → po none σ) ∧
 (nm x1 < nm 16 → (0 ≤ nm x1 ∧ nm x1 < 16) ∧ ∀ o101, o101 = gR σ 4 0 (nm x1).toNat → po o101 σ)))
set_option maxRecDepth 100000 in
set_option maxHeartbeats 4000000 in
theorem c_X7_inLine (l : Launch) {x1 : Int} {σ : St} {po : Option Nat → St → Prop} (hw : wp_X7_inLine x1 σ po) : MT l yX7_inLine cX7_inLine 2 (some (.object "QueuesAndGates$Proc")) ({ frames := 0, cells := 0, slots := 0, locals := 0 } : Room) [wr 0 (some 0), wi x1] σ (PR 10 po) := by
  refine MT_of (by decide) (Nat.le_of_ble_eq_true rfl) (fun K hL hR hC hM => ?_)
  subst hL
  unfold wp_X7_inLine at hw
  show J K 0 [some (wr 0 (some 0)), some (wi x1)] [] σ 0 0
  refine r_iload_n hC dX7_inLine_0 rfl ?_
  refine r_if_lt (tgt := 27) hC dX7_inLine_1 (by decide) (fun h => ?_) (fun h => ?_)
  · replace hw := hw.1 h
    refine r_null hC 10 dX7_inLine_27 ?_
    exact r_areturn hC hM ⟨_, rfl, hw⟩ (by rw [hR]; decide) (by rw [hR]; decide) dX7_inLine_28
  · replace hw := hw.2 h
    refine r_iload_n hC dX7_inLine_4 rfl ?_
    refine r_aload_n hC dX7_inLine_5 rfl ?_
    refine gf_X7_31 hC dX7_inLine_6 ?_
    refine r_icmp_ge (tgt := 27) hC dX7_inLine_9 (by decide) (fun h => ?_) (fun h => ?_)
    · replace hw := hw.1 h
      refine r_null hC 10 dX7_inLine_27 ?_
      exact r_areturn hC hM ⟨_, rfl, hw⟩ (by rw [hR]; decide) (by rw [hR]; decide) dX7_inLine_28
    · replace hw := hw.2 h
      refine r_iload_n hC dX7_inLine_12 rfl ?_
      refine r_bipush hC dX7_inLine_13 (by decide) ?_
      refine r_icmp_ge (tgt := 27) hC dX7_inLine_15 (by decide) (fun h => ?_) (fun h => ?_)
      · replace hw := hw.1 h
        refine r_null hC 10 dX7_inLine_27 ?_
        exact r_areturn hC hM ⟨_, rfl, hw⟩ (by rw [hR]; decide) (by rw [hR]; decide) dX7_inLine_28
      · replace hw := hw.2 h
        refine r_aload_n hC dX7_inLine_18 rfl ?_
        refine gf_X7_28 hC dX7_inLine_19 ?_
        refine r_iload_n hC dX7_inLine_22 rfl ?_
        refine r_aaload hC (kd := 10) (Or.inl ⟨rfl, rfl⟩) (by decide) rfl hw.1 dX7_inLine_23 (fun o101 e9 => ?_)
        replace hw := hw.2 o101 e9
        clear e9
        refine r_goto (tgt := 28) hC dX7_inLine_24 (by decide) ?_
        exact r_areturn hC hM ⟨_, rfl, hw⟩ (by rw [hR]; decide) (by rw [hR]; decide) dX7_inLine_28
def wp_X2_waitsTo (a0 : Nat) (x1 : Int) (o2 : Option Nat) (σ : St) (po : Int → St → Prop) : Prop := (nm (gI σ 15 a0 0) ≠ nm x1 → po 0 σ) ∧
 (nm (gI σ 15 a0 0) = nm x1 → ∀ o101, o101 = gR σ 10 a0 0 → (o101 ≠ o2 → po 0 σ) ∧
 (o101 = o2 → po 1 σ))
set_option maxRecDepth 100000 in
set_option maxHeartbeats 4000000 in
theorem c_X2_waitsTo (l : Launch) {a0 : Nat} {x1 : Int} {o2 : Option Nat} {σ : St} {po : Int → St → Prop} (hw : wp_X2_waitsTo a0 x1 o2 σ po) : MT l yX2_waitsTo cX2_waitsTo 3 (some .boolean) ({ frames := 0, cells := 0, slots := 0, locals := 0 } : Room) [wr 10 (some a0), wi x1, wr 20 o2] σ (PI po) := by
  refine MT_of (by decide) (Nat.le_of_ble_eq_true rfl) (fun K hL hR hC hM => ?_)
  subst hL
  unfold wp_X2_waitsTo at hw
  show J K 0 [some (wr 10 (some a0)), some (wi x1), some (wr 20 o2)] [] σ 0 0
  refine r_aload_n hC dX2_waitsTo_0 rfl ?_
  refine gf_X2_48 hC dX2_waitsTo_1 ?_
  refine r_iload_n hC dX2_waitsTo_4 rfl ?_
  refine r_icmp_ne (tgt := 20) hC dX2_waitsTo_5 (by decide) (fun h => ?_) (fun h => ?_)
  · replace hw := hw.1 h
    refine r_iconst hC dX2_waitsTo_20 ?_
    exact r_zreturn hC hM (by decide) ⟨_, rfl, hw⟩ (by rw [hR]; decide) (by rw [hR]; decide) dX2_waitsTo_21
  · replace hw := hw.2 h
    refine r_aload_n hC dX2_waitsTo_8 rfl ?_
    refine gf_X2_51 hC dX2_waitsTo_9 (fun o101 e9 => ?_)
    replace hw := hw o101 e9
    clear e9
    refine r_aload_n hC dX2_waitsTo_12 rfl ?_
    refine r_acmp_ne (tgt := 20) hC (kd := 20) (by decide) dX2_waitsTo_13 (by decide) (fun h => ?_) (fun h => ?_)
    · replace hw := hw.1 h
      refine r_iconst hC dX2_waitsTo_20 ?_
      exact r_zreturn hC hM (by decide) ⟨_, rfl, hw⟩ (by rw [hR]; decide) (by rw [hR]; decide) dX2_waitsTo_21
    · replace hw := hw.2 h
      refine r_iconst hC dX2_waitsTo_16 ?_
      refine r_goto (tgt := 21) hC dX2_waitsTo_17 (by decide) ?_
      exact r_zreturn hC hM (by decide) ⟨_, rfl, hw⟩ (by rw [hR]; decide) (by rw [hR]; decide) dX2_waitsTo_21
def wp_X4_isUndone (a0 : Nat) (x1 : Int) (σ : St) (po : Int → St → Prop) : Prop := wp_X7_isWithin x1 7 σ (fun r101 s101 => (nm r101 = 0 → po 0 s101) ∧
 (nm r101 ≠ 0 → (0 ≤ nm x1 ∧ nm x1 < 8) ∧ (nm (zand (gI s101 24 a0 (nm x1).toNat) 2) = 0 → po 0 s101) ∧
 (nm (zand (gI s101 24 a0 (nm x1).toNat) 2) ≠ 0 → po 1 s101)))
set_option maxRecDepth 100000 in
set_option maxHeartbeats 4000000 in
theorem c_X4_isUndone (l : Launch) {a0 : Nat} {x1 : Int} {σ : St} {po : Int → St → Prop} (hw : wp_X4_isUndone a0 x1 σ po) : MT l yX4_isUndone cX4_isUndone 2 (some .boolean) ({ frames := 1, cells := 0, slots := 0, locals := 21 } : Room) [wr 15 (some a0), wi x1] σ (PI po) := by
  refine MT_of (by decide) (Nat.le_of_ble_eq_true rfl) (fun K hL hR hC hM => ?_)
  subst hL
  unfold wp_X4_isUndone at hw
  show J K 0 [some (wr 15 (some a0)), some (wi x1)] [] σ 0 0
  refine r_iload_n hC dX4_isUndone_0 rfl ?_
  refine r_bipush hC dX4_isUndone_1 (by decide) ?_
  refine cl_X4_37 hC (c_X7_isWithin (kL K) hw) (by rw [hR]; decide) (Nat.le_of_ble_eq_true rfl) dX4_isUndone_3 (fun r101 s101 hq => ?_)
  clear hw
  have hw := hq
  clear hq
  refine r_if_eq (tgt := 24) hC dX4_isUndone_6 (by decide) (fun h => ?_) (fun h => ?_)
  · replace hw := hw.1 h
    refine r_iconst hC dX4_isUndone_24 ?_
    exact r_zreturn hC hM (by decide) ⟨_, rfl, hw⟩ (by rw [hR]; decide) (by rw [hR]; decide) dX4_isUndone_25
  · replace hw := hw.2 h
    refine r_aload_n hC dX4_isUndone_9 rfl ?_
    refine gf_X4_18 hC dX4_isUndone_10 ?_
    refine r_iload_n hC dX4_isUndone_13 rfl ?_
    refine r_iaload hC rfl (by decide) hw.1 dX4_isUndone_14 ?_
    replace hw := hw.2
    refine r_iconst hC dX4_isUndone_15 ?_
    refine r_iand hC dX4_isUndone_16 ?_
    refine r_if_eq (tgt := 24) hC dX4_isUndone_17 (by decide) (fun h => ?_) (fun h => ?_)
    · replace hw := hw.1 h
      refine r_iconst hC dX4_isUndone_24 ?_
      exact r_zreturn hC hM (by decide) ⟨_, rfl, hw⟩ (by rw [hR]; decide) (by rw [hR]; decide) dX4_isUndone_25
    · replace hw := hw.2 h
      refine r_iconst hC dX4_isUndone_20 ?_
      refine r_goto (tgt := 25) hC dX4_isUndone_21 (by decide) ?_
      exact r_zreturn hC hM (by decide) ⟨_, rfl, hw⟩ (by rw [hR]; decide) (by rw [hR]; decide) dX4_isUndone_25
def wp_X0_attemptOne_37 (po : Int → St → Prop) (a0 : Nat) (x1 : Int) (x2 : Int) (x3 : Int) (x4 : Int) (σ : St) : Prop := (nm x4 ≤ nm 32767 → (nm x3 = 0 → 12 ≤ a0 ∧ (0 ≤ nm x1 ∧ nm x1 < 8) ∧ ∀ s102, s102 = uI σ 49 a0 (nm x1).toNat x4 → po 0 s102) ∧
 (nm x3 ≠ 0 → 12 ≤ a0 ∧ (0 ≤ nm x1 ∧ nm x1 < 8) ∧ (nm ((gI σ 50 a0 (nm x1).toNat) - x2) < nm (-32767) → po (-15) σ) ∧
 (nm (-32767) ≤ nm ((gI σ 50 a0 (nm x1).toNat) - x2) → (nm ((gI σ 50 a0 (nm x1).toNat) - x2) ≤ nm 32767 → (0 ≤ nm x1 ∧ nm x1 < 8) ∧ ∀ s103, s103 = uI σ 50 a0 (nm x1).toNat ((gI σ 50 a0 (nm x1).toNat) - x2) → (0 ≤ nm x1 ∧ nm x1 < 8) ∧ ∀ s104, s104 = uI s103 49 a0 (nm x1).toNat x4 → po 0 s104) ∧
 (nm 32767 < nm ((gI σ 50 a0 (nm x1).toNat) - x2) → po (-15) σ)))) ∧
 (nm 32767 < nm x4 → po (-15) σ)
set_option maxRecDepth 100000 in
set_option maxHeartbeats 4000000 in
theorem j_X0_attemptOne_37 {K : JK} (hR : kRm K = ({ frames := 1, cells := 0, slots := 0, locals := 21 } : Room)) (hC : Cx K cX0_attemptOne 6 RX0) {po : Int → St → Prop} (hM : Mx K (some .int) (PI po)) : ∀ (a0 : Nat) (x1 : Int) (x2 : Int) (x3 : Int) (x4 : Int) (σ : St), wp_X0_attemptOne_37 po a0 x1 x2 x3 x4 σ → J K 37 [some (wr 20 (some a0)), some (wi x1), some (wi x2), some (wi x3), some (wi x4), none] [] σ 0 0 := by
  intro a0 x1 x2 x3 x4 σ hw
  unfold wp_X0_attemptOne_37 at hw
  refine r_iload hC dX0_attemptOne_37 rfl ?_
  refine r_sipush hC dX0_attemptOne_39 (by decide) ?_
  refine r_icmp_le (tgt := 48) hC dX0_attemptOne_42 (by decide) (fun h => ?_) (fun h => ?_)
  · replace hw := hw.1 h
    refine r_iload_n hC dX0_attemptOne_48 rfl ?_
    refine r_if_eq (tgt := 89) hC dX0_attemptOne_49 (by decide) (fun h => ?_) (fun h => ?_)
    · replace hw := hw.1 h
      refine r_aload_n hC dX0_attemptOne_89 rfl ?_
      have h102 := hw.1
      replace hw := hw.2
      refine gf_X0_25 hC h102 dX0_attemptOne_90 ?_
      refine r_iload_n hC dX0_attemptOne_93 rfl ?_
      refine r_iload hC dX0_attemptOne_94 rfl ?_
      refine r_iastore hC rfl (by decide) hw.1 dX0_attemptOne_96 (fun s102 e9 => ?_)
      replace hw := hw.2 s102 e9
      clear e9
      refine r_iconst hC dX0_attemptOne_97 ?_
      exact r_ireturn hC hM ⟨_, rfl, hw⟩ (by rw [hR]; decide) (by rw [hR]; decide) dX0_attemptOne_98
    · replace hw := hw.2 h
      refine r_aload_n hC dX0_attemptOne_52 rfl ?_
      have h103 := hw.1
      replace hw := hw.2
      refine gf_X0_28 hC h103 dX0_attemptOne_53 ?_
      refine r_iload_n hC dX0_attemptOne_56 rfl ?_
      refine r_iaload hC rfl (by decide) hw.1 dX0_attemptOne_57 ?_
      replace hw := hw.2
      refine r_iload_n hC dX0_attemptOne_58 rfl ?_
      refine r_isub hC dX0_attemptOne_59 ?_
      refine r_istore (l' := [_, _, _, _, _, _]) hC dX0_attemptOne_60 rfl (by decide) rfl ?_
      refine r_iload hC dX0_attemptOne_62 rfl ?_
      refine r_sipush hC dX0_attemptOne_64 (by decide) ?_
      refine r_icmp_lt (tgt := 78) hC dX0_attemptOne_67 (by decide) (fun h => ?_) (fun h => ?_)
      · replace hw := hw.1 h
        refine r_bipush hC dX0_attemptOne_78 (by decide) ?_
        exact r_ireturn hC hM ⟨_, rfl, hw⟩ (by rw [hR]; decide) (by rw [hR]; decide) dX0_attemptOne_80
      · replace hw := hw.2 h
        refine r_iload hC dX0_attemptOne_70 rfl ?_
        refine r_sipush hC dX0_attemptOne_72 (by decide) ?_
        refine r_icmp_le (tgt := 81) hC dX0_attemptOne_75 (by decide) (fun h => ?_) (fun h => ?_)
        · replace hw := hw.1 h
          refine r_aload_n hC dX0_attemptOne_81 rfl ?_
          refine gf_X0_28 hC h103 dX0_attemptOne_82 ?_
          refine r_iload_n hC dX0_attemptOne_85 rfl ?_
          refine r_iload hC dX0_attemptOne_86 rfl ?_
          refine r_iastore hC rfl (by decide) hw.1 dX0_attemptOne_88 (fun s103 e9 => ?_)
          replace hw := hw.2 s103 e9
          clear e9
          refine r_aload_n hC dX0_attemptOne_89 rfl ?_
          refine gf_X0_25 hC h103 dX0_attemptOne_90 ?_
          refine r_iload_n hC dX0_attemptOne_93 rfl ?_
          refine r_iload hC dX0_attemptOne_94 rfl ?_
          refine r_iastore hC rfl (by decide) hw.1 dX0_attemptOne_96 (fun s104 e9 => ?_)
          replace hw := hw.2 s104 e9
          clear e9
          refine r_iconst hC dX0_attemptOne_97 ?_
          exact r_ireturn hC hM ⟨_, rfl, hw⟩ (by rw [hR]; decide) (by rw [hR]; decide) dX0_attemptOne_98
        · replace hw := hw.2 h
          refine r_bipush hC dX0_attemptOne_78 (by decide) ?_
          exact r_ireturn hC hM ⟨_, rfl, hw⟩ (by rw [hR]; decide) (by rw [hR]; decide) dX0_attemptOne_80
  · replace hw := hw.2 h
    refine r_bipush hC dX0_attemptOne_45 (by decide) ?_
    exact r_ireturn hC hM ⟨_, rfl, hw⟩ (by rw [hR]; decide) (by rw [hR]; decide) dX0_attemptOne_47
def wp_X0_attemptOne (a0 : Nat) (x1 : Int) (x2 : Int) (x3 : Int) (σ : St) (po : Int → St → Prop) : Prop := 12 ≤ a0 ∧ wp_X0_hasCounter a0 x1 σ (fun r101 s101 => (nm r101 ≠ 0 → (0 ≤ nm x1 ∧ nm x1 < 8) ∧ (nm ((gI s101 49 a0 (nm x1).toNat) + x2) < 0 → po 1 s101) ∧
 (0 ≤ nm ((gI s101 49 a0 (nm x1).toNat) + x2) → (nm x2 ≠ 0 → wp_X0_attemptOne_37 po a0 x1 x2 x3 ((gI s101 49 a0 (nm x1).toNat) + x2) s101) ∧
 (nm x2 = 0 → (nm ((gI s101 49 a0 (nm x1).toNat) + x2) = 0 → wp_X0_attemptOne_37 po a0 x1 x2 x3 ((gI s101 49 a0 (nm x1).toNat) + x2) s101) ∧
 (nm ((gI s101 49 a0 (nm x1).toNat) + x2) ≠ 0 → po 1 s101)))) ∧
 (nm r101 = 0 → po (-15) s101))
set_option maxRecDepth 100000 in
set_option maxHeartbeats 4000000 in
theorem c_X0_attemptOne (l : Launch) {a0 : Nat} {x1 : Int} {x2 : Int} {x3 : Int} {σ : St} {po : Int → St → Prop} (hw : wp_X0_attemptOne a0 x1 x2 x3 σ po) : MT l yX0_attemptOne cX0_attemptOne 6 (some .int) ({ frames := 1, cells := 0, slots := 0, locals := 21 } : Room) [wr 20 (some a0), wi x1, wi x2, wi x3] σ (PI po) := by
  refine MT_of (by decide) (Nat.le_of_ble_eq_true rfl) (fun K hL hR hC hM => ?_)
  subst hL
  unfold wp_X0_attemptOne at hw
  show J K 0 [some (wr 20 (some a0)), some (wi x1), some (wi x2), some (wi x3), none, none] [] σ 0 0
  refine r_aload_n hC dX0_attemptOne_0 rfl ?_
  refine r_iload_n hC dX0_attemptOne_1 rfl ?_
  have h101 := hw.1
  replace hw := hw.2
  refine cl_X0_35 hC h101 (c_X0_hasCounter (kL K) hw) (by rw [hR]; decide) (Nat.le_of_ble_eq_true rfl) dX0_attemptOne_2 (fun r101 s101 hq => ?_)
  clear hw
  have hw := hq
  clear hq
  refine r_if_ne (tgt := 11) hC dX0_attemptOne_5 (by decide) (fun h => ?_) (fun h => ?_)
  · replace hw := hw.1 h
    refine r_aload_n hC dX0_attemptOne_11 rfl ?_
    refine gf_X0_25 hC h101 dX0_attemptOne_12 ?_
    refine r_iload_n hC dX0_attemptOne_15 rfl ?_
    refine r_iaload hC rfl (by decide) hw.1 dX0_attemptOne_16 ?_
    replace hw := hw.2
    refine r_iload_n hC dX0_attemptOne_17 rfl ?_
    refine r_iadd hC dX0_attemptOne_18 ?_
    refine r_istore (l' := [_, _, _, _, _, _]) hC dX0_attemptOne_19 rfl (by decide) rfl ?_
    refine r_iload hC dX0_attemptOne_21 rfl ?_
    refine r_if_lt (tgt := 35) hC dX0_attemptOne_23 (by decide) (fun h => ?_) (fun h => ?_)
    · replace hw := hw.1 h
      refine r_iconst hC dX0_attemptOne_35 ?_
      exact r_ireturn hC hM ⟨_, rfl, hw⟩ (by rw [hR]; decide) (by rw [hR]; decide) dX0_attemptOne_36
    · replace hw := hw.2 h
      refine r_iload_n hC dX0_attemptOne_26 rfl ?_
      refine r_if_ne (tgt := 37) hC dX0_attemptOne_27 (by decide) (fun h => ?_) (fun h => ?_)
      · replace hw := hw.1 h
        exact J.drop2 (j_X0_attemptOne_37 hR hC hM a0 x1 x2 x3 ((gI s101 49 a0 (nm x1).toNat) + x2) s101 hw) ⟨rfl, rfl, rfl, rfl, rfl, trivial⟩
      · replace hw := hw.2 h
        refine r_iload hC dX0_attemptOne_30 rfl ?_
        refine r_if_eq (tgt := 37) hC dX0_attemptOne_32 (by decide) (fun h => ?_) (fun h => ?_)
        · replace hw := hw.1 h
          exact J.drop2 (j_X0_attemptOne_37 hR hC hM a0 x1 x2 x3 ((gI s101 49 a0 (nm x1).toNat) + x2) s101 hw) ⟨rfl, rfl, rfl, rfl, rfl, trivial⟩
        · replace hw := hw.2 h
          refine r_iconst hC dX0_attemptOne_35 ?_
          exact r_ireturn hC hM ⟨_, rfl, hw⟩ (by rw [hR]; decide) (by rw [hR]; decide) dX0_attemptOne_36
  · replace hw := hw.2 h
    refine r_bipush hC dX0_attemptOne_8 (by decide) ?_
    exact r_ireturn hC hM ⟨_, rfl, hw⟩ (by rw [hR]; decide) (by rw [hR]; decide) dX0_attemptOne_10
def wp_X0_keep_84 (po : St → Prop) : Nat → Nat → Option Nat → Int → Int → St → Prop
  | 0, _, _, _, _, _ => False
  | n + 1, a0, o1, x2, x3, σ => ∃ a101, o1 = some a101 ∧ (nm (gI σ 26 a101 0) ≤ nm x3 → po σ) ∧
 (nm x3 < nm (gI σ 26 a101 0) → (nm 8 ≤ nm x3 → po σ) ∧
 (nm x3 < nm 8 → (0 ≤ nm x3 ∧ nm x3 < 8) ∧ 12 ≤ a0 ∧ wp_X0_hasCounter a0 (gI σ 22 a101 (nm x3).toNat) σ (fun r101 s102 => (nm r101 = 0 → wp_X0_keep_84 po n a0 (some a101) x2 (x3 + 1) s102) ∧
 (nm r101 ≠ 0 → (0 ≤ nm (gI σ 22 a101 (nm x3).toNat) ∧ nm (gI σ 22 a101 (nm x3).toNat) < 8) ∧ ∀ s103, s103 = uI s102 47 a0 (nm (gI σ 22 a101 (nm x3).toNat)).toNat x2 → wp_X0_keep_84 po n a0 (some a101) x2 (x3 + 1) s103))))
set_option maxRecDepth 100000 in
set_option maxHeartbeats 4000000 in
theorem j_X0_keep_84 {K : JK} (hR : kRm K = ({ frames := 1, cells := 0, slots := 0, locals := 23 } : Room)) (hC : Cx K cX0_keep 5 RX0) {po : St → Prop} (hM : Mx K none (PV po)) : ∀ (n : Nat) (a0 : Nat) (o1 : Option Nat) (x2 : Int) (x3 : Int) (σ : St), wp_X0_keep_84 po n a0 o1 x2 x3 σ → J K 84 [some (wr 20 (some a0)), some (wr 15 o1), some (wi x2), some (wi x3), none] [] σ 0 0 := by
  intro n
  induction n with
  | zero =>
    intro a0 o1 x2 x3 σ hw
    exact False.elim hw
  | succ n ih =>
    intro a0 o1 x2 x3 σ hw
    unfold wp_X0_keep_84 at hw
    refine r_iload_n hC dX0_keep_84 rfl ?_
    refine r_aload_n hC dX0_keep_85 rfl ?_
    obtain ⟨a101, rfl, hw⟩ := hw
    refine gf_X0_59 hC dX0_keep_86 ?_
    refine r_icmp_ge (tgt := 129) hC dX0_keep_89 (by decide) (fun h => ?_) (fun h => ?_)
    · replace hw := hw.1 h
      exact r_vreturn hC hM ⟨rfl, hw⟩ (by rw [hR]; decide) (by rw [hR]; decide) dX0_keep_129
    · replace hw := hw.2 h
      refine r_iload_n hC dX0_keep_92 rfl ?_
      refine r_bipush hC dX0_keep_93 (by decide) ?_
      refine r_icmp_ge (tgt := 129) hC dX0_keep_95 (by decide) (fun h => ?_) (fun h => ?_)
      · replace hw := hw.1 h
        exact r_vreturn hC hM ⟨rfl, hw⟩ (by rw [hR]; decide) (by rw [hR]; decide) dX0_keep_129
      · replace hw := hw.2 h
        refine r_aload_n hC dX0_keep_98 rfl ?_
        refine gf_X0_62 hC dX0_keep_99 ?_
        refine r_iload_n hC dX0_keep_102 rfl ?_
        refine r_iaload hC rfl (by decide) hw.1 dX0_keep_103 ?_
        replace hw := hw.2
        refine r_istore (l' := [_, _, _, _, _]) hC dX0_keep_104 rfl (by decide) rfl ?_
        refine r_aload_n hC dX0_keep_106 rfl ?_
        refine r_iload hC dX0_keep_107 rfl ?_
        have h103 := hw.1
        replace hw := hw.2
        refine cl_X0_35 hC h103 (c_X0_hasCounter (kL K) hw) (by rw [hR]; decide) (Nat.le_of_ble_eq_true rfl) dX0_keep_109 (fun r101 s102 hq => ?_)
        clear hw
        have hw := hq
        clear hq
        refine r_if_eq (tgt := 123) hC dX0_keep_112 (by decide) (fun h => ?_) (fun h => ?_)
        · replace hw := hw.1 h
          refine r_iinc (l' := [_, _, _, _, _]) hC dX0_keep_123 rfl rfl (by decide) rfl ?_
          refine r_goto (tgt := 84) hC dX0_keep_126 (by decide) ?_
          exact J.drop2 (ih a0 (some a101) x2 (x3 + 1) s102 hw) ⟨rfl, rfl, rfl, rfl, trivial⟩
        · replace hw := hw.2 h
          refine r_aload_n hC dX0_keep_115 rfl ?_
          refine gf_X0_19 hC h103 dX0_keep_116 ?_
          refine r_iload hC dX0_keep_119 rfl ?_
          refine r_iload_n hC dX0_keep_121 rfl ?_
          refine r_iastore hC rfl (by decide) hw.1 dX0_keep_122 (fun s103 e9 => ?_)
          replace hw := hw.2 s103 e9
          clear e9
          refine r_iinc (l' := [_, _, _, _, _]) hC dX0_keep_123 rfl rfl (by decide) rfl ?_
          refine r_goto (tgt := 84) hC dX0_keep_126 (by decide) ?_
          exact J.drop2 (ih a0 (some a101) x2 (x3 + 1) s103 hw) ⟨rfl, rfl, rfl, rfl, trivial⟩
def wp_X0_keep_49 (po : St → Prop) (X7 : Nat → Option Nat → Int → Int → St → Prop) (a0 : Nat) (o1 : Option Nat) (x2 : Int) (x3 : Int) (y0 : Int) (p1 : Option Nat) (σ : St) : Prop := ∃ a102, p1 = some a102 ∧ 12 ≤ a102 ∧ (y0 = 0 ∨ y0 = 1) ∧ ∀ s104, s104 = uI σ 51 a102 0 y0 → 12 ≤ a0 ∧ (0 ≤ nm x3 ∧ nm x3 < 8) ∧ (0 ≤ nm x3 ∧ nm x3 < 8) ∧ ∀ s105, s105 = uI s104 46 a0 (nm x3).toNat (gI s104 49 a0 (nm x3).toNat) → (0 ≤ nm x3 ∧ nm x3 < 8) ∧ wp_X0_putUndo a0 x2 x3 (gI s105 50 a0 (nm x3).toNat) s105 (fun s106 => X7 a0 o1 x2 (x3 + 1) s106)
set_option maxRecDepth 100000 in
set_option maxHeartbeats 4000000 in
theorem j_X0_keep_49 {K : JK} (hR : kRm K = ({ frames := 1, cells := 0, slots := 0, locals := 23 } : Room)) (hC : Cx K cX0_keep 5 RX0) {po : St → Prop} (hM : Mx K none (PV po)) {X7 : Nat → Option Nat → Int → Int → St → Prop} (hX7 : ∀ (a0 : Nat) (o1 : Option Nat) (x2 : Int) (x3 : Int) (σ : St), X7 a0 o1 x2 x3 σ → J K 7 [some (wr 20 (some a0)), some (wr 15 o1), some (wi x2), some (wi x3), none] [] σ 0 0) : ∀ (a0 : Nat) (o1 : Option Nat) (x2 : Int) (x3 : Int) (y0 : Int) (p1 : Option Nat) (σ : St), wp_X0_keep_49 po X7 a0 o1 x2 x3 y0 p1 σ → J K 49 [some (wr 20 (some a0)), some (wr 15 o1), some (wi x2), some (wi x3), none] [wi y0, wr 20 p1] σ 0 0 := by
  intro a0 o1 x2 x3 y0 p1 σ hw
  unfold wp_X0_keep_49 at hw
  obtain ⟨a102, rfl, hw⟩ := hw
  have h104 := hw.1
  replace hw := hw.2
  have hz9 := hw.1
  replace hw := hw.2
  refine pf_X0_31 hC h104 hz9 dX0_keep_49 (fun s104 e9 => ?_)
  replace hw := hw s104 e9
  clear e9
  refine r_aload_n hC dX0_keep_52 rfl ?_
  have h105 := hw.1
  replace hw := hw.2
  refine gf_X0_15 hC h105 dX0_keep_53 ?_
  refine r_iload_n hC dX0_keep_56 rfl ?_
  refine r_aload_n hC dX0_keep_57 rfl ?_
  refine gf_X0_25 hC h105 dX0_keep_58 ?_
  refine r_iload_n hC dX0_keep_61 rfl ?_
  refine r_iaload hC rfl (by decide) hw.1 dX0_keep_62 ?_
  replace hw := hw.2
  refine r_iastore hC rfl (by decide) hw.1 dX0_keep_63 (fun s105 e9 => ?_)
  replace hw := hw.2 s105 e9
  clear e9
  refine r_aload_n hC dX0_keep_64 rfl ?_
  refine r_iload_n hC dX0_keep_65 rfl ?_
  refine r_iload_n hC dX0_keep_66 rfl ?_
  refine r_aload_n hC dX0_keep_67 rfl ?_
  refine gf_X0_28 hC h105 dX0_keep_68 ?_
  refine r_iload_n hC dX0_keep_71 rfl ?_
  refine r_iaload hC rfl (by decide) hw.1 dX0_keep_72 ?_
  replace hw := hw.2
  refine cl_X0_43 hC h105 (c_X0_putUndo (kL K) hw) (by rw [hR]; decide) (Nat.le_of_ble_eq_true rfl) dX0_keep_73 (fun s106 hq => ?_)
  clear hw
  have hw := hq
  clear hq
  refine r_iinc (l' := [_, _, _, _, _]) hC dX0_keep_76 rfl rfl (by decide) rfl ?_
  refine r_goto (tgt := 7) hC dX0_keep_79 (by decide) ?_
  exact J.drop2 (hX7 a0 o1 x2 (x3 + 1) s106 hw) ⟨rfl, rfl, rfl, rfl, trivial⟩
def wp_X0_keep_7 (po : St → Prop) : Nat → Nat → Option Nat → Int → Int → St → Prop
  | 0, _, _, _, _, _ => False
  | n + 1, a0, o1, x2, x3, σ => 12 ≤ a0 ∧ (nm (gI σ 45 a0 0) ≤ nm x3 → ∃ n9, wp_X0_keep_84 po n9 a0 o1 x2 0 σ) ∧
 (nm x3 < nm (gI σ 45 a0 0) → (nm 8 ≤ nm x3 → ∃ n9, wp_X0_keep_84 po n9 a0 o1 x2 0 σ) ∧
 (nm x3 < nm 8 → (nm (gI σ 51 a0 0) ≠ 0 → wp_X0_keep_49 po (fun a0 o1 x2 x3 s9 => wp_X0_keep_7 po n a0 o1 x2 x3 s9) a0 o1 x2 x3 1 (some a0) σ) ∧
 (nm (gI σ 51 a0 0) = 0 → (0 ≤ nm x3 ∧ nm x3 < 8) ∧ (0 ≤ nm x3 ∧ nm x3 < 8) ∧ (nm (gI σ 46 a0 (nm x3).toNat) = nm (gI σ 49 a0 (nm x3).toNat) → wp_X0_keep_49 po (fun a0 o1 x2 x3 s9 => wp_X0_keep_7 po n a0 o1 x2 x3 s9) a0 o1 x2 x3 0 (some a0) σ) ∧
 (nm (gI σ 46 a0 (nm x3).toNat) ≠ nm (gI σ 49 a0 (nm x3).toNat) → wp_X0_keep_49 po (fun a0 o1 x2 x3 s9 => wp_X0_keep_7 po n a0 o1 x2 x3 s9) a0 o1 x2 x3 1 (some a0) σ))))
set_option maxRecDepth 100000 in
set_option maxHeartbeats 4000000 in
theorem j_X0_keep_7 {K : JK} (hR : kRm K = ({ frames := 1, cells := 0, slots := 0, locals := 23 } : Room)) (hC : Cx K cX0_keep 5 RX0) {po : St → Prop} (hM : Mx K none (PV po)) : ∀ (n : Nat) (a0 : Nat) (o1 : Option Nat) (x2 : Int) (x3 : Int) (σ : St), wp_X0_keep_7 po n a0 o1 x2 x3 σ → J K 7 [some (wr 20 (some a0)), some (wr 15 o1), some (wi x2), some (wi x3), none] [] σ 0 0 := by
  intro n
  induction n with
  | zero =>
    intro a0 o1 x2 x3 σ hw
    exact False.elim hw
  | succ n ih =>
    intro a0 o1 x2 x3 σ hw
    unfold wp_X0_keep_7 at hw
    refine r_iload_n hC dX0_keep_7 rfl ?_
    refine r_aload_n hC dX0_keep_8 rfl ?_
    have h102 := hw.1
    replace hw := hw.2
    refine gf_X0_9 hC h102 dX0_keep_9 ?_
    refine r_icmp_ge (tgt := 82) hC dX0_keep_12 (by decide) (fun h => ?_) (fun h => ?_)
    · replace hw := hw.1 h
      refine r_iconst hC dX0_keep_82 ?_
      refine r_istore_n (l' := [_, _, _, _, _]) hC dX0_keep_83 rfl (by decide) rfl ?_
      obtain ⟨n9, hw⟩ := hw
      exact J.drop2 (j_X0_keep_84 hR hC hM n9 a0 o1 x2 0 σ hw) ⟨rfl, rfl, rfl, rfl, trivial⟩
    · replace hw := hw.2 h
      refine r_iload_n hC dX0_keep_15 rfl ?_
      refine r_bipush hC dX0_keep_16 (by decide) ?_
      refine r_icmp_ge (tgt := 82) hC dX0_keep_18 (by decide) (fun h => ?_) (fun h => ?_)
      · replace hw := hw.1 h
        refine r_iconst hC dX0_keep_82 ?_
        refine r_istore_n (l' := [_, _, _, _, _]) hC dX0_keep_83 rfl (by decide) rfl ?_
        obtain ⟨n9, hw⟩ := hw
        exact J.drop2 (j_X0_keep_84 hR hC hM n9 a0 o1 x2 0 σ hw) ⟨rfl, rfl, rfl, rfl, trivial⟩
      · replace hw := hw.2 h
        refine r_aload_n hC dX0_keep_21 rfl ?_
        refine r_aload_n hC dX0_keep_22 rfl ?_
        refine gf_X0_31 hC h102 dX0_keep_23 ?_
        refine r_if_ne (tgt := 44) hC dX0_keep_26 (by decide) (fun h => ?_) (fun h => ?_)
        · replace hw := hw.1 h
          refine r_iconst hC dX0_keep_44 ?_
          refine r_goto (tgt := 49) hC dX0_keep_45 (by decide) ?_
          exact J.drop2 (j_X0_keep_49 hR hC hM ih a0 o1 x2 x3 1 (some a0) σ hw) ⟨rfl, rfl, rfl, rfl, trivial⟩
        · replace hw := hw.2 h
          refine r_aload_n hC dX0_keep_29 rfl ?_
          refine gf_X0_15 hC h102 dX0_keep_30 ?_
          refine r_iload_n hC dX0_keep_33 rfl ?_
          refine r_iaload hC rfl (by decide) hw.1 dX0_keep_34 ?_
          replace hw := hw.2
          refine r_aload_n hC dX0_keep_35 rfl ?_
          refine gf_X0_25 hC h102 dX0_keep_36 ?_
          refine r_iload_n hC dX0_keep_39 rfl ?_
          refine r_iaload hC rfl (by decide) hw.1 dX0_keep_40 ?_
          replace hw := hw.2
          refine r_icmp_eq (tgt := 48) hC dX0_keep_41 (by decide) (fun h => ?_) (fun h => ?_)
          · replace hw := hw.1 h
            refine r_iconst hC dX0_keep_48 ?_
            exact J.drop2 (j_X0_keep_49 hR hC hM ih a0 o1 x2 x3 0 (some a0) σ hw) ⟨rfl, rfl, rfl, rfl, trivial⟩
          · replace hw := hw.2 h
            refine r_iconst hC dX0_keep_44 ?_
            refine r_goto (tgt := 49) hC dX0_keep_45 (by decide) ?_
            exact J.drop2 (j_X0_keep_49 hR hC hM ih a0 o1 x2 x3 1 (some a0) σ hw) ⟨rfl, rfl, rfl, rfl, trivial⟩
def wp_X0_keep (a0 : Nat) (o1 : Option Nat) (x2 : Int) (σ : St) (po : St → Prop) : Prop := 12 ≤ a0 ∧ ∀ s101, s101 = uI σ 51 a0 0 0 → ∃ n9, wp_X0_keep_7 po n9 a0 o1 x2 0 s101
set_option maxRecDepth 100000 in
set_option maxHeartbeats 4000000 in
theorem c_X0_keep (l : Launch) {a0 : Nat} {o1 : Option Nat} {x2 : Int} {σ : St} {po : St → Prop} (hw : wp_X0_keep a0 o1 x2 σ po) : MT l yX0_keep cX0_keep 5 none ({ frames := 1, cells := 0, slots := 0, locals := 23 } : Room) [wr 20 (some a0), wr 15 o1, wi x2] σ (PV po) := by
  refine MT_of (by decide) (Nat.le_of_ble_eq_true rfl) (fun K hL hR hC hM => ?_)
  subst hL
  unfold wp_X0_keep at hw
  show J K 0 [some (wr 20 (some a0)), some (wr 15 o1), some (wi x2), none, none] [] σ 0 0
  refine r_aload_n hC dX0_keep_0 rfl ?_
  refine r_iconst hC dX0_keep_1 ?_
  have h101 := hw.1
  replace hw := hw.2
  refine pf_X0_31 hC h101 (by decide) dX0_keep_2 (fun s101 e9 => ?_)
  replace hw := hw s101 e9
  clear e9
  refine r_iconst hC dX0_keep_5 ?_
  refine r_istore_n (l' := [_, _, _, _, _]) hC dX0_keep_6 rfl (by decide) rfl ?_
  obtain ⟨n9, hw⟩ := hw
  exact J.drop2 (j_X0_keep_7 hR hC hM n9 a0 o1 x2 0 s101 hw) ⟨rfl, rfl, rfl, rfl, trivial⟩
def wp_X0_attempt_40 (po : Int → St → Prop) : Nat → Nat → Option Nat → Int → Int → St → Prop
  | 0, _, _, _, _, _ => False
  | n + 1, a0, o1, x2, x3, σ => ∃ a101, o1 = some a101 ∧ (nm (gI σ 26 a101 0) ≤ nm x3 → 12 ≤ a0 ∧ wp_X0_keep a0 (some a101) x2 σ (fun s101 => po 0 s101)) ∧
 (nm x3 < nm (gI σ 26 a101 0) → (nm 8 ≤ nm x3 → 12 ≤ a0 ∧ wp_X0_keep a0 (some a101) x2 σ (fun s102 => po 0 s102)) ∧
 (nm x3 < nm 8 → (0 ≤ nm x3 ∧ nm x3 < 8) ∧ (0 ≤ nm x3 ∧ nm x3 < 8) ∧ wp_X4_isUndone a101 x3 σ (fun r101 s103 => 12 ≤ a0 ∧ wp_X0_attemptOne a0 (gI σ 22 a101 (nm x3).toNat) (gI σ 23 a101 (nm x3).toNat) r101 s103 (fun r102 s104 => (nm r102 ≠ nm 1 → (nm r102 = 0 → wp_X0_attempt_40 po n a0 (some a101) x2 (x3 + 1) s104) ∧
 (nm r102 ≠ 0 → po r102 s104)) ∧
 (nm r102 = nm 1 → ∀ s105, s105 = uI s104 27 a101 0 x3 → (nm r102 = 0 → wp_X0_attempt_40 po n a0 (some a101) x2 (x3 + 1) s105) ∧
 (nm r102 ≠ 0 → po r102 s105))))))
set_option maxRecDepth 100000 in
set_option maxHeartbeats 4000000 in
theorem j_X0_attempt_40 {K : JK} (hR : kRm K = ({ frames := 2, cells := 0, slots := 0, locals := 47 } : Room)) (hC : Cx K cX0_attempt 5 RX0) {po : Int → St → Prop} (hM : Mx K (some .int) (PI po)) : ∀ (n : Nat) (a0 : Nat) (o1 : Option Nat) (x2 : Int) (x3 : Int) (σ : St), wp_X0_attempt_40 po n a0 o1 x2 x3 σ → J K 40 [some (wr 20 (some a0)), some (wr 15 o1), some (wi x2), some (wi x3), none] [] σ 0 0 := by
  intro n
  induction n with
  | zero =>
    intro a0 o1 x2 x3 σ hw
    exact False.elim hw
  | succ n ih =>
    intro a0 o1 x2 x3 σ hw
    unfold wp_X0_attempt_40 at hw
    refine r_iload_n hC dX0_attempt_40 rfl ?_
    refine r_aload_n hC dX0_attempt_41 rfl ?_
    obtain ⟨a101, rfl, hw⟩ := hw
    refine gf_X0_59 hC dX0_attempt_42 ?_
    refine r_icmp_ge (tgt := 102) hC dX0_attempt_45 (by decide) (fun h => ?_) (fun h => ?_)
    · replace hw := hw.1 h
      refine r_aload_n hC dX0_attempt_102 rfl ?_
      refine r_aload_n hC dX0_attempt_103 rfl ?_
      refine r_iload_n hC dX0_attempt_104 rfl ?_
      have h101 := hw.1
      replace hw := hw.2
      refine cl_X0_78 hC h101 (c_X0_keep (kL K) hw) (by rw [hR]; decide) (Nat.le_of_ble_eq_true rfl) dX0_attempt_105 (fun s101 hq => ?_)
      clear hw
      have hw := hq
      clear hq
      refine r_iconst hC dX0_attempt_108 ?_
      exact r_ireturn hC hM ⟨_, rfl, hw⟩ (by rw [hR]; decide) (by rw [hR]; decide) dX0_attempt_109
    · replace hw := hw.2 h
      refine r_iload_n hC dX0_attempt_48 rfl ?_
      refine r_bipush hC dX0_attempt_49 (by decide) ?_
      refine r_icmp_ge (tgt := 102) hC dX0_attempt_51 (by decide) (fun h => ?_) (fun h => ?_)
      · replace hw := hw.1 h
        refine r_aload_n hC dX0_attempt_102 rfl ?_
        refine r_aload_n hC dX0_attempt_103 rfl ?_
        refine r_iload_n hC dX0_attempt_104 rfl ?_
        have h102 := hw.1
        replace hw := hw.2
        refine cl_X0_78 hC h102 (c_X0_keep (kL K) hw) (by rw [hR]; decide) (Nat.le_of_ble_eq_true rfl) dX0_attempt_105 (fun s102 hq => ?_)
        clear hw
        have hw := hq
        clear hq
        refine r_iconst hC dX0_attempt_108 ?_
        exact r_ireturn hC hM ⟨_, rfl, hw⟩ (by rw [hR]; decide) (by rw [hR]; decide) dX0_attempt_109
      · replace hw := hw.2 h
        refine r_aload_n hC dX0_attempt_54 rfl ?_
        refine r_aload_n hC dX0_attempt_55 rfl ?_
        refine gf_X0_62 hC dX0_attempt_56 ?_
        refine r_iload_n hC dX0_attempt_59 rfl ?_
        refine r_iaload hC rfl (by decide) hw.1 dX0_attempt_60 ?_
        replace hw := hw.2
        refine r_aload_n hC dX0_attempt_61 rfl ?_
        refine gf_X0_65 hC dX0_attempt_62 ?_
        refine r_iload_n hC dX0_attempt_65 rfl ?_
        refine r_iaload hC rfl (by decide) hw.1 dX0_attempt_66 ?_
        replace hw := hw.2
        refine r_aload_n hC dX0_attempt_67 rfl ?_
        refine r_iload_n hC dX0_attempt_68 rfl ?_
        refine cl_X0_68 hC (c_X4_isUndone (kL K) hw) (by rw [hR]; decide) (Nat.le_of_ble_eq_true rfl) dX0_attempt_69 (fun r101 s103 hq => ?_)
        clear hw
        have hw := hq
        clear hq
        have h103 := hw.1
        replace hw := hw.2
        refine cl_X0_71 hC h103 (c_X0_attemptOne (kL K) hw) (by rw [hR]; decide) (Nat.le_of_ble_eq_true rfl) dX0_attempt_72 (fun r102 s104 hq => ?_)
        clear hw
        have hw := hq
        clear hq
        refine r_istore (l' := [_, _, _, _, _]) hC dX0_attempt_75 rfl (by decide) rfl ?_
        refine r_iload hC dX0_attempt_77 rfl ?_
        refine r_iconst hC dX0_attempt_79 ?_
        refine r_icmp_ne (tgt := 88) hC dX0_attempt_80 (by decide) (fun h => ?_) (fun h => ?_)
        · replace hw := hw.1 h
          refine r_iload hC dX0_attempt_88 rfl ?_
          refine r_if_eq (tgt := 96) hC dX0_attempt_90 (by decide) (fun h => ?_) (fun h => ?_)
          · replace hw := hw.1 h
            refine r_iinc (l' := [_, _, _, _, _]) hC dX0_attempt_96 rfl rfl (by decide) rfl ?_
            refine r_goto (tgt := 40) hC dX0_attempt_99 (by decide) ?_
            exact J.drop2 (ih a0 (some a101) x2 (x3 + 1) s104 hw) ⟨rfl, rfl, rfl, rfl, trivial⟩
          · replace hw := hw.2 h
            refine r_iload hC dX0_attempt_93 rfl ?_
            exact r_ireturn hC hM ⟨_, rfl, hw⟩ (by rw [hR]; decide) (by rw [hR]; decide) dX0_attempt_95
        · replace hw := hw.2 h
          refine r_aload_n hC dX0_attempt_83 rfl ?_
          refine r_iload_n hC dX0_attempt_84 rfl ?_
          refine pf_X0_75 hC dX0_attempt_85 (fun s105 e9 => ?_)
          replace hw := hw s105 e9
          clear e9
          refine r_iload hC dX0_attempt_88 rfl ?_
          refine r_if_eq (tgt := 96) hC dX0_attempt_90 (by decide) (fun h => ?_) (fun h => ?_)
          · replace hw := hw.1 h
            refine r_iinc (l' := [_, _, _, _, _]) hC dX0_attempt_96 rfl rfl (by decide) rfl ?_
            refine r_goto (tgt := 40) hC dX0_attempt_99 (by decide) ?_
            exact J.drop2 (ih a0 (some a101) x2 (x3 + 1) s105 hw) ⟨rfl, rfl, rfl, rfl, trivial⟩
          · replace hw := hw.2 h
            refine r_iload hC dX0_attempt_93 rfl ?_
            exact r_ireturn hC hM ⟨_, rfl, hw⟩ (by rw [hR]; decide) (by rw [hR]; decide) dX0_attempt_95
def wp_X0_attempt_2 (po : Int → St → Prop) : Nat → Nat → Option Nat → Int → Int → St → Prop
  | 0, _, _, _, _, _ => False
  | n + 1, a0, o1, x2, x3, σ => (nm 8 ≤ nm x3 → ∃ n9, wp_X0_attempt_40 po n9 a0 o1 x2 0 σ) ∧
 (nm x3 < nm 8 → 12 ≤ a0 ∧ (0 ≤ nm x3 ∧ nm x3 < 8) ∧ (0 ≤ nm x3 ∧ nm x3 < 8) ∧ ∀ s106, s106 = uI σ 49 a0 (nm x3).toNat (gI σ 46 a0 (nm x3).toNat) → wp_X0_undoOf a0 x2 x3 s106 (fun r103 s107 => (0 ≤ nm x3 ∧ nm x3 < 8) ∧ ∀ s108, s108 = uI s107 50 a0 (nm x3).toNat r103 → wp_X0_attempt_2 po n a0 o1 x2 (x3 + 1) s108))
set_option maxRecDepth 100000 in
set_option maxHeartbeats 4000000 in
theorem j_X0_attempt_2 {K : JK} (hR : kRm K = ({ frames := 2, cells := 0, slots := 0, locals := 47 } : Room)) (hC : Cx K cX0_attempt 5 RX0) {po : Int → St → Prop} (hM : Mx K (some .int) (PI po)) : ∀ (n : Nat) (a0 : Nat) (o1 : Option Nat) (x2 : Int) (x3 : Int) (σ : St), wp_X0_attempt_2 po n a0 o1 x2 x3 σ → J K 2 [some (wr 20 (some a0)), some (wr 15 o1), some (wi x2), some (wi x3), none] [] σ 0 0 := by
  intro n
  induction n with
  | zero =>
    intro a0 o1 x2 x3 σ hw
    exact False.elim hw
  | succ n ih =>
    intro a0 o1 x2 x3 σ hw
    unfold wp_X0_attempt_2 at hw
    refine r_iload_n hC dX0_attempt_2 rfl ?_
    refine r_bipush hC dX0_attempt_3 (by decide) ?_
    refine r_icmp_ge (tgt := 38) hC dX0_attempt_5 (by decide) (fun h => ?_) (fun h => ?_)
    · replace hw := hw.1 h
      refine r_iconst hC dX0_attempt_38 ?_
      refine r_istore_n (l' := [_, _, _, _, _]) hC dX0_attempt_39 rfl (by decide) rfl ?_
      obtain ⟨n9, hw⟩ := hw
      exact J.drop2 (j_X0_attempt_40 hR hC hM n9 a0 o1 x2 0 σ hw) ⟨rfl, rfl, rfl, rfl, trivial⟩
    · replace hw := hw.2 h
      refine r_aload_n hC dX0_attempt_8 rfl ?_
      have h104 := hw.1
      replace hw := hw.2
      refine gf_X0_25 hC h104 dX0_attempt_9 ?_
      refine r_iload_n hC dX0_attempt_12 rfl ?_
      refine r_aload_n hC dX0_attempt_13 rfl ?_
      refine gf_X0_15 hC h104 dX0_attempt_14 ?_
      refine r_iload_n hC dX0_attempt_17 rfl ?_
      refine r_iaload hC rfl (by decide) hw.1 dX0_attempt_18 ?_
      replace hw := hw.2
      refine r_iastore hC rfl (by decide) hw.1 dX0_attempt_19 (fun s106 e9 => ?_)
      replace hw := hw.2 s106 e9
      clear e9
      refine r_aload_n hC dX0_attempt_20 rfl ?_
      refine gf_X0_28 hC h104 dX0_attempt_21 ?_
      refine r_iload_n hC dX0_attempt_24 rfl ?_
      refine r_aload_n hC dX0_attempt_25 rfl ?_
      refine r_iload_n hC dX0_attempt_26 rfl ?_
      refine r_iload_n hC dX0_attempt_27 rfl ?_
      refine cl_X0_47 hC h104 (c_X0_undoOf (kL K) hw) (by rw [hR]; decide) (Nat.le_of_ble_eq_true rfl) dX0_attempt_28 (fun r103 s107 hq => ?_)
      clear hw
      have hw := hq
      clear hq
      refine r_iastore hC rfl (by decide) hw.1 dX0_attempt_31 (fun s108 e9 => ?_)
      replace hw := hw.2 s108 e9
      clear e9
      refine r_iinc (l' := [_, _, _, _, _]) hC dX0_attempt_32 rfl rfl (by decide) rfl ?_
      refine r_goto (tgt := 2) hC dX0_attempt_35 (by decide) ?_
      exact J.drop2 (ih a0 o1 x2 (x3 + 1) s108 hw) ⟨rfl, rfl, rfl, rfl, trivial⟩
def wp_X0_attempt (a0 : Nat) (o1 : Option Nat) (x2 : Int) (σ : St) (po : Int → St → Prop) : Prop := ∃ n9, wp_X0_attempt_2 po n9 a0 o1 x2 0 σ
set_option maxRecDepth 100000 in
set_option maxHeartbeats 4000000 in
theorem c_X0_attempt (l : Launch) {a0 : Nat} {o1 : Option Nat} {x2 : Int} {σ : St} {po : Int → St → Prop} (hw : wp_X0_attempt a0 o1 x2 σ po) : MT l yX0_attempt cX0_attempt 5 (some .int) ({ frames := 2, cells := 0, slots := 0, locals := 47 } : Room) [wr 20 (some a0), wr 15 o1, wi x2] σ (PI po) := by
  refine MT_of (by decide) (Nat.le_of_ble_eq_true rfl) (fun K hL hR hC hM => ?_)
  subst hL
  unfold wp_X0_attempt at hw
  show J K 0 [some (wr 20 (some a0)), some (wr 15 o1), some (wi x2), none, none] [] σ 0 0
  refine r_iconst hC dX0_attempt_0 ?_
  refine r_istore_n (l' := [_, _, _, _, _]) hC dX0_attempt_1 rfl (by decide) rfl ?_
  obtain ⟨n9, hw⟩ := hw
  exact J.drop2 (j_X0_attempt_2 hR hC hM n9 a0 o1 x2 0 σ hw) ⟨rfl, rfl, rfl, rfl, trivial⟩
def wp_X7_serveLine_4 (po : Int → St → Prop) : Nat → Option Nat → Int → Int → St → Prop
  | 0, _, _, _, _ => False
  | n + 1, o1, x2, x3, σ => (nm 16 ≤ nm x3 → po 0 σ) ∧
 (nm x3 < nm 16 → wp_X7_inLine x2 σ (fun o101 s101 => (o101 = none → wp_X7_serveLine_4 po n o1 (x2 + 1) (x3 + 1) s101) ∧
 (∀ a101, o101 = some a101 → wp_X2_waitsTo a101 3 o1 s101 (fun r101 s102 => (nm r101 ≠ 0 → ∃ a102, o1 = some a102 ∧ 12 ≤ a102 ∧ wp_X0_attempt a102 (some a101) (gI s102 10 a101 0) s102 (fun r102 s103 => (nm r102 ≠ nm 1 → wp_X7_goOn (some a101) r102 s103 (fun s104 => (nm r102 ≠ 0 → wp_X7_serveLine_4 po n (some a102) x2 (x3 + 1) s104) ∧
 (nm r102 = 0 → (nm (gI s104 51 a102 0) = 0 → wp_X7_serveLine_4 po n (some a102) x2 (x3 + 1) s104) ∧
 (nm (gI s104 51 a102 0) ≠ 0 → po 1 s104)))) ∧
 (nm r102 = nm 1 → wp_X7_serveLine_4 po n (some a102) (x2 + 1) (x3 + 1) s103))) ∧
 (nm r101 = 0 → wp_X7_serveLine_4 po n o1 (x2 + 1) (x3 + 1) s102)))))
set_option maxRecDepth 100000 in
set_option maxHeartbeats 4000000 in
theorem j_X7_serveLine_4 {K : JK} (hR : kRm K = ({ frames := 3, cells := 0, slots := 0, locals := 71 } : Room)) (hC : Cx K cX7_serveLine 6 RX7) {po : Int → St → Prop} (hM : Mx K (some .boolean) (PI po)) : ∀ (n : Nat) (o1 : Option Nat) (x2 : Int) (x3 : Int) (σ : St), wp_X7_serveLine_4 po n o1 x2 x3 σ → J K 4 [some (wr 0 (some 0)), some (wr 20 o1), some (wi x2), some (wi x3), none, none] [] σ 0 0 := by
  intro n
  induction n with
  | zero =>
    intro o1 x2 x3 σ hw
    exact False.elim hw
  | succ n ih =>
    intro o1 x2 x3 σ hw
    unfold wp_X7_serveLine_4 at hw
    refine r_iload_n hC dX7_serveLine_4 rfl ?_
    refine r_bipush hC dX7_serveLine_5 (by decide) ?_
    refine r_icmp_ge (tgt := 94) hC dX7_serveLine_7 (by decide) (fun h => ?_) (fun h => ?_)
    · replace hw := hw.1 h
      refine r_iconst hC dX7_serveLine_94 ?_
      exact r_zreturn hC hM (by decide) ⟨_, rfl, hw⟩ (by rw [hR]; decide) (by rw [hR]; decide) dX7_serveLine_95
    · replace hw := hw.2 h
      refine r_aload_n hC dX7_serveLine_10 rfl ?_
      refine r_iload_n hC dX7_serveLine_11 rfl ?_
      refine cl_X7_230 hC (c_X7_inLine (kL K) hw) (by rw [hR]; decide) (Nat.le_of_ble_eq_true rfl) dX7_serveLine_12 (fun o101 s101 hq => ?_)
      clear hw
      have hw := hq
      clear hq
      refine r_astore (l' := [_, _, _, _, _, _]) hC dX7_serveLine_15 rfl (by decide) rfl ?_
      refine r_aload hC dX7_serveLine_17 rfl ?_
      refine r_ifnull (tgt := 32) hC dX7_serveLine_19 (by decide) (fun h => ?_) (fun a101 h => ?_)
      · replace hw := hw.1 h
        subst h
        refine r_iinc (l' := [_, _, _, _, _, _]) hC dX7_serveLine_32 rfl rfl (by decide) rfl ?_
        refine r_goto (tgt := 88) hC dX7_serveLine_35 (by decide) ?_
        refine r_iinc (l' := [_, _, _, _, _, _]) hC dX7_serveLine_88 rfl rfl (by decide) rfl ?_
        refine r_goto (tgt := 4) hC dX7_serveLine_91 (by decide) ?_
        exact J.drop2 (ih o1 (x2 + 1) (x3 + 1) s101 hw) ⟨rfl, rfl, rfl, rfl, trivial⟩
      · replace hw := hw.2 a101 h
        subst h
        refine r_aload hC dX7_serveLine_22 rfl ?_
        refine r_iconst hC dX7_serveLine_24 ?_
        refine r_aload_n hC dX7_serveLine_25 rfl ?_
        refine cl_X7_233 hC (c_X2_waitsTo (kL K) hw) (by rw [hR]; decide) (Nat.le_of_ble_eq_true rfl) dX7_serveLine_26 (fun r101 s102 hq => ?_)
        clear hw
        have hw := hq
        clear hq
        refine r_if_ne (tgt := 38) hC dX7_serveLine_29 (by decide) (fun h => ?_) (fun h => ?_)
        · replace hw := hw.1 h
          refine r_aload_n hC dX7_serveLine_38 rfl ?_
          refine r_aload hC dX7_serveLine_39 rfl ?_
          refine gf_X7_120 hC dX7_serveLine_41 ?_
          refine r_aload hC dX7_serveLine_44 rfl ?_
          refine gf_X7_60 hC dX7_serveLine_46 ?_
          obtain ⟨a102, rfl, hw⟩ := hw
          have h101 := hw.1
          replace hw := hw.2
          refine cl_X7_389 hC h101 (c_X0_attempt (kL K) hw) (by rw [hR]; decide) (Nat.le_of_ble_eq_true rfl) dX7_serveLine_49 (fun r102 s103 hq => ?_)
          clear hw
          have hw := hq
          clear hq
          refine r_istore (l' := [_, _, _, _, _, _]) hC dX7_serveLine_52 rfl (by decide) rfl ?_
          refine r_iload hC dX7_serveLine_54 rfl ?_
          refine r_iconst hC dX7_serveLine_56 ?_
          refine r_icmp_ne (tgt := 66) hC dX7_serveLine_57 (by decide) (fun h => ?_) (fun h => ?_)
          · replace hw := hw.1 h
            refine r_aload_n hC dX7_serveLine_66 rfl ?_
            refine r_aload hC dX7_serveLine_67 rfl ?_
            refine r_iload hC dX7_serveLine_69 rfl ?_
            refine cl_X7_52 hC (c_X7_goOn (kL K) hw) (by rw [hR]; decide) (Nat.le_of_ble_eq_true rfl) dX7_serveLine_71 (fun s104 hq => ?_)
            clear hw
            have hw := hq
            clear hq
            refine r_iload hC dX7_serveLine_74 rfl ?_
            refine r_if_ne (tgt := 88) hC dX7_serveLine_76 (by decide) (fun h => ?_) (fun h => ?_)
            · replace hw := hw.1 h
              refine r_iinc (l' := [_, _, _, _, _, _]) hC dX7_serveLine_88 rfl rfl (by decide) rfl ?_
              refine r_goto (tgt := 4) hC dX7_serveLine_91 (by decide) ?_
              exact J.drop2 (ih (some a102) x2 (x3 + 1) s104 hw) ⟨rfl, rfl, rfl, rfl, trivial⟩
            · replace hw := hw.2 h
              refine r_aload_n hC dX7_serveLine_79 rfl ?_
              refine gf_X7_396 hC h101 dX7_serveLine_80 ?_
              refine r_if_eq (tgt := 88) hC dX7_serveLine_83 (by decide) (fun h => ?_) (fun h => ?_)
              · replace hw := hw.1 h
                refine r_iinc (l' := [_, _, _, _, _, _]) hC dX7_serveLine_88 rfl rfl (by decide) rfl ?_
                refine r_goto (tgt := 4) hC dX7_serveLine_91 (by decide) ?_
                exact J.drop2 (ih (some a102) x2 (x3 + 1) s104 hw) ⟨rfl, rfl, rfl, rfl, trivial⟩
              · replace hw := hw.2 h
                refine r_iconst hC dX7_serveLine_86 ?_
                exact r_zreturn hC hM (by decide) ⟨_, rfl, hw⟩ (by rw [hR]; decide) (by rw [hR]; decide) dX7_serveLine_87
          · replace hw := hw.2 h
            refine r_iinc (l' := [_, _, _, _, _, _]) hC dX7_serveLine_60 rfl rfl (by decide) rfl ?_
            refine r_goto (tgt := 88) hC dX7_serveLine_63 (by decide) ?_
            refine r_iinc (l' := [_, _, _, _, _, _]) hC dX7_serveLine_88 rfl rfl (by decide) rfl ?_
            refine r_goto (tgt := 4) hC dX7_serveLine_91 (by decide) ?_
            exact J.drop2 (ih (some a102) (x2 + 1) (x3 + 1) s103 hw) ⟨rfl, rfl, rfl, rfl, trivial⟩
        · replace hw := hw.2 h
          refine r_iinc (l' := [_, _, _, _, _, _]) hC dX7_serveLine_32 rfl rfl (by decide) rfl ?_
          refine r_goto (tgt := 88) hC dX7_serveLine_35 (by decide) ?_
          refine r_iinc (l' := [_, _, _, _, _, _]) hC dX7_serveLine_88 rfl rfl (by decide) rfl ?_
          refine r_goto (tgt := 4) hC dX7_serveLine_91 (by decide) ?_
          exact J.drop2 (ih o1 (x2 + 1) (x3 + 1) s102 hw) ⟨rfl, rfl, rfl, rfl, trivial⟩
def wp_X7_serveLine (o1 : Option Nat) (σ : St) (po : Int → St → Prop) : Prop := ∃ n9, wp_X7_serveLine_4 po n9 o1 0 0 σ
set_option maxRecDepth 100000 in
set_option maxHeartbeats 4000000 in
theorem c_X7_serveLine (l : Launch) {o1 : Option Nat} {σ : St} {po : Int → St → Prop} (hw : wp_X7_serveLine o1 σ po) : MT l yX7_serveLine cX7_serveLine 6 (some .boolean) ({ frames := 3, cells := 0, slots := 0, locals := 71 } : Room) [wr 0 (some 0), wr 20 o1] σ (PI po) := by
  refine MT_of (by decide) (Nat.le_of_ble_eq_true rfl) (fun K hL hR hC hM => ?_)
  subst hL
  unfold wp_X7_serveLine at hw
  show J K 0 [some (wr 0 (some 0)), some (wr 20 o1), none, none, none, none] [] σ 0 0
  refine r_iconst hC dX7_serveLine_0 ?_
  refine r_istore_n (l' := [_, _, _, _, _, _]) hC dX7_serveLine_1 rfl (by decide) rfl ?_
  refine r_iconst hC dX7_serveLine_2 ?_
  refine r_istore_n (l' := [_, _, _, _, _, _]) hC dX7_serveLine_3 rfl (by decide) rfl ?_
  obtain ⟨n9, hw⟩ := hw
  exact J.drop2 (j_X7_serveLine_4 hR hC hM n9 o1 0 0 σ hw) ⟨rfl, rfl, rfl, rfl, trivial⟩
def wp_X7_serveAll_4 (po : St → Prop) : Nat → Option Nat → Int → Int → St → Prop
  | 0, _, _, _, _ => False
  | n + 1, o1, x2, x3, σ => (nm 16 < nm x3 → po σ) ∧
 (nm x3 ≤ nm 16 → (nm x2 = 0 → po σ) ∧
 (nm x2 ≠ 0 → wp_X7_serveLine o1 σ (fun r101 s101 => wp_X7_serveAll_4 po n o1 r101 (x3 + 1) s101)))
set_option maxRecDepth 100000 in
set_option maxHeartbeats 4000000 in
theorem j_X7_serveAll_4 {K : JK} (hR : kRm K = ({ frames := 4, cells := 0, slots := 0, locals := 96 } : Room)) (hC : Cx K cX7_serveAll 4 RX7) {po : St → Prop} (hM : Mx K none (PV po)) : ∀ (n : Nat) (o1 : Option Nat) (x2 : Int) (x3 : Int) (σ : St), wp_X7_serveAll_4 po n o1 x2 x3 σ → J K 4 [some (wr 0 (some 0)), some (wr 20 o1), some (wi x2), some (wi x3)] [] σ 0 0 := by
  intro n
  induction n with
  | zero =>
    intro o1 x2 x3 σ hw
    exact False.elim hw
  | succ n ih =>
    intro o1 x2 x3 σ hw
    unfold wp_X7_serveAll_4 at hw
    refine r_iload_n hC dX7_serveAll_4 rfl ?_
    refine r_bipush hC dX7_serveAll_5 (by decide) ?_
    refine r_icmp_gt (tgt := 26) hC dX7_serveAll_7 (by decide) (fun h => ?_) (fun h => ?_)
    · replace hw := hw.1 h
      exact r_vreturn hC hM ⟨rfl, hw⟩ (by rw [hR]; decide) (by rw [hR]; decide) dX7_serveAll_26
    · replace hw := hw.2 h
      refine r_iload_n hC dX7_serveAll_10 rfl ?_
      refine r_if_eq (tgt := 26) hC dX7_serveAll_11 (by decide) (fun h => ?_) (fun h => ?_)
      · replace hw := hw.1 h
        exact r_vreturn hC hM ⟨rfl, hw⟩ (by rw [hR]; decide) (by rw [hR]; decide) dX7_serveAll_26
      · replace hw := hw.2 h
        refine r_aload_n hC dX7_serveAll_14 rfl ?_
        refine r_aload_n hC dX7_serveAll_15 rfl ?_
        refine cl_X7_403 hC (c_X7_serveLine (kL K) hw) (by rw [hR]; decide) (Nat.le_of_ble_eq_true rfl) dX7_serveAll_16 (fun r101 s101 hq => ?_)
        clear hw
        have hw := hq
        clear hq
        refine r_istore_n (l' := [_, _, _, _]) hC dX7_serveAll_19 rfl (by decide) rfl ?_
        refine r_iinc (l' := [_, _, _, _]) hC dX7_serveAll_20 rfl rfl (by decide) rfl ?_
        refine r_goto (tgt := 4) hC dX7_serveAll_23 (by decide) ?_
        exact J.drop2 (ih o1 r101 (x3 + 1) s101 hw) ⟨rfl, rfl, rfl, rfl, trivial⟩
def wp_X7_serveAll (o1 : Option Nat) (σ : St) (po : St → Prop) : Prop := ∃ n9, wp_X7_serveAll_4 po n9 o1 1 0 σ
set_option maxRecDepth 100000 in
set_option maxHeartbeats 4000000 in
theorem c_X7_serveAll (l : Launch) {o1 : Option Nat} {σ : St} {po : St → Prop} (hw : wp_X7_serveAll o1 σ po) : MT l yX7_serveAll cX7_serveAll 4 none ({ frames := 4, cells := 0, slots := 0, locals := 96 } : Room) [wr 0 (some 0), wr 20 o1] σ (PV po) := by
  refine MT_of (by decide) (Nat.le_of_ble_eq_true rfl) (fun K hL hR hC hM => ?_)
  subst hL
  unfold wp_X7_serveAll at hw
  show J K 0 [some (wr 0 (some 0)), some (wr 20 o1), none, none] [] σ 0 0
  refine r_iconst hC dX7_serveAll_0 ?_
  refine r_istore_n (l' := [_, _, _, _]) hC dX7_serveAll_1 rfl (by decide) rfl ?_
  refine r_iconst hC dX7_serveAll_2 ?_
  refine r_istore_n (l' := [_, _, _, _]) hC dX7_serveAll_3 rfl (by decide) rfl ?_
  obtain ⟨n9, hw⟩ := hw
  exact J.drop2 (j_X7_serveAll_4 hR hC hM n9 o1 1 0 σ hw) ⟨rfl, rfl, rfl, rfl, trivial⟩
def wp_X7_exit_39 (po : Int → St → Prop) : Nat → Option Nat → Int → St → Prop
  | 0, _, _, _ => False
  | n + 1, o2, x3, σ => (nm 12 ≤ nm x3 → ∃ a102, o2 = some a102 ∧ ∀ s102, s102 = uI σ 13 a102 0 0 → po 1 s102) ∧
 (nm x3 < nm 12 → wp_X7_setIn x3 σ (fun o102 s103 => (o102 = none → wp_X7_exit_39 po n o2 (x3 + 1) s103) ∧
 (∀ a103, o102 = some a103 → ∃ a104, o2 = some a104 ∧ 12 ≤ a103 ∧ wp_X0_takeBack a103 (gI s103 10 a104 0) s103 (fun r101 s104 => (nm r101 = 0 → wp_X7_exit_39 po n (some a104) (x3 + 1) s104) ∧
 (nm r101 ≠ 0 → wp_X7_serveAll (some a103) s104 (fun s105 => wp_X7_exit_39 po n (some a104) (x3 + 1) s105))))))
set_option maxRecDepth 100000 in
set_option maxHeartbeats 4000000 in
theorem j_X7_exit_39 {K : JK} (hR : kRm K = ({ frames := 5, cells := 0, slots := 0, locals := 119 } : Room)) (hC : Cx K cX7_exit 5 RX7) {po : Int → St → Prop} (hM : Mx K (some .int) (PI po)) : ∀ (n : Nat) (o2 : Option Nat) (x3 : Int) (σ : St), wp_X7_exit_39 po n o2 x3 σ → J K 39 [some (wr 0 (some 0)), none, some (wr 10 o2), some (wi x3), none] [] σ 0 0 := by
  intro n
  induction n with
  | zero =>
    intro o2 x3 σ hw
    exact False.elim hw
  | succ n ih =>
    intro o2 x3 σ hw
    unfold wp_X7_exit_39 at hw
    refine r_iload_n hC dX7_exit_39 rfl ?_
    refine r_bipush hC dX7_exit_40 (by decide) ?_
    refine r_icmp_ge (tgt := 81) hC dX7_exit_42 (by decide) (fun h => ?_) (fun h => ?_)
    · replace hw := hw.1 h
      refine r_aload_n hC dX7_exit_81 rfl ?_
      refine r_iconst hC dX7_exit_82 ?_
      obtain ⟨a102, rfl, hw⟩ := hw
      refine pf_X7_45 hC (by decide) dX7_exit_83 (fun s102 e9 => ?_)
      replace hw := hw s102 e9
      clear e9
      refine r_iconst hC dX7_exit_86 ?_
      exact r_ireturn hC hM ⟨_, rfl, hw⟩ (by rw [hR]; decide) (by rw [hR]; decide) dX7_exit_87
    · replace hw := hw.2 h
      refine r_aload_n hC dX7_exit_45 rfl ?_
      refine r_iload_n hC dX7_exit_46 rfl ?_
      refine cl_X7_56 hC (c_X7_setIn (kL K) hw) (by rw [hR]; decide) (Nat.le_of_ble_eq_true rfl) dX7_exit_47 (fun o102 s103 hq => ?_)
      clear hw
      have hw := hq
      clear hq
      refine r_astore (l' := [_, _, _, _, _]) hC dX7_exit_50 rfl (by decide) rfl ?_
      refine r_aload hC dX7_exit_52 rfl ?_
      refine r_ifnull (tgt := 75) hC dX7_exit_54 (by decide) (fun h => ?_) (fun a103 h => ?_)
      · replace hw := hw.1 h
        subst h
        refine r_iinc (l' := [_, _, _, _, _]) hC dX7_exit_75 rfl rfl (by decide) rfl ?_
        refine r_goto (tgt := 39) hC dX7_exit_78 (by decide) ?_
        exact J.drop2 (ih o2 (x3 + 1) s103 hw) ⟨rfl, rfl, rfl, trivial⟩
      · replace hw := hw.2 a103 h
        subst h
        refine r_aload hC dX7_exit_57 rfl ?_
        refine r_aload_n hC dX7_exit_59 rfl ?_
        obtain ⟨a104, rfl, hw⟩ := hw
        refine gf_X7_60 hC dX7_exit_60 ?_
        have h101 := hw.1
        replace hw := hw.2
        refine cl_X7_63 hC h101 (c_X0_takeBack (kL K) hw) (by rw [hR]; decide) (Nat.le_of_ble_eq_true rfl) dX7_exit_63 (fun r101 s104 hq => ?_)
        clear hw
        have hw := hq
        clear hq
        refine r_if_eq (tgt := 75) hC dX7_exit_66 (by decide) (fun h => ?_) (fun h => ?_)
        · replace hw := hw.1 h
          refine r_iinc (l' := [_, _, _, _, _]) hC dX7_exit_75 rfl rfl (by decide) rfl ?_
          refine r_goto (tgt := 39) hC dX7_exit_78 (by decide) ?_
          exact J.drop2 (ih (some a104) (x3 + 1) s104 hw) ⟨rfl, rfl, rfl, trivial⟩
        · replace hw := hw.2 h
          refine r_aload_n hC dX7_exit_69 rfl ?_
          refine r_aload hC dX7_exit_70 rfl ?_
          refine cl_X7_69 hC (c_X7_serveAll (kL K) hw) (by rw [hR]; decide) (Nat.le_of_ble_eq_true rfl) dX7_exit_72 (fun s105 hq => ?_)
          clear hw
          have hw := hq
          clear hq
          refine r_iinc (l' := [_, _, _, _, _]) hC dX7_exit_75 rfl rfl (by decide) rfl ?_
          refine r_goto (tgt := 39) hC dX7_exit_78 (by decide) ?_
          exact J.drop2 (ih (some a104) (x3 + 1) s105 hw) ⟨rfl, rfl, rfl, trivial⟩
def wp_X7_exit (x1 : Int) (σ : St) (po : Int → St → Prop) : Prop := wp_X7_processAt x1 σ (fun o101 s101 => (o101 = none → po (-2) s101) ∧
 (∀ a101, o101 = some a101 → (nm (gI s101 13 a101 0) ≠ 0 → (nm (gI s101 15 a101 0) = 0 → ∃ n9, wp_X7_exit_39 po n9 (some a101) 0 s101) ∧
 (nm (gI s101 15 a101 0) ≠ 0 → wp_X7_goOn (some a101) (-16) s101 (fun s106 => ∃ n9, wp_X7_exit_39 po n9 (some a101) 0 s106))) ∧
 (nm (gI s101 13 a101 0) = 0 → po (-3) s101)))
set_option maxRecDepth 100000 in
set_option maxHeartbeats 4000000 in
theorem c_X7_exit (l : Launch) {x1 : Int} {σ : St} {po : Int → St → Prop} (hw : wp_X7_exit x1 σ po) : MT l yX7_exit cX7_exit 5 (some .int) ({ frames := 5, cells := 0, slots := 0, locals := 119 } : Room) [wr 0 (some 0), wi x1] σ (PI po) := by
  refine MT_of (by decide) (Nat.le_of_ble_eq_true rfl) (fun K hL hR hC hM => ?_)
  subst hL
  unfold wp_X7_exit at hw
  show J K 0 [some (wr 0 (some 0)), some (wi x1), none, none, none] [] σ 0 0
  refine r_aload_n hC dX7_exit_0 rfl ?_
  refine r_iload_n hC dX7_exit_1 rfl ?_
  refine cl_X7_41 hC (c_X7_processAt (kL K) hw) (by rw [hR]; decide) (Nat.le_of_ble_eq_true rfl) dX7_exit_2 (fun o101 s101 hq => ?_)
  clear hw
  have hw := hq
  clear hq
  refine r_astore_n (l' := [_, _, _, _, _]) hC dX7_exit_5 rfl (by decide) rfl ?_
  refine r_aload_n hC dX7_exit_6 rfl ?_
  refine r_ifnonnull (tgt := 13) hC dX7_exit_7 (by decide) (fun a101 h => ?_) (fun h => ?_)
  · replace hw := hw.2 a101 h
    subst h
    refine r_aload_n hC dX7_exit_13 rfl ?_
    refine gf_X7_45 hC dX7_exit_14 ?_
    refine r_if_ne (tgt := 23) hC dX7_exit_17 (by decide) (fun h => ?_) (fun h => ?_)
    · replace hw := hw.1 h
      refine r_aload_n hC dX7_exit_23 rfl ?_
      refine gf_X7_49 hC dX7_exit_24 ?_
      refine r_if_eq (tgt := 37) hC dX7_exit_27 (by decide) (fun h => ?_) (fun h => ?_)
      · replace hw := hw.1 h
        refine r_iconst hC dX7_exit_37 ?_
        refine r_istore_n (l' := [_, _, _, _, _]) hC dX7_exit_38 rfl (by decide) rfl ?_
        obtain ⟨n9, hw⟩ := hw
        exact J.drop2 (j_X7_exit_39 hR hC hM n9 (some a101) 0 s101 hw) ⟨rfl, rfl, rfl, trivial⟩
      · replace hw := hw.2 h
        refine r_aload_n hC dX7_exit_30 rfl ?_
        refine r_aload_n hC dX7_exit_31 rfl ?_
        refine r_bipush hC dX7_exit_32 (by decide) ?_
        refine cl_X7_52 hC (c_X7_goOn (kL K) hw) (by rw [hR]; decide) (Nat.le_of_ble_eq_true rfl) dX7_exit_34 (fun s106 hq => ?_)
        clear hw
        have hw := hq
        clear hq
        refine r_iconst hC dX7_exit_37 ?_
        refine r_istore_n (l' := [_, _, _, _, _]) hC dX7_exit_38 rfl (by decide) rfl ?_
        obtain ⟨n9, hw⟩ := hw
        exact J.drop2 (j_X7_exit_39 hR hC hM n9 (some a101) 0 s106 hw) ⟨rfl, rfl, rfl, trivial⟩
    · replace hw := hw.2 h
      refine r_bipush hC dX7_exit_20 (by decide) ?_
      exact r_ireturn hC hM ⟨_, rfl, hw⟩ (by rw [hR]; decide) (by rw [hR]; decide) dX7_exit_22
  · replace hw := hw.1 h
    subst h
    refine r_bipush hC dX7_exit_10 (by decide) ?_
    exact r_ireturn hC hM ⟨_, rfl, hw⟩ (by rw [hR]; decide) (by rw [hR]; decide) dX7_exit_12
def wp_X7_signal (x1 : Int) (σ : St) (po : Int → St → Prop) : Prop := wp_X7_processAt x1 σ (fun o101 s101 => (o101 = none → po (-2) s101) ∧
 (∀ a101, o101 = some a101 → (nm (gI s101 15 a101 0) ≠ 0 → wp_X7_goOn (some a101) (-16) s101 (fun s102 => po 1 s102)) ∧
 (nm (gI s101 15 a101 0) = 0 → po (-3) s101)))
set_option maxRecDepth 100000 in
set_option maxHeartbeats 4000000 in
theorem c_X7_signal (l : Launch) {x1 : Int} {σ : St} {po : Int → St → Prop} (hw : wp_X7_signal x1 σ po) : MT l yX7_signal cX7_signal 3 (some .int) ({ frames := 2, cells := 0, slots := 0, locals := 42 } : Room) [wr 0 (some 0), wi x1] σ (PI po) := by
  refine MT_of (by decide) (Nat.le_of_ble_eq_true rfl) (fun K hL hR hC hM => ?_)
  subst hL
  unfold wp_X7_signal at hw
  show J K 0 [some (wr 0 (some 0)), some (wi x1), none] [] σ 0 0
  refine r_aload_n hC dX7_signal_0 rfl ?_
  refine r_iload_n hC dX7_signal_1 rfl ?_
  refine cl_X7_41 hC (c_X7_processAt (kL K) hw) (by rw [hR]; decide) (Nat.le_of_ble_eq_true rfl) dX7_signal_2 (fun o101 s101 hq => ?_)
  clear hw
  have hw := hq
  clear hq
  refine r_astore_n (l' := [_, _, _]) hC dX7_signal_5 rfl (by decide) rfl ?_
  refine r_aload_n hC dX7_signal_6 rfl ?_
  refine r_ifnonnull (tgt := 13) hC dX7_signal_7 (by decide) (fun a101 h => ?_) (fun h => ?_)
  · replace hw := hw.2 a101 h
    subst h
    refine r_aload_n hC dX7_signal_13 rfl ?_
    refine gf_X7_49 hC dX7_signal_14 ?_
    refine r_if_ne (tgt := 23) hC dX7_signal_17 (by decide) (fun h => ?_) (fun h => ?_)
    · replace hw := hw.1 h
      refine r_aload_n hC dX7_signal_23 rfl ?_
      refine r_aload_n hC dX7_signal_24 rfl ?_
      refine r_bipush hC dX7_signal_25 (by decide) ?_
      refine cl_X7_52 hC (c_X7_goOn (kL K) hw) (by rw [hR]; decide) (Nat.le_of_ble_eq_true rfl) dX7_signal_27 (fun s102 hq => ?_)
      clear hw
      have hw := hq
      clear hq
      refine r_iconst hC dX7_signal_30 ?_
      exact r_ireturn hC hM ⟨_, rfl, hw⟩ (by rw [hR]; decide) (by rw [hR]; decide) dX7_signal_31
    · replace hw := hw.2 h
      refine r_bipush hC dX7_signal_20 (by decide) ?_
      exact r_ireturn hC hM ⟨_, rfl, hw⟩ (by rw [hR]; decide) (by rw [hR]; decide) dX7_signal_22
  · replace hw := hw.1 h
    subst h
    refine r_bipush hC dX7_signal_10 (by decide) ?_
    exact r_ireturn hC hM ⟨_, rfl, hw⟩ (by rw [hR]; decide) (by rw [hR]; decide) dX7_signal_12
def wp_X7_result (x1 : Int) (σ : St) (po : Int → St → Prop) : Prop := wp_X7_processAt x1 σ (fun o101 s101 => (o101 = none → po (-2) s101) ∧
 (∀ a101, o101 = some a101 → po (gI s101 14 a101 0) s101))
set_option maxRecDepth 100000 in
set_option maxHeartbeats 4000000 in
theorem c_X7_result (l : Launch) {x1 : Int} {σ : St} {po : Int → St → Prop} (hw : wp_X7_result x1 σ po) : MT l yX7_result cX7_result 3 (some .int) ({ frames := 2, cells := 0, slots := 0, locals := 42 } : Room) [wr 0 (some 0), wi x1] σ (PI po) := by
  refine MT_of (by decide) (Nat.le_of_ble_eq_true rfl) (fun K hL hR hC hM => ?_)
  subst hL
  unfold wp_X7_result at hw
  show J K 0 [some (wr 0 (some 0)), some (wi x1), none] [] σ 0 0
  refine r_aload_n hC dX7_result_0 rfl ?_
  refine r_iload_n hC dX7_result_1 rfl ?_
  refine cl_X7_41 hC (c_X7_processAt (kL K) hw) (by rw [hR]; decide) (Nat.le_of_ble_eq_true rfl) dX7_result_2 (fun o101 s101 hq => ?_)
  clear hw
  have hw := hq
  clear hq
  refine r_astore_n (l' := [_, _, _]) hC dX7_result_5 rfl (by decide) rfl ?_
  refine r_aload_n hC dX7_result_6 rfl ?_
  refine r_ifnonnull (tgt := 15) hC dX7_result_7 (by decide) (fun a101 h => ?_) (fun h => ?_)
  · replace hw := hw.2 a101 h
    subst h
    refine r_aload_n hC dX7_result_15 rfl ?_
    refine gf_X7_73 hC dX7_result_16 ?_
    exact r_ireturn hC hM ⟨_, rfl, hw⟩ (by rw [hR]; decide) (by rw [hR]; decide) dX7_result_19
  · replace hw := hw.1 h
    subst h
    refine r_bipush hC dX7_result_10 (by decide) ?_
    refine r_goto (tgt := 19) hC dX7_result_12 (by decide) ?_
    exact r_ireturn hC hM ⟨_, rfl, hw⟩ (by rw [hR]; decide) (by rw [hR]; decide) dX7_result_19
def wp_X7_area (x1 : Int) (x2 : Int) (x3 : Int) (σ : St) (po : Int → St → Prop) : Prop := wp_X7_processAt x1 σ (fun o101 s101 => (o101 = none → po (-2) s101) ∧
 (∀ a101, o101 = some a101 → wp_X7_isWithin x2 63 s101 (fun r101 s102 => (nm r101 = 0 → po (-4) s102) ∧
 (nm r101 ≠ 0 → wp_X7_isWithin x3 255 s102 (fun r102 s103 => (nm r102 ≠ 0 → (0 ≤ nm x2 ∧ nm x2 < 64) ∧ (0 ≤ nm x2 ∧ nm x2 < 64) ∧ ∀ s104, s104 = uI s103 16 a101 (nm x2).toNat x3 → po (gI s103 16 a101 (nm x2).toNat) s104) ∧
 (nm r102 = 0 → po (-4) s103))))))
set_option maxRecDepth 100000 in
set_option maxHeartbeats 4000000 in
theorem c_X7_area (l : Launch) {x1 : Int} {x2 : Int} {x3 : Int} {σ : St} {po : Int → St → Prop} (hw : wp_X7_area x1 x2 x3 σ po) : MT l yX7_area cX7_area 6 (some .int) ({ frames := 2, cells := 0, slots := 0, locals := 42 } : Room) [wr 0 (some 0), wi x1, wi x2, wi x3] σ (PI po) := by
  refine MT_of (by decide) (Nat.le_of_ble_eq_true rfl) (fun K hL hR hC hM => ?_)
  subst hL
  unfold wp_X7_area at hw
  show J K 0 [some (wr 0 (some 0)), some (wi x1), some (wi x2), some (wi x3), none, none] [] σ 0 0
  refine r_aload_n hC dX7_area_0 rfl ?_
  refine r_iload_n hC dX7_area_1 rfl ?_
  refine cl_X7_41 hC (c_X7_processAt (kL K) hw) (by rw [hR]; decide) (Nat.le_of_ble_eq_true rfl) dX7_area_2 (fun o101 s101 hq => ?_)
  clear hw
  have hw := hq
  clear hq
  refine r_astore (l' := [_, _, _, _, _, _]) hC dX7_area_5 rfl (by decide) rfl ?_
  refine r_aload hC dX7_area_7 rfl ?_
  refine r_ifnonnull (tgt := 15) hC dX7_area_9 (by decide) (fun a101 h => ?_) (fun h => ?_)
  · replace hw := hw.2 a101 h
    subst h
    refine r_iload_n hC dX7_area_15 rfl ?_
    refine r_bipush hC dX7_area_16 (by decide) ?_
    refine cl_X7_34 hC (c_X7_isWithin (kL K) hw) (by rw [hR]; decide) (Nat.le_of_ble_eq_true rfl) dX7_area_18 (fun r101 s102 hq => ?_)
    clear hw
    have hw := hq
    clear hq
    refine r_if_eq (tgt := 34) hC dX7_area_21 (by decide) (fun h => ?_) (fun h => ?_)
    · replace hw := hw.1 h
      refine r_bipush hC dX7_area_34 (by decide) ?_
      exact r_ireturn hC hM ⟨_, rfl, hw⟩ (by rw [hR]; decide) (by rw [hR]; decide) dX7_area_36
    · replace hw := hw.2 h
      refine r_iload_n hC dX7_area_24 rfl ?_
      refine r_sipush hC dX7_area_25 (by decide) ?_
      refine cl_X7_34 hC (c_X7_isWithin (kL K) hw) (by rw [hR]; decide) (Nat.le_of_ble_eq_true rfl) dX7_area_28 (fun r102 s103 hq => ?_)
      clear hw
      have hw := hq
      clear hq
      refine r_if_ne (tgt := 37) hC dX7_area_31 (by decide) (fun h => ?_) (fun h => ?_)
      · replace hw := hw.1 h
        refine r_aload hC dX7_area_37 rfl ?_
        refine gf_X7_76 hC dX7_area_39 ?_
        refine r_iload_n hC dX7_area_42 rfl ?_
        refine r_iaload hC rfl (by decide) hw.1 dX7_area_43 ?_
        replace hw := hw.2
        refine r_istore (l' := [_, _, _, _, _, _]) hC dX7_area_44 rfl (by decide) rfl ?_
        refine r_aload hC dX7_area_46 rfl ?_
        refine gf_X7_76 hC dX7_area_48 ?_
        refine r_iload_n hC dX7_area_51 rfl ?_
        refine r_iload_n hC dX7_area_52 rfl ?_
        refine r_iastore hC rfl (by decide) hw.1 dX7_area_53 (fun s104 e9 => ?_)
        replace hw := hw.2 s104 e9
        clear e9
        refine r_iload hC dX7_area_54 rfl ?_
        exact r_ireturn hC hM ⟨_, rfl, hw⟩ (by rw [hR]; decide) (by rw [hR]; decide) dX7_area_56
      · replace hw := hw.2 h
        refine r_bipush hC dX7_area_34 (by decide) ?_
        exact r_ireturn hC hM ⟨_, rfl, hw⟩ (by rw [hR]; decide) (by rw [hR]; decide) dX7_area_36
  · replace hw := hw.1 h
    subst h
    refine r_bipush hC dX7_area_12 (by decide) ?_
    exact r_ireturn hC hM ⟨_, rfl, hw⟩ (by rw [hR]; decide) (by rw [hR]; decide) dX7_area_14
def wp_X7_areaAt (x1 : Int) (x2 : Int) (σ : St) (po : Int → St → Prop) : Prop := wp_X7_processAt x1 σ (fun o101 s101 => (o101 = none → po (-2) s101) ∧
 (∀ a101, o101 = some a101 → wp_X7_isWithin x2 63 s101 (fun r101 s102 => (nm r101 = 0 → po (-4) s102) ∧
 (nm r101 ≠ 0 → (0 ≤ nm x2 ∧ nm x2 < 64) ∧ po (gI s102 16 a101 (nm x2).toNat) s102))))
set_option maxRecDepth 100000 in
set_option maxHeartbeats 4000000 in
theorem c_X7_areaAt (l : Launch) {x1 : Int} {x2 : Int} {σ : St} {po : Int → St → Prop} (hw : wp_X7_areaAt x1 x2 σ po) : MT l yX7_areaAt cX7_areaAt 4 (some .int) ({ frames := 2, cells := 0, slots := 0, locals := 42 } : Room) [wr 0 (some 0), wi x1, wi x2] σ (PI po) := by
  refine MT_of (by decide) (Nat.le_of_ble_eq_true rfl) (fun K hL hR hC hM => ?_)
  subst hL
  unfold wp_X7_areaAt at hw
  show J K 0 [some (wr 0 (some 0)), some (wi x1), some (wi x2), none] [] σ 0 0
  refine r_aload_n hC dX7_areaAt_0 rfl ?_
  refine r_iload_n hC dX7_areaAt_1 rfl ?_
  refine cl_X7_41 hC (c_X7_processAt (kL K) hw) (by rw [hR]; decide) (Nat.le_of_ble_eq_true rfl) dX7_areaAt_2 (fun o101 s101 hq => ?_)
  clear hw
  have hw := hq
  clear hq
  refine r_astore_n (l' := [_, _, _, _]) hC dX7_areaAt_5 rfl (by decide) rfl ?_
  refine r_aload_n hC dX7_areaAt_6 rfl ?_
  refine r_ifnonnull (tgt := 13) hC dX7_areaAt_7 (by decide) (fun a101 h => ?_) (fun h => ?_)
  · replace hw := hw.2 a101 h
    subst h
    refine r_iload_n hC dX7_areaAt_13 rfl ?_
    refine r_bipush hC dX7_areaAt_14 (by decide) ?_
    refine cl_X7_34 hC (c_X7_isWithin (kL K) hw) (by rw [hR]; decide) (Nat.le_of_ble_eq_true rfl) dX7_areaAt_16 (fun r101 s102 hq => ?_)
    clear hw
    have hw := hq
    clear hq
    refine r_if_eq (tgt := 31) hC dX7_areaAt_19 (by decide) (fun h => ?_) (fun h => ?_)
    · replace hw := hw.1 h
      refine r_bipush hC dX7_areaAt_31 (by decide) ?_
      exact r_ireturn hC hM ⟨_, rfl, hw⟩ (by rw [hR]; decide) (by rw [hR]; decide) dX7_areaAt_33
    · replace hw := hw.2 h
      refine r_aload_n hC dX7_areaAt_22 rfl ?_
      refine gf_X7_76 hC dX7_areaAt_23 ?_
      refine r_iload_n hC dX7_areaAt_26 rfl ?_
      refine r_iaload hC rfl (by decide) hw.1 dX7_areaAt_27 ?_
      replace hw := hw.2
      refine r_goto (tgt := 33) hC dX7_areaAt_28 (by decide) ?_
      exact r_ireturn hC hM ⟨_, rfl, hw⟩ (by rw [hR]; decide) (by rw [hR]; decide) dX7_areaAt_33
  · replace hw := hw.1 h
    subst h
    refine r_bipush hC dX7_areaAt_10 (by decide) ?_
    exact r_ireturn hC hM ⟨_, rfl, hw⟩ (by rw [hR]; decide) (by rw [hR]; decide) dX7_areaAt_12
def wp_X7_taken (x1 : Int) (σ : St) (po : Int → St → Prop) : Prop := wp_X7_processAt x1 σ (fun o101 s101 => (o101 = none → po (-2) s101) ∧
 (∀ a101, o101 = some a101 → po (gL s101 10 a101 0) s101))
set_option maxRecDepth 100000 in
set_option maxHeartbeats 4000000 in
theorem c_X7_taken (l : Launch) {x1 : Int} {σ : St} {po : Int → St → Prop} (hw : wp_X7_taken x1 σ po) : MT l yX7_taken cX7_taken 3 (some .long) ({ frames := 2, cells := 0, slots := 0, locals := 42 } : Room) [wr 0 (some 0), wi x1] σ (PL po) := by
  refine MT_of (by decide) (Nat.le_of_ble_eq_true rfl) (fun K hL hR hC hM => ?_)
  subst hL
  unfold wp_X7_taken at hw
  show J K 0 [some (wr 0 (some 0)), some (wi x1), none] [] σ 0 0
  refine r_aload_n hC dX7_taken_0 rfl ?_
  refine r_iload_n hC dX7_taken_1 rfl ?_
  refine cl_X7_41 hC (c_X7_processAt (kL K) hw) (by rw [hR]; decide) (Nat.le_of_ble_eq_true rfl) dX7_taken_2 (fun o101 s101 hq => ?_)
  clear hw
  have hw := hq
  clear hq
  refine r_astore_n (l' := [_, _, _]) hC dX7_taken_5 rfl (by decide) rfl ?_
  refine r_aload_n hC dX7_taken_6 rfl ?_
  refine r_ifnonnull (tgt := 16) hC dX7_taken_7 (by decide) (fun a101 h => ?_) (fun h => ?_)
  · replace hw := hw.2 a101 h
    subst h
    refine r_aload_n hC dX7_taken_16 rfl ?_
    refine gf_X7_82 hC dX7_taken_17 ?_
    exact r_lreturn hC hM ⟨_, rfl, hw⟩ (by rw [hR]; decide) (by rw [hR]; decide) dX7_taken_20
  · replace hw := hw.1 h
    subst h
    refine r_ldc2 hC (-2) (wg 336 (by decide +kernel) (by decide +kernel)) rfl dX7_taken_10 ?_
    refine r_goto (tgt := 20) hC dX7_taken_13 (by decide) ?_
    exact r_lreturn hC hM ⟨_, rfl, hw⟩ (by rw [hR]; decide) (by rw [hR]; decide) dX7_taken_20
def wp_X2_isFree (a0 : Nat) (σ : St) (po : Int → St → Prop) : Prop := (nm (gI σ 13 a0 0) = 0 → po 0 σ) ∧
 (nm (gI σ 13 a0 0) ≠ 0 → (nm (gI σ 15 a0 0) ≠ 0 → po 0 σ) ∧
 (nm (gI σ 15 a0 0) = 0 → po 1 σ))
set_option maxRecDepth 100000 in
set_option maxHeartbeats 4000000 in
theorem c_X2_isFree (l : Launch) {a0 : Nat} {σ : St} {po : Int → St → Prop} (hw : wp_X2_isFree a0 σ po) : MT l yX2_isFree cX2_isFree 1 (some .boolean) ({ frames := 0, cells := 0, slots := 0, locals := 0 } : Room) [wr 10 (some a0)] σ (PI po) := by
  refine MT_of (by decide) (Nat.le_of_ble_eq_true rfl) (fun K hL hR hC hM => ?_)
  subst hL
  unfold wp_X2_isFree at hw
  show J K 0 [some (wr 10 (some a0))] [] σ 0 0
  refine r_aload_n hC dX2_isFree_0 rfl ?_
  refine gf_X2_36 hC dX2_isFree_1 ?_
  refine r_if_eq (tgt := 18) hC dX2_isFree_4 (by decide) (fun h => ?_) (fun h => ?_)
  · replace hw := hw.1 h
    refine r_iconst hC dX2_isFree_18 ?_
    exact r_zreturn hC hM (by decide) ⟨_, rfl, hw⟩ (by rw [hR]; decide) (by rw [hR]; decide) dX2_isFree_19
  · replace hw := hw.2 h
    refine r_aload_n hC dX2_isFree_7 rfl ?_
    refine gf_X2_48 hC dX2_isFree_8 ?_
    refine r_if_ne (tgt := 18) hC dX2_isFree_11 (by decide) (fun h => ?_) (fun h => ?_)
    · replace hw := hw.1 h
      refine r_iconst hC dX2_isFree_18 ?_
      exact r_zreturn hC hM (by decide) ⟨_, rfl, hw⟩ (by rw [hR]; decide) (by rw [hR]; decide) dX2_isFree_19
    · replace hw := hw.2 h
      refine r_iconst hC dX2_isFree_14 ?_
      refine r_goto (tgt := 19) hC dX2_isFree_15 (by decide) ?_
      exact r_zreturn hC hM (by decide) ⟨_, rfl, hw⟩ (by rw [hR]; decide) (by rw [hR]; decide) dX2_isFree_19
