theorem aTy_ne0i {k a : Nat} (h : aTy k a = 1) : aTy k a ≠ 0 := by rw [h]; decide
theorem nm_id {x : Int} (h : -2147483648 ≤ x ∧ x < 2147483648) : nm x = x := by
  unfold nm
  exact Int32.toInt_ofInt_of_le (by omega) (by omega)
/-! NEW OBJECTS: what the store is behind them -/
def mkMsg (σ : St) (u q1 q2 : Nat) : St := (fun k a => if k = 12 ∧ a = u then q1 else if k = 13 ∧ a = u then q2 else σ.1 k a, σ.2.1 ++ [(12, u), (13, u)], fun f a b => if (f = 17 ∨ f = 18) ∧ a = u then 0 else σ.2.2.1 f a b, fun f a b => if f = 11 ∧ a = u then 0 else σ.2.2.2.1 f a b, σ.2.2.2.2)
def newMsg (σ : St) (u : Nat) (σ' : St) : Prop := (12, u) ∉ σ.2.1 ∧ (13, u) ∉ σ.2.1 ∧ u % 2 = 1 ∧ ∃ q1 q2 : Nat, σ' = mkMsg σ u q1 q2
def tgProc (p : Nat) : List (Nat × Nat) := [(10, p), (11, p), (12, 2 * p), (13, 2 * p), (14, p), (15, p), (16, p), (17, p), (18, p)]
def mkProc (σ : St) (n u g : Int) (ad : Nat → Nat) : St := let p := (nm n).toNat
  (fun k a => if (k, a) ∈ tgProc p then ad k else σ.1 k a, σ.2.1 ++ tgProc p,
   fun f a b => if f = 10 ∧ a = p ∧ b = 0 then Int32.ofInt n else if f = 11 ∧ a = p ∧ b = 0 then Int32.ofInt u else if f = 12 ∧ a = p ∧ b = 0 then Int32.ofInt g else if f = 13 ∧ a = p ∧ b = 0 then 1 else if 14 ≤ f ∧ f ≤ 27 ∧ f ≠ 17 ∧ f ≠ 18 ∧ a = p then 0 else if (f = 17 ∨ f = 18) ∧ a = 2 * p then 0 else σ.2.2.1 f a b,
   fun f a b => if (f = 10 ∨ f = 12) ∧ a = p then 0 else if f = 11 ∧ a = 2 * p then 0 else σ.2.2.2.1 f a b,
   fun f a b => if f = 10 ∧ a = p then none else σ.2.2.2.2 f a b)
def freeProc (σ : St) (n _u _g : Int) : Prop := ∀ t ∈ tgProc (nm n).toNat, t ∉ σ.2.1
def newProc (σ : St) (n u g : Int) (σ' : St) : Prop := ∃ ad : Nat → Nat, σ' = mkProc σ n u g ad
def mkQueue (σ : St) (n : Int) (q1 q2 : Nat) : St := let t := (nm n).toNat
  (fun k a => if k = 20 ∧ a = t then q1 else if k = 21 ∧ a = t then q2 else σ.1 k a, σ.2.1 ++ [(20, t), (21, t)],
   fun f a b => if f = 30 ∧ a = t ∧ b = 0 then Int32.ofInt n else if f = 42 ∧ a = t ∧ b = 0 then 256 else if 30 ≤ f ∧ f ≤ 42 ∧ a = t then 0 else σ.2.2.1 f a b,
   σ.2.2.2.1, fun f a b => if f = 11 ∧ a = t then none else σ.2.2.2.2 f a b)
def freeQueue (σ : St) (n : Int) : Prop := (nm n).toNat < 12 ∧ (20, (nm n).toNat) ∉ σ.2.1 ∧ (21, (nm n).toNat) ∉ σ.2.1
def newQueue (σ : St) (n : Int) (σ' : St) : Prop := ∃ q1 q2 : Nat, σ' = mkQueue σ n q1 q2
def tgSet (t : Nat) : List (Nat × Nat) := [(20, t), (22, t), (23, t), (24, t), (25, t), (26, t)]
def mkCounterSet (σ : St) (n : Int) (ad : Nat → Nat) : St := let t := 12 + (nm n).toNat
  (fun k a => if (k, a) ∈ tgSet t then ad k else σ.1 k a, σ.2.1 ++ tgSet t,
   fun f a b => if f = 30 ∧ a = t ∧ b = 0 then Int32.ofInt n else if 30 ≤ f ∧ f ≤ 51 ∧ a = t then 0 else σ.2.2.1 f a b,
   σ.2.2.2.1, σ.2.2.2.2)
def freeCounterSet (σ : St) (n : Int) : Prop := ∀ t ∈ tgSet (12 + (nm n).toNat), t ∉ σ.2.1
def newCounterSet (σ : St) (n : Int) (σ' : St) : Prop := ∃ ad : Nat → Nat, σ' = mkCounterSet σ n ad
theorem new_X3_append {K : JK} (hC : Cx K cX3_append 3 RX3) {l : List (Option WV)} {st : List WV} {σ : St} {n1 n2 : Nat} (hr : 2 ≤ (kRm K).frames ∧ 40 ≤ (kRm K).locals ∧ n1 + 2 ≤ (kRm K).cells ∧ n2 + 67 ≤ (kRm K).slots) (k : ∀ u σ1, newMsg σ u σ1 → J K 29 l (wr 12 (some u) :: st) σ1 (n1 + 2) (n2 + 67)) : J K 22 l st σ n1 n2 := by
  sorry
theorem new_X7_process {K : JK} (hC : Cx K cX7_process 4 RX7) {u g n : Int} {l : List (Option WV)} {st : List WV} {σ : St} {n1 n2 : Nat} (hr : 3 ≤ (kRm K).frames ∧ 60 ≤ (kRm K).locals ∧ n1 + 9 ≤ (kRm K).cells ∧ n2 + 177 ≤ (kRm K).slots) (h3 : l[3]? = some (some (wi n))) (h1 : l[1]? = some (some (wi u))) (h2 : l[2]? = some (some (wi g))) (hf : freeProc σ n u g) (k : ∀ σ1, True → newProc σ n u g σ1 → J K 53 l (wr 10 (some (nm n).toNat) :: st) σ1 (n1 + 9) (n2 + 177)) : J K 43 l st σ n1 n2 := by
  sorry
theorem new_X7_makeQueue {K : JK} (hC : Cx K cX7_makeQueue 8 RX7) {n : Int} {l : List (Option WV)} {st : List WV} {σ : St} {n1 n2 : Nat} (hr : 3 ≤ (kRm K).frames ∧ 60 ≤ (kRm K).locals ∧ n1 + 2 ≤ (kRm K).cells ∧ n2 + 54 ≤ (kRm K).slots) (h4 : l[4]? = some (some (wi n))) (hf : freeQueue σ n) (k : ∀ σ1, (nm n).toNat < 12 → newQueue σ n σ1 → J K 62 l (wr 20 (some (nm n).toNat) :: st) σ1 (n1 + 2) (n2 + 54)) : J K 53 l st σ n1 n2 := by
  sorry
theorem new_X7_makeSet {K : JK} (hC : Cx K cX7_makeSet 9 RX7) {n : Int} {l : List (Option WV)} {st : List WV} {σ : St} {n1 n2 : Nat} (hr : 3 ≤ (kRm K).frames ∧ 60 ≤ (kRm K).locals ∧ n1 + 6 ≤ (kRm K).cells ∧ n2 + 177 ≤ (kRm K).slots) (h5 : l[5]? = some (some (wi n))) (hf : freeCounterSet σ n) (k : ∀ σ1, 12 ≤ 12 + (nm n).toNat → newCounterSet σ n σ1 → J K 69 l (wr 20 (some (12 + (nm n).toNat)) :: st) σ1 (n1 + 6) (n2 + 177)) : J K 60 l st σ n1 n2 := by
  sorry
