/-! ===== typed contents: what stays during the finding of times (σ), what changes (x) ===== -/
/-- which objects stand, their addresses, the arrays' types and lengths, room -/
abbrev bt_A : Type := (Nat → Nat → Prop) × (Nat → Nat → Nat) × (Nat → Nat × Nat) × Nat
/-- numbers, references, lists -/
abbrev bt_X : Type := (Nat → Nat → Nat → Int32) × (Nat → Nat → Nat → Option Nat) × (Nat → List Nat)
abbrev bt_V (α : bt_A) : Nat → Nat → Prop := α.1
abbrev bt_ad (α : bt_A) : Nat → Nat → Nat := α.2.1
abbrev bt_at (α : bt_A) : Nat → Nat × Nat := α.2.2.1
abbrev bt_us (α : bt_A) : Nat := α.2.2.2
/-- 0 a number that changes, 1 a long, 2 a reference that changes, 3 a fixed reference, 4 a number that stays, 5 a reference that stays -/
def bt_t (c i k : Nat) : Nat := match c with
  | 0 => if k = 2 then 3 else if k = 4 then 0 else 4
  | 1 => if k = 0 then 3 else if k = 6 then 0 else 4
  | 2 => if k = 0 then 3 else if k = 2 then 5 else if k < 6 then 4 else if k < 8 then 5 else if k < 10 then 2 else 0
  | 3 => if k = 0 then 3 else 5
  | 4 => if k < 5 then 3 else 0
  | 5 => if k = 0 then 3 else 5
  | 6 => if k = 0 ∨ k = 21 then 0 else if k = 1 ∨ k = 7 then 4 else if k < 25 then 3 else 5
  | _ => if i = 0 then 3 else if i = 5 then 1 else if i < 5 then 4 else if i = 15 ∨ i = 16 ∨ 26 ≤ i then 0 else 4
/-- the class that a reference is of -/
def bt_c (c k : Nat) : Nat := match c with
  | 0 => 7
  | 1 => 7
  | 2 => if k = 0 then 0 else if k = 2 then 1 else 2
  | 3 => 8
  | 4 => if k = 2 then 3 else 7
  | 5 => 4
  | _ => 8
/-- the number that a fixed reference has -/
def bt_n (c i k : Nat) : Nat := match c with
  | 0 => 8 + i
  | 1 => 4 + i
  | 2 => i / 4
  | 3 => 0
  | 4 => if k = 1 then 1 else if k = 3 then 2 else if k = 4 then 3 else 0
  | 5 => 0
  | 6 => 10 + k
  | _ => 1 + k
def bt_v (α : bt_A) (σ x : bt_X) (c i k : Nat) : Value :=
  if bt_t c i k = 0 then .int (x.1 c i k)
  else if bt_t c i k = 1 then .long (x.1 c i k).toInt64
  else if bt_t c i k = 2 then va_rf ((x.2.1 c i k).map (bt_ad α (bt_c c k)))
  else if bt_t c i k = 3 then .ref (bt_ad α (bt_c c k) (bt_n c i k))
  else if bt_t c i k = 4 then .int (σ.1 c i k)
  else va_rf ((σ.2.1 c i k).map (bt_ad α (bt_c c k)))
/-- which lists stay -/
def bt_sl (n : Nat) : Bool := n < 2 || 8 ≤ n
def bt_l (σ x : bt_X) (n : Nat) : List Nat := if bt_sl n = true then σ.2.2 n else x.2.2 n
abbrev bt (α : bt_A) (σ x : bt_X) : bq_O := (α.1, α.2.1, bt_v α σ x, bt_l σ x, α.2.2.1, α.2.2.2)
/-- a number written -/
def bt_gs (x : bt_X) (c i k : Nat) (v : Int32) : bt_X := (fun c' i' k' => if c' = c ∧ i' = i ∧ k' = k then v else x.1 c' i' k', x.2)
/-- a reference written -/
def bt_rs (x : bt_X) (c i k : Nat) (v : Option Nat) : bt_X := (x.1, fun c' i' k' => if c' = c ∧ i' = i ∧ k' = k then v else x.2.1 c' i' k', x.2.2)
/-- a list written -/
def bt_lp (x : bt_X) (n : Nat) (v : List Nat) : bt_X := (x.1, x.2.1, fun m => if m = n then v else x.2.2 m)
section BT
variable {α : bt_A} {σ x : bt_X} {c i k : Nat}
theorem bt_eq0 {v : Int32} (ht : bt_t c i k = 0) : bq_f (bt α σ x) c i k (.int v) = bt α σ (bt_gs x c i k v) := by
  have e : (fun c' i' k' => if c' = c ∧ i' = i ∧ k' = k then Value.int v else bt_v α σ x c' i' k') = bt_v α σ (bt_gs x c i k v) := by
    funext c' i' k'
    by_cases e : c' = c ∧ i' = i ∧ k' = k
    · obtain ⟨rfl, rfl, rfl⟩ := e
      simp [bt_v, ht, bt_gs]
    · have e1 : (bt_gs x c i k v).1 c' i' k' = x.1 c' i' k' := if_neg e
      rw [if_neg e]
      unfold bt_v
      rw [e1]
      rfl
  show (α.1, α.2.1, (fun c' i' k' => if c' = c ∧ i' = i ∧ k' = k then Value.int v else bt_v α σ x c' i' k'), bt_l σ x, α.2.2.1, α.2.2.2) = _
  rw [e]
  rfl
theorem bt_eq1 {v : Int32} (ht : bt_t c i k = 1) : bq_f (bt α σ x) c i k (.long v.toInt64) = bt α σ (bt_gs x c i k v) := by
  have e : (fun c' i' k' => if c' = c ∧ i' = i ∧ k' = k then Value.long v.toInt64 else bt_v α σ x c' i' k') = bt_v α σ (bt_gs x c i k v) := by
    funext c' i' k'
    by_cases e : c' = c ∧ i' = i ∧ k' = k
    · obtain ⟨rfl, rfl, rfl⟩ := e
      simp [bt_v, ht, bt_gs]
    · have e1 : (bt_gs x c i k v).1 c' i' k' = x.1 c' i' k' := if_neg e
      rw [if_neg e]
      unfold bt_v
      rw [e1]
      rfl
  show (α.1, α.2.1, (fun c' i' k' => if c' = c ∧ i' = i ∧ k' = k then Value.long v.toInt64 else bt_v α σ x c' i' k'), bt_l σ x, α.2.2.1, α.2.2.2) = _
  rw [e]
  rfl
theorem bt_eq2 {v : Option Nat} (ht : bt_t c i k = 2) : bq_f (bt α σ x) c i k (va_rf (v.map (bt_ad α (bt_c c k)))) = bt α σ (bt_rs x c i k v) := by
  have e : (fun c' i' k' => if c' = c ∧ i' = i ∧ k' = k then va_rf (v.map (bt_ad α (bt_c c k))) else bt_v α σ x c' i' k') = bt_v α σ (bt_rs x c i k v) := by
    funext c' i' k'
    by_cases e : c' = c ∧ i' = i ∧ k' = k
    · obtain ⟨rfl, rfl, rfl⟩ := e
      simp [bt_v, ht, bt_rs]
    · have e1 : (bt_rs x c i k v).2.1 c' i' k' = x.2.1 c' i' k' := if_neg e
      rw [if_neg e]
      unfold bt_v
      rw [e1]
      rfl
  show (α.1, α.2.1, (fun c' i' k' => if c' = c ∧ i' = i ∧ k' = k then va_rf (v.map (bt_ad α (bt_c c k))) else bt_v α σ x c' i' k'), bt_l σ x, α.2.2.1, α.2.2.2) = _
  rw [e]
  rfl
theorem bt_eq4 {v : Int32} (ht : bt_t c i k = 4) : bq_f (bt α σ x) c i k (.int v) = bt α (bt_gs σ c i k v) x := by
  have e : (fun c' i' k' => if c' = c ∧ i' = i ∧ k' = k then Value.int v else bt_v α σ x c' i' k') = bt_v α (bt_gs σ c i k v) x := by
    funext c' i' k'
    by_cases e : c' = c ∧ i' = i ∧ k' = k
    · obtain ⟨rfl, rfl, rfl⟩ := e
      simp [bt_v, ht, bt_gs]
    · have e1 : (bt_gs σ c i k v).1 c' i' k' = σ.1 c' i' k' := if_neg e
      rw [if_neg e]
      unfold bt_v
      rw [e1]
      rfl
  show (α.1, α.2.1, (fun c' i' k' => if c' = c ∧ i' = i ∧ k' = k then Value.int v else bt_v α σ x c' i' k'), bt_l σ x, α.2.2.1, α.2.2.2) = _
  rw [e]
  rfl
theorem bt_eq5 {v : Option Nat} (ht : bt_t c i k = 5) : bq_f (bt α σ x) c i k (va_rf (v.map (bt_ad α (bt_c c k)))) = bt α (bt_rs σ c i k v) x := by
  have e : (fun c' i' k' => if c' = c ∧ i' = i ∧ k' = k then va_rf (v.map (bt_ad α (bt_c c k))) else bt_v α σ x c' i' k') = bt_v α (bt_rs σ c i k v) x := by
    funext c' i' k'
    by_cases e : c' = c ∧ i' = i ∧ k' = k
    · obtain ⟨rfl, rfl, rfl⟩ := e
      simp [bt_v, ht, bt_rs]
    · have e1 : (bt_rs σ c i k v).2.1 c' i' k' = σ.2.1 c' i' k' := if_neg e
      rw [if_neg e]
      unfold bt_v
      rw [e1]
      rfl
  show (α.1, α.2.1, (fun c' i' k' => if c' = c ∧ i' = i ∧ k' = k then va_rf (v.map (bt_ad α (bt_c c k))) else bt_v α σ x c' i' k'), bt_l σ x, α.2.2.1, α.2.2.2) = _
  rw [e]
  rfl
theorem bt_eql {n : Nat} {v : List Nat} (hn : bt_sl n = false) : bq_l (bt α σ x) n v = bt α σ (bt_lp x n v) := by
  have e : (fun m => if m = n then v else bt_l σ x m) = bt_l σ (bt_lp x n v) := by
    funext m
    by_cases e : m = n
    · subst e
      simp [bt_l, hn, bt_lp]
    · simp [bt_l, e, bt_lp]
  show (α.1, α.2.1, bt_v α σ x, (fun m => if m = n then v else bt_l σ x m), α.2.2.1, α.2.2.2) = _
  rw [e]
  rfl
theorem bt_eqs {n : Nat} {v : List Nat} (hn : bt_sl n = true) : bq_l (bt α σ x) n v = bt α (bt_lp σ n v) x := by
  have e : (fun m => if m = n then v else bt_l σ x m) = bt_l (bt_lp σ n v) x := by
    funext m
    by_cases e : m = n
    · subst e
      simp [bt_l, hn, bt_lp]
    · simp [bt_l, e, bt_lp]
  show (α.1, α.2.1, bt_v α σ x, (fun m => if m = n then v else bt_l σ x m), α.2.2.1, α.2.2.2) = _
  rw [e]
  rfl
theorem bt_lv {n : Nat} (hn : bt_sl n = false) : bt_l σ x n = x.2.2 n := by simp [bt_l, hn]
theorem bt_ls {n : Nat} (hn : bt_sl n = true) : bt_l σ x n = σ.2.2 n := by simp [bt_l, hn]
theorem bt_sl_row {m : Nat} (hm : m < 4) : bt_sl (4 + m) = false := by simp [bt_sl]; omega
theorem bt_sl_ops {j : Nat} : bt_sl (8 + j) = true := by simp [bt_sl]
theorem bt_lc_row {m : Nat} : bq_lc (4 + m) = 2 := by simp [bq_lc]; omega
theorem bt_lc_ops {m : Nat} : bq_lc (8 + m) = 2 := by simp [bq_lc]; omega
variable {G : bp_X} {M : bp_M} {d pc : Nat} {lv : List (Nat × Value)} {st : List Value} {Φ : bp_O → bq_O → Prop} {idx : Nat} {ty : FieldType} {fin : Option Bool}
theorem bt_get0 (hd : decode (bp_c M) pc = .ok (.getfield idx, 3)) (fl : bp_FL (bp_own_ M) idx c k ty fin) (hV : bt_V α c i) (ht : bt_t c i k = 0) (hck : c < 7 ∧ k < 32) (kk : bq_W G M d (pc + 3) lv (.int (x.1 c i k) :: st) (bt α σ x) Φ) : bq_W G M d pc lv (.ref (bt_ad α c i) :: st) (bt α σ x) Φ :=
  bq_getf (w := bt α σ x) hd fl hV (show bt_v α σ x c i k = .int (x.1 c i k) by simp [bt_v, ht]) hck kk
theorem bt_get4 (hd : decode (bp_c M) pc = .ok (.getfield idx, 3)) (fl : bp_FL (bp_own_ M) idx c k ty fin) (hV : bt_V α c i) (ht : bt_t c i k = 4) (hck : c < 7 ∧ k < 32) (kk : bq_W G M d (pc + 3) lv (.int (σ.1 c i k) :: st) (bt α σ x) Φ) : bq_W G M d pc lv (.ref (bt_ad α c i) :: st) (bt α σ x) Φ :=
  bq_getf (w := bt α σ x) hd fl hV (show bt_v α σ x c i k = .int (σ.1 c i k) by simp [bt_v, ht]) hck kk
theorem bt_get3 {c' n : Nat} (hd : decode (bp_c M) pc = .ok (.getfield idx, 3)) (fl : bp_FL (bp_own_ M) idx c k ty fin) (hV : bt_V α c i) (ht : bt_t c i k = 3 ∧ bt_c c k = c' ∧ bt_n c i k = n) (hck : c < 7 ∧ k < 32) (kk : bq_W G M d (pc + 3) lv (.ref (bt_ad α c' n) :: st) (bt α σ x) Φ) : bq_W G M d pc lv (.ref (bt_ad α c i) :: st) (bt α σ x) Φ :=
  bq_getf (w := bt α σ x) hd fl hV (show bt_v α σ x c i k = .ref (bt_ad α c' n) by simp [bt_v, ht.1, ht.2.1, ht.2.2]) hck kk
/-- a reference that changes: null or not -/
theorem bt_get2 {c' : Nat} (hd : decode (bp_c M) pc = .ok (.getfield idx, 3)) (fl : bp_FL (bp_own_ M) idx c k ty fin) (hV : bt_V α c i) (ht : bt_t c i k = 2 ∧ bt_c c k = c') (hck : c < 7 ∧ k < 32)
    (kn : x.2.1 c i k = none → bq_W G M d (pc + 3) lv (.null :: st) (bt α σ x) Φ) (ks : ∀ a, x.2.1 c i k = some a → bq_W G M d (pc + 3) lv (.ref (bt_ad α c' a) :: st) (bt α σ x) Φ) : bq_W G M d pc lv (.ref (bt_ad α c i) :: st) (bt α σ x) Φ := by
  cases e : x.2.1 c i k with
  | none => exact bq_getf (w := bt α σ x) hd fl hV (show bt_v α σ x c i k = .null by simp [bt_v, ht.1, e, va_rf]) hck (kn e)
  | some a => exact bq_getf (w := bt α σ x) hd fl hV (show bt_v α σ x c i k = .ref (bt_ad α c' a) by simp [bt_v, ht.1, ht.2, e, va_rf]) hck (ks a e)
theorem bt_get5 {c' : Nat} (hd : decode (bp_c M) pc = .ok (.getfield idx, 3)) (fl : bp_FL (bp_own_ M) idx c k ty fin) (hV : bt_V α c i) (ht : bt_t c i k = 5 ∧ bt_c c k = c') (hck : c < 7 ∧ k < 32)
    (kn : σ.2.1 c i k = none → bq_W G M d (pc + 3) lv (.null :: st) (bt α σ x) Φ) (ks : ∀ a, σ.2.1 c i k = some a → bq_W G M d (pc + 3) lv (.ref (bt_ad α c' a) :: st) (bt α σ x) Φ) : bq_W G M d pc lv (.ref (bt_ad α c i) :: st) (bt α σ x) Φ := by
  cases e : σ.2.1 c i k with
  | none => exact bq_getf (w := bt α σ x) hd fl hV (show bt_v α σ x c i k = .null by simp [bt_v, ht.1, e, va_rf]) hck (kn e)
  | some a => exact bq_getf (w := bt α σ x) hd fl hV (show bt_v α σ x c i k = .ref (bt_ad α c' a) by simp [bt_v, ht.1, ht.2, e, va_rf]) hck (ks a e)
/-- a reference that is known -/
theorem bt_get5s {c' a : Nat} (hd : decode (bp_c M) pc = .ok (.getfield idx, 3)) (fl : bp_FL (bp_own_ M) idx c k ty fin) (hV : bt_V α c i) (ht : bt_t c i k = 5 ∧ bt_c c k = c') (hck : c < 7 ∧ k < 32) (e : σ.2.1 c i k = some a)
    (kk : bq_W G M d (pc + 3) lv (.ref (bt_ad α c' a) :: st) (bt α σ x) Φ) : bq_W G M d pc lv (.ref (bt_ad α c i) :: st) (bt α σ x) Φ :=
  bq_getf (w := bt α σ x) hd fl hV (show bt_v α σ x c i k = .ref (bt_ad α c' a) by simp [bt_v, ht.1, ht.2, e, va_rf]) hck kk
theorem bt_put0 {v : Int32} (hd : decode (bp_c M) pc = .ok (.putfield idx, 3)) (fl : bp_FL (bp_own_ M) idx c k ty (some false)) (hV : bt_V α c i) (ht : bt_t c i k = 0) (hck : c < 7 ∧ k < 32) (hn : narrow ty (.int v) = .int v) (hf : fits ty (.int v) = true)
    (kk : bq_W G M d (pc + 3) lv st (bt α σ (bt_gs x c i k v)) Φ) : bq_W G M d pc lv (.int v :: .ref (bt_ad α c i) :: st) (bt α σ x) Φ :=
  bq_putf (w := bt α σ x) hd fl (Or.inl rfl) hV hck hn hf (bq_eqw (bt_eq0 ht) kk)
theorem bt_put4 {v : Int32} (hd : decode (bp_c M) pc = .ok (.putfield idx, 3)) (fl : bp_FL (bp_own_ M) idx c k ty (some false)) (hV : bt_V α c i) (ht : bt_t c i k = 4) (hck : c < 7 ∧ k < 32) (hn : narrow ty (.int v) = .int v) (hf : fits ty (.int v) = true)
    (kk : bq_W G M d (pc + 3) lv st (bt α (bt_gs σ c i k v) x) Φ) : bq_W G M d pc lv (.int v :: .ref (bt_ad α c i) :: st) (bt α σ x) Φ :=
  bq_putf (w := bt α σ x) hd fl (Or.inl rfl) hV hck hn hf (bq_eqw (bt_eq4 ht) kk)
theorem bt_put2 {c' a : Nat} (hd : decode (bp_c M) pc = .ok (.putfield idx, 3)) (fl : bp_FL (bp_own_ M) idx c k ty (some false)) (hV : bt_V α c i) (ht : bt_t c i k = 2 ∧ bt_c c k = c') (hck : c < 7 ∧ k < 32) (hn : narrow ty (.ref (bt_ad α c' a)) = .ref (bt_ad α c' a)) (hf : fits ty (.ref (bt_ad α c' a)) = true)
    (kk : bq_W G M d (pc + 3) lv st (bt α σ (bt_rs x c i k (some a))) Φ) : bq_W G M d pc lv (.ref (bt_ad α c' a) :: .ref (bt_ad α c i) :: st) (bt α σ x) Φ :=
  bq_putf (w := bt α σ x) hd fl (Or.inl rfl) hV hck hn hf (bq_eqw (by have := bt_eq2 (α := α) (σ := σ) (x := x) (v := some a) ht.1; rw [ht.2] at this; exact this) kk)
theorem bt_put2N (hd : decode (bp_c M) pc = .ok (.putfield idx, 3)) (fl : bp_FL (bp_own_ M) idx c k ty (some false)) (hV : bt_V α c i) (ht : bt_t c i k = 2) (hck : c < 7 ∧ k < 32) (hn : narrow ty .null = .null) (hf : fits ty .null = true)
    (kk : bq_W G M d (pc + 3) lv st (bt α σ (bt_rs x c i k none)) Φ) : bq_W G M d pc lv (.null :: .ref (bt_ad α c i) :: st) (bt α σ x) Φ :=
  bq_putf (w := bt α σ x) hd fl (Or.inl rfl) hV hck hn hf (bq_eqw (bt_eq2 (α := α) (σ := σ) (x := x) (v := none) ht) kk)
theorem bt_put5 {c' a : Nat} (hd : decode (bp_c M) pc = .ok (.putfield idx, 3)) (fl : bp_FL (bp_own_ M) idx c k ty (some false)) (hV : bt_V α c i) (ht : bt_t c i k = 5 ∧ bt_c c k = c') (hck : c < 7 ∧ k < 32) (hn : narrow ty (.ref (bt_ad α c' a)) = .ref (bt_ad α c' a)) (hf : fits ty (.ref (bt_ad α c' a)) = true)
    (kk : bq_W G M d (pc + 3) lv st (bt α (bt_rs σ c i k (some a)) x) Φ) : bq_W G M d pc lv (.ref (bt_ad α c' a) :: .ref (bt_ad α c i) :: st) (bt α σ x) Φ :=
  bq_putf (w := bt α σ x) hd fl (Or.inl rfl) hV hck hn hf (bq_eqw (by have := bt_eq5 (α := α) (σ := σ) (x := x) (v := some a) ht.1; rw [ht.2] at this; exact this) kk)
/-! arrays -/
variable {n len j : Nat} {ix : Int32}
theorem bt_iald4 (hd : decode (bp_c M) pc = .ok (.iaload, 1)) (hV : bt_V α 8 n ∧ bt_at α n = (0, len)) (hi : ix = nI j) (hj : j < len) (hn : len < 2 ^ 31) (ht : bt_t 8 n j = 4) (kk : bq_W G M d (pc + 1) lv (.int (σ.1 8 n j) :: st) (bt α σ x) Φ) : bq_W G M d pc lv (.int ix :: .ref (bt_ad α 8 n) :: st) (bt α σ x) Φ :=
  bq_iald (w := bt α σ x) hd hV.1 hV.2 hi hj hn (show bt_v α σ x 8 n j = .int (σ.1 8 n j) by simp [bt_v, ht]) kk
theorem bt_iald0 (hd : decode (bp_c M) pc = .ok (.iaload, 1)) (hV : bt_V α 8 n ∧ bt_at α n = (0, len)) (hi : ix = nI j) (hj : j < len) (hn : len < 2 ^ 31) (ht : bt_t 8 n j = 0) (kk : bq_W G M d (pc + 1) lv (.int (x.1 8 n j) :: st) (bt α σ x) Φ) : bq_W G M d pc lv (.int ix :: .ref (bt_ad α 8 n) :: st) (bt α σ x) Φ :=
  bq_iald (w := bt α σ x) hd hV.1 hV.2 hi hj hn (show bt_v α σ x 8 n j = .int (x.1 8 n j) by simp [bt_v, ht]) kk
theorem bt_aald3 {m : Nat} (hd : decode (bp_c M) pc = .ok (.aaload, 1)) (hV : bt_V α 8 n ∧ bt_at α n = (4, len)) (hi : ix = nI j) (hj : j < len) (hn : len < 2 ^ 31) (ht : bt_t 8 n j = 3 ∧ bt_n 8 n j = m) (kk : bq_W G M d (pc + 1) lv (.ref (bt_ad α 8 m) :: st) (bt α σ x) Φ) : bq_W G M d pc lv (.int ix :: .ref (bt_ad α 8 n) :: st) (bt α σ x) Φ :=
  bq_aald4 (w := bt α σ x) hd hV.1 hV.2 hi hj hn (show bt_v α σ x 8 n j = .ref (bt_ad α 8 m) by simp [bt_v, ht.1, ht.2, bt_c]) kk
theorem bt_iast4 {v : Int32} (hd : decode (bp_c M) pc = .ok (.iastore, 1)) (hV : bt_V α 8 n ∧ bt_at α n = (0, len)) (hi : ix = nI j) (hj : j < len) (hn : len < 2 ^ 31) (ht : bt_t 8 n j = 4) (kk : bq_W G M d (pc + 1) lv st (bt α (bt_gs σ 8 n j v) x) Φ) : bq_W G M d pc lv (.int v :: .int ix :: .ref (bt_ad α 8 n) :: st) (bt α σ x) Φ :=
  bq_iast (w := bt α σ x) hd hV.1 hV.2 hi hj hn (bq_eqw (bt_eq4 ht) kk)
theorem bt_iast0 {v : Int32} (hd : decode (bp_c M) pc = .ok (.iastore, 1)) (hV : bt_V α 8 n ∧ bt_at α n = (0, len)) (hi : ix = nI j) (hj : j < len) (hn : len < 2 ^ 31) (ht : bt_t 8 n j = 0) (kk : bq_W G M d (pc + 1) lv st (bt α σ (bt_gs x 8 n j v)) Φ) : bq_W G M d pc lv (.int v :: .int ix :: .ref (bt_ad α 8 n) :: st) (bt α σ x) Φ :=
  bq_iast (w := bt α σ x) hd hV.1 hV.2 hi hj hn (bq_eqw (bt_eq0 ht) kk)
/-! lists -/
variable {L : List Nat} {y : Nat}
theorem bt_els (hV : bt_V α 7 n) (kk : (∀ y ∈ bt_l σ x n, bt_V α (bq_lc n) y) → bq_W G M d pc lv st (bt α σ x) Φ) : bq_W G M d pc lv st (bt α σ x) Φ := by
  intro h hH
  have h2 := hH
  obtain ⟨cp, -, g, -⟩ := h2
  exact kk (g n hV).2.2 h hH
theorem bt_size (hd : decode (bp_c M) pc = .ok (.invokevirtual idx, 3)) (hm : bp_MV (bp_own_ M) idx mJx4a65c_size_8abf5 0 RJx4a65c) (hV : bt_V α 7 n) (hl : bt_l σ x n = L) (hdd : 1 ≤ d) (hst : (st.map fun v => v.category).sum ≤ 8) (kk : bq_W G M d (pc + 3) lv (.int (nI L.length) :: st) (bt α σ x) Φ) : bq_W G M d pc lv (.ref (bt_ad α 7 n) :: st) (bt α σ x) Φ := by
  subst hl
  exact bq_size (w := bt α σ x) hd hm hV hdd hst kk
theorem bt_isEmpty (hd : decode (bp_c M) pc = .ok (.invokevirtual idx, 3)) (hm : bp_MV (bp_own_ M) idx mJx4a65c_isEmpty_aae02 0 RJx4a65c) (hV : bt_V α 7 n) (hl : bt_l σ x n = L) (hdd : 1 ≤ d) (hst : (st.map fun v => v.category).sum ≤ 8) (kk : bq_W G M d (pc + 3) lv (.int (if L.length = 0 then nI 1 else nI 0) :: st) (bt α σ x) Φ) : bq_W G M d pc lv (.ref (bt_ad α 7 n) :: st) (bt α σ x) Φ := by
  subst hl
  exact bq_isEmpty (w := bt α σ x) hd hm hV hdd hst kk
theorem bt_geti {c' : Nat} (hd : decode (bp_c M) pc = .ok (.invokevirtual idx, 3)) (hm : bp_MV (bp_own_ M) idx mJx4a65c_get_915e3 1 RJx4a65c) (hV : bt_V α 7 n) (hl : bt_l σ x n = L) (hi : ix = nI j) (hy : L[j]? = some y) (hc : bq_lc n = c') (hdd : 3 ≤ d) (hst : (st.map fun v => v.category).sum ≤ 8) (kk : bt_V α c' y → bq_W G M d (pc + 3) lv (.ref (bt_ad α c' y) :: st) (bt α σ x) Φ) : bq_W G M d pc lv (.int ix :: .ref (bt_ad α 7 n) :: st) (bt α σ x) Φ := by
  subst hl; subst hc
  refine bt_els hV (fun g => ?_)
  exact bq_get (w := bt α σ x) hd hm hV hi hy hdd hst (kk (g y (List.mem_of_getElem? hy)))
theorem bt_add (hd : decode (bp_c M) pc = .ok (.invokevirtual idx, 3)) (hm : bp_MV (bp_own_ M) idx mJx4a65c_add_9ea2d 1 RJx4a65c) (hV : bt_V α 7 n) (hn : bt_sl n = false) (hc : c = bq_lc n) (hy : bt_V α c y) (hlen : (x.2.2 n).length < 33) (hdd : 7 ≤ d) (hst : (st.map fun v => v.category).sum ≤ 8) (kk : bq_W G M d (pc + 3) lv (.int (nI 1) :: st) (bt α σ (bt_lp x n (x.2.2 n ++ [y]))) Φ) : bq_W G M d pc lv (.ref (bt_ad α c y) :: .ref (bt_ad α 7 n) :: st) (bt α σ x) Φ := by
  refine bq_add (w := bt α σ x) hd hm hV hc hy (by show (bt_l σ x n).length < 33; rw [bt_lv hn]; exact hlen) hdd hst (bq_eqw (bt_eql hn) ?_)
  rw [show bq_ls (bt α σ x) n = x.2.2 n from bt_lv hn]
  exact kk
theorem bt_adds (hd : decode (bp_c M) pc = .ok (.invokevirtual idx, 3)) (hm : bp_MV (bp_own_ M) idx mJx4a65c_add_9ea2d 1 RJx4a65c) (hV : bt_V α 7 n) (hn : bt_sl n = true) (hc : c = bq_lc n) (hy : bt_V α c y) (hlen : (σ.2.2 n).length < 33) (hdd : 7 ≤ d) (hst : (st.map fun v => v.category).sum ≤ 8) (kk : bq_W G M d (pc + 3) lv (.int (nI 1) :: st) (bt α (bt_lp σ n (σ.2.2 n ++ [y])) x) Φ) : bq_W G M d pc lv (.ref (bt_ad α c y) :: .ref (bt_ad α 7 n) :: st) (bt α σ x) Φ := by
  refine bq_add (w := bt α σ x) hd hm hV hc hy (by show (bt_l σ x n).length < 33; rw [bt_ls hn]; exact hlen) hdd hst (bq_eqw (bt_eqs hn) ?_)
  rw [show bq_ls (bt α σ x) n = σ.2.2 n from bt_ls hn]
  exact kk
theorem bt_addi (hd : decode (bp_c M) pc = .ok (.invokevirtual idx, 3)) (hm : bp_MV (bp_own_ M) idx mJx4a65c_add_7a177 2 RJx4a65c) (hV : bt_V α 7 n) (hn : bt_sl n = false) (hi : ix = nI j) (hc : c = bq_lc n) (hy : bt_V α c y) (hj : j ≤ (x.2.2 n).length) (hlen : (x.2.2 n).length < 33) (hdd : 7 ≤ d) (hst : (st.map fun v => v.category).sum ≤ 8) (kk : bq_W G M d (pc + 3) lv st (bt α σ (bt_lp x n ((x.2.2 n).insertIdx j y))) Φ) : bq_W G M d pc lv (.ref (bt_ad α c y) :: .int ix :: .ref (bt_ad α 7 n) :: st) (bt α σ x) Φ := by
  refine bq_addi (w := bt α σ x) hd hm hV hi hc hy (by show j ≤ (bt_l σ x n).length; rw [bt_lv hn]; exact hj) (by show (bt_l σ x n).length < 33; rw [bt_lv hn]; exact hlen) hdd hst (bq_eqw (bt_eql hn) ?_)
  rw [show bq_ls (bt α σ x) n = x.2.2 n from bt_lv hn]
  exact kk
theorem bt_remove {c' : Nat} (hd : decode (bp_c M) pc = .ok (.invokevirtual idx, 3)) (hm : bp_MV (bp_own_ M) idx mJx4a65c_remove_915e3 1 RJx4a65c) (hV : bt_V α 7 n) (hn : bt_sl n = false) (hi : ix = nI j) (hy : (x.2.2 n)[j]? = some y) (hc : bq_lc n = c') (hdd : 4 ≤ d) (hst : (st.map fun v => v.category).sum ≤ 8) (kk : bq_W G M d (pc + 3) lv (.ref (bt_ad α c' y) :: st) (bt α σ (bt_lp x n ((x.2.2 n).eraseIdx j))) Φ) : bq_W G M d pc lv (.int ix :: .ref (bt_ad α 7 n) :: st) (bt α σ x) Φ := by
  subst hc
  refine bq_remove (w := bt α σ x) hd hm hV hi (show (bt_l σ x n)[j]? = some y by rw [bt_lv hn]; exact hy) hdd hst (bq_eqw (bt_eql hn) ?_)
  rw [show bq_ls (bt α σ x) n = x.2.2 n from bt_lv hn]
  exact kk
theorem bt_clear (hd : decode (bp_c M) pc = .ok (.invokevirtual idx, 3)) (hm : bp_MV (bp_own_ M) idx mJx4a65c_clear_da8c8 0 RJx4a65c) (hV : bt_V α 7 n) (hn : bt_sl n = false) (hdd : 2 ≤ d) (hst : (st.map fun v => v.category).sum ≤ 8) (kk : bq_W G M d (pc + 3) lv st (bt α σ (bt_lp x n [])) Φ) : bq_W G M d pc lv (.ref (bt_ad α 7 n) :: st) (bt α σ x) Φ :=
  bq_clear (w := bt α σ x) hd hm hV hdd hst (bq_eqw (bt_eql hn) kk)
end BT
section BTC
variable {α : bt_A} {σ x : bt_X} {c i k : Nat} {G : bp_X} {M : bp_M} {d pc : Nat} {lv : List (Nat × Value)} {st : List Value} {Φ : bp_O → bq_O → Prop} {idx : Nat}
theorem bt_cast {N : Nat} {C : String} {T : u_T} (hd : decode (bp_c M) pc = .ok (.checkcast idx, 3)) (hc : bp_cl[c]? = some (C, T, N)) (hw : Cond.classLink (bp_own_ M) idx C ∈ bp_UW) (hV : bt_V α c i) (hc7 : c < 7) (kk : bq_W G M d (pc + 3) lv (.ref (bt_ad α c i) :: st) (bt α σ x) Φ) : bq_W G M d pc lv (.ref (bt_ad α c i) :: st) (bt α σ x) Φ :=
  bq_cast (w := bt α σ x) hd hc hw hV hc7 kk
theorem bt_inj (kk : (∀ c i j : Nat, c < 9 → bt_V α c i → bt_V α c j → bt_ad α c i = bt_ad α c j → i = j) → bq_W G M d pc lv st (bt α σ x) Φ) : bq_W G M d pc lv st (bt α σ x) Φ := by
  intro h hH
  have h2 := hH
  obtain ⟨cp, -, -, -, g, -⟩ := h2
  exact kk g h hH
theorem bt_acmp_ne {j : Nat} {off : Int} {tgt : Nat} (hd : decode (bp_c M) pc = .ok (.if_acmp .ne off, 3)) (hc : c < 9) (hV : bt_V α c i) (hV2 : bt_V α c j) (ht : (pc : Int) + off = (tgt : Int)) (kt : ¬ i = j → bq_W G M d tgt lv st (bt α σ x) Φ) (kf : i = j → bq_W G M d (pc + 3) lv st (bt α σ x) Φ) :
    bq_W G M d pc lv (.ref (bt_ad α c j) :: .ref (bt_ad α c i) :: st) (bt α σ x) Φ :=
  bt_inj fun hj => bq_acmp_ne (rx := some (bt_ad α c i)) (ry := some (bt_ad α c j)) hd ht (fun z => kt (fun e => z (by rw [e]))) (fun z => kf (hj c i j hc hV hV2 (Option.some.inj z)))
variable {M' : bp_M} {d' N : Nat} {As st0 : List Value} {C : String} {T : u_T}
theorem bt_callV {Φ' : bp_O → bq_O → Prop} (hd : decode (bp_c M) pc = .ok (.invokevirtual idx, 3)) (hc : bp_cl[c]? = some (C, T, N)) (hm : bp_MV (bp_own_ M) idx M' As.length C) (hV : bt_V α c i) (hc7 : c < 7)
    (hM : bq_S G M' d' (.ref (bt_ad α c i) :: As) (bt α σ x) Φ') (hdd : d' + 1 ≤ d) (hn : bp_n M' ≤ 20) (hst : (st.map fun v => v.category).sum ≤ 8) (hst0 : st0 = As.reverse ++ .ref (bt_ad α c i) :: st)
    (kk : ∀ (v : Option Value) (w' : bq_O), Φ' (.inl v) w' → bq_W G M d (pc + 3) lv (v.toList ++ st) w' Φ) (kx : ∀ (E : String) (w' : bq_O), Φ' (.inr E) w' → bq_Wx G M d pc lv st w' E Φ) : bq_W G M d pc lv st0 (bt α σ x) Φ :=
  bq_callV (w := bt α σ x) hd hc hm hV hc7 hM hdd hn hst hst0 kk kx
theorem bt_callVr {v : Option Value} {w1 : bq_O} (hd : decode (bp_c M) pc = .ok (.invokevirtual idx, 3)) (hc : bp_cl[c]? = some (C, T, N)) (hm : bp_MV (bp_own_ M) idx M' As.length C) (hV : bt_V α c i) (hc7 : c < 7)
    (hM : bq_S G M' d' (.ref (bt_ad α c i) :: As) (bt α σ x) (bq_ret v w1)) (hdd : d' + 1 ≤ d) (hn : bp_n M' ≤ 20) (hst : (st.map fun v => v.category).sum ≤ 8) (hst0 : st0 = As.reverse ++ .ref (bt_ad α c i) :: st) (kk : bq_W G M d (pc + 3) lv (v.toList ++ st) w1 Φ) : bq_W G M d pc lv st0 (bt α σ x) Φ :=
  bq_callVr (w := bt α σ x) hd hc hm hV hc7 hM hdd hn hst hst0 kk
end BTC
/-- how a method ends, told outright -/
def bq_end (r : bp_O) (w : bq_O) : bp_O → bq_O → Prop := fun o w' => o = r ∧ w' = w
/-! ===== what holds of the class's objects ===== -/
/-- the family of an operation -/
def b_fn (σ : bt_X) (o : Nat) : Nat := (σ.1 2 o 4).toInt.toNat
/-- which arrays the class and its companion have, with type and length -/
def bt_arl (n : Nat) : Nat × Nat := if n = 0 then (4, 4) else if n < 5 then (0, 4) else if n = 5 then (2, 1) else if n < 16 then (0, 4) else if n = 16 then (0, 128) else if n = 20 then (1, 8) else if n < 20 then (0, 8) else if n < 25 then (0, 32) else if n = 25 then (0, 16) else if n = 26 then (1, 32) else if n < 33 then (0, 32) else (0, 256)
/-- what stands: the shop and its parts; whose lists; what operations know -/
def bt_J (α : bt_A) (σ x : bt_X) : Prop :=
  (bt_V α 3 0 ∧ bt_V α 4 0 ∧ bt_V α 5 0 ∧ bt_V α 7 0 ∧ bt_V α 7 1 ∧ bt_V α 7 2 ∧ bt_V α 7 3) ∧
  (∀ n : Nat, n < 5 → bt_V α 8 n ∧ bt_at α n = bt_arl n) ∧
  (∀ m : Nat, bt_V α 1 m → m < 4 ∧ bt_V α 7 (4 + m)) ∧ (∀ j : Nat, bt_V α 0 j → bt_V α 7 (8 + j)) ∧
  (∀ o : Nat, bt_V α 2 o → bt_V α 0 (o / 4) ∧ (∃ m : Nat, σ.2.1 2 o 2 = some m ∧ bt_V α 1 m) ∧ (σ.1 2 o 4 = nI (b_fn σ o) ∧ b_fn σ o < 4) ∧ (∀ a : Nat, σ.2.1 2 o 6 = some a → bt_V α 2 a) ∧ (∀ a : Nat, σ.2.1 2 o 7 = some a → bt_V α 2 a)) ∧
  (∀ o : Nat, bt_V α 2 o → (∀ a : Nat, x.2.1 2 o 8 = some a → bt_V α 2 a) ∧ (∀ a : Nat, x.2.1 2 o 9 = some a → bt_V α 2 a))
section BTJ
variable {α : bt_A} {σ x : bt_X}
theorem bt_J.v3 (J : bt_J α σ x) : bt_V α 3 0 := J.1.1
theorem bt_J.v4 (J : bt_J α σ x) : bt_V α 4 0 := J.1.2.1
theorem bt_J.v5 (J : bt_J α σ x) : bt_V α 5 0 := J.1.2.2.1
theorem bt_J.l0 (J : bt_J α σ x) : bt_V α 7 0 := J.1.2.2.2.1
theorem bt_J.l1 (J : bt_J α σ x) : bt_V α 7 1 := J.1.2.2.2.2.1
theorem bt_J.l2 (J : bt_J α σ x) : bt_V α 7 2 := J.1.2.2.2.2.2.1
theorem bt_J.l3 (J : bt_J α σ x) : bt_V α 7 3 := J.1.2.2.2.2.2.2
theorem bt_J.a0 (J : bt_J α σ x) : bt_V α 8 0 ∧ bt_at α 0 = (4, 4) := J.2.1 0 (by decide)
theorem bt_J.am (J : bt_J α σ x) {f : Nat} (hf : f < 4) : bt_V α 8 (1 + f) ∧ bt_at α (1 + f) = (0, 4) := by
  obtain ⟨h1, h2⟩ := J.2.1 (1 + f) (by omega)
  refine ⟨h1, h2.trans ?_⟩
  unfold bt_arl
  rw [if_neg (by omega), if_pos (by omega)]
theorem bt_J.m4 (J : bt_J α σ x) {m : Nat} (h : bt_V α 1 m) : m < 4 := (J.2.2.1 m h).1
theorem bt_J.row (J : bt_J α σ x) {m : Nat} (h : bt_V α 1 m) : bt_V α 7 (4 + m) := (J.2.2.1 m h).2
theorem bt_J.ops (J : bt_J α σ x) {j : Nat} (h : bt_V α 0 j) : bt_V α 7 (8 + j) := J.2.2.2.1 j h
theorem bt_J.job (J : bt_J α σ x) {o : Nat} (h : bt_V α 2 o) : bt_V α 0 (o / 4) := (J.2.2.2.2.1 o h).1
theorem bt_J.mach (J : bt_J α σ x) {o : Nat} (h : bt_V α 2 o) : ∃ m : Nat, σ.2.1 2 o 2 = some m ∧ bt_V α 1 m := (J.2.2.2.2.1 o h).2.1
theorem bt_J.fam (J : bt_J α σ x) {o : Nat} (h : bt_V α 2 o) : σ.1 2 o 4 = nI (b_fn σ o) ∧ b_fn σ o < 4 := (J.2.2.2.2.1 o h).2.2.1
theorem bt_J.lnk6 (J : bt_J α σ x) {o a : Nat} (h : bt_V α 2 o) (e : σ.2.1 2 o 6 = some a) : bt_V α 2 a := (J.2.2.2.2.1 o h).2.2.2.1 a e
theorem bt_J.lnk7 (J : bt_J α σ x) {o a : Nat} (h : bt_V α 2 o) (e : σ.2.1 2 o 7 = some a) : bt_V α 2 a := (J.2.2.2.2.1 o h).2.2.2.2 a e
theorem bt_J.lnk8 (J : bt_J α σ x) {o a : Nat} (h : bt_V α 2 o) (e : x.2.1 2 o 8 = some a) : bt_V α 2 a := (J.2.2.2.2.2 o h).1 a e
theorem bt_J.lnk9 (J : bt_J α σ x) {o a : Nat} (h : bt_V α 2 o) (e : x.2.1 2 o 9 = some a) : bt_V α 2 a := (J.2.2.2.2.2 o h).2 a e
/-- numbers and lists that change don't touch it -/
theorem bt_J.gs (J : bt_J α σ x) {c i k : Nat} {v : Int32} : bt_J α σ (bt_gs x c i k v) := J
theorem bt_J.lp (J : bt_J α σ x) {n : Nat} {v : List Nat} : bt_J α σ (bt_lp x n v) := J
theorem bt_J.any (J : bt_J α σ x) {y : bt_X} (h : y.2.1 = x.2.1) : bt_J α σ y := ⟨J.1, J.2.1, J.2.2.1, J.2.2.2.1, J.2.2.2.2.1, by rw [h]; exact J.2.2.2.2.2⟩
theorem bt_J.rs (J : bt_J α σ x) {o k : Nat} {v : Option Nat} (h : ∀ a : Nat, v = some a → bt_V α 2 a) : bt_J α σ (bt_rs x 2 o k v) := by
  refine ⟨J.1, J.2.1, J.2.2.1, J.2.2.2.1, J.2.2.2.2.1, fun o' hV => ?_⟩
  obtain ⟨h1, h2⟩ := J.2.2.2.2.2 o' hV
  unfold bt_rs
  refine ⟨fun a e => ?_, fun a e => ?_⟩
  · change (if (2 : Nat) = 2 ∧ o' = o ∧ 8 = k then v else x.2.1 2 o' 8) = some a at e
    by_cases z : (2 : Nat) = 2 ∧ o' = o ∧ 8 = k
    · rw [if_pos z] at e; exact h a e
    · rw [if_neg z] at e; exact h1 a e
  · change (if (2 : Nat) = 2 ∧ o' = o ∧ 9 = k then v else x.2.1 2 o' 9) = some a at e
    by_cases z : (2 : Nat) = 2 ∧ o' = o ∧ 9 = k
    · rw [if_pos z] at e; exact h a e
    · rw [if_neg z] at e; exact h2 a e
end BTJ

