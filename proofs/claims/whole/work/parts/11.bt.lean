/-! ===== typed contents: what stays during the finding of times (σ), what changes (x) ===== -/
/-- which objects stand, their addresses, the arrays' types and lengths, room -/
abbrev bt_A : Type := (Nat → Nat → Prop) × (Nat → Nat → Nat) × (Nat → Nat × Nat) × Nat
/-- numbers, references, lists -/
abbrev bt_X : Type := (Nat → Nat → Nat → Int32) × (Nat → Nat → Nat → Option Nat) × (Nat → List Nat)
abbrev bt_V (α : bt_A) : Nat → Nat → Prop := α.1
abbrev bt_ad (α : bt_A) : Nat → Nat → Nat := α.2.1
abbrev bt_at (α : bt_A) : Nat → Nat × Nat := α.2.2.1
abbrev bt_us (α : bt_A) : Nat := α.2.2.2
/-- 0 a number that changes, 1 a long, 2 a reference that changes, 3 a fixed reference, 4 a number that stays, 5 a reference that stays -/
def bt_t (c i k : Nat) : Nat := match c with
  | 0 => if k = 2 then 3 else if k = 4 then 0 else 4
  | 1 => if k = 0 then 3 else if k = 6 then 0 else 4
  | 2 => if k = 0 then 3 else if k = 2 then 5 else if k < 6 then 4 else if k < 8 then 5 else if k < 10 then 2 else 0
  | 3 => 3
  | 4 => if k = 5 then 0 else 3
  | 5 => 3
  | 6 => if k = 0 ∨ k = 21 then 0 else if k = 1 ∨ k = 7 then 4 else 3
  | _ => if i = 0 then 3 else if i = 5 then 1 else if i < 5 then 4 else if i = 15 ∨ i = 16 ∨ 26 ≤ i then 0 else 4
/-- the class that a reference is of -/
def bt_c (c k : Nat) : Nat := match c with
  | 0 => 7
  | 1 => 7
  | 2 => if k = 0 then 0 else if k = 2 then 1 else 2
  | 3 => 8
  | 4 => if k = 2 then 3 else 7
  | 5 => 4
  | _ => 8
/-- the number that a fixed reference has -/
def bt_n (c i k : Nat) : Nat := match c with
  | 0 => 8 + i
  | 1 => 4 + i
  | 2 => i / 4
  | 3 => 0
  | 4 => if k = 1 then 1 else if k = 3 then 2 else if k = 4 then 3 else 0
  | 5 => 0
  | 6 => 10 + k
  | _ => 1 + k
def bt_v (α : bt_A) (σ x : bt_X) (c i k : Nat) : Value :=
  if bt_t c i k = 0 then .int (x.1 c i k)
  else if bt_t c i k = 1 then .long (x.1 c i k).toInt64
  else if bt_t c i k = 2 then va_rf ((x.2.1 c i k).map (bt_ad α (bt_c c k)))
  else if bt_t c i k = 3 then .ref (bt_ad α (bt_c c k) (bt_n c i k))
  else if bt_t c i k = 4 then .int (σ.1 c i k)
  else va_rf ((σ.2.1 c i k).map (bt_ad α (bt_c c k)))
/-- which lists stay -/
def bt_sl (n : Nat) : Bool := n < 2 || 8 ≤ n
def bt_l (σ x : bt_X) (n : Nat) : List Nat := if bt_sl n = true then σ.2.2 n else x.2.2 n
abbrev bt (α : bt_A) (σ x : bt_X) : bq_O := (α.1, α.2.1, bt_v α σ x, bt_l σ x, α.2.2.1, α.2.2.2)
/-- a number written -/
def bt_gs (x : bt_X) (c i k : Nat) (v : Int32) : bt_X := (fun c' i' k' => if c' = c ∧ i' = i ∧ k' = k then v else x.1 c' i' k', x.2)
/-- a reference written -/
def bt_rs (x : bt_X) (c i k : Nat) (v : Option Nat) : bt_X := (x.1, fun c' i' k' => if c' = c ∧ i' = i ∧ k' = k then v else x.2.1 c' i' k', x.2.2)
/-- a list written -/
def bt_lp (x : bt_X) (n : Nat) (v : List Nat) : bt_X := (x.1, x.2.1, fun m => if m = n then v else x.2.2 m)
section BT
variable {α : bt_A} {σ x : bt_X} {c i k : Nat}
theorem bt_eq0 {v : Int32} (ht : bt_t c i k = 0) : bq_f (bt α σ x) c i k (.int v) = bt α σ (bt_gs x c i k v) := by
  have e : (fun c' i' k' => if c' = c ∧ i' = i ∧ k' = k then Value.int v else bt_v α σ x c' i' k') = bt_v α σ (bt_gs x c i k v) := by
    funext c' i' k'
    by_cases e : c' = c ∧ i' = i ∧ k' = k
    · obtain ⟨rfl, rfl, rfl⟩ := e
      simp [bt_v, ht, bt_gs]
    · have e1 : (bt_gs x c i k v).1 c' i' k' = x.1 c' i' k' := if_neg e
      rw [if_neg e]
      unfold bt_v
      rw [e1]
      rfl
  show (α.1, α.2.1, (fun c' i' k' => if c' = c ∧ i' = i ∧ k' = k then Value.int v else bt_v α σ x c' i' k'), bt_l σ x, α.2.2.1, α.2.2.2) = _
  rw [e]
  rfl
theorem bt_eq1 {v : Int32} (ht : bt_t c i k = 1) : bq_f (bt α σ x) c i k (.long v.toInt64) = bt α σ (bt_gs x c i k v) := by
  have e : (fun c' i' k' => if c' = c ∧ i' = i ∧ k' = k then Value.long v.toInt64 else bt_v α σ x c' i' k') = bt_v α σ (bt_gs x c i k v) := by
    funext c' i' k'
    by_cases e : c' = c ∧ i' = i ∧ k' = k
    · obtain ⟨rfl, rfl, rfl⟩ := e
      simp [bt_v, ht, bt_gs]
    · have e1 : (bt_gs x c i k v).1 c' i' k' = x.1 c' i' k' := if_neg e
      rw [if_neg e]
      unfold bt_v
      rw [e1]
      rfl
  show (α.1, α.2.1, (fun c' i' k' => if c' = c ∧ i' = i ∧ k' = k then Value.long v.toInt64 else bt_v α σ x c' i' k'), bt_l σ x, α.2.2.1, α.2.2.2) = _
  rw [e]
  rfl
theorem bt_eq2 {v : Option Nat} (ht : bt_t c i k = 2) : bq_f (bt α σ x) c i k (va_rf (v.map (bt_ad α (bt_c c k)))) = bt α σ (bt_rs x c i k v) := by
  have e : (fun c' i' k' => if c' = c ∧ i' = i ∧ k' = k then va_rf (v.map (bt_ad α (bt_c c k))) else bt_v α σ x c' i' k') = bt_v α σ (bt_rs x c i k v) := by
    funext c' i' k'
    by_cases e : c' = c ∧ i' = i ∧ k' = k
    · obtain ⟨rfl, rfl, rfl⟩ := e
      simp [bt_v, ht, bt_rs]
    · have e1 : (bt_rs x c i k v).2.1 c' i' k' = x.2.1 c' i' k' := if_neg e
      rw [if_neg e]
      unfold bt_v
      rw [e1]
      rfl
  show (α.1, α.2.1, (fun c' i' k' => if c' = c ∧ i' = i ∧ k' = k then va_rf (v.map (bt_ad α (bt_c c k))) else bt_v α σ x c' i' k'), bt_l σ x, α.2.2.1, α.2.2.2) = _
  rw [e]
  rfl
theorem bt_eq4 {v : Int32} (ht : bt_t c i k = 4) : bq_f (bt α σ x) c i k (.int v) = bt α (bt_gs σ c i k v) x := by
  have e : (fun c' i' k' => if c' = c ∧ i' = i ∧ k' = k then Value.int v else bt_v α σ x c' i' k') = bt_v α (bt_gs σ c i k v) x := by
    funext c' i' k'
    by_cases e : c' = c ∧ i' = i ∧ k' = k
    · obtain ⟨rfl, rfl, rfl⟩ := e
      simp [bt_v, ht, bt_gs]
    · have e1 : (bt_gs σ c i k v).1 c' i' k' = σ.1 c' i' k' := if_neg e
      rw [if_neg e]
      unfold bt_v
      rw [e1]
      rfl
  show (α.1, α.2.1, (fun c' i' k' => if c' = c ∧ i' = i ∧ k' = k then Value.int v else bt_v α σ x c' i' k'), bt_l σ x, α.2.2.1, α.2.2.2) = _
  rw [e]
  rfl
theorem bt_eq5 {v : Option Nat} (ht : bt_t c i k = 5) : bq_f (bt α σ x) c i k (va_rf (v.map (bt_ad α (bt_c c k)))) = bt α (bt_rs σ c i k v) x := by
  have e : (fun c' i' k' => if c' = c ∧ i' = i ∧ k' = k then va_rf (v.map (bt_ad α (bt_c c k))) else bt_v α σ x c' i' k') = bt_v α (bt_rs σ c i k v) x := by
    funext c' i' k'
    by_cases e : c' = c ∧ i' = i ∧ k' = k
    · obtain ⟨rfl, rfl, rfl⟩ := e
      simp [bt_v, ht, bt_rs]
    · have e1 : (bt_rs σ c i k v).2.1 c' i' k' = σ.2.1 c' i' k' := if_neg e
      rw [if_neg e]
      unfold bt_v
      rw [e1]
      rfl
  show (α.1, α.2.1, (fun c' i' k' => if c' = c ∧ i' = i ∧ k' = k then va_rf (v.map (bt_ad α (bt_c c k))) else bt_v α σ x c' i' k'), bt_l σ x, α.2.2.1, α.2.2.2) = _
  rw [e]
  rfl
theorem bt_eql {n : Nat} {v : List Nat} (hn : bt_sl n = false) : bq_l (bt α σ x) n v = bt α σ (bt_lp x n v) := by
  have e : (fun m => if m = n then v else bt_l σ x m) = bt_l σ (bt_lp x n v) := by
    funext m
    by_cases e : m = n
    · subst e
      simp [bt_l, hn, bt_lp]
    · simp [bt_l, e, bt_lp]
  show (α.1, α.2.1, bt_v α σ x, (fun m => if m = n then v else bt_l σ x m), α.2.2.1, α.2.2.2) = _
  rw [e]
  rfl
theorem bt_eqs {n : Nat} {v : List Nat} (hn : bt_sl n = true) : bq_l (bt α σ x) n v = bt α (bt_lp σ n v) x := by
  have e : (fun m => if m = n then v else bt_l σ x m) = bt_l (bt_lp σ n v) x := by
    funext m
    by_cases e : m = n
    · subst e
      simp [bt_l, hn, bt_lp]
    · simp [bt_l, e, bt_lp]
  show (α.1, α.2.1, bt_v α σ x, (fun m => if m = n then v else bt_l σ x m), α.2.2.1, α.2.2.2) = _
  rw [e]
  rfl
theorem bt_lv {n : Nat} (hn : bt_sl n = false) : bt_l σ x n = x.2.2 n := by simp [bt_l, hn]
theorem bt_ls {n : Nat} (hn : bt_sl n = true) : bt_l σ x n = σ.2.2 n := by simp [bt_l, hn]
theorem bt_sl_row {m : Nat} (hm : m < 4) : bt_sl (4 + m) = false := by simp [bt_sl]; omega
theorem bt_sl_ops {j : Nat} : bt_sl (8 + j) = true := by simp [bt_sl]
theorem bt_lc_row {m : Nat} : bq_lc (4 + m) = 2 := by simp [bq_lc]; omega
theorem bt_lc_ops {m : Nat} : bq_lc (8 + m) = 2 := by simp [bq_lc]; omega
variable {G : bp_X} {M : bp_M} {d pc : Nat} {lv : List (Nat × Value)} {st : List Value} {Φ : bp_O → bq_O → Prop} {idx : Nat} {ty : FieldType} {fin : Option Bool}
theorem bt_get0 (hd : decode (bp_c M) pc = .ok (.getfield idx, 3)) (fl : bp_FL (bp_own_ M) idx c k ty fin) (hV : bt_V α c i) (ht : bt_t c i k = 0) (hck : c < 7 ∧ k < 32) (kk : bq_W G M d (pc + 3) lv (.int (x.1 c i k) :: st) (bt α σ x) Φ) : bq_W G M d pc lv (.ref (bt_ad α c i) :: st) (bt α σ x) Φ :=
  bq_getf (w := bt α σ x) hd fl hV (show bt_v α σ x c i k = .int (x.1 c i k) by simp [bt_v, ht]) hck kk
theorem bt_get4 (hd : decode (bp_c M) pc = .ok (.getfield idx, 3)) (fl : bp_FL (bp_own_ M) idx c k ty fin) (hV : bt_V α c i) (ht : bt_t c i k = 4) (hck : c < 7 ∧ k < 32) (kk : bq_W G M d (pc + 3) lv (.int (σ.1 c i k) :: st) (bt α σ x) Φ) : bq_W G M d pc lv (.ref (bt_ad α c i) :: st) (bt α σ x) Φ :=
  bq_getf (w := bt α σ x) hd fl hV (show bt_v α σ x c i k = .int (σ.1 c i k) by simp [bt_v, ht]) hck kk
theorem bt_get3 {c' n : Nat} (hd : decode (bp_c M) pc = .ok (.getfield idx, 3)) (fl : bp_FL (bp_own_ M) idx c k ty fin) (hV : bt_V α c i) (ht : bt_t c i k = 3 ∧ bt_c c k = c' ∧ bt_n c i k = n) (hck : c < 7 ∧ k < 32) (kk : bq_W G M d (pc + 3) lv (.ref (bt_ad α c' n) :: st) (bt α σ x) Φ) : bq_W G M d pc lv (.ref (bt_ad α c i) :: st) (bt α σ x) Φ :=
  bq_getf (w := bt α σ x) hd fl hV (show bt_v α σ x c i k = .ref (bt_ad α c' n) by simp [bt_v, ht.1, ht.2.1, ht.2.2]) hck kk
/-- a reference that changes: null or not -/
theorem bt_get2 {c' : Nat} (hd : decode (bp_c M) pc = .ok (.getfield idx, 3)) (fl : bp_FL (bp_own_ M) idx c k ty fin) (hV : bt_V α c i) (ht : bt_t c i k = 2 ∧ bt_c c k = c') (hck : c < 7 ∧ k < 32)
    (kn : x.2.1 c i k = none → bq_W G M d (pc + 3) lv (.null :: st) (bt α σ x) Φ) (ks : ∀ a, x.2.1 c i k = some a → bq_W G M d (pc + 3) lv (.ref (bt_ad α c' a) :: st) (bt α σ x) Φ) : bq_W G M d pc lv (.ref (bt_ad α c i) :: st) (bt α σ x) Φ := by
  cases e : x.2.1 c i k with
  | none => exact bq_getf (w := bt α σ x) hd fl hV (show bt_v α σ x c i k = .null by simp [bt_v, ht.1, e, va_rf]) hck (kn e)
  | some a => exact bq_getf (w := bt α σ x) hd fl hV (show bt_v α σ x c i k = .ref (bt_ad α c' a) by simp [bt_v, ht.1, ht.2, e, va_rf]) hck (ks a e)
theorem bt_get5 {c' : Nat} (hd : decode (bp_c M) pc = .ok (.getfield idx, 3)) (fl : bp_FL (bp_own_ M) idx c k ty fin) (hV : bt_V α c i) (ht : bt_t c i k = 5 ∧ bt_c c k = c') (hck : c < 7 ∧ k < 32)
    (kn : σ.2.1 c i k = none → bq_W G M d (pc + 3) lv (.null :: st) (bt α σ x) Φ) (ks : ∀ a, σ.2.1 c i k = some a → bq_W G M d (pc + 3) lv (.ref (bt_ad α c' a) :: st) (bt α σ x) Φ) : bq_W G M d pc lv (.ref (bt_ad α c i) :: st) (bt α σ x) Φ := by
  cases e : σ.2.1 c i k with
  | none => exact bq_getf (w := bt α σ x) hd fl hV (show bt_v α σ x c i k = .null by simp [bt_v, ht.1, e, va_rf]) hck (kn e)
  | some a => exact bq_getf (w := bt α σ x) hd fl hV (show bt_v α σ x c i k = .ref (bt_ad α c' a) by simp [bt_v, ht.1, ht.2, e, va_rf]) hck (ks a e)
/-- a reference that is known -/
theorem bt_get5s {c' a : Nat} (hd : decode (bp_c M) pc = .ok (.getfield idx, 3)) (fl : bp_FL (bp_own_ M) idx c k ty fin) (hV : bt_V α c i) (ht : bt_t c i k = 5 ∧ bt_c c k = c') (hck : c < 7 ∧ k < 32) (e : σ.2.1 c i k = some a)
    (kk : bq_W G M d (pc + 3) lv (.ref (bt_ad α c' a) :: st) (bt α σ x) Φ) : bq_W G M d pc lv (.ref (bt_ad α c i) :: st) (bt α σ x) Φ :=
  bq_getf (w := bt α σ x) hd fl hV (show bt_v α σ x c i k = .ref (bt_ad α c' a) by simp [bt_v, ht.1, ht.2, e, va_rf]) hck kk
theorem bt_put0 {v : Int32} (hd : decode (bp_c M) pc = .ok (.putfield idx, 3)) (fl : bp_FL (bp_own_ M) idx c k ty (some false)) (hV : bt_V α c i) (ht : bt_t c i k = 0) (hck : c < 7 ∧ k < 32) (hn : narrow ty (.int v) = .int v) (hf : fits ty (.int v) = true)
    (kk : bq_W G M d (pc + 3) lv st (bt α σ (bt_gs x c i k v)) Φ) : bq_W G M d pc lv (.int v :: .ref (bt_ad α c i) :: st) (bt α σ x) Φ :=
  bq_putf (w := bt α σ x) hd fl (Or.inl rfl) hV hck hn hf (bq_eqw (bt_eq0 ht) kk)
theorem bt_put4 {v : Int32} (hd : decode (bp_c M) pc = .ok (.putfield idx, 3)) (fl : bp_FL (bp_own_ M) idx c k ty (some false)) (hV : bt_V α c i) (ht : bt_t c i k = 4) (hck : c < 7 ∧ k < 32) (hn : narrow ty (.int v) = .int v) (hf : fits ty (.int v) = true)
    (kk : bq_W G M d (pc + 3) lv st (bt α (bt_gs σ c i k v) x) Φ) : bq_W G M d pc lv (.int v :: .ref (bt_ad α c i) :: st) (bt α σ x) Φ :=
  bq_putf (w := bt α σ x) hd fl (Or.inl rfl) hV hck hn hf (bq_eqw (bt_eq4 ht) kk)
theorem bt_put2 {c' a : Nat} (hd : decode (bp_c M) pc = .ok (.putfield idx, 3)) (fl : bp_FL (bp_own_ M) idx c k ty (some false)) (hV : bt_V α c i) (ht : bt_t c i k = 2 ∧ bt_c c k = c') (hck : c < 7 ∧ k < 32) (hn : narrow ty (.ref (bt_ad α c' a)) = .ref (bt_ad α c' a)) (hf : fits ty (.ref (bt_ad α c' a)) = true)
    (kk : bq_W G M d (pc + 3) lv st (bt α σ (bt_rs x c i k (some a))) Φ) : bq_W G M d pc lv (.ref (bt_ad α c' a) :: .ref (bt_ad α c i) :: st) (bt α σ x) Φ :=
  bq_putf (w := bt α σ x) hd fl (Or.inl rfl) hV hck hn hf (bq_eqw (by have := bt_eq2 (α := α) (σ := σ) (x := x) (v := some a) ht.1; rw [ht.2] at this; exact this) kk)
theorem bt_put2N (hd : decode (bp_c M) pc = .ok (.putfield idx, 3)) (fl : bp_FL (bp_own_ M) idx c k ty (some false)) (hV : bt_V α c i) (ht : bt_t c i k = 2) (hck : c < 7 ∧ k < 32) (hn : narrow ty .null = .null) (hf : fits ty .null = true)
    (kk : bq_W G M d (pc + 3) lv st (bt α σ (bt_rs x c i k none)) Φ) : bq_W G M d pc lv (.null :: .ref (bt_ad α c i) :: st) (bt α σ x) Φ :=
  bq_putf (w := bt α σ x) hd fl (Or.inl rfl) hV hck hn hf (bq_eqw (bt_eq2 (α := α) (σ := σ) (x := x) (v := none) ht) kk)
theorem bt_put5 {c' a : Nat} (hd : decode (bp_c M) pc = .ok (.putfield idx, 3)) (fl : bp_FL (bp_own_ M) idx c k ty (some false)) (hV : bt_V α c i) (ht : bt_t c i k = 5 ∧ bt_c c k = c') (hck : c < 7 ∧ k < 32) (hn : narrow ty (.ref (bt_ad α c' a)) = .ref (bt_ad α c' a)) (hf : fits ty (.ref (bt_ad α c' a)) = true)
    (kk : bq_W G M d (pc + 3) lv st (bt α (bt_rs σ c i k (some a)) x) Φ) : bq_W G M d pc lv (.ref (bt_ad α c' a) :: .ref (bt_ad α c i) :: st) (bt α σ x) Φ :=
  bq_putf (w := bt α σ x) hd fl (Or.inl rfl) hV hck hn hf (bq_eqw (by have := bt_eq5 (α := α) (σ := σ) (x := x) (v := some a) ht.1; rw [ht.2] at this; exact this) kk)
/-! arrays -/
variable {n len j : Nat} {ix : Int32}
theorem bt_iald4 (hd : decode (bp_c M) pc = .ok (.iaload, 1)) (hV : bt_V α 8 n ∧ bt_at α n = (0, len)) (hi : ix = nI j) (hj : j < len) (hn : len < 2 ^ 31) (ht : bt_t 8 n j = 4) (kk : bq_W G M d (pc + 1) lv (.int (σ.1 8 n j) :: st) (bt α σ x) Φ) : bq_W G M d pc lv (.int ix :: .ref (bt_ad α 8 n) :: st) (bt α σ x) Φ :=
  bq_iald (w := bt α σ x) hd hV.1 hV.2 hi hj hn (show bt_v α σ x 8 n j = .int (σ.1 8 n j) by simp [bt_v, ht]) kk
theorem bt_iald0 (hd : decode (bp_c M) pc = .ok (.iaload, 1)) (hV : bt_V α 8 n ∧ bt_at α n = (0, len)) (hi : ix = nI j) (hj : j < len) (hn : len < 2 ^ 31) (ht : bt_t 8 n j = 0) (kk : bq_W G M d (pc + 1) lv (.int (x.1 8 n j) :: st) (bt α σ x) Φ) : bq_W G M d pc lv (.int ix :: .ref (bt_ad α 8 n) :: st) (bt α σ x) Φ :=
  bq_iald (w := bt α σ x) hd hV.1 hV.2 hi hj hn (show bt_v α σ x 8 n j = .int (x.1 8 n j) by simp [bt_v, ht]) kk
theorem bt_zald4 (hd : decode (bp_c M) pc = .ok (.baload, 1)) (hV : bt_V α 8 n ∧ bt_at α n = (1, len)) (hi : ix = nI j) (hj : j < len) (hn : len < 2 ^ 31) (ht : bt_t 8 n j = 4) (kk : bq_W G M d (pc + 1) lv (.int (σ.1 8 n j) :: st) (bt α σ x) Φ) : bq_W G M d pc lv (.int ix :: .ref (bt_ad α 8 n) :: st) (bt α σ x) Φ :=
  bq_zald (w := bt α σ x) hd hV.1 hV.2 hi hj hn (show bt_v α σ x 8 n j = .int (σ.1 8 n j) by simp [bt_v, ht]) kk
theorem bt_zald0 (hd : decode (bp_c M) pc = .ok (.baload, 1)) (hV : bt_V α 8 n ∧ bt_at α n = (1, len)) (hi : ix = nI j) (hj : j < len) (hn : len < 2 ^ 31) (ht : bt_t 8 n j = 0) (kk : bq_W G M d (pc + 1) lv (.int (x.1 8 n j) :: st) (bt α σ x) Φ) : bq_W G M d pc lv (.int ix :: .ref (bt_ad α 8 n) :: st) (bt α σ x) Φ :=
  bq_zald (w := bt α σ x) hd hV.1 hV.2 hi hj hn (show bt_v α σ x 8 n j = .int (x.1 8 n j) by simp [bt_v, ht]) kk
theorem bt_lald1 (hd : decode (bp_c M) pc = .ok (.laload, 1)) (hV : bt_V α 8 n ∧ bt_at α n = (2, len)) (hi : ix = nI j) (hj : j < len) (hn : len < 2 ^ 31) (ht : bt_t 8 n j = 1) (kk : bq_W G M d (pc + 1) lv (.long (x.1 8 n j).toInt64 :: st) (bt α σ x) Φ) : bq_W G M d pc lv (.int ix :: .ref (bt_ad α 8 n) :: st) (bt α σ x) Φ :=
  bq_lald (w := bt α σ x) hd hV.1 hV.2 hi hj hn (show bt_v α σ x 8 n j = .long (x.1 8 n j).toInt64 by simp [bt_v, ht]) kk
theorem bt_aald3 {m : Nat} (hd : decode (bp_c M) pc = .ok (.aaload, 1)) (hV : bt_V α 8 n ∧ bt_at α n = (4, len)) (hi : ix = nI j) (hj : j < len) (hn : len < 2 ^ 31) (ht : bt_t 8 n j = 3 ∧ bt_n 8 n j = m) (kk : bq_W G M d (pc + 1) lv (.ref (bt_ad α 8 m) :: st) (bt α σ x) Φ) : bq_W G M d pc lv (.int ix :: .ref (bt_ad α 8 n) :: st) (bt α σ x) Φ :=
  bq_aald4 (w := bt α σ x) hd hV.1 hV.2 hi hj hn (show bt_v α σ x 8 n j = .ref (bt_ad α 8 m) by simp [bt_v, ht.1, ht.2, bt_c]) kk
theorem bt_iast4 {v : Int32} (hd : decode (bp_c M) pc = .ok (.iastore, 1)) (hV : bt_V α 8 n ∧ bt_at α n = (0, len)) (hi : ix = nI j) (hj : j < len) (hn : len < 2 ^ 31) (ht : bt_t 8 n j = 4) (kk : bq_W G M d (pc + 1) lv st (bt α (bt_gs σ 8 n j v) x) Φ) : bq_W G M d pc lv (.int v :: .int ix :: .ref (bt_ad α 8 n) :: st) (bt α σ x) Φ :=
  bq_iast (w := bt α σ x) hd hV.1 hV.2 hi hj hn (bq_eqw (bt_eq4 ht) kk)
theorem bt_iast0 {v : Int32} (hd : decode (bp_c M) pc = .ok (.iastore, 1)) (hV : bt_V α 8 n ∧ bt_at α n = (0, len)) (hi : ix = nI j) (hj : j < len) (hn : len < 2 ^ 31) (ht : bt_t 8 n j = 0) (kk : bq_W G M d (pc + 1) lv st (bt α σ (bt_gs x 8 n j v)) Φ) : bq_W G M d pc lv (.int v :: .int ix :: .ref (bt_ad α 8 n) :: st) (bt α σ x) Φ :=
  bq_iast (w := bt α σ x) hd hV.1 hV.2 hi hj hn (bq_eqw (bt_eq0 ht) kk)
theorem bt_zast4 {v : Int32} (hd : decode (bp_c M) pc = .ok (.bastore, 1)) (hV : bt_V α 8 n ∧ bt_at α n = (1, len)) (hi : ix = nI j) (hj : j < len) (hn : len < 2 ^ 31) (ht : bt_t 8 n j = 4) (hv : narrow .boolean (.int v) = .int v) (kk : bq_W G M d (pc + 1) lv st (bt α (bt_gs σ 8 n j v) x) Φ) : bq_W G M d pc lv (.int v :: .int ix :: .ref (bt_ad α 8 n) :: st) (bt α σ x) Φ :=
  bq_zast (w := bt α σ x) hd hV.1 hV.2 hi hj hn (by rw [hv]; exact bq_eqw (bt_eq4 ht) kk)
theorem bt_zast0 {v : Int32} (hd : decode (bp_c M) pc = .ok (.bastore, 1)) (hV : bt_V α 8 n ∧ bt_at α n = (1, len)) (hi : ix = nI j) (hj : j < len) (hn : len < 2 ^ 31) (ht : bt_t 8 n j = 0) (hv : narrow .boolean (.int v) = .int v) (kk : bq_W G M d (pc + 1) lv st (bt α σ (bt_gs x 8 n j v)) Φ) : bq_W G M d pc lv (.int v :: .int ix :: .ref (bt_ad α 8 n) :: st) (bt α σ x) Φ :=
  bq_zast (w := bt α σ x) hd hV.1 hV.2 hi hj hn (by rw [hv]; exact bq_eqw (bt_eq0 ht) kk)
theorem bt_last1 {v : Int32} (hd : decode (bp_c M) pc = .ok (.lastore, 1)) (hV : bt_V α 8 n ∧ bt_at α n = (2, len)) (hi : ix = nI j) (hj : j < len) (hn : len < 2 ^ 31) (ht : bt_t 8 n j = 1) (kk : bq_W G M d (pc + 1) lv st (bt α σ (bt_gs x 8 n j v)) Φ) : bq_W G M d pc lv (.long v.toInt64 :: .int ix :: .ref (bt_ad α 8 n) :: st) (bt α σ x) Φ :=
  bq_last (w := bt α σ x) hd hV.1 hV.2 hi hj hn (bq_eqw (bt_eq1 ht) kk)
/-! lists -/
variable {L : List Nat} {y : Nat}
theorem bt_els (hV : bt_V α 7 n) (kk : (∀ y ∈ bt_l σ x n, bt_V α (bq_lc n) y) → bq_W G M d pc lv st (bt α σ x) Φ) : bq_W G M d pc lv st (bt α σ x) Φ := by
  intro h hH
  have h2 := hH
  obtain ⟨cp, -, g, -⟩ := h2
  exact kk (g n hV).2.2 h hH
theorem bt_size (hd : decode (bp_c M) pc = .ok (.invokevirtual idx, 3)) (hm : bp_MV (bp_own_ M) idx mJx4a65c_size_8abf5 0 RJx4a65c) (hV : bt_V α 7 n) (hl : bt_l σ x n = L) (hdd : 1 ≤ d) (hst : (st.map fun v => v.category).sum ≤ 8) (kk : bq_W G M d (pc + 3) lv (.int (nI L.length) :: st) (bt α σ x) Φ) : bq_W G M d pc lv (.ref (bt_ad α 7 n) :: st) (bt α σ x) Φ := by
  subst hl
  exact bq_size (w := bt α σ x) hd hm hV hdd hst kk
theorem bt_isEmpty (hd : decode (bp_c M) pc = .ok (.invokevirtual idx, 3)) (hm : bp_MV (bp_own_ M) idx mJx4a65c_isEmpty_aae02 0 RJx4a65c) (hV : bt_V α 7 n) (hl : bt_l σ x n = L) (hdd : 1 ≤ d) (hst : (st.map fun v => v.category).sum ≤ 8) (kk : bq_W G M d (pc + 3) lv (.int (if L.length = 0 then nI 1 else nI 0) :: st) (bt α σ x) Φ) : bq_W G M d pc lv (.ref (bt_ad α 7 n) :: st) (bt α σ x) Φ := by
  subst hl
  exact bq_isEmpty (w := bt α σ x) hd hm hV hdd hst kk
theorem bt_geti {c' : Nat} (hd : decode (bp_c M) pc = .ok (.invokevirtual idx, 3)) (hm : bp_MV (bp_own_ M) idx mJx4a65c_get_915e3 1 RJx4a65c) (hV : bt_V α 7 n) (hl : bt_l σ x n = L) (hi : ix = nI j) (hy : L[j]? = some y) (hc : bq_lc n = c') (hdd : 3 ≤ d) (hst : (st.map fun v => v.category).sum ≤ 8) (kk : bt_V α c' y → bq_W G M d (pc + 3) lv (.ref (bt_ad α c' y) :: st) (bt α σ x) Φ) : bq_W G M d pc lv (.int ix :: .ref (bt_ad α 7 n) :: st) (bt α σ x) Φ := by
  subst hl; subst hc
  refine bt_els hV (fun g => ?_)
  exact bq_get (w := bt α σ x) hd hm hV hi hy hdd hst (kk (g y (List.mem_of_getElem? hy)))
theorem bt_add (hd : decode (bp_c M) pc = .ok (.invokevirtual idx, 3)) (hm : bp_MV (bp_own_ M) idx mJx4a65c_add_9ea2d 1 RJx4a65c) (hV : bt_V α 7 n) (hn : bt_sl n = false) (hc : c = bq_lc n) (hy : bt_V α c y) (hlen : (x.2.2 n).length < 33) (hdd : 7 ≤ d) (hst : (st.map fun v => v.category).sum ≤ 8) (kk : bq_W G M d (pc + 3) lv (.int (nI 1) :: st) (bt α σ (bt_lp x n (x.2.2 n ++ [y]))) Φ) : bq_W G M d pc lv (.ref (bt_ad α c y) :: .ref (bt_ad α 7 n) :: st) (bt α σ x) Φ := by
  refine bq_add (w := bt α σ x) hd hm hV hc hy (by show (bt_l σ x n).length < 33; rw [bt_lv hn]; exact hlen) hdd hst (bq_eqw (bt_eql hn) ?_)
  rw [show bq_ls (bt α σ x) n = x.2.2 n from bt_lv hn]
  exact kk
theorem bt_adds (hd : decode (bp_c M) pc = .ok (.invokevirtual idx, 3)) (hm : bp_MV (bp_own_ M) idx mJx4a65c_add_9ea2d 1 RJx4a65c) (hV : bt_V α 7 n) (hn : bt_sl n = true) (hc : c = bq_lc n) (hy : bt_V α c y) (hlen : (σ.2.2 n).length < 33) (hdd : 7 ≤ d) (hst : (st.map fun v => v.category).sum ≤ 8) (kk : bq_W G M d (pc + 3) lv (.int (nI 1) :: st) (bt α (bt_lp σ n (σ.2.2 n ++ [y])) x) Φ) : bq_W G M d pc lv (.ref (bt_ad α c y) :: .ref (bt_ad α 7 n) :: st) (bt α σ x) Φ := by
  refine bq_add (w := bt α σ x) hd hm hV hc hy (by show (bt_l σ x n).length < 33; rw [bt_ls hn]; exact hlen) hdd hst (bq_eqw (bt_eqs hn) ?_)
  rw [show bq_ls (bt α σ x) n = σ.2.2 n from bt_ls hn]
  exact kk
theorem bt_addi (hd : decode (bp_c M) pc = .ok (.invokevirtual idx, 3)) (hm : bp_MV (bp_own_ M) idx mJx4a65c_add_7a177 2 RJx4a65c) (hV : bt_V α 7 n) (hn : bt_sl n = false) (hi : ix = nI j) (hc : c = bq_lc n) (hy : bt_V α c y) (hj : j ≤ (x.2.2 n).length) (hlen : (x.2.2 n).length < 33) (hdd : 7 ≤ d) (hst : (st.map fun v => v.category).sum ≤ 8) (kk : bq_W G M d (pc + 3) lv st (bt α σ (bt_lp x n ((x.2.2 n).insertIdx j y))) Φ) : bq_W G M d pc lv (.ref (bt_ad α c y) :: .int ix :: .ref (bt_ad α 7 n) :: st) (bt α σ x) Φ := by
  refine bq_addi (w := bt α σ x) hd hm hV hi hc hy (by show j ≤ (bt_l σ x n).length; rw [bt_lv hn]; exact hj) (by show (bt_l σ x n).length < 33; rw [bt_lv hn]; exact hlen) hdd hst (bq_eqw (bt_eql hn) ?_)
  rw [show bq_ls (bt α σ x) n = x.2.2 n from bt_lv hn]
  exact kk
theorem bt_remove {c' : Nat} (hd : decode (bp_c M) pc = .ok (.invokevirtual idx, 3)) (hm : bp_MV (bp_own_ M) idx mJx4a65c_remove_915e3 1 RJx4a65c) (hV : bt_V α 7 n) (hn : bt_sl n = false) (hi : ix = nI j) (hy : (x.2.2 n)[j]? = some y) (hc : bq_lc n = c') (hdd : 4 ≤ d) (hst : (st.map fun v => v.category).sum ≤ 8) (kk : bq_W G M d (pc + 3) lv (.ref (bt_ad α c' y) :: st) (bt α σ (bt_lp x n ((x.2.2 n).eraseIdx j))) Φ) : bq_W G M d pc lv (.int ix :: .ref (bt_ad α 7 n) :: st) (bt α σ x) Φ := by
  subst hc
  refine bq_remove (w := bt α σ x) hd hm hV hi (show (bt_l σ x n)[j]? = some y by rw [bt_lv hn]; exact hy) hdd hst (bq_eqw (bt_eql hn) ?_)
  rw [show bq_ls (bt α σ x) n = x.2.2 n from bt_lv hn]
  exact kk
theorem bt_setl {z c' : Nat} (hd : decode (bp_c M) pc = .ok (.invokevirtual idx, 3)) (hm : bp_MV (bp_own_ M) idx mJx4a65c_set_bcc79 2 RJx4a65c) (hV : bt_V α 7 n) (hn : bt_sl n = false) (hi : ix = nI j) (hz : (x.2.2 n)[j]? = some z) (hc : bq_lc n = c') (hy : bt_V α c' y) (hdd : 3 ≤ d) (hst : (st.map fun v => v.category).sum ≤ 8) (kk : bq_W G M d (pc + 3) lv (.ref (bt_ad α c' z) :: st) (bt α σ (bt_lp x n ((x.2.2 n).set j y))) Φ) : bq_W G M d pc lv (.ref (bt_ad α c' y) :: .int ix :: .ref (bt_ad α 7 n) :: st) (bt α σ x) Φ := by
  subst hc
  refine bq_setl (w := bt α σ x) hd hm hV hi (show (bt_l σ x n)[j]? = some z by rw [bt_lv hn]; exact hz) rfl hy hdd hst (bq_eqw (bt_eql hn) ?_)
  rw [show bq_ls (bt α σ x) n = x.2.2 n from bt_lv hn]
  exact kk
theorem bt_clear (hd : decode (bp_c M) pc = .ok (.invokevirtual idx, 3)) (hm : bp_MV (bp_own_ M) idx mJx4a65c_clear_da8c8 0 RJx4a65c) (hV : bt_V α 7 n) (hn : bt_sl n = false) (hdd : 2 ≤ d) (hst : (st.map fun v => v.category).sum ≤ 8) (kk : bq_W G M d (pc + 3) lv st (bt α σ (bt_lp x n [])) Φ) : bq_W G M d pc lv (.ref (bt_ad α 7 n) :: st) (bt α σ x) Φ :=
  bq_clear (w := bt α σ x) hd hm hV hdd hst (bq_eqw (bt_eql hn) kk)
end BT
