section ZCE
/-- cells are made only where something of a kind is made -/
def zce (M M1 : ZM) : Prop := (∀ t, mC M t ≤ mC M1 t) ∧ ((∃ t, mC M t < mC M1 t) ∨ M1.2.2.2.2 = M.2.2.2.2)
theorem zce_same {M M1 : ZM} (h : M1.2.2.2.1.2.2.2.2 = M.2.2.2.1.2.2.2.2 ∧ M1.2.2.2.2 = M.2.2.2.2) : zce M M1 := ⟨fun t => Nat.le_of_eq (congrFun h.1.symm t), .inr h.2⟩
theorem zce_tr {M M1 M2 : ZM} (h : zce M M1) (h2 : zce M1 M2) : zce M M2 := by
  refine ⟨fun t => Nat.le_trans (h.1 t) (h2.1 t), ?_⟩
  rcases h.2 with ⟨t, ht⟩ | e
  · exact .inl ⟨t, Nat.lt_of_lt_of_le ht (h2.1 t)⟩
  · rcases h2.2 with ⟨t, ht⟩ | e2
    · exact .inl ⟨t, Nat.lt_of_le_of_lt (h.1 t) ht⟩
    · exact .inr (e2.trans e)
theorem zce_new (M : ZM) (t n : Nat) : zce M (pNew M t n) := ⟨(zmo_new M t n).1, .inl ⟨t, by
  show mC M t < if t = t then mC M t + 1 else mC M t
  rw [if_pos rfl]
  exact Nat.lt_succ_self _⟩⟩
theorem zce_newl (M : ZM) (t i n m : Nat) : zce M (pNew (pLen M t i n) t m) := zce_tr (M1 := pLen M t i n) (zce_same ⟨rfl, rfl⟩) (zce_new _ _ _)
variable {β : Type} {P : Prop} {r : β}
def zn5 (z : Nat × ZE) : Bool := match z.2.1 with
  | .invokevirtual _ => decide (z.2.2.2.1.head? ≠ some 5)
  | .invokespecial _ => decide (z.2.2.2.1.head? ≠ some 5)
  | .invokestatic _ => decide (z.2.2.2.1.head? ≠ some 5)
  | _ => true
theorem zpf_ce {M : ZM} {ax : List Nat} {i : Nat} {v : ZV} {f : ZM → Option β} (hf : ∀ M1, f M1 = some r → zce M M1 → P) (h : zpf M ax i v f none = some r) : P := by
  unfold zpf at h
  split at h
  · split at h
    · exact hf _ h (zce_same ⟨rfl, rfl⟩)
    · exact zbl h (fun h => hf _ h (zce_same ⟨rfl, rfl⟩))
    · exact hf _ h (zce_same ⟨rfl, rfl⟩)
    · exact zbl h (fun h => hf _ h (zce_same ⟨rfl, rfl⟩))
    · split at h
      · exact hf _ h (zce_same ⟨rfl, rfl⟩)
      · exact zbl h (fun h => hf _ h (zce_same ⟨rfl, rfl⟩))
    · cases h
  · cases h
theorem ziv_ce {M : ZM} {ax : List Nat} {st : List ZV} {f : List ZV → ZM → Option β} {g : Nat → List ZV → List ZV → Option β} (hf : ∀ v M1, f v M1 = some r → zce M M1 → P) (hg : ∀ a b c, g a b c = some r → P) (hax : ax.head? ≠ some 5) (h : ziv M ax st f g none = some r) : P := by
  unfold ziv at h
  split at h
  · split at h
    · exact zbl h (fun h => hg _ _ _ h)
    · cases h
  · split at h
    · exact zbl h (fun h => hg _ _ _ h)
    · cases h
  · split at h
    · exact zbl h (fun h => hf _ _ h (zce_same ⟨rfl, rfl⟩))
    · cases h
  · split at h
    · exact zbl h (fun h => zml h (fun h => zml h (fun h => zel h (fun h => hf _ _ h (zce_same ⟨rfl, rfl⟩)) (fun h => nomatch h)) (fun h => nomatch h) (fun h => nomatch h) (fun h => nomatch h) (fun h => nomatch h) (fun h => nomatch h) (fun h => nomatch h)) (fun h => nomatch h) (fun h => nomatch h) (fun h => nomatch h) (fun h => nomatch h) (fun h => nomatch h) (fun h => nomatch h))
    · cases h
  · split at h
    · exact zbl h (fun h => hf _ _ h (zce_same ⟨rfl, rfl⟩))
    · cases h
  · split at h
    · exact absurd rfl hax
    · cases h
  · split at h
    · exact zbl h (fun h => hf _ _ h (zce_same ⟨rfl, rfl⟩))
    · cases h
  · split at h
    · exact zbl h (fun h => hf _ _ h (zce_same ⟨rfl, rfl⟩))
    · cases h
  · split at h
    · exact zbl h (fun h => hf _ _ h (zce_same ⟨rfl, rfl⟩))
    · cases h
  · cases h
set_option maxHeartbeats 4000000 in
theorem zst_ce {P : Prop} {r : ZR} {k : Nat → ZL → List ZV → ZM → Option ZR} {kr : Option ZV → ZM → Option ZR} {kc : Nat → List ZV → List ZV → Option ZR} {M : ZM} (hk : ∀ pc ls st M1, k pc ls st M1 = some r → zce M M1 → P) (hr : ∀ v M1, kr v M1 = some r → zce M M1 → P) (hc : ∀ mi as rest, kc mi as rest = some r → P) {e : ZE} (h5 : zn5 (0, e) = true) {pc : Nat} {ls : ZL} {st : List ZV} (h : zst e pc ls st M k kr kc none = some r) : P := by
  obtain ⟨ins, len, ax, cv⟩ := e
  have sw : ∀ (x : Int) (cv : List Int) (ts : List Nat) (f : Nat → Option ZR) (d : Option ZR), (∀ t, f t = some r → P) → (d = some r → P) → zsw x cv ts f d = some r → P := by
    intro x cv
    induction cv with
    | nil => intro ts f d hf hd h; exact hd h
    | cons v vs ih =>
      intro ts f d hf hd h
      cases ts with
      | nil => exact hd h
      | cons t ts =>
        simp only [zsw] at h
        exact zel h (hf t) (ih ts f d hf hd)
  have br : ∀ (c : ClassFile.Cond) (x y : Int) (a b : Option ZR), (a = some r → P) → (b = some r → P) → zbr c x y a b = some r → P := by
    intro c x y a b ha hb h
    cases c <;> simp only [zbr] at h <;> first | exact zel h ha hb | exact zel h hb ha
  cases ins
  case aload => exact zld_mo (fun v hv => by rcases v with x | x | x <;> first | exact hk _ _ _ _ hv (zce_same ⟨rfl, rfl⟩) | (cases hv; done)) h
  case aload_n => exact zld_mo (fun v hv => by rcases v with x | x | x <;> first | exact hk _ _ _ _ hv (zce_same ⟨rfl, rfl⟩) | (cases hv; done)) h
  case iload => exact zld_mo (fun v hv => by rcases v with x | x | x <;> first | exact hk _ _ _ _ hv (zce_same ⟨rfl, rfl⟩) | (cases hv; done)) h
  case iload_n => exact zld_mo (fun v hv => by rcases v with x | x | x <;> first | exact hk _ _ _ _ hv (zce_same ⟨rfl, rfl⟩) | (cases hv; done)) h
  case lload => exact zld_mo (fun v hv => by rcases v with x | x | x <;> first | exact hk _ _ _ _ hv (zce_same ⟨rfl, rfl⟩) | (cases hv; done)) h
  case lload_n => exact zld_mo (fun v hv => by rcases v with x | x | x <;> first | exact hk _ _ _ _ hv (zce_same ⟨rfl, rfl⟩) | (cases hv; done)) h
  case iinc => exact zld_mo (fun v hv => by rcases v with x | x | x <;> first | exact hk _ _ _ _ hv (zce_same ⟨rfl, rfl⟩) | (cases hv; done)) h
  case astore => rcases st with _ | ⟨x | x | x, st⟩ <;> first | exact hk _ _ _ _ h (zce_same ⟨rfl, rfl⟩) | (cases h; done)
  case astore_n => rcases st with _ | ⟨x | x | x, st⟩ <;> first | exact hk _ _ _ _ h (zce_same ⟨rfl, rfl⟩) | (cases h; done)
  case istore => rcases st with _ | ⟨x | x | x, st⟩ <;> first | exact hk _ _ _ _ h (zce_same ⟨rfl, rfl⟩) | (cases h; done)
  case istore_n => rcases st with _ | ⟨x | x | x, st⟩ <;> first | exact hk _ _ _ _ h (zce_same ⟨rfl, rfl⟩) | (cases h; done)
  case lstore => rcases st with _ | ⟨x | x | x, st⟩ <;> first | exact hk _ _ _ _ h (zce_same ⟨rfl, rfl⟩) | (cases h; done)
  case lstore_n => rcases st with _ | ⟨x | x | x, st⟩ <;> first | exact hk _ _ _ _ h (zce_same ⟨rfl, rfl⟩) | (cases h; done)
  case ineg => rcases st with _ | ⟨x | x | x, st⟩ <;> first | exact hk _ _ _ _ h (zce_same ⟨rfl, rfl⟩) | (cases h; done)
  case i2l => rcases st with _ | ⟨x | x | x, st⟩ <;> first | exact hk _ _ _ _ h (zce_same ⟨rfl, rfl⟩) | (cases h; done)
  case l2i => rcases st with _ | ⟨x | x | x, st⟩ <;> first | exact hk _ _ _ _ h (zce_same ⟨rfl, rfl⟩) | (cases h; done)
  case i2b => rcases st with _ | ⟨x | x | x, st⟩ <;> first | exact hk _ _ _ _ h (zce_same ⟨rfl, rfl⟩) | (cases h; done)
  case dup => rcases st with _ | ⟨x | x | x, st⟩ <;> first | exact hk _ _ _ _ h (zce_same ⟨rfl, rfl⟩) | (cases h; done)
  case pop => rcases st with _ | ⟨x | x | x, st⟩ <;> first | exact hk _ _ _ _ h (zce_same ⟨rfl, rfl⟩) | (cases h; done)
  case iconst => exact hk _ _ _ _ h (zce_same ⟨rfl, rfl⟩)
  case bipush => exact hk _ _ _ _ h (zce_same ⟨rfl, rfl⟩)
  case sipush => exact hk _ _ _ _ h (zce_same ⟨rfl, rfl⟩)
  case lconst => exact hk _ _ _ _ h (zce_same ⟨rfl, rfl⟩)
  case aconst_null => exact hk _ _ _ _ h (zce_same ⟨rfl, rfl⟩)
  case goto => exact hk _ _ _ _ h (zce_same ⟨rfl, rfl⟩)
  case ldc => rcases cv with _ | ⟨x, cv⟩ <;> first | exact hk _ _ _ _ h (zce_same ⟨rfl, rfl⟩) | (cases h; done)
  case ldc_w => rcases cv with _ | ⟨x, cv⟩ <;> first | exact hk _ _ _ _ h (zce_same ⟨rfl, rfl⟩) | (cases h; done)
  case ldc2_w => rcases cv with _ | ⟨x, cv⟩ <;> first | exact hk _ _ _ _ h (zce_same ⟨rfl, rfl⟩) | (cases h; done)
  case iadd => rcases st with _ | ⟨x | x | x, _ | ⟨y | y | y, st⟩⟩ <;> first | exact hk _ _ _ _ h (zce_same ⟨rfl, rfl⟩) | (cases h; done)
  case isub => rcases st with _ | ⟨x | x | x, _ | ⟨y | y | y, st⟩⟩ <;> first | exact hk _ _ _ _ h (zce_same ⟨rfl, rfl⟩) | (cases h; done)
  case imul => rcases st with _ | ⟨x | x | x, _ | ⟨y | y | y, st⟩⟩ <;> first | exact hk _ _ _ _ h (zce_same ⟨rfl, rfl⟩) | (cases h; done)
  case iand => rcases st with _ | ⟨x | x | x, _ | ⟨y | y | y, st⟩⟩ <;> first | exact hk _ _ _ _ h (zce_same ⟨rfl, rfl⟩) | (cases h; done)
  case ior => rcases st with _ | ⟨x | x | x, _ | ⟨y | y | y, st⟩⟩ <;> first | exact hk _ _ _ _ h (zce_same ⟨rfl, rfl⟩) | (cases h; done)
  case ixor => rcases st with _ | ⟨x | x | x, _ | ⟨y | y | y, st⟩⟩ <;> first | exact hk _ _ _ _ h (zce_same ⟨rfl, rfl⟩) | (cases h; done)
  case ishl => rcases st with _ | ⟨x | x | x, _ | ⟨y | y | y, st⟩⟩ <;> first | exact hk _ _ _ _ h (zce_same ⟨rfl, rfl⟩) | (cases h; done)
  case ishr => rcases st with _ | ⟨x | x | x, _ | ⟨y | y | y, st⟩⟩ <;> first | exact hk _ _ _ _ h (zce_same ⟨rfl, rfl⟩) | (cases h; done)
  case ladd => rcases st with _ | ⟨x | x | x, _ | ⟨y | y | y, st⟩⟩ <;> first | exact hk _ _ _ _ h (zce_same ⟨rfl, rfl⟩) | (cases h; done)
  case lsub => rcases st with _ | ⟨x | x | x, _ | ⟨y | y | y, st⟩⟩ <;> first | exact hk _ _ _ _ h (zce_same ⟨rfl, rfl⟩) | (cases h; done)
  case lmul => rcases st with _ | ⟨x | x | x, _ | ⟨y | y | y, st⟩⟩ <;> first | exact hk _ _ _ _ h (zce_same ⟨rfl, rfl⟩) | (cases h; done)
  case land => rcases st with _ | ⟨x | x | x, _ | ⟨y | y | y, st⟩⟩ <;> first | exact hk _ _ _ _ h (zce_same ⟨rfl, rfl⟩) | (cases h; done)
  case lor => rcases st with _ | ⟨x | x | x, _ | ⟨y | y | y, st⟩⟩ <;> first | exact hk _ _ _ _ h (zce_same ⟨rfl, rfl⟩) | (cases h; done)
  case lshl => rcases st with _ | ⟨x | x | x, _ | ⟨y | y | y, st⟩⟩ <;> first | exact hk _ _ _ _ h (zce_same ⟨rfl, rfl⟩) | (cases h; done)
  case lushr => rcases st with _ | ⟨x | x | x, _ | ⟨y | y | y, st⟩⟩ <;> first | exact hk _ _ _ _ h (zce_same ⟨rfl, rfl⟩) | (cases h; done)
  case lcmp => rcases st with _ | ⟨x | x | x, _ | ⟨y | y | y, st⟩⟩ <;> first | exact hk _ _ _ _ h (zce_same ⟨rfl, rfl⟩) | (cases h; done)
  case dup2 => rcases st with _ | ⟨x | x | x, _ | ⟨y | y | y, st⟩⟩ <;> first | exact hk _ _ _ _ h (zce_same ⟨rfl, rfl⟩) | (cases h; done)
  case idiv => rcases st with _ | ⟨x | x | x, _ | ⟨y | y | y, st⟩⟩ <;> first | exact zel h (fun h => nomatch h) (fun h => hk _ _ _ _ h (zce_same ⟨rfl, rfl⟩)) | (cases h; done)
  case irem => rcases st with _ | ⟨x | x | x, _ | ⟨y | y | y, st⟩⟩ <;> first | exact zel h (fun h => nomatch h) (fun h => hk _ _ _ _ h (zce_same ⟨rfl, rfl⟩)) | (cases h; done)
  case ldiv => rcases st with _ | ⟨x | x | x, _ | ⟨y | y | y, st⟩⟩ <;> first | exact zel h (fun h => nomatch h) (fun h => hk _ _ _ _ h (zce_same ⟨rfl, rfl⟩)) | (cases h; done)
  case lrem => rcases st with _ | ⟨x | x | x, _ | ⟨y | y | y, st⟩⟩ <;> first | exact zel h (fun h => nomatch h) (fun h => hk _ _ _ _ h (zce_same ⟨rfl, rfl⟩)) | (cases h; done)
  case ifCond => rcases st with _ | ⟨x | x | x, st⟩ <;> first | exact br _ _ _ _ _ (fun h => hk _ _ _ _ h (zce_same ⟨rfl, rfl⟩)) (fun h => hk _ _ _ _ h (zce_same ⟨rfl, rfl⟩)) h | (cases h; done)
  case if_icmp => rcases st with _ | ⟨x | x | x, _ | ⟨y | y | y, st⟩⟩ <;> first | exact br _ _ _ _ _ (fun h => hk _ _ _ _ h (zce_same ⟨rfl, rfl⟩)) (fun h => hk _ _ _ _ h (zce_same ⟨rfl, rfl⟩)) h | (cases h; done)
  case if_acmp => rename_i c _; rcases st with _ | ⟨x | x | ⟨t, x⟩, _ | ⟨y | y | ⟨t2, y⟩, st⟩⟩ <;> first | (cases h; done) | (cases c <;> exact zbl h (fun h => zel h (fun h => hk _ _ _ _ h (zce_same ⟨rfl, rfl⟩)) (fun h => hk _ _ _ _ h (zce_same ⟨rfl, rfl⟩))))
  case ifnull => rcases st with _ | ⟨x | x | ⟨t, _ | x⟩, st⟩ <;> first | exact hk _ _ _ _ h (zce_same ⟨rfl, rfl⟩) | (cases h; done)
  case ifnonnull => rcases st with _ | ⟨x | x | ⟨t, _ | x⟩, st⟩ <;> first | exact hk _ _ _ _ h (zce_same ⟨rfl, rfl⟩) | (cases h; done)
  case tableswitch => rcases st with _ | ⟨x | x | x, st⟩ <;> rcases ax with _ | ⟨d, ts⟩ <;> first | (cases h; done) | exact sw _ _ _ _ _ (fun t => (fun h => hk _ _ _ _ h (zce_same ⟨rfl, rfl⟩))) (fun h => hk _ _ _ _ h (zce_same ⟨rfl, rfl⟩)) h
  case getfield => rcases st with _ | ⟨x | x | ⟨t, _ | x⟩, st⟩ <;> first | (cases h; done) | exact zbl h (fun h => zgf_mo (fun v => (fun h => hk _ _ _ _ h (zce_same ⟨rfl, rfl⟩))) h)
  case putfield => rcases st with _ | ⟨v, _ | ⟨x | x | ⟨t, _ | x⟩, st⟩⟩ <;> first | (cases h; done) | exact zbl h (fun h => zpf_ce (fun M1 h hm => hk _ _ _ _ h hm) h)
  case getstatic => rcases ax with _ | ⟨a, _ | ⟨b, ax⟩⟩ <;> first | (cases h; done) | exact hk _ _ _ _ h (zce_same ⟨rfl, rfl⟩)
  case iaload => rcases st with _ | ⟨x | x | x, _ | ⟨y | y | ⟨t, _ | y⟩, st⟩⟩ <;> first | (cases h; done) | exact zml h (fun h => zel h (fun h => hk _ _ _ _ h (zce_same ⟨rfl, rfl⟩)) (fun h => nomatch h)) (fun h => nomatch h) (fun h => nomatch h) (fun h => nomatch h) (fun h => nomatch h) (fun h => zel h (fun h => hk _ _ _ _ h (zce_same ⟨rfl, rfl⟩)) (fun h => nomatch h)) (fun h => nomatch h)
  case baload => rcases st with _ | ⟨x | x | x, _ | ⟨y | y | ⟨t, _ | y⟩, st⟩⟩ <;> first | (cases h; done) | exact zml h (fun h => nomatch h) (fun h => nomatch h) (fun h => zel h (fun h => hk _ _ _ _ h (zce_same ⟨rfl, rfl⟩)) (fun h => nomatch h)) (fun h => zel h (fun h => hk _ _ _ _ h (zce_same ⟨rfl, rfl⟩)) (fun h => nomatch h)) (fun h => nomatch h) (fun h => nomatch h) (fun h => nomatch h)
  case laload => rcases st with _ | ⟨x | x | x, _ | ⟨y | y | ⟨t, _ | y⟩, st⟩⟩ <;> first | (cases h; done) | exact zml h (fun h => nomatch h) (fun h => zel h (fun h => hk _ _ _ _ h (zce_same ⟨rfl, rfl⟩)) (fun h => nomatch h)) (fun h => nomatch h) (fun h => nomatch h) (fun h => nomatch h) (fun h => nomatch h) (fun h => nomatch h)
  case aaload => rcases st with _ | ⟨x | x | x, _ | ⟨y | y | ⟨t, _ | y⟩, st⟩⟩ <;> first | (cases h; done) | exact zml h (fun h => nomatch h) (fun h => nomatch h) (fun h => nomatch h) (fun h => nomatch h) (fun h => zel h (fun h => hk _ _ _ _ h (zce_same ⟨rfl, rfl⟩)) (fun h => nomatch h)) (fun h => nomatch h) (fun h => zel h (fun h => hk _ _ _ _ h (zce_same ⟨rfl, rfl⟩)) (fun h => nomatch h))
  case iastore => rcases st with _ | ⟨v | v | v, _ | ⟨x | x | x, _ | ⟨y | y | ⟨t, _ | y⟩, st⟩⟩⟩ <;> first | (cases h; done) | exact zml h (fun h => zel h (fun h => hk _ _ _ _ h (zce_same ⟨rfl, rfl⟩)) (fun h => nomatch h)) (fun h => nomatch h) (fun h => nomatch h) (fun h => nomatch h) (fun h => nomatch h) (fun h => nomatch h) (fun h => nomatch h)
  case bastore => rcases st with _ | ⟨v | v | v, _ | ⟨x | x | x, _ | ⟨y | y | ⟨t, _ | y⟩, st⟩⟩⟩ <;> first | (cases h; done) | exact zml h (fun h => nomatch h) (fun h => nomatch h) (fun h => zel h (fun h => hk _ _ _ _ h (zce_same ⟨rfl, rfl⟩)) (fun h => nomatch h)) (fun h => zel h (fun h => hk _ _ _ _ h (zce_same ⟨rfl, rfl⟩)) (fun h => nomatch h)) (fun h => nomatch h) (fun h => nomatch h) (fun h => nomatch h)
  case lastore => rcases st with _ | ⟨v | v | v, _ | ⟨x | x | x, _ | ⟨y | y | ⟨t, _ | y⟩, st⟩⟩⟩ <;> first | (cases h; done) | exact zml h (fun h => nomatch h) (fun h => zel h (fun h => hk _ _ _ _ h (zce_same ⟨rfl, rfl⟩)) (fun h => nomatch h)) (fun h => nomatch h) (fun h => nomatch h) (fun h => nomatch h) (fun h => nomatch h) (fun h => nomatch h)
  case aastore => rcases st with _ | ⟨v | v | ⟨t2, _ | v⟩, _ | ⟨x | x | x, _ | ⟨y | y | ⟨t, _ | y⟩, st⟩⟩⟩ <;> first | (cases h; done) | exact zbl h (fun h => zml h (fun h => nomatch h) (fun h => nomatch h) (fun h => nomatch h) (fun h => nomatch h) (fun h => zel h (fun h => hk _ _ _ _ h (zce_same ⟨rfl, rfl⟩)) (fun h => nomatch h)) (fun h => nomatch h) (fun h => nomatch h))
  case arraylength => rcases st with _ | ⟨x | x | ⟨t, _ | x⟩, st⟩ <;> first | (cases h; done) | exact zml h (fun h => hk _ _ _ _ h (zce_same ⟨rfl, rfl⟩)) (fun h => hk _ _ _ _ h (zce_same ⟨rfl, rfl⟩)) (fun h => hk _ _ _ _ h (zce_same ⟨rfl, rfl⟩)) (fun h => hk _ _ _ _ h (zce_same ⟨rfl, rfl⟩)) (fun h => hk _ _ _ _ h (zce_same ⟨rfl, rfl⟩)) (fun h => hk _ _ _ _ h (zce_same ⟨rfl, rfl⟩)) (fun h => hk _ _ _ _ h (zce_same ⟨rfl, rfl⟩))
  case new => exact zbl h (fun h => hk _ _ _ _ h (zce_new M _ _))
  case newarray => rcases st with _ | ⟨x | x | x, st⟩ <;> first | (cases h; done) | exact zel h (fun h => hk _ _ _ _ h (zce_newl M _ _ _ _)) (fun h => nomatch h)
  case anewarray => rcases st with _ | ⟨x | x | x, st⟩ <;> first | (cases h; done) | exact zel h (fun h => hk _ _ _ _ h (zce_newl M _ _ _ _)) (fun h => nomatch h)
  case invokevirtual => exact ziv_ce (fun v M1 h hm => hk _ _ _ _ h hm) (fun a b c h => hc a b c h) (of_decide_eq_true h5) h
  case invokespecial => exact ziv_ce (fun v M1 h hm => hk _ _ _ _ h hm) (fun a b c h => hc a b c h) (of_decide_eq_true h5) h
  case invokestatic => exact ziv_ce (fun v M1 h hm => hk _ _ _ _ h hm) (fun a b c h => hc a b c h) (of_decide_eq_true h5) h
  case ireturn => rcases st with _ | ⟨x | x | x, _ | ⟨y, st⟩⟩ <;> rcases ax with _ | ⟨a, ax⟩ <;> first | exact hr _ _ h (zce_same ⟨rfl, rfl⟩) | (cases h; done)
  case lreturn => rcases st with _ | ⟨x | x | x, _ | ⟨y, st⟩⟩ <;> first | exact hr _ _ h (zce_same ⟨rfl, rfl⟩) | (cases h; done)
  case return_ => rcases st with _ | ⟨x, st⟩ <;> first | exact hr _ _ h (zce_same ⟨rfl, rfl⟩) | (cases h; done)
  all_goals (first | (cases h; done))
theorem znl_mem : ∀ {l : List (ZT × Nat)} {mi : Nat} {q : ZT × Nat}, znl l mi = some q → q ∈ l
  | [], _, _, h => by cases h
  | a :: l, 0, q, h => by cases h; exact List.mem_cons_self
  | a :: l, n + 1, q, h => List.mem_cons_of_mem _ (znl_mem (l := l) (mi := n) h)
set_option maxRecDepth 100000 in
theorem zG_5 {mi nl : Nat} {tab : ZT} (h : zG mi = some (tab, nl)) : tab.all zn5 = true := by
  unfold zG at h
  have hm := znl_mem h
  refine (List.all_eq_true (p := fun q : ZT × Nat => q.1.all zn5)).mp ?_ _ hm
  decide +kernel
theorem zex_ce : ∀ {n d : Nat} {tab : ZT} {pc : Nat} {ls : ZL} {st : List ZV} {M : ZM} {r : ZR}, tab.all zn5 = true → zex zG d tab pc ls st M n = some r → zce M r.2 := by
  intro n
  induction n with
  | zero => intro d tab pc ls st M r _ h; cases h
  | succ n ih =>
    intro d tab pc ls st M r ht h
    unfold zex at h
    cases e : zfd tab pc with
    | none => rw [e] at h; cases h
    | some q =>
      rw [e] at h
      have h5 : zn5 (0, q) = true := List.all_eq_true.mp ht (pc, q) (zfd_mem e)
      refine zst_ce (k := fun pc ls st M => zex zG d tab pc ls st M n) (fun pc ls st M1 h hm => zce_tr hm (ih ht h)) (fun v M1 h hm => by cases h; exact hm) ?_ h5 h
      intro mi as rest h
      cases d with
      | zero => cases h
      | succ d =>
        simp only [zcd] at h
        cases e2 : zG mi with
        | none => rw [e2] at h; cases h
        | some q2 =>
          obtain ⟨tab2, nl⟩ := q2
          rw [e2] at h
          simp only [zcg] at h
          refine zbl h ?_
          intro h
          cases e3 : zex zG d tab2 0 (zen nl as) [] M n with
          | none => rw [e3] at h; cases h
          | some q3 =>
            obtain ⟨rv, M2⟩ := q3
            rw [e3] at h
            simp only [zcall] at h
            exact zce_tr (ih (zG_5 e2) e3) (ih ht h)
/-- a call that makes nothing that stays makes no cell -/
theorem zce_k {M M' : ZM} (h : zce M M') (hk : mK M' = mK M) : M'.2.2.2.2 = M.2.2.2.2 := by
  rcases h.2 with ⟨t, ht⟩ | e
  · have : mC M' t = mC M t := congrArg (fun K : ZK => K.2.2.2.2 t) hk
    omega
  · exact e
end ZCE
