abbrev Fo : Type := Int32 × Int32 × Int32 × (Nat → Int32) × (Nat → Int32) × (Nat → Int32)
abbrev Fo_many (z : Fo) : Int32 := z.1
abbrev Fo_depth (z : Fo) : Int32 := z.2.1
abbrev Fo_wanted (z : Fo) : Int32 := z.2.2.1
abbrev Fo_bodies (z : Fo) : Nat → Int32 := z.2.2.2.1
abbrev Fo_backs (z : Fo) : Nat → Int32 := z.2.2.2.2.1
abbrev Fo_weights (z : Fo) : Nat → Int32 := z.2.2.2.2.2
abbrev Fo_set_many (z : Fo) (v : Int32) : Fo := (v, z.2)
abbrev Fo_set_depth (z : Fo) (v : Int32) : Fo := (z.1, v, z.2.2)
abbrev Fo_set_wanted (z : Fo) (v : Int32) : Fo := (z.1, z.2.1, v, z.2.2.2)
abbrev Fo_set_bodies (z : Fo) (v : Nat → Int32) : Fo := (z.1, z.2.1, z.2.2.1, v, z.2.2.2.2)
abbrev Fo_set_backs (z : Fo) (v : Nat → Int32) : Fo := (z.1, z.2.1, z.2.2.1, z.2.2.2.1, v, z.2.2.2.2.2)
abbrev Fo_set_weights (z : Fo) (v : Nat → Int32) : Fo := (z.1, z.2.1, z.2.2.1, z.2.2.2.1, z.2.2.2.2.1, v)
abbrev Ev : Type := Int64 × Int32 × (Nat → Nat → Int64) × (Nat → Int32) × (Nat → Int64) × (Nat → Int64) × (Nat → Int64)
abbrev Ev_below (z : Ev) : Int64 := z.1
abbrev Ev_found (z : Ev) : Int32 := z.2.1
abbrev Ev_rows (z : Ev) : Nat → Nat → Int64 := z.2.2.1
abbrev Ev_opn (z : Ev) : Nat → Int32 := z.2.2.2.1
abbrev Ev_eight (z : Ev) : Nat → Int64 := z.2.2.2.2.1
abbrev Ev_whole (z : Ev) : Nat → Int64 := z.2.2.2.2.2.1
abbrev Ev_rest (z : Ev) : Nat → Int64 := z.2.2.2.2.2.2
abbrev Ev_set_below (z : Ev) (v : Int64) : Ev := (v, z.2)
abbrev Ev_set_found (z : Ev) (v : Int32) : Ev := (z.1, v, z.2.2)
abbrev Ev_set_rows (z : Ev) (v : Nat → Nat → Int64) : Ev := (z.1, z.2.1, v, z.2.2.2)
abbrev Ev_set_opn (z : Ev) (v : Nat → Int32) : Ev := (z.1, z.2.1, z.2.2.1, v, z.2.2.2.2)
abbrev Ev_set_eight (z : Ev) (v : Nat → Int64) : Ev := (z.1, z.2.1, z.2.2.1, z.2.2.2.1, v, z.2.2.2.2.2)
abbrev Ev_set_whole (z : Ev) (v : Nat → Int64) : Ev := (z.1, z.2.1, z.2.2.1, z.2.2.2.1, z.2.2.2.2.1, v, z.2.2.2.2.2.2)
abbrev Ev_set_rest (z : Ev) (v : Nat → Int64) : Ev := (z.1, z.2.1, z.2.2.1, z.2.2.2.1, z.2.2.2.2.1, z.2.2.2.2.2.1, v)
abbrev Li : Type := Int32 × (Nat → Int32)
abbrev Li_many (z : Li) : Int32 := z.1
abbrev Li_places (z : Li) : Nat → Int32 := z.2
abbrev Li_set_many (z : Li) (v : Int32) : Li := (v, z.2)
abbrev Li_set_places (z : Li) (v : Nat → Int32) : Li := (z.1, v)
abbrev Te : Type := Int32 × (Nat → Int32)
abbrev Te_many (z : Te) : Int32 := z.1
abbrev Te_signs (z : Te) : Nat → Int32 := z.2
abbrev Te_set_many (z : Te) (v : Int32) : Te := (v, z.2)
abbrev Te_set_signs (z : Te) (v : Nat → Int32) : Te := (z.1, v)
abbrev Pa : Type := Int32 × Int32 × (Nat → Fo)
abbrev Pa_many (z : Pa) : Int32 := z.1
abbrev Pa_next (z : Pa) : Int32 := z.2.1
abbrev Pa_ring (z : Pa) : Nat → Fo := z.2.2
abbrev Pa_set_many (z : Pa) (v : Int32) : Pa := (v, z.2)
abbrev Pa_set_next (z : Pa) (v : Int32) : Pa := (z.1, v, z.2.2)
abbrev Pa_set_ring (z : Pa) (v : Nat → Fo) : Pa := (z.1, z.2.1, v)
abbrev Im : Type := (Nat → Fo) × (Nat → Int32)
abbrev Im_imgs (z : Im) : Nat → Fo := z.1
abbrev Im_kept (z : Im) : Nat → Int32 := z.2
abbrev Im_set_imgs (z : Im) (v : Nat → Fo) : Im := (v, z.2)
abbrev Im_set_kept (z : Im) (v : Nat → Int32) : Im := (z.1, v)
abbrev Mo : Type := (Nat → Int32) × Int32 × (Nat → Int32) × (Nat → Int32) × (Nat → Int64) × Int64 × (Nat → Int32) × (Nat → Int64) × (Nat → Int32) × (Nat → Int64) × (Nat → Int32) × (Nat → Int32) × Int32 × Int32 × (Nat → Int32) × (Nat → Int32) × (Nat → Int32)
abbrev Mo_now (z : Mo) : Nat → Int32 := z.1
abbrev Mo_lined (z : Mo) : Int32 := z.2.1
abbrev Mo_line (z : Mo) : Nat → Int32 := z.2.2.1
abbrev Mo_isOpn (z : Mo) : Nat → Int32 := z.2.2.2.1
abbrev Mo_spaces (z : Mo) : Nat → Int64 := z.2.2.2.2.1
abbrev Mo_whole (z : Mo) : Int64 := z.2.2.2.2.2.1
abbrev Mo_grp (z : Mo) : Nat → Int32 := z.2.2.2.2.2.2.1
abbrev Mo_cells (z : Mo) : Nat → Int64 := z.2.2.2.2.2.2.2.1
abbrev Mo_unk (z : Mo) : Nat → Int32 := z.2.2.2.2.2.2.2.2.1
abbrev Mo_wholes (z : Mo) : Nat → Int64 := z.2.2.2.2.2.2.2.2.2.1
abbrev Mo_isMore (z : Mo) : Nat → Int32 := z.2.2.2.2.2.2.2.2.2.2.1
abbrev Mo_signs (z : Mo) : Nat → Int32 := z.2.2.2.2.2.2.2.2.2.2.2.1
abbrev Mo_signed (z : Mo) : Int32 := z.2.2.2.2.2.2.2.2.2.2.2.2.1
abbrev Mo_undos (z : Mo) : Int32 := z.2.2.2.2.2.2.2.2.2.2.2.2.2.1
abbrev Mo_past (z : Mo) : Nat → Int32 := z.2.2.2.2.2.2.2.2.2.2.2.2.2.2.1
abbrev Mo_images (z : Mo) : Nat → Int32 := z.2.2.2.2.2.2.2.2.2.2.2.2.2.2.2.1
abbrev Mo_isKept (z : Mo) : Nat → Int32 := z.2.2.2.2.2.2.2.2.2.2.2.2.2.2.2.2
abbrev Mo_set_now (z : Mo) (v : Nat → Int32) : Mo := (v, z.2)
abbrev Mo_set_lined (z : Mo) (v : Int32) : Mo := (z.1, v, z.2.2)
abbrev Mo_set_line (z : Mo) (v : Nat → Int32) : Mo := (z.1, z.2.1, v, z.2.2.2)
abbrev Mo_set_isOpn (z : Mo) (v : Nat → Int32) : Mo := (z.1, z.2.1, z.2.2.1, v, z.2.2.2.2)
abbrev Mo_set_spaces (z : Mo) (v : Nat → Int64) : Mo := (z.1, z.2.1, z.2.2.1, z.2.2.2.1, v, z.2.2.2.2.2)
abbrev Mo_set_whole (z : Mo) (v : Int64) : Mo := (z.1, z.2.1, z.2.2.1, z.2.2.2.1, z.2.2.2.2.1, v, z.2.2.2.2.2.2)
abbrev Mo_set_grp (z : Mo) (v : Nat → Int32) : Mo := (z.1, z.2.1, z.2.2.1, z.2.2.2.1, z.2.2.2.2.1, z.2.2.2.2.2.1, v, z.2.2.2.2.2.2.2)
abbrev Mo_set_cells (z : Mo) (v : Nat → Int64) : Mo := (z.1, z.2.1, z.2.2.1, z.2.2.2.1, z.2.2.2.2.1, z.2.2.2.2.2.1, z.2.2.2.2.2.2.1, v, z.2.2.2.2.2.2.2.2)
abbrev Mo_set_unk (z : Mo) (v : Nat → Int32) : Mo := (z.1, z.2.1, z.2.2.1, z.2.2.2.1, z.2.2.2.2.1, z.2.2.2.2.2.1, z.2.2.2.2.2.2.1, z.2.2.2.2.2.2.2.1, v, z.2.2.2.2.2.2.2.2.2)
abbrev Mo_set_wholes (z : Mo) (v : Nat → Int64) : Mo := (z.1, z.2.1, z.2.2.1, z.2.2.2.1, z.2.2.2.2.1, z.2.2.2.2.2.1, z.2.2.2.2.2.2.1, z.2.2.2.2.2.2.2.1, z.2.2.2.2.2.2.2.2.1, v, z.2.2.2.2.2.2.2.2.2.2)
abbrev Mo_set_isMore (z : Mo) (v : Nat → Int32) : Mo := (z.1, z.2.1, z.2.2.1, z.2.2.2.1, z.2.2.2.2.1, z.2.2.2.2.2.1, z.2.2.2.2.2.2.1, z.2.2.2.2.2.2.2.1, z.2.2.2.2.2.2.2.2.1, z.2.2.2.2.2.2.2.2.2.1, v, z.2.2.2.2.2.2.2.2.2.2.2)
abbrev Mo_set_signs (z : Mo) (v : Nat → Int32) : Mo := (z.1, z.2.1, z.2.2.1, z.2.2.2.1, z.2.2.2.2.1, z.2.2.2.2.2.1, z.2.2.2.2.2.2.1, z.2.2.2.2.2.2.2.1, z.2.2.2.2.2.2.2.2.1, z.2.2.2.2.2.2.2.2.2.1, z.2.2.2.2.2.2.2.2.2.2.1, v, z.2.2.2.2.2.2.2.2.2.2.2.2)
abbrev Mo_set_signed (z : Mo) (v : Int32) : Mo := (z.1, z.2.1, z.2.2.1, z.2.2.2.1, z.2.2.2.2.1, z.2.2.2.2.2.1, z.2.2.2.2.2.2.1, z.2.2.2.2.2.2.2.1, z.2.2.2.2.2.2.2.2.1, z.2.2.2.2.2.2.2.2.2.1, z.2.2.2.2.2.2.2.2.2.2.1, z.2.2.2.2.2.2.2.2.2.2.2.1, v, z.2.2.2.2.2.2.2.2.2.2.2.2.2)
abbrev Mo_set_undos (z : Mo) (v : Int32) : Mo := (z.1, z.2.1, z.2.2.1, z.2.2.2.1, z.2.2.2.2.1, z.2.2.2.2.2.1, z.2.2.2.2.2.2.1, z.2.2.2.2.2.2.2.1, z.2.2.2.2.2.2.2.2.1, z.2.2.2.2.2.2.2.2.2.1, z.2.2.2.2.2.2.2.2.2.2.1, z.2.2.2.2.2.2.2.2.2.2.2.1, z.2.2.2.2.2.2.2.2.2.2.2.2.1, v, z.2.2.2.2.2.2.2.2.2.2.2.2.2.2)
abbrev Mo_set_past (z : Mo) (v : Nat → Int32) : Mo := (z.1, z.2.1, z.2.2.1, z.2.2.2.1, z.2.2.2.2.1, z.2.2.2.2.2.1, z.2.2.2.2.2.2.1, z.2.2.2.2.2.2.2.1, z.2.2.2.2.2.2.2.2.1, z.2.2.2.2.2.2.2.2.2.1, z.2.2.2.2.2.2.2.2.2.2.1, z.2.2.2.2.2.2.2.2.2.2.2.1, z.2.2.2.2.2.2.2.2.2.2.2.2.1, z.2.2.2.2.2.2.2.2.2.2.2.2.2.1, v, z.2.2.2.2.2.2.2.2.2.2.2.2.2.2.2)
abbrev Mo_set_images (z : Mo) (v : Nat → Int32) : Mo := (z.1, z.2.1, z.2.2.1, z.2.2.2.1, z.2.2.2.2.1, z.2.2.2.2.2.1, z.2.2.2.2.2.2.1, z.2.2.2.2.2.2.2.1, z.2.2.2.2.2.2.2.2.1, z.2.2.2.2.2.2.2.2.2.1, z.2.2.2.2.2.2.2.2.2.2.1, z.2.2.2.2.2.2.2.2.2.2.2.1, z.2.2.2.2.2.2.2.2.2.2.2.2.1, z.2.2.2.2.2.2.2.2.2.2.2.2.2.1, z.2.2.2.2.2.2.2.2.2.2.2.2.2.2.1, v, z.2.2.2.2.2.2.2.2.2.2.2.2.2.2.2.2)
abbrev Mo_set_isKept (z : Mo) (v : Nat → Int32) : Mo := (z.1, z.2.1, z.2.2.1, z.2.2.2.1, z.2.2.2.2.1, z.2.2.2.2.2.1, z.2.2.2.2.2.2.1, z.2.2.2.2.2.2.2.1, z.2.2.2.2.2.2.2.2.1, z.2.2.2.2.2.2.2.2.2.1, z.2.2.2.2.2.2.2.2.2.2.1, z.2.2.2.2.2.2.2.2.2.2.2.1, z.2.2.2.2.2.2.2.2.2.2.2.2.1, z.2.2.2.2.2.2.2.2.2.2.2.2.2.1, z.2.2.2.2.2.2.2.2.2.2.2.2.2.2.1, z.2.2.2.2.2.2.2.2.2.2.2.2.2.2.2.1, v)
def up2 {α : Type} (M : Nat → α) (v : Nat) (f : α) : Nat → α := fun j => if j = v then f else M j
abbrev wF (E : xG) (f : Nat → Nat) (z : Fo) : va_W := [(f 0, .inr (1, [.int (Fo_many z), .int (Fo_depth z), .int (Fo_wanted z), .ref (f 1), .ref (f 2), .ref (f 3)])),
  (f 1, .inl (xI E, 3, .inl (Fo_bodies z))),
  (f 2, .inl (xI E, 48, .inl (Fo_backs z))),
  (f 3, .inl (xI E, 9, .inl (Fo_weights z)))]
abbrev wFF (E : xG) (f : Nat → Nat) (k : Nat → Nat) (z : Fo) (y : Fo) : va_W := [(f 0, .inr (1, [.int (Fo_many z), .int (Fo_depth z), .int (Fo_wanted z), .ref (f 1), .ref (f 2), .ref (f 3)])),
  (f 1, .inl (xI E, 3, .inl (Fo_bodies z))),
  (f 2, .inl (xI E, 48, .inl (Fo_backs z))),
  (f 3, .inl (xI E, 9, .inl (Fo_weights z))),
  (k 0, .inr (1, [.int (Fo_many y), .int (Fo_depth y), .int (Fo_wanted y), .ref (k 1), .ref (k 2), .ref (k 3)])),
  (k 1, .inl (xI E, 3, .inl (Fo_bodies y))),
  (k 2, .inl (xI E, 48, .inl (Fo_backs y))),
  (k 3, .inl (xI E, 9, .inl (Fo_weights y)))]
abbrev wO (E : xG) (q : Nat → Nat) (f : Nat → Nat) (ev : Ev) : va_W := [(q 0, .inr (0, [.ref (f 0), .ref (q 1), .ref (q 8), .ref (q 9), .long (Ev_below ev), .ref (q 10), .ref (q 11), .int (Ev_found ev)]))]
abbrev wE (E : xG) (q : Nat → Nat) (f : Nat → Nat) (ev : Ev) (z : Fo) : va_W := [(q 0, .inr (0, [.ref (f 0), .ref (q 1), .ref (q 8), .ref (q 9), .long (Ev_below ev), .ref (q 10), .ref (q 11), .int (Ev_found ev)])),
  (q 1, .inl (xRo E, 6, .inr (.inr (.inr (.inr (fun i => if i < 6 then some (q (2 + i)) else none)))))),
  (q 2, .inl (xJ E, 7, .inr (.inl ((Ev_rows ev) 0)))),
  (q 3, .inl (xJ E, 7, .inr (.inl ((Ev_rows ev) 1)))),
  (q 4, .inl (xJ E, 7, .inr (.inl ((Ev_rows ev) 2)))),
  (q 5, .inl (xJ E, 7, .inr (.inl ((Ev_rows ev) 3)))),
  (q 6, .inl (xJ E, 7, .inr (.inl ((Ev_rows ev) 4)))),
  (q 7, .inl (xJ E, 7, .inr (.inl ((Ev_rows ev) 5)))),
  (q 8, .inl (xZ E, 6, .inl (Ev_opn ev))),
  (q 9, .inl (xJ E, 6, .inr (.inl (Ev_eight ev)))),
  (q 10, .inl (xJ E, 6, .inr (.inl (Ev_whole ev)))),
  (q 11, .inl (xJ E, 6, .inr (.inl (Ev_rest ev)))),
  (f 0, .inr (1, [.int (Fo_many z), .int (Fo_depth z), .int (Fo_wanted z), .ref (f 1), .ref (f 2), .ref (f 3)])),
  (f 1, .inl (xI E, 3, .inl (Fo_bodies z))),
  (f 2, .inl (xI E, 48, .inl (Fo_backs z))),
  (f 3, .inl (xI E, 9, .inl (Fo_weights z)))]
abbrev wT (E : xG) (h : Nat → Nat) (te : Te) : va_W := [(h 0, .inr (4, [.int (Te_many te), .ref (h 1)])),
  (h 1, .inl (xI E, 96, .inl (Te_signs te)))]
abbrev wN (E : xG) (g : Nat → Nat) (h : Nat → Nat) (q : Nat → Nat) (f : Nat → Nat) (li : Li) : va_W := [(g 0, .inr (2, [.int (Li_many li), .ref (g 1), .ref (f 0), .ref (q 0), .ref (h 0)])),
  (g 1, .inl (xI E, 16, .inl (Li_places li)))]
abbrev wL (E : xG) (g : Nat → Nat) (h : Nat → Nat) (q : Nat → Nat) (f : Nat → Nat) (li : Li) (te : Te) (ev : Ev) (z : Fo) : va_W := [(g 0, .inr (2, [.int (Li_many li), .ref (g 1), .ref (f 0), .ref (q 0), .ref (h 0)])),
  (g 1, .inl (xI E, 16, .inl (Li_places li))),
  (h 0, .inr (4, [.int (Te_many te), .ref (h 1)])),
  (h 1, .inl (xI E, 96, .inl (Te_signs te))),
  (q 0, .inr (0, [.ref (f 0), .ref (q 1), .ref (q 8), .ref (q 9), .long (Ev_below ev), .ref (q 10), .ref (q 11), .int (Ev_found ev)])),
  (q 1, .inl (xRo E, 6, .inr (.inr (.inr (.inr (fun i => if i < 6 then some (q (2 + i)) else none)))))),
  (q 2, .inl (xJ E, 7, .inr (.inl ((Ev_rows ev) 0)))),
  (q 3, .inl (xJ E, 7, .inr (.inl ((Ev_rows ev) 1)))),
  (q 4, .inl (xJ E, 7, .inr (.inl ((Ev_rows ev) 2)))),
  (q 5, .inl (xJ E, 7, .inr (.inl ((Ev_rows ev) 3)))),
  (q 6, .inl (xJ E, 7, .inr (.inl ((Ev_rows ev) 4)))),
  (q 7, .inl (xJ E, 7, .inr (.inl ((Ev_rows ev) 5)))),
  (q 8, .inl (xZ E, 6, .inl (Ev_opn ev))),
  (q 9, .inl (xJ E, 6, .inr (.inl (Ev_eight ev)))),
  (q 10, .inl (xJ E, 6, .inr (.inl (Ev_whole ev)))),
  (q 11, .inl (xJ E, 6, .inr (.inl (Ev_rest ev)))),
  (f 0, .inr (1, [.int (Fo_many z), .int (Fo_depth z), .int (Fo_wanted z), .ref (f 1), .ref (f 2), .ref (f 3)])),
  (f 1, .inl (xI E, 3, .inl (Fo_bodies z))),
  (f 2, .inl (xI E, 48, .inl (Fo_backs z))),
  (f 3, .inl (xI E, 9, .inl (Fo_weights z)))]
abbrev wQ (E : xG) (pq : Nat → Nat) (pa : Pa) : va_W := [(pq 0, .inr (3, [.int (Pa_many pa), .int (Pa_next pa), .ref (pq 1)]))]
abbrev wP (E : xG) (pq : Nat → Nat) (rq : Nat → Nat → Nat) (f : Nat → Nat) (pa : Pa) (z : Fo) : va_W := [(f 0, .inr (1, [.int (Fo_many z), .int (Fo_depth z), .int (Fo_wanted z), .ref (f 1), .ref (f 2), .ref (f 3)])),
  (f 1, .inl (xI E, 3, .inl (Fo_bodies z))),
  (f 2, .inl (xI E, 48, .inl (Fo_backs z))),
  (f 3, .inl (xI E, 9, .inl (Fo_weights z))),
  (pq 0, .inr (3, [.int (Pa_many pa), .int (Pa_next pa), .ref (pq 1)])),
  (pq 1, .inl (xFo E, 8, .inr (.inr (.inr (.inr (fun i => if i < 8 then some (rq i 0) else none)))))),
  (rq 0 0, .inr (1, [.int (Fo_many (Pa_ring pa 0)), .int (Fo_depth (Pa_ring pa 0)), .int (Fo_wanted (Pa_ring pa 0)), .ref (rq 0 1), .ref (rq 0 2), .ref (rq 0 3)])),
  (rq 0 1, .inl (xI E, 3, .inl (Fo_bodies (Pa_ring pa 0)))),
  (rq 0 2, .inl (xI E, 48, .inl (Fo_backs (Pa_ring pa 0)))),
  (rq 0 3, .inl (xI E, 9, .inl (Fo_weights (Pa_ring pa 0)))),
  (rq 1 0, .inr (1, [.int (Fo_many (Pa_ring pa 1)), .int (Fo_depth (Pa_ring pa 1)), .int (Fo_wanted (Pa_ring pa 1)), .ref (rq 1 1), .ref (rq 1 2), .ref (rq 1 3)])),
  (rq 1 1, .inl (xI E, 3, .inl (Fo_bodies (Pa_ring pa 1)))),
  (rq 1 2, .inl (xI E, 48, .inl (Fo_backs (Pa_ring pa 1)))),
  (rq 1 3, .inl (xI E, 9, .inl (Fo_weights (Pa_ring pa 1)))),
  (rq 2 0, .inr (1, [.int (Fo_many (Pa_ring pa 2)), .int (Fo_depth (Pa_ring pa 2)), .int (Fo_wanted (Pa_ring pa 2)), .ref (rq 2 1), .ref (rq 2 2), .ref (rq 2 3)])),
  (rq 2 1, .inl (xI E, 3, .inl (Fo_bodies (Pa_ring pa 2)))),
  (rq 2 2, .inl (xI E, 48, .inl (Fo_backs (Pa_ring pa 2)))),
  (rq 2 3, .inl (xI E, 9, .inl (Fo_weights (Pa_ring pa 2)))),
  (rq 3 0, .inr (1, [.int (Fo_many (Pa_ring pa 3)), .int (Fo_depth (Pa_ring pa 3)), .int (Fo_wanted (Pa_ring pa 3)), .ref (rq 3 1), .ref (rq 3 2), .ref (rq 3 3)])),
  (rq 3 1, .inl (xI E, 3, .inl (Fo_bodies (Pa_ring pa 3)))),
  (rq 3 2, .inl (xI E, 48, .inl (Fo_backs (Pa_ring pa 3)))),
  (rq 3 3, .inl (xI E, 9, .inl (Fo_weights (Pa_ring pa 3)))),
  (rq 4 0, .inr (1, [.int (Fo_many (Pa_ring pa 4)), .int (Fo_depth (Pa_ring pa 4)), .int (Fo_wanted (Pa_ring pa 4)), .ref (rq 4 1), .ref (rq 4 2), .ref (rq 4 3)])),
  (rq 4 1, .inl (xI E, 3, .inl (Fo_bodies (Pa_ring pa 4)))),
  (rq 4 2, .inl (xI E, 48, .inl (Fo_backs (Pa_ring pa 4)))),
  (rq 4 3, .inl (xI E, 9, .inl (Fo_weights (Pa_ring pa 4)))),
  (rq 5 0, .inr (1, [.int (Fo_many (Pa_ring pa 5)), .int (Fo_depth (Pa_ring pa 5)), .int (Fo_wanted (Pa_ring pa 5)), .ref (rq 5 1), .ref (rq 5 2), .ref (rq 5 3)])),
  (rq 5 1, .inl (xI E, 3, .inl (Fo_bodies (Pa_ring pa 5)))),
  (rq 5 2, .inl (xI E, 48, .inl (Fo_backs (Pa_ring pa 5)))),
  (rq 5 3, .inl (xI E, 9, .inl (Fo_weights (Pa_ring pa 5)))),
  (rq 6 0, .inr (1, [.int (Fo_many (Pa_ring pa 6)), .int (Fo_depth (Pa_ring pa 6)), .int (Fo_wanted (Pa_ring pa 6)), .ref (rq 6 1), .ref (rq 6 2), .ref (rq 6 3)])),
  (rq 6 1, .inl (xI E, 3, .inl (Fo_bodies (Pa_ring pa 6)))),
  (rq 6 2, .inl (xI E, 48, .inl (Fo_backs (Pa_ring pa 6)))),
  (rq 6 3, .inl (xI E, 9, .inl (Fo_weights (Pa_ring pa 6)))),
  (rq 7 0, .inr (1, [.int (Fo_many (Pa_ring pa 7)), .int (Fo_depth (Pa_ring pa 7)), .int (Fo_wanted (Pa_ring pa 7)), .ref (rq 7 1), .ref (rq 7 2), .ref (rq 7 3)])),
  (rq 7 1, .inl (xI E, 3, .inl (Fo_bodies (Pa_ring pa 7)))),
  (rq 7 2, .inl (xI E, 48, .inl (Fo_backs (Pa_ring pa 7)))),
  (rq 7 3, .inl (xI E, 9, .inl (Fo_weights (Pa_ring pa 7))))]
abbrev wM (E : xG) (uq : Nat → Nat) (mo : Mo) : va_W := [(uq 0, .inr (6, [.ref (uq 1), .int (Mo_lined mo), .ref (uq 2), .ref (uq 3), .ref (uq 4), .long (Mo_whole mo), .ref (uq 5), .ref (uq 6), .ref (uq 7), .ref (uq 8), .ref (uq 9), .ref (uq 10), .int (Mo_signed mo), .int (Mo_undos mo), .ref (uq 11), .ref (uq 12), .ref (uq 13)])),
  (uq 1, .inl (xI E, 63, .inl (Mo_now mo))),
  (uq 2, .inl (xI E, 16, .inl (Mo_line mo))),
  (uq 3, .inl (xZ E, 6, .inl (Mo_isOpn mo))),
  (uq 4, .inl (xJ E, 6, .inr (.inl (Mo_spaces mo)))),
  (uq 5, .inl (xI E, 6, .inl (Mo_grp mo))),
  (uq 6, .inl (xJ E, 42, .inr (.inl (Mo_cells mo)))),
  (uq 7, .inl (xI E, 6, .inl (Mo_unk mo))),
  (uq 8, .inl (xJ E, 6, .inr (.inl (Mo_wholes mo)))),
  (uq 9, .inl (xZ E, 6, .inl (Mo_isMore mo))),
  (uq 10, .inl (xI E, 80, .inl (Mo_signs mo))),
  (uq 11, .inl (xI E, 504, .inl (Mo_past mo))),
  (uq 12, .inl (xI E, 126, .inl (Mo_images mo))),
  (uq 13, .inl (xZ E, 2, .inl (Mo_isKept mo)))]
abbrev wW (E : xG) (tq : Nat → Nat) (f : Nat → Nat) (q : Nat → Nat) (g : Nat → Nat) (h : Nat → Nat) (pq : Nat → Nat) (rq : Nat → Nat → Nat) (bq : Nat → Nat → Nat) (z : Fo) (ev : Ev) (li : Li) (te : Te) (pa : Pa) (im : Im) : va_W := [(tq 0, .inr (5, [.ref (f 0), .ref (q 0), .ref (pq 0), .ref (g 0), .ref (tq 1), .ref (tq 2)])),
  (tq 1, .inl (xFo E, 2, .inr (.inr (.inr (.inr (fun i => if i < 2 then some (bq i 0) else none)))))),
  (tq 2, .inl (xZ E, 2, .inl (Im_kept im))),
  (g 0, .inr (2, [.int (Li_many li), .ref (g 1), .ref (f 0), .ref (q 0), .ref (h 0)])),
  (g 1, .inl (xI E, 16, .inl (Li_places li))),
  (h 0, .inr (4, [.int (Te_many te), .ref (h 1)])),
  (h 1, .inl (xI E, 96, .inl (Te_signs te))),
  (q 0, .inr (0, [.ref (f 0), .ref (q 1), .ref (q 8), .ref (q 9), .long (Ev_below ev), .ref (q 10), .ref (q 11), .int (Ev_found ev)])),
  (q 1, .inl (xRo E, 6, .inr (.inr (.inr (.inr (fun i => if i < 6 then some (q (2 + i)) else none)))))),
  (q 2, .inl (xJ E, 7, .inr (.inl ((Ev_rows ev) 0)))),
  (q 3, .inl (xJ E, 7, .inr (.inl ((Ev_rows ev) 1)))),
  (q 4, .inl (xJ E, 7, .inr (.inl ((Ev_rows ev) 2)))),
  (q 5, .inl (xJ E, 7, .inr (.inl ((Ev_rows ev) 3)))),
  (q 6, .inl (xJ E, 7, .inr (.inl ((Ev_rows ev) 4)))),
  (q 7, .inl (xJ E, 7, .inr (.inl ((Ev_rows ev) 5)))),
  (q 8, .inl (xZ E, 6, .inl (Ev_opn ev))),
  (q 9, .inl (xJ E, 6, .inr (.inl (Ev_eight ev)))),
  (q 10, .inl (xJ E, 6, .inr (.inl (Ev_whole ev)))),
  (q 11, .inl (xJ E, 6, .inr (.inl (Ev_rest ev)))),
  (f 0, .inr (1, [.int (Fo_many z), .int (Fo_depth z), .int (Fo_wanted z), .ref (f 1), .ref (f 2), .ref (f 3)])),
  (f 1, .inl (xI E, 3, .inl (Fo_bodies z))),
  (f 2, .inl (xI E, 48, .inl (Fo_backs z))),
  (f 3, .inl (xI E, 9, .inl (Fo_weights z))),
  (pq 0, .inr (3, [.int (Pa_many pa), .int (Pa_next pa), .ref (pq 1)])),
  (pq 1, .inl (xFo E, 8, .inr (.inr (.inr (.inr (fun i => if i < 8 then some (rq i 0) else none)))))),
  (rq 0 0, .inr (1, [.int (Fo_many (Pa_ring pa 0)), .int (Fo_depth (Pa_ring pa 0)), .int (Fo_wanted (Pa_ring pa 0)), .ref (rq 0 1), .ref (rq 0 2), .ref (rq 0 3)])),
  (rq 0 1, .inl (xI E, 3, .inl (Fo_bodies (Pa_ring pa 0)))),
  (rq 0 2, .inl (xI E, 48, .inl (Fo_backs (Pa_ring pa 0)))),
  (rq 0 3, .inl (xI E, 9, .inl (Fo_weights (Pa_ring pa 0)))),
  (rq 1 0, .inr (1, [.int (Fo_many (Pa_ring pa 1)), .int (Fo_depth (Pa_ring pa 1)), .int (Fo_wanted (Pa_ring pa 1)), .ref (rq 1 1), .ref (rq 1 2), .ref (rq 1 3)])),
  (rq 1 1, .inl (xI E, 3, .inl (Fo_bodies (Pa_ring pa 1)))),
  (rq 1 2, .inl (xI E, 48, .inl (Fo_backs (Pa_ring pa 1)))),
  (rq 1 3, .inl (xI E, 9, .inl (Fo_weights (Pa_ring pa 1)))),
  (rq 2 0, .inr (1, [.int (Fo_many (Pa_ring pa 2)), .int (Fo_depth (Pa_ring pa 2)), .int (Fo_wanted (Pa_ring pa 2)), .ref (rq 2 1), .ref (rq 2 2), .ref (rq 2 3)])),
  (rq 2 1, .inl (xI E, 3, .inl (Fo_bodies (Pa_ring pa 2)))),
  (rq 2 2, .inl (xI E, 48, .inl (Fo_backs (Pa_ring pa 2)))),
  (rq 2 3, .inl (xI E, 9, .inl (Fo_weights (Pa_ring pa 2)))),
  (rq 3 0, .inr (1, [.int (Fo_many (Pa_ring pa 3)), .int (Fo_depth (Pa_ring pa 3)), .int (Fo_wanted (Pa_ring pa 3)), .ref (rq 3 1), .ref (rq 3 2), .ref (rq 3 3)])),
  (rq 3 1, .inl (xI E, 3, .inl (Fo_bodies (Pa_ring pa 3)))),
  (rq 3 2, .inl (xI E, 48, .inl (Fo_backs (Pa_ring pa 3)))),
  (rq 3 3, .inl (xI E, 9, .inl (Fo_weights (Pa_ring pa 3)))),
  (rq 4 0, .inr (1, [.int (Fo_many (Pa_ring pa 4)), .int (Fo_depth (Pa_ring pa 4)), .int (Fo_wanted (Pa_ring pa 4)), .ref (rq 4 1), .ref (rq 4 2), .ref (rq 4 3)])),
  (rq 4 1, .inl (xI E, 3, .inl (Fo_bodies (Pa_ring pa 4)))),
  (rq 4 2, .inl (xI E, 48, .inl (Fo_backs (Pa_ring pa 4)))),
  (rq 4 3, .inl (xI E, 9, .inl (Fo_weights (Pa_ring pa 4)))),
  (rq 5 0, .inr (1, [.int (Fo_many (Pa_ring pa 5)), .int (Fo_depth (Pa_ring pa 5)), .int (Fo_wanted (Pa_ring pa 5)), .ref (rq 5 1), .ref (rq 5 2), .ref (rq 5 3)])),
  (rq 5 1, .inl (xI E, 3, .inl (Fo_bodies (Pa_ring pa 5)))),
  (rq 5 2, .inl (xI E, 48, .inl (Fo_backs (Pa_ring pa 5)))),
  (rq 5 3, .inl (xI E, 9, .inl (Fo_weights (Pa_ring pa 5)))),
  (rq 6 0, .inr (1, [.int (Fo_many (Pa_ring pa 6)), .int (Fo_depth (Pa_ring pa 6)), .int (Fo_wanted (Pa_ring pa 6)), .ref (rq 6 1), .ref (rq 6 2), .ref (rq 6 3)])),
  (rq 6 1, .inl (xI E, 3, .inl (Fo_bodies (Pa_ring pa 6)))),
  (rq 6 2, .inl (xI E, 48, .inl (Fo_backs (Pa_ring pa 6)))),
  (rq 6 3, .inl (xI E, 9, .inl (Fo_weights (Pa_ring pa 6)))),
  (rq 7 0, .inr (1, [.int (Fo_many (Pa_ring pa 7)), .int (Fo_depth (Pa_ring pa 7)), .int (Fo_wanted (Pa_ring pa 7)), .ref (rq 7 1), .ref (rq 7 2), .ref (rq 7 3)])),
  (rq 7 1, .inl (xI E, 3, .inl (Fo_bodies (Pa_ring pa 7)))),
  (rq 7 2, .inl (xI E, 48, .inl (Fo_backs (Pa_ring pa 7)))),
  (rq 7 3, .inl (xI E, 9, .inl (Fo_weights (Pa_ring pa 7)))),
  (bq 0 0, .inr (1, [.int (Fo_many (Im_imgs im 0)), .int (Fo_depth (Im_imgs im 0)), .int (Fo_wanted (Im_imgs im 0)), .ref (bq 0 1), .ref (bq 0 2), .ref (bq 0 3)])),
  (bq 0 1, .inl (xI E, 3, .inl (Fo_bodies (Im_imgs im 0)))),
  (bq 0 2, .inl (xI E, 48, .inl (Fo_backs (Im_imgs im 0)))),
  (bq 0 3, .inl (xI E, 9, .inl (Fo_weights (Im_imgs im 0)))),
  (bq 1 0, .inr (1, [.int (Fo_many (Im_imgs im 1)), .int (Fo_depth (Im_imgs im 1)), .int (Fo_wanted (Im_imgs im 1)), .ref (bq 1 1), .ref (bq 1 2), .ref (bq 1 3)])),
  (bq 1 1, .inl (xI E, 3, .inl (Fo_bodies (Im_imgs im 1)))),
  (bq 1 2, .inl (xI E, 48, .inl (Fo_backs (Im_imgs im 1)))),
  (bq 1 3, .inl (xI E, 9, .inl (Fo_weights (Im_imgs im 1))))]
abbrev wR (E : xG) (pq : Nat → Nat) (rq : Nat → Nat → Nat) (pa : Pa) : va_W := [(pq 0, .inr (3, [.int (Pa_many pa), .int (Pa_next pa), .ref (pq 1)])),
  (pq 1, .inl (xFo E, 8, .inr (.inr (.inr (.inr (fun i => if i < 8 then some (rq i 0) else none)))))),
  (rq 0 0, .inr (1, [.int (Fo_many (Pa_ring pa 0)), .int (Fo_depth (Pa_ring pa 0)), .int (Fo_wanted (Pa_ring pa 0)), .ref (rq 0 1), .ref (rq 0 2), .ref (rq 0 3)])),
  (rq 0 1, .inl (xI E, 3, .inl (Fo_bodies (Pa_ring pa 0)))),
  (rq 0 2, .inl (xI E, 48, .inl (Fo_backs (Pa_ring pa 0)))),
  (rq 0 3, .inl (xI E, 9, .inl (Fo_weights (Pa_ring pa 0)))),
  (rq 1 0, .inr (1, [.int (Fo_many (Pa_ring pa 1)), .int (Fo_depth (Pa_ring pa 1)), .int (Fo_wanted (Pa_ring pa 1)), .ref (rq 1 1), .ref (rq 1 2), .ref (rq 1 3)])),
  (rq 1 1, .inl (xI E, 3, .inl (Fo_bodies (Pa_ring pa 1)))),
  (rq 1 2, .inl (xI E, 48, .inl (Fo_backs (Pa_ring pa 1)))),
  (rq 1 3, .inl (xI E, 9, .inl (Fo_weights (Pa_ring pa 1)))),
  (rq 2 0, .inr (1, [.int (Fo_many (Pa_ring pa 2)), .int (Fo_depth (Pa_ring pa 2)), .int (Fo_wanted (Pa_ring pa 2)), .ref (rq 2 1), .ref (rq 2 2), .ref (rq 2 3)])),
  (rq 2 1, .inl (xI E, 3, .inl (Fo_bodies (Pa_ring pa 2)))),
  (rq 2 2, .inl (xI E, 48, .inl (Fo_backs (Pa_ring pa 2)))),
  (rq 2 3, .inl (xI E, 9, .inl (Fo_weights (Pa_ring pa 2)))),
  (rq 3 0, .inr (1, [.int (Fo_many (Pa_ring pa 3)), .int (Fo_depth (Pa_ring pa 3)), .int (Fo_wanted (Pa_ring pa 3)), .ref (rq 3 1), .ref (rq 3 2), .ref (rq 3 3)])),
  (rq 3 1, .inl (xI E, 3, .inl (Fo_bodies (Pa_ring pa 3)))),
  (rq 3 2, .inl (xI E, 48, .inl (Fo_backs (Pa_ring pa 3)))),
  (rq 3 3, .inl (xI E, 9, .inl (Fo_weights (Pa_ring pa 3)))),
  (rq 4 0, .inr (1, [.int (Fo_many (Pa_ring pa 4)), .int (Fo_depth (Pa_ring pa 4)), .int (Fo_wanted (Pa_ring pa 4)), .ref (rq 4 1), .ref (rq 4 2), .ref (rq 4 3)])),
  (rq 4 1, .inl (xI E, 3, .inl (Fo_bodies (Pa_ring pa 4)))),
  (rq 4 2, .inl (xI E, 48, .inl (Fo_backs (Pa_ring pa 4)))),
  (rq 4 3, .inl (xI E, 9, .inl (Fo_weights (Pa_ring pa 4)))),
  (rq 5 0, .inr (1, [.int (Fo_many (Pa_ring pa 5)), .int (Fo_depth (Pa_ring pa 5)), .int (Fo_wanted (Pa_ring pa 5)), .ref (rq 5 1), .ref (rq 5 2), .ref (rq 5 3)])),
  (rq 5 1, .inl (xI E, 3, .inl (Fo_bodies (Pa_ring pa 5)))),
  (rq 5 2, .inl (xI E, 48, .inl (Fo_backs (Pa_ring pa 5)))),
  (rq 5 3, .inl (xI E, 9, .inl (Fo_weights (Pa_ring pa 5)))),
  (rq 6 0, .inr (1, [.int (Fo_many (Pa_ring pa 6)), .int (Fo_depth (Pa_ring pa 6)), .int (Fo_wanted (Pa_ring pa 6)), .ref (rq 6 1), .ref (rq 6 2), .ref (rq 6 3)])),
  (rq 6 1, .inl (xI E, 3, .inl (Fo_bodies (Pa_ring pa 6)))),
  (rq 6 2, .inl (xI E, 48, .inl (Fo_backs (Pa_ring pa 6)))),
  (rq 6 3, .inl (xI E, 9, .inl (Fo_weights (Pa_ring pa 6)))),
  (rq 7 0, .inr (1, [.int (Fo_many (Pa_ring pa 7)), .int (Fo_depth (Pa_ring pa 7)), .int (Fo_wanted (Pa_ring pa 7)), .ref (rq 7 1), .ref (rq 7 2), .ref (rq 7 3)])),
  (rq 7 1, .inl (xI E, 3, .inl (Fo_bodies (Pa_ring pa 7)))),
  (rq 7 2, .inl (xI E, 48, .inl (Fo_backs (Pa_ring pa 7)))),
  (rq 7 3, .inl (xI E, 9, .inl (Fo_weights (Pa_ring pa 7))))]
abbrev wV (E : xG) (q : Nat → Nat) (f : Nat → Nat) (ev : Ev) : va_W := [(q 0, .inr (0, [.ref (f 0), .ref (q 1), .ref (q 8), .ref (q 9), .long (Ev_below ev), .ref (q 10), .ref (q 11), .int (Ev_found ev)])),
  (q 1, .inl (xRo E, 6, .inr (.inr (.inr (.inr (fun i => if i < 6 then some (q (2 + i)) else none)))))),
  (q 2, .inl (xJ E, 7, .inr (.inl ((Ev_rows ev) 0)))),
  (q 3, .inl (xJ E, 7, .inr (.inl ((Ev_rows ev) 1)))),
  (q 4, .inl (xJ E, 7, .inr (.inl ((Ev_rows ev) 2)))),
  (q 5, .inl (xJ E, 7, .inr (.inl ((Ev_rows ev) 3)))),
  (q 6, .inl (xJ E, 7, .inr (.inl ((Ev_rows ev) 4)))),
  (q 7, .inl (xJ E, 7, .inr (.inl ((Ev_rows ev) 5)))),
  (q 8, .inl (xZ E, 6, .inl (Ev_opn ev))),
  (q 9, .inl (xJ E, 6, .inr (.inl (Ev_eight ev)))),
  (q 10, .inl (xJ E, 6, .inr (.inl (Ev_whole ev)))),
  (q 11, .inl (xJ E, 6, .inr (.inl (Ev_rest ev))))]
abbrev wNT (E : xG) (g : Nat → Nat) (h : Nat → Nat) (q : Nat → Nat) (f : Nat → Nat) (li : Li) (te : Te) : va_W := [(g 0, .inr (2, [.int (Li_many li), .ref (g 1), .ref (f 0), .ref (q 0), .ref (h 0)])),
  (g 1, .inl (xI E, 16, .inl (Li_places li))),
  (h 0, .inr (4, [.int (Te_many te), .ref (h 1)])),
  (h 1, .inl (xI E, 96, .inl (Te_signs te)))]
theorem wE_row {E : xG} {q : Nat → Nat} {f : Nat → Nat} {ev : Ev} {z : Fo} {j : Nat} (hj6 : j < 6) : (wE E q f ev z)[2 + j]? = some (q (2 + j), .inl (xJ E, 7, .inr (.inl (Ev_rows ev j)))) := by
  match j, hj6 with
  | 0, _ => rfl
  | 1, _ => rfl
  | 2, _ => rfl
  | 3, _ => rfl
  | 4, _ => rfl
  | 5, _ => rfl
theorem wE_rowset {E : xG} {q : Nat → Nat} {f : Nat → Nat} {ev : Ev} {z : Fo} {j : Nat} (hj6 : j < 6) (x : Nat → Int64) : (wE E q f ev z).set (2 + j) (q (2 + j), .inl (xJ E, 7, .inr (.inl x))) = wE E q f (Ev_set_rows ev (up2 (Ev_rows ev) j x)) z := by
  match j, hj6 with
  | 0, _ => rfl
  | 1, _ => rfl
  | 2, _ => rfl
  | 3, _ => rfl
  | 4, _ => rfl
  | 5, _ => rfl
theorem wL_row {E : xG} {g : Nat → Nat} {h : Nat → Nat} {q : Nat → Nat} {f : Nat → Nat} {li : Li} {te : Te} {ev : Ev} {z : Fo} {j : Nat} (hj6 : j < 6) : (wL E g h q f li te ev z)[6 + j]? = some (q (2 + j), .inl (xJ E, 7, .inr (.inl (Ev_rows ev j)))) := by
  match j, hj6 with
  | 0, _ => rfl
  | 1, _ => rfl
  | 2, _ => rfl
  | 3, _ => rfl
  | 4, _ => rfl
  | 5, _ => rfl
theorem wL_rowset {E : xG} {g : Nat → Nat} {h : Nat → Nat} {q : Nat → Nat} {f : Nat → Nat} {li : Li} {te : Te} {ev : Ev} {z : Fo} {j : Nat} (hj6 : j < 6) (x : Nat → Int64) : (wL E g h q f li te ev z).set (6 + j) (q (2 + j), .inl (xJ E, 7, .inr (.inl x))) = wL E g h q f li te (Ev_set_rows ev (up2 (Ev_rows ev) j x)) z := by
  match j, hj6 with
  | 0, _ => rfl
  | 1, _ => rfl
  | 2, _ => rfl
  | 3, _ => rfl
  | 4, _ => rfl
  | 5, _ => rfl
theorem wW_row {E : xG} {tq : Nat → Nat} {f : Nat → Nat} {q : Nat → Nat} {g : Nat → Nat} {h : Nat → Nat} {pq : Nat → Nat} {rq : Nat → Nat → Nat} {bq : Nat → Nat → Nat} {z : Fo} {ev : Ev} {li : Li} {te : Te} {pa : Pa} {im : Im} {j : Nat} (hj6 : j < 6) : (wW E tq f q g h pq rq bq z ev li te pa im)[9 + j]? = some (q (2 + j), .inl (xJ E, 7, .inr (.inl (Ev_rows ev j)))) := by
  match j, hj6 with
  | 0, _ => rfl
  | 1, _ => rfl
  | 2, _ => rfl
  | 3, _ => rfl
  | 4, _ => rfl
  | 5, _ => rfl
theorem wW_rowset {E : xG} {tq : Nat → Nat} {f : Nat → Nat} {q : Nat → Nat} {g : Nat → Nat} {h : Nat → Nat} {pq : Nat → Nat} {rq : Nat → Nat → Nat} {bq : Nat → Nat → Nat} {z : Fo} {ev : Ev} {li : Li} {te : Te} {pa : Pa} {im : Im} {j : Nat} (hj6 : j < 6) (x : Nat → Int64) : (wW E tq f q g h pq rq bq z ev li te pa im).set (9 + j) (q (2 + j), .inl (xJ E, 7, .inr (.inl x))) = wW E tq f q g h pq rq bq z (Ev_set_rows ev (up2 (Ev_rows ev) j x)) li te pa im := by
  match j, hj6 with
  | 0, _ => rfl
  | 1, _ => rfl
  | 2, _ => rfl
  | 3, _ => rfl
  | 4, _ => rfl
  | 5, _ => rfl
def ckZ (v : Int32) : Option Int32 := if v = 0 ∨ v = 1 then some v else none
theorem ckZ_ok {v r : Int32} (h : ckZ v = some r) : narrow .boolean (.int v) = .int v ∧ v = r := by
  unfold ckZ at h
  split at h
  · rename_i q
    refine ⟨?_, Option.some.inj h⟩
    rcases q with rfl | rfl <;> rfl
  · cases h
theorem x_nil {D : va_G} {cl : List vw_C} {H : Heap} : va_P D cl [] H := fun k q h => by simp at h
section XC
variable {p : Program} {l : Launch} {e : Env} {R : Room} {s : State} {m : MethodId} {args : Array Value} {below : List Frame} {meth : Method} {c : Code} {H : Heap} {locs : List Loc} {cells slots : Nat} {Q : State → Prop} {g : JFrame}
theorem x_cut {pc : Nat} {ls : Array Slot} {st : List Value} (h1 : W p l e R s m args below meth c H locs cells slots Q (F0 m pc ls st)) (h2 : W p l e R s m args below meth c H locs cells slots Q (F0 m pc ls st) → W p l e R s m args below meth c H locs cells slots Q g) : W p l e R s m args below meth c H locs cells slots Q g := h2 h1
theorem x_cutL (P : Array Slot → Prop) {pc : Nat} {st : List Value} (h1 : ∀ ls, P ls → W p l e R s m args below meth c H locs cells slots Q (F0 m pc ls st)) (h2 : (∀ ls, P ls → W p l e R s m args below meth c H locs cells slots Q (F0 m pc ls st)) → W p l e R s m args below meth c H locs cells slots Q g) : W p l e R s m args below meth c H locs cells slots Q g := h2 h1
theorem x_cutH (P : Heap → List Loc → Array Slot → Prop) {pc : Nat} {st : List Value} (h1 : ∀ H locs ls, P H locs ls → W p l e R s m args below meth c H locs cells slots Q (F0 m pc ls st)) (h2 : (∀ H locs ls, P H locs ls → W p l e R s m args below meth c H locs cells slots Q (F0 m pc ls st)) → W p l e R s m args below meth c H locs cells slots Q g) : W p l e R s m args below meth c H locs cells slots Q g := h2 h1
end XC
theorem x_ne {x k : Int32} {n : Int} (h : ¬ x = k) (hk : k.toInt = n) : x.toInt ≠ n := fun e => h (Int32.toInt_inj.mp (e.trans hk.symm))
theorem x_tab2 {x : Int32} (h0 : ¬ x = 0) (h1 : ¬ x = 1) (h2 : ¬ x = 2) : x.toInt < 0 ∨ 2 < x.toInt := by
  have q0 := x_ne (n := 0) h0 (by decide)
  have q1 := x_ne (n := 1) h1 (by decide)
  have q2 := x_ne (n := 2) h2 (by decide)
  omega
theorem x_tab3 {x : Int32} (h0 : ¬ x = 0) (h1 : ¬ x = 1) (h2 : ¬ x = 2) (h3 : ¬ x = 3) : x.toInt < 0 ∨ 3 < x.toInt := by
  have q0 := x_ne (n := 0) h0 (by decide)
  have q1 := x_ne (n := 1) h1 (by decide)
  have q2 := x_ne (n := 2) h2 (by decide)
  have q3 := x_ne (n := 3) h3 (by decide)
  omega
theorem x_tab5 {x : Int32} (h0 : ¬ x = 0) (h1 : ¬ x = 1) (h2 : ¬ x = 2) (h3 : ¬ x = 3) (h4 : ¬ x = 4) (h5 : ¬ x = 5) : x.toInt < 0 ∨ 5 < x.toInt := by
  have q0 := x_ne (n := 0) h0 (by decide)
  have q1 := x_ne (n := 1) h1 (by decide)
  have q2 := x_ne (n := 2) h2 (by decide)
  have q3 := x_ne (n := 3) h3 (by decide)
  have q4 := x_ne (n := 4) h4 (by decide)
  have q5 := x_ne (n := 5) h5 (by decide)
  omega
theorem x_tab13 {x : Int32} (h0 : ¬ x = 0) (h1 : ¬ x = 1) (h2 : ¬ x = 2) (h3 : ¬ x = 3) (h4 : ¬ x = 4) (h5 : ¬ x = 5) (h6 : ¬ x = 6) (h7 : ¬ x = 7) (h8 : ¬ x = 8) (h9 : ¬ x = 9) (h10 : ¬ x = 10) (h11 : ¬ x = 11) (h12 : ¬ x = 12) (h13 : ¬ x = 13) : x.toInt < 0 ∨ 13 < x.toInt := by
  have q0 := x_ne (n := 0) h0 (by decide)
  have q1 := x_ne (n := 1) h1 (by decide)
  have q2 := x_ne (n := 2) h2 (by decide)
  have q3 := x_ne (n := 3) h3 (by decide)
  have q4 := x_ne (n := 4) h4 (by decide)
  have q5 := x_ne (n := 5) h5 (by decide)
  have q6 := x_ne (n := 6) h6 (by decide)
  have q7 := x_ne (n := 7) h7 (by decide)
  have q8 := x_ne (n := 8) h8 (by decide)
  have q9 := x_ne (n := 9) h9 (by decide)
  have q10 := x_ne (n := 10) h10 (by decide)
  have q11 := x_ne (n := 11) h11 (by decide)
  have q12 := x_ne (n := 12) h12 (by decide)
  have q13 := x_ne (n := 13) h13 (by decide)
  omega
