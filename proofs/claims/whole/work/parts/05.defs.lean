abbrev wX1 (cyI cyJ cyZ cyO : ClassId) (h : Nat → Nat) (lands : Nat → Int32) (camphors : Nat → Int32) (there : Nat → Int32) (mothCells : Nat → Int32) (mothHeads : Nat → Int32) (threads : Nat → Int32) (sightNights : Nat → Int32) (sightCells : Nat → Int32) (sights : Int32) (night : Int32) (eaten : Int32) : va_W := [(h 0, .inr (1, [.ref (h 1), .ref (h 2), .ref (h 3), .ref (h 4), .ref (h 5), .ref (h 6), .ref (h 7), .ref (h 8), .int sights, .int night, .int eaten])), (h 1, .inl (cyI, 25, .inl lands)), (h 2, .inl (cyI, 25, .inl camphors)), (h 3, .inl (cyZ, 4, .inl there)), (h 4, .inl (cyI, 4, .inl mothCells)), (h 5, .inl (cyI, 4, .inl mothHeads)), (h 6, .inl (cyI, 4, .inl threads)), (h 7, .inl (cyI, 8, .inl sightNights)), (h 8, .inl (cyI, 8, .inl sightCells))]
abbrev wX5 (cyI cyJ cyZ cyO : ClassId) (h : Nat → Nat) (signs : Nat → Int32) (size : Int32) : va_W := [(h 0, .inr (5, [.ref (h 1), .int size])), (h 1, .inl (cyI, 60, .inl signs))]
abbrev wX6 (cyI cyJ cyZ cyO : ClassId) (h : Nat → Nat) (costs : Nat → Int32) (settled : Nat → Int32) : va_W := [(h 0, .inr (6, [.ref (h 1), .ref (h 2)])), (h 1, .inl (cyI, 25, .inl costs)), (h 2, .inl (cyZ, 25, .inl settled))]
abbrev wX3 (cyI cyJ cyZ cyO : ClassId) (h : Nat → Nat) (rings : Nat → Int32) (moths : Int32) (harbour : Int32) (best : Int32) : va_W := [(h 0, .inr (3, [.ref (h 1), .int moths, .int harbour, .int best])), (h 1, .inl (cyI, 26, .inl rings))]
abbrev wX0 (cyI cyJ cyZ cyO : ClassId) (h : Nat → Nat) (woven : Nat → Int32) (tied : Nat → Int32) (ties : Int32) (holes : Int32) (byTowns : Int32) (ways : Int32) (first : Int32) : va_W := [(h 0, .inr (0, [.ref (h 1), .ref (h 2), .int ties, .int holes, .int byTowns, .int ways, .int first])), (h 1, .inl (cyI, 4, .inl woven)), (h 2, .inl (cyI, 9, .inl tied))]
abbrev wX7 (cyI cyJ cyZ cyO : ClassId) (h : Nat → Nat) (next_ : Nat → Int32) (starts : Nat → Int32) (stands : Nat → Int32) (cellsSeen : Nat → Int32) (inCell : Nat → Int32) (fitting : Int32) (bestNight : Int32) (mostLeft : Int32) : va_W := [(h 0, .inr (7, [.ref (h 1), .ref (h 2), .ref (h 3), .ref (h 4), .ref (h 5), .int fitting, .int bestNight, .int mostLeft])), (h 1, .inl (cyI, 100, .inl next_)), (h 2, .inl (cyI, 100, .inl starts)), (h 3, .inl (cyI, 100, .inl stands)), (h 4, .inl (cyI, 41, .inl cellsSeen)), (h 5, .inl (cyI, 25, .inl inCell))]
abbrev wX2 (cyI cyJ cyZ cyO : ClassId) (h : Nat → Nat) (shares : Nat → Int64) (moved : Nat → Int64) (parts : Int64) : va_W := [(h 0, .inr (2, [.ref (h 1), .ref (h 2), .long parts])), (h 1, .inl (cyJ, 10, .inr (.inl shares))), (h 2, .inl (cyJ, 10, .inr (.inl moved)))]
abbrev wX9 (cyI cyJ cyZ cyO : ClassId) (h : Nat → Nat) (book : Nat → Int32) (now : Nat → Int32) (sights : Int32) (sight : Nat → Int32) (signs : Int32) (pad : Nat → Int32) (nights : Int32) (townAt : Int32) (townCell : Int32) (reason : Int32) (acts : Int32) (at_ : Int32) (cost : Nat → Int32) (hole : Nat → Int32) (counts : Nat → Int32) (worth : Nat → Int32) (met : Nat → Int32) (ways : Nat → Int64) (nextWays : Nat → Int64) (image : Nat → Int32) (isKept : Nat → Int32) : va_W := [(h 0, .inr (9, [.ref (h 1), .ref (h 2), .int sights, .ref (h 3), .int signs, .ref (h 4), .int nights, .int townAt, .int townCell, .int reason, .int acts, .int at_, .ref (h 5), .ref (h 6), .ref (h 7), .ref (h 8), .ref (h 9), .ref (h 10), .ref (h 11), .ref (h 12), .ref (h 13)])), (h 1, .inl (cyI, 63, .inl book)), (h 2, .inl (cyI, 63, .inl now)), (h 3, .inl (cyI, 16, .inl sight)), (h 4, .inl (cyI, 60, .inl pad)), (h 5, .inl (cyI, 25, .inl cost)), (h 6, .inl (cyI, 25, .inl hole)), (h 7, .inl (cyI, 25, .inl counts)), (h 8, .inl (cyI, 61, .inl worth)), (h 9, .inl (cyI, 64, .inl met)), (h 10, .inl (cyJ, 10, .inr (.inl ways))), (h 11, .inl (cyJ, 10, .inr (.inl nextWays))), (h 12, .inl (cyI, 180, .inl image)), (h 13, .inl (cyZ, 2, .inl isKept))]
abbrev wX4 (cyI cyJ cyZ cyO : ClassId) (h h2 : Nat → Nat) (acts : Int32) (why : Int32) (passed : Int32) (townNight : Int32) (town : Int32) : va_W := [(h 0, .inr (4, [.ref (h2 0), .int acts, .int why, .int passed, .int townNight, .int town]))]
abbrev wX8 (cyI cyJ cyZ cyO : ClassId) (a : Nat → Nat → Nat) : va_W := [(a 0 0, .inr (8, [.ref (a 1 0), .ref (a 2 0), .ref (a 0 1), .ref (a 0 2), .ref (a 5 0), .ref (a 6 0), .ref (a 8 0), .ref (a 9 0), .ref (a 10 0), .ref (a 11 0), .ref (a 12 0)]))]
abbrev imf (a : Nat → Nat → Nat) : Nat → Option Nat := va_up (va_up (fun _ => none) 0 (some (a 3 0))) 1 (some (a 4 0))
abbrev wim (cyI cyJ cyZ cyO : ClassId) (a : Nat → Nat → Nat) : va_W := [(a 0 1, .inl (cyO, 2, .inr (.inr (.inr (.inr (imf a))))))]
abbrev wkept (cyI cyJ cyZ cyO : ClassId) (a : Nat → Nat → Nat) (kept : Nat → Int32) : va_W := [(a 0 2, .inl (cyZ, 2, .inl kept))]
abbrev warr (cyI cyJ cyZ cyO : ClassId) (la : Nat) (f : Nat → Int32) : va_W := [(la, .inl (cyI, 25, .inl f))]
theorem imf_0 {a : Nat → Nat → Nat} {i : Int32} (h : i = 0) : va_rf (imf a i.toNatClampNeg) = .ref (a 3 0) := by subst h; rfl
theorem imf_1 {a : Nat → Nat → Nat} {i : Int32} (hi : vp_in i 2) (h : ¬ i = 0) : va_rf (imf a i.toNatClampNeg) = .ref (a 4 0) := by
  obtain ⟨j, hj, rfl⟩ := vp_in_of hi (by decide)
  match j, hj with
  | 0, _ => exact absurd rfl h
  | 1, _ => rfl
abbrev vw1 (cyI cyJ cyZ cyO : ClassId) (h h2 : Nat → Nat) (lands : Nat → Int32) (camphors : Nat → Int32) (there : Nat → Int32) (mothCells : Nat → Int32) (mothHeads : Nat → Int32) (threads : Nat → Int32) (sightNights : Nat → Int32) (sightCells : Nat → Int32) (sights : Int32) (night : Int32) (eaten : Int32) (o_lands : Nat → Int32) (o_camphors : Nat → Int32) (o_there : Nat → Int32) (o_mothCells : Nat → Int32) (o_mothHeads : Nat → Int32) (o_threads : Nat → Int32) (o_sightNights : Nat → Int32) (o_sightCells : Nat → Int32) (o_sights : Int32) (o_night : Int32) (o_eaten : Int32) : va_W := [(h 0, .inr (1, [.ref (h 1), .ref (h 2), .ref (h 3), .ref (h 4), .ref (h 5), .ref (h 6), .ref (h 7), .ref (h 8), .int sights, .int night, .int eaten])), (h 1, .inl (cyI, 25, .inl lands)), (h 2, .inl (cyI, 25, .inl camphors)), (h 3, .inl (cyZ, 4, .inl there)), (h 4, .inl (cyI, 4, .inl mothCells)), (h 5, .inl (cyI, 4, .inl mothHeads)), (h 6, .inl (cyI, 4, .inl threads)), (h 7, .inl (cyI, 8, .inl sightNights)), (h 8, .inl (cyI, 8, .inl sightCells)), (h2 0, .inr (1, [.ref (h2 1), .ref (h2 2), .ref (h2 3), .ref (h2 4), .ref (h2 5), .ref (h2 6), .ref (h2 7), .ref (h2 8), .int o_sights, .int o_night, .int o_eaten])), (h2 1, .inl (cyI, 25, .inl o_lands)), (h2 2, .inl (cyI, 25, .inl o_camphors)), (h2 3, .inl (cyZ, 4, .inl o_there)), (h2 4, .inl (cyI, 4, .inl o_mothCells)), (h2 5, .inl (cyI, 4, .inl o_mothHeads)), (h2 6, .inl (cyI, 4, .inl o_threads)), (h2 7, .inl (cyI, 8, .inl o_sightNights)), (h2 8, .inl (cyI, 8, .inl o_sightCells))]
abbrev vw2 (cyI cyJ cyZ cyO : ClassId) (h h2 : Nat → Nat) (acts : Int32) (why : Int32) (passed : Int32) (townNight : Int32) (town : Int32) (f_lands : Nat → Int32) (f_camphors : Nat → Int32) (f_there : Nat → Int32) (f_mothCells : Nat → Int32) (f_mothHeads : Nat → Int32) (f_threads : Nat → Int32) (f_sightNights : Nat → Int32) (f_sightCells : Nat → Int32) (f_sights : Int32) (f_night : Int32) (f_eaten : Int32) : va_W := [(h 0, .inr (4, [.ref (h2 0), .int acts, .int why, .int passed, .int townNight, .int town])), (h2 0, .inr (1, [.ref (h2 1), .ref (h2 2), .ref (h2 3), .ref (h2 4), .ref (h2 5), .ref (h2 6), .ref (h2 7), .ref (h2 8), .int f_sights, .int f_night, .int f_eaten])), (h2 1, .inl (cyI, 25, .inl f_lands)), (h2 2, .inl (cyI, 25, .inl f_camphors)), (h2 3, .inl (cyZ, 4, .inl f_there)), (h2 4, .inl (cyI, 4, .inl f_mothCells)), (h2 5, .inl (cyI, 4, .inl f_mothHeads)), (h2 6, .inl (cyI, 4, .inl f_threads)), (h2 7, .inl (cyI, 8, .inl f_sightNights)), (h2 8, .inl (cyI, 8, .inl f_sightCells))]
abbrev vw3 (cyI cyJ cyZ cyO : ClassId) (h h2 h3 h4 : Nat → Nat) (acts : Int32) (why : Int32) (passed : Int32) (townNight : Int32) (town : Int32) (f_lands : Nat → Int32) (f_camphors : Nat → Int32) (f_there : Nat → Int32) (f_mothCells : Nat → Int32) (f_mothHeads : Nat → Int32) (f_threads : Nat → Int32) (f_sightNights : Nat → Int32) (f_sightCells : Nat → Int32) (f_sights : Int32) (f_night : Int32) (f_eaten : Int32) (p_signs : Nat → Int32) (p_size : Int32) (n_lands : Nat → Int32) (n_camphors : Nat → Int32) (n_there : Nat → Int32) (n_mothCells : Nat → Int32) (n_mothHeads : Nat → Int32) (n_threads : Nat → Int32) (n_sightNights : Nat → Int32) (n_sightCells : Nat → Int32) (n_sights : Int32) (n_night : Int32) (n_eaten : Int32) : va_W := [(h 0, .inr (4, [.ref (h2 0), .int acts, .int why, .int passed, .int townNight, .int town])), (h2 0, .inr (1, [.ref (h2 1), .ref (h2 2), .ref (h2 3), .ref (h2 4), .ref (h2 5), .ref (h2 6), .ref (h2 7), .ref (h2 8), .int f_sights, .int f_night, .int f_eaten])), (h2 1, .inl (cyI, 25, .inl f_lands)), (h2 2, .inl (cyI, 25, .inl f_camphors)), (h2 3, .inl (cyZ, 4, .inl f_there)), (h2 4, .inl (cyI, 4, .inl f_mothCells)), (h2 5, .inl (cyI, 4, .inl f_mothHeads)), (h2 6, .inl (cyI, 4, .inl f_threads)), (h2 7, .inl (cyI, 8, .inl f_sightNights)), (h2 8, .inl (cyI, 8, .inl f_sightCells)), (h3 0, .inr (5, [.ref (h3 1), .int p_size])), (h3 1, .inl (cyI, 60, .inl p_signs)), (h4 0, .inr (1, [.ref (h4 1), .ref (h4 2), .ref (h4 3), .ref (h4 4), .ref (h4 5), .ref (h4 6), .ref (h4 7), .ref (h4 8), .int n_sights, .int n_night, .int n_eaten])), (h4 1, .inl (cyI, 25, .inl n_lands)), (h4 2, .inl (cyI, 25, .inl n_camphors)), (h4 3, .inl (cyZ, 4, .inl n_there)), (h4 4, .inl (cyI, 4, .inl n_mothCells)), (h4 5, .inl (cyI, 4, .inl n_mothHeads)), (h4 6, .inl (cyI, 4, .inl n_threads)), (h4 7, .inl (cyI, 8, .inl n_sightNights)), (h4 8, .inl (cyI, 8, .inl n_sightCells))]
abbrev vw4 (cyI cyJ cyZ cyO : ClassId) (h : Nat → Nat) (la : Nat) (costs : Nat → Int32) (settled : Nat → Int32) (lands : Nat → Int32) : va_W := [(h 0, .inr (6, [.ref (h 1), .ref (h 2)])), (h 1, .inl (cyI, 25, .inl costs)), (h 2, .inl (cyZ, 25, .inl settled)), (la, .inl (cyI, 25, .inl lands))]
abbrev vw5 (cyI cyJ cyZ cyO : ClassId) (h h2 : Nat → Nat) (next_ : Nat → Int32) (starts : Nat → Int32) (stands : Nat → Int32) (cellsSeen : Nat → Int32) (inCell : Nat → Int32) (fitting : Int32) (bestNight : Int32) (mostLeft : Int32) (n_lands : Nat → Int32) (n_camphors : Nat → Int32) (n_there : Nat → Int32) (n_mothCells : Nat → Int32) (n_mothHeads : Nat → Int32) (n_threads : Nat → Int32) (n_sightNights : Nat → Int32) (n_sightCells : Nat → Int32) (n_sights : Int32) (n_night : Int32) (n_eaten : Int32) : va_W := [(h 0, .inr (7, [.ref (h 1), .ref (h 2), .ref (h 3), .ref (h 4), .ref (h 5), .int fitting, .int bestNight, .int mostLeft])), (h 1, .inl (cyI, 100, .inl next_)), (h 2, .inl (cyI, 100, .inl starts)), (h 3, .inl (cyI, 100, .inl stands)), (h 4, .inl (cyI, 41, .inl cellsSeen)), (h 5, .inl (cyI, 25, .inl inCell)), (h2 0, .inr (1, [.ref (h2 1), .ref (h2 2), .ref (h2 3), .ref (h2 4), .ref (h2 5), .ref (h2 6), .ref (h2 7), .ref (h2 8), .int n_sights, .int n_night, .int n_eaten])), (h2 1, .inl (cyI, 25, .inl n_lands)), (h2 2, .inl (cyI, 25, .inl n_camphors)), (h2 3, .inl (cyZ, 4, .inl n_there)), (h2 4, .inl (cyI, 4, .inl n_mothCells)), (h2 5, .inl (cyI, 4, .inl n_mothHeads)), (h2 6, .inl (cyI, 4, .inl n_threads)), (h2 7, .inl (cyI, 8, .inl n_sightNights)), (h2 8, .inl (cyI, 8, .inl n_sightCells))]
abbrev vw6 (cyI cyJ cyZ cyO : ClassId) (a : Nat → Nat → Nat) (n_lands : Nat → Int32) (n_camphors : Nat → Int32) (n_there : Nat → Int32) (n_mothCells : Nat → Int32) (n_mothHeads : Nat → Int32) (n_threads : Nat → Int32) (n_sightNights : Nat → Int32) (n_sightCells : Nat → Int32) (n_sights : Int32) (n_night : Int32) (n_eaten : Int32) : va_W := [(a 0 0, .inr (8, [.ref (a 1 0), .ref (a 2 0), .ref (a 0 1), .ref (a 0 2), .ref (a 5 0), .ref (a 6 0), .ref (a 8 0), .ref (a 9 0), .ref (a 10 0), .ref (a 11 0), .ref (a 12 0)])), (a 1 0, .inr (1, [.ref (a 1 1), .ref (a 1 2), .ref (a 1 3), .ref (a 1 4), .ref (a 1 5), .ref (a 1 6), .ref (a 1 7), .ref (a 1 8), .int n_sights, .int n_night, .int n_eaten])), (a 1 1, .inl (cyI, 25, .inl n_lands)), (a 1 2, .inl (cyI, 25, .inl n_camphors)), (a 1 3, .inl (cyZ, 4, .inl n_there)), (a 1 4, .inl (cyI, 4, .inl n_mothCells)), (a 1 5, .inl (cyI, 4, .inl n_mothHeads)), (a 1 6, .inl (cyI, 4, .inl n_threads)), (a 1 7, .inl (cyI, 8, .inl n_sightNights)), (a 1 8, .inl (cyI, 8, .inl n_sightCells))]
abbrev vw7 (cyI cyJ cyZ cyO : ClassId) (a : Nat → Nat → Nat) (p_signs : Nat → Int32) (p_size : Int32) : va_W := [(a 0 0, .inr (8, [.ref (a 1 0), .ref (a 2 0), .ref (a 0 1), .ref (a 0 2), .ref (a 5 0), .ref (a 6 0), .ref (a 8 0), .ref (a 9 0), .ref (a 10 0), .ref (a 11 0), .ref (a 12 0)])), (a 5 0, .inr (5, [.ref (a 5 1), .int p_size])), (a 5 1, .inl (cyI, 60, .inl p_signs))]
abbrev vw8 (cyI cyJ cyZ cyO : ClassId) (a : Nat → Nat → Nat) (n_lands : Nat → Int32) (n_camphors : Nat → Int32) (n_there : Nat → Int32) (n_mothCells : Nat → Int32) (n_mothHeads : Nat → Int32) (n_threads : Nat → Int32) (n_sightNights : Nat → Int32) (n_sightCells : Nat → Int32) (n_sights : Int32) (n_night : Int32) (n_eaten : Int32) (p_signs : Nat → Int32) (p_size : Int32) (c_acts : Int32) (c_why : Int32) (c_passed : Int32) (c_townNight : Int32) (c_town : Int32) (f_lands : Nat → Int32) (f_camphors : Nat → Int32) (f_there : Nat → Int32) (f_mothCells : Nat → Int32) (f_mothHeads : Nat → Int32) (f_threads : Nat → Int32) (f_sightNights : Nat → Int32) (f_sightCells : Nat → Int32) (f_sights : Int32) (f_night : Int32) (f_eaten : Int32) : va_W := [(a 0 0, .inr (8, [.ref (a 1 0), .ref (a 2 0), .ref (a 0 1), .ref (a 0 2), .ref (a 5 0), .ref (a 6 0), .ref (a 8 0), .ref (a 9 0), .ref (a 10 0), .ref (a 11 0), .ref (a 12 0)])), (a 1 0, .inr (1, [.ref (a 1 1), .ref (a 1 2), .ref (a 1 3), .ref (a 1 4), .ref (a 1 5), .ref (a 1 6), .ref (a 1 7), .ref (a 1 8), .int n_sights, .int n_night, .int n_eaten])), (a 1 1, .inl (cyI, 25, .inl n_lands)), (a 1 2, .inl (cyI, 25, .inl n_camphors)), (a 1 3, .inl (cyZ, 4, .inl n_there)), (a 1 4, .inl (cyI, 4, .inl n_mothCells)), (a 1 5, .inl (cyI, 4, .inl n_mothHeads)), (a 1 6, .inl (cyI, 4, .inl n_threads)), (a 1 7, .inl (cyI, 8, .inl n_sightNights)), (a 1 8, .inl (cyI, 8, .inl n_sightCells)), (a 5 0, .inr (5, [.ref (a 5 1), .int p_size])), (a 5 1, .inl (cyI, 60, .inl p_signs)), (a 6 0, .inr (4, [.ref (a 7 0), .int c_acts, .int c_why, .int c_passed, .int c_townNight, .int c_town])), (a 7 0, .inr (1, [.ref (a 7 1), .ref (a 7 2), .ref (a 7 3), .ref (a 7 4), .ref (a 7 5), .ref (a 7 6), .ref (a 7 7), .ref (a 7 8), .int f_sights, .int f_night, .int f_eaten])), (a 7 1, .inl (cyI, 25, .inl f_lands)), (a 7 2, .inl (cyI, 25, .inl f_camphors)), (a 7 3, .inl (cyZ, 4, .inl f_there)), (a 7 4, .inl (cyI, 4, .inl f_mothCells)), (a 7 5, .inl (cyI, 4, .inl f_mothHeads)), (a 7 6, .inl (cyI, 4, .inl f_threads)), (a 7 7, .inl (cyI, 8, .inl f_sightNights)), (a 7 8, .inl (cyI, 8, .inl f_sightCells))]
abbrev vw9 (cyI cyJ cyZ cyO : ClassId) (a : Nat → Nat → Nat) (n_lands : Nat → Int32) (n_camphors : Nat → Int32) (n_there : Nat → Int32) (n_mothCells : Nat → Int32) (n_mothHeads : Nat → Int32) (n_threads : Nat → Int32) (n_sightNights : Nat → Int32) (n_sightCells : Nat → Int32) (n_sights : Int32) (n_night : Int32) (n_eaten : Int32) (r_costs : Nat → Int32) (r_settled : Nat → Int32) : va_W := [(a 0 0, .inr (8, [.ref (a 1 0), .ref (a 2 0), .ref (a 0 1), .ref (a 0 2), .ref (a 5 0), .ref (a 6 0), .ref (a 8 0), .ref (a 9 0), .ref (a 10 0), .ref (a 11 0), .ref (a 12 0)])), (a 1 0, .inr (1, [.ref (a 1 1), .ref (a 1 2), .ref (a 1 3), .ref (a 1 4), .ref (a 1 5), .ref (a 1 6), .ref (a 1 7), .ref (a 1 8), .int n_sights, .int n_night, .int n_eaten])), (a 1 1, .inl (cyI, 25, .inl n_lands)), (a 1 2, .inl (cyI, 25, .inl n_camphors)), (a 1 3, .inl (cyZ, 4, .inl n_there)), (a 1 4, .inl (cyI, 4, .inl n_mothCells)), (a 1 5, .inl (cyI, 4, .inl n_mothHeads)), (a 1 6, .inl (cyI, 4, .inl n_threads)), (a 1 7, .inl (cyI, 8, .inl n_sightNights)), (a 1 8, .inl (cyI, 8, .inl n_sightCells)), (a 8 0, .inr (6, [.ref (a 8 1), .ref (a 8 2)])), (a 8 1, .inl (cyI, 25, .inl r_costs)), (a 8 2, .inl (cyZ, 25, .inl r_settled))]
abbrev vw10 (cyI cyJ cyZ cyO : ClassId) (a : Nat → Nat → Nat) (n_lands : Nat → Int32) (n_camphors : Nat → Int32) (n_there : Nat → Int32) (n_mothCells : Nat → Int32) (n_mothHeads : Nat → Int32) (n_threads : Nat → Int32) (n_sightNights : Nat → Int32) (n_sightCells : Nat → Int32) (n_sights : Int32) (n_night : Int32) (n_eaten : Int32) (y_rings : Nat → Int32) (y_moths : Int32) (y_harbour : Int32) (y_best : Int32) : va_W := [(a 0 0, .inr (8, [.ref (a 1 0), .ref (a 2 0), .ref (a 0 1), .ref (a 0 2), .ref (a 5 0), .ref (a 6 0), .ref (a 8 0), .ref (a 9 0), .ref (a 10 0), .ref (a 11 0), .ref (a 12 0)])), (a 1 0, .inr (1, [.ref (a 1 1), .ref (a 1 2), .ref (a 1 3), .ref (a 1 4), .ref (a 1 5), .ref (a 1 6), .ref (a 1 7), .ref (a 1 8), .int n_sights, .int n_night, .int n_eaten])), (a 1 1, .inl (cyI, 25, .inl n_lands)), (a 1 2, .inl (cyI, 25, .inl n_camphors)), (a 1 3, .inl (cyZ, 4, .inl n_there)), (a 1 4, .inl (cyI, 4, .inl n_mothCells)), (a 1 5, .inl (cyI, 4, .inl n_mothHeads)), (a 1 6, .inl (cyI, 4, .inl n_threads)), (a 1 7, .inl (cyI, 8, .inl n_sightNights)), (a 1 8, .inl (cyI, 8, .inl n_sightCells)), (a 9 0, .inr (3, [.ref (a 9 1), .int y_moths, .int y_harbour, .int y_best])), (a 9 1, .inl (cyI, 26, .inl y_rings))]
abbrev vw11 (cyI cyJ cyZ cyO : ClassId) (a : Nat → Nat → Nat) (n_lands : Nat → Int32) (n_camphors : Nat → Int32) (n_there : Nat → Int32) (n_mothCells : Nat → Int32) (n_mothHeads : Nat → Int32) (n_threads : Nat → Int32) (n_sightNights : Nat → Int32) (n_sightCells : Nat → Int32) (n_sights : Int32) (n_night : Int32) (n_eaten : Int32) (d_woven : Nat → Int32) (d_tied : Nat → Int32) (d_ties : Int32) (d_holes : Int32) (d_byTowns : Int32) (d_ways : Int32) (d_first : Int32) : va_W := [(a 0 0, .inr (8, [.ref (a 1 0), .ref (a 2 0), .ref (a 0 1), .ref (a 0 2), .ref (a 5 0), .ref (a 6 0), .ref (a 8 0), .ref (a 9 0), .ref (a 10 0), .ref (a 11 0), .ref (a 12 0)])), (a 1 0, .inr (1, [.ref (a 1 1), .ref (a 1 2), .ref (a 1 3), .ref (a 1 4), .ref (a 1 5), .ref (a 1 6), .ref (a 1 7), .ref (a 1 8), .int n_sights, .int n_night, .int n_eaten])), (a 1 1, .inl (cyI, 25, .inl n_lands)), (a 1 2, .inl (cyI, 25, .inl n_camphors)), (a 1 3, .inl (cyZ, 4, .inl n_there)), (a 1 4, .inl (cyI, 4, .inl n_mothCells)), (a 1 5, .inl (cyI, 4, .inl n_mothHeads)), (a 1 6, .inl (cyI, 4, .inl n_threads)), (a 1 7, .inl (cyI, 8, .inl n_sightNights)), (a 1 8, .inl (cyI, 8, .inl n_sightCells)), (a 10 0, .inr (0, [.ref (a 10 1), .ref (a 10 2), .int d_ties, .int d_holes, .int d_byTowns, .int d_ways, .int d_first])), (a 10 1, .inl (cyI, 4, .inl d_woven)), (a 10 2, .inl (cyI, 9, .inl d_tied))]
abbrev vw12 (cyI cyJ cyZ cyO : ClassId) (a : Nat → Nat → Nat) (n_lands : Nat → Int32) (n_camphors : Nat → Int32) (n_there : Nat → Int32) (n_mothCells : Nat → Int32) (n_mothHeads : Nat → Int32) (n_threads : Nat → Int32) (n_sightNights : Nat → Int32) (n_sightCells : Nat → Int32) (n_sights : Int32) (n_night : Int32) (n_eaten : Int32) (t_next_ : Nat → Int32) (t_starts : Nat → Int32) (t_stands : Nat → Int32) (t_cellsSeen : Nat → Int32) (t_inCell : Nat → Int32) (t_fitting : Int32) (t_bestNight : Int32) (t_mostLeft : Int32) : va_W := [(a 0 0, .inr (8, [.ref (a 1 0), .ref (a 2 0), .ref (a 0 1), .ref (a 0 2), .ref (a 5 0), .ref (a 6 0), .ref (a 8 0), .ref (a 9 0), .ref (a 10 0), .ref (a 11 0), .ref (a 12 0)])), (a 1 0, .inr (1, [.ref (a 1 1), .ref (a 1 2), .ref (a 1 3), .ref (a 1 4), .ref (a 1 5), .ref (a 1 6), .ref (a 1 7), .ref (a 1 8), .int n_sights, .int n_night, .int n_eaten])), (a 1 1, .inl (cyI, 25, .inl n_lands)), (a 1 2, .inl (cyI, 25, .inl n_camphors)), (a 1 3, .inl (cyZ, 4, .inl n_there)), (a 1 4, .inl (cyI, 4, .inl n_mothCells)), (a 1 5, .inl (cyI, 4, .inl n_mothHeads)), (a 1 6, .inl (cyI, 4, .inl n_threads)), (a 1 7, .inl (cyI, 8, .inl n_sightNights)), (a 1 8, .inl (cyI, 8, .inl n_sightCells)), (a 11 0, .inr (7, [.ref (a 11 1), .ref (a 11 2), .ref (a 11 3), .ref (a 11 4), .ref (a 11 5), .int t_fitting, .int t_bestNight, .int t_mostLeft])), (a 11 1, .inl (cyI, 100, .inl t_next_)), (a 11 2, .inl (cyI, 100, .inl t_starts)), (a 11 3, .inl (cyI, 100, .inl t_stands)), (a 11 4, .inl (cyI, 41, .inl t_cellsSeen)), (a 11 5, .inl (cyI, 25, .inl t_inCell))]
abbrev vw13 (cyI cyJ cyZ cyO : ClassId) (a : Nat → Nat → Nat) (m_shares : Nat → Int64) (m_moved : Nat → Int64) (m_parts : Int64) : va_W := [(a 0 0, .inr (8, [.ref (a 1 0), .ref (a 2 0), .ref (a 0 1), .ref (a 0 2), .ref (a 5 0), .ref (a 6 0), .ref (a 8 0), .ref (a 9 0), .ref (a 10 0), .ref (a 11 0), .ref (a 12 0)])), (a 12 0, .inr (2, [.ref (a 12 1), .ref (a 12 2), .long m_parts])), (a 12 1, .inl (cyJ, 10, .inr (.inl m_shares))), (a 12 2, .inl (cyJ, 10, .inr (.inl m_moved)))]
abbrev vw14 (cyI cyJ cyZ cyO : ClassId) (a : Nat → Nat → Nat) (n_lands : Nat → Int32) (n_camphors : Nat → Int32) (n_there : Nat → Int32) (n_mothCells : Nat → Int32) (n_mothHeads : Nat → Int32) (n_threads : Nat → Int32) (n_sightNights : Nat → Int32) (n_sightCells : Nat → Int32) (n_sights : Int32) (n_night : Int32) (n_eaten : Int32) (s_lands : Nat → Int32) (s_camphors : Nat → Int32) (s_there : Nat → Int32) (s_mothCells : Nat → Int32) (s_mothHeads : Nat → Int32) (s_threads : Nat → Int32) (s_sightNights : Nat → Int32) (s_sightCells : Nat → Int32) (s_sights : Int32) (s_night : Int32) (s_eaten : Int32) : va_W := [(a 0 0, .inr (8, [.ref (a 1 0), .ref (a 2 0), .ref (a 0 1), .ref (a 0 2), .ref (a 5 0), .ref (a 6 0), .ref (a 8 0), .ref (a 9 0), .ref (a 10 0), .ref (a 11 0), .ref (a 12 0)])), (a 1 0, .inr (1, [.ref (a 1 1), .ref (a 1 2), .ref (a 1 3), .ref (a 1 4), .ref (a 1 5), .ref (a 1 6), .ref (a 1 7), .ref (a 1 8), .int n_sights, .int n_night, .int n_eaten])), (a 1 1, .inl (cyI, 25, .inl n_lands)), (a 1 2, .inl (cyI, 25, .inl n_camphors)), (a 1 3, .inl (cyZ, 4, .inl n_there)), (a 1 4, .inl (cyI, 4, .inl n_mothCells)), (a 1 5, .inl (cyI, 4, .inl n_mothHeads)), (a 1 6, .inl (cyI, 4, .inl n_threads)), (a 1 7, .inl (cyI, 8, .inl n_sightNights)), (a 1 8, .inl (cyI, 8, .inl n_sightCells)), (a 2 0, .inr (1, [.ref (a 2 1), .ref (a 2 2), .ref (a 2 3), .ref (a 2 4), .ref (a 2 5), .ref (a 2 6), .ref (a 2 7), .ref (a 2 8), .int s_sights, .int s_night, .int s_eaten])), (a 2 1, .inl (cyI, 25, .inl s_lands)), (a 2 2, .inl (cyI, 25, .inl s_camphors)), (a 2 3, .inl (cyZ, 4, .inl s_there)), (a 2 4, .inl (cyI, 4, .inl s_mothCells)), (a 2 5, .inl (cyI, 4, .inl s_mothHeads)), (a 2 6, .inl (cyI, 4, .inl s_threads)), (a 2 7, .inl (cyI, 8, .inl s_sightNights)), (a 2 8, .inl (cyI, 8, .inl s_sightCells))]
abbrev vw15 (cyI cyJ cyZ cyO : ClassId) (a : Nat → Nat → Nat) (n_lands : Nat → Int32) (n_camphors : Nat → Int32) (n_there : Nat → Int32) (n_mothCells : Nat → Int32) (n_mothHeads : Nat → Int32) (n_threads : Nat → Int32) (n_sightNights : Nat → Int32) (n_sightCells : Nat → Int32) (n_sights : Int32) (n_night : Int32) (n_eaten : Int32) (u_lands : Nat → Int32) (u_camphors : Nat → Int32) (u_there : Nat → Int32) (u_mothCells : Nat → Int32) (u_mothHeads : Nat → Int32) (u_threads : Nat → Int32) (u_sightNights : Nat → Int32) (u_sightCells : Nat → Int32) (u_sights : Int32) (u_night : Int32) (u_eaten : Int32) (v_lands : Nat → Int32) (v_camphors : Nat → Int32) (v_there : Nat → Int32) (v_mothCells : Nat → Int32) (v_mothHeads : Nat → Int32) (v_threads : Nat → Int32) (v_sightNights : Nat → Int32) (v_sightCells : Nat → Int32) (v_sights : Int32) (v_night : Int32) (v_eaten : Int32) (kept : Nat → Int32) : va_W := [(a 0 0, .inr (8, [.ref (a 1 0), .ref (a 2 0), .ref (a 0 1), .ref (a 0 2), .ref (a 5 0), .ref (a 6 0), .ref (a 8 0), .ref (a 9 0), .ref (a 10 0), .ref (a 11 0), .ref (a 12 0)])), (a 1 0, .inr (1, [.ref (a 1 1), .ref (a 1 2), .ref (a 1 3), .ref (a 1 4), .ref (a 1 5), .ref (a 1 6), .ref (a 1 7), .ref (a 1 8), .int n_sights, .int n_night, .int n_eaten])), (a 1 1, .inl (cyI, 25, .inl n_lands)), (a 1 2, .inl (cyI, 25, .inl n_camphors)), (a 1 3, .inl (cyZ, 4, .inl n_there)), (a 1 4, .inl (cyI, 4, .inl n_mothCells)), (a 1 5, .inl (cyI, 4, .inl n_mothHeads)), (a 1 6, .inl (cyI, 4, .inl n_threads)), (a 1 7, .inl (cyI, 8, .inl n_sightNights)), (a 1 8, .inl (cyI, 8, .inl n_sightCells)), (a 0 1, .inl (cyO, 2, .inr (.inr (.inr (.inr (imf a)))))), (a 3 0, .inr (1, [.ref (a 3 1), .ref (a 3 2), .ref (a 3 3), .ref (a 3 4), .ref (a 3 5), .ref (a 3 6), .ref (a 3 7), .ref (a 3 8), .int u_sights, .int u_night, .int u_eaten])), (a 3 1, .inl (cyI, 25, .inl u_lands)), (a 3 2, .inl (cyI, 25, .inl u_camphors)), (a 3 3, .inl (cyZ, 4, .inl u_there)), (a 3 4, .inl (cyI, 4, .inl u_mothCells)), (a 3 5, .inl (cyI, 4, .inl u_mothHeads)), (a 3 6, .inl (cyI, 4, .inl u_threads)), (a 3 7, .inl (cyI, 8, .inl u_sightNights)), (a 3 8, .inl (cyI, 8, .inl u_sightCells)), (a 4 0, .inr (1, [.ref (a 4 1), .ref (a 4 2), .ref (a 4 3), .ref (a 4 4), .ref (a 4 5), .ref (a 4 6), .ref (a 4 7), .ref (a 4 8), .int v_sights, .int v_night, .int v_eaten])), (a 4 1, .inl (cyI, 25, .inl v_lands)), (a 4 2, .inl (cyI, 25, .inl v_camphors)), (a 4 3, .inl (cyZ, 4, .inl v_there)), (a 4 4, .inl (cyI, 4, .inl v_mothCells)), (a 4 5, .inl (cyI, 4, .inl v_mothHeads)), (a 4 6, .inl (cyI, 4, .inl v_threads)), (a 4 7, .inl (cyI, 8, .inl v_sightNights)), (a 4 8, .inl (cyI, 8, .inl v_sightCells)), (a 0 2, .inl (cyZ, 2, .inl kept))]
abbrev vw16 (cyI cyJ cyZ cyO : ClassId) (a : Nat → Nat → Nat) (n_lands : Nat → Int32) (n_camphors : Nat → Int32) (n_there : Nat → Int32) (n_mothCells : Nat → Int32) (n_mothHeads : Nat → Int32) (n_threads : Nat → Int32) (n_sightNights : Nat → Int32) (n_sightCells : Nat → Int32) (n_sights : Int32) (n_night : Int32) (n_eaten : Int32) (p_signs : Nat → Int32) (p_size : Int32) : va_W := [(a 0 0, .inr (8, [.ref (a 1 0), .ref (a 2 0), .ref (a 0 1), .ref (a 0 2), .ref (a 5 0), .ref (a 6 0), .ref (a 8 0), .ref (a 9 0), .ref (a 10 0), .ref (a 11 0), .ref (a 12 0)])), (a 1 0, .inr (1, [.ref (a 1 1), .ref (a 1 2), .ref (a 1 3), .ref (a 1 4), .ref (a 1 5), .ref (a 1 6), .ref (a 1 7), .ref (a 1 8), .int n_sights, .int n_night, .int n_eaten])), (a 1 1, .inl (cyI, 25, .inl n_lands)), (a 1 2, .inl (cyI, 25, .inl n_camphors)), (a 1 3, .inl (cyZ, 4, .inl n_there)), (a 1 4, .inl (cyI, 4, .inl n_mothCells)), (a 1 5, .inl (cyI, 4, .inl n_mothHeads)), (a 1 6, .inl (cyI, 4, .inl n_threads)), (a 1 7, .inl (cyI, 8, .inl n_sightNights)), (a 1 8, .inl (cyI, 8, .inl n_sightCells)), (a 5 0, .inr (5, [.ref (a 5 1), .int p_size])), (a 5 1, .inl (cyI, 60, .inl p_signs))]
/-! ===== pure functions, printed by wip/gen out of the bytecode: one a method; an index out of range, a falling fuel: none ===== -/
def g_X8_allBeside (nf : Nat) (p0 : Int32) : Option (Int32) :=
  some ((((p0 >>> ((5 : Int32) &&& 31)) ||| ((p0 <<< ((5 : Int32) &&& 31)) &&& (33554431 : Int32))) ||| ((p0 &&& (((1082401 : Int32) <<< ((4 : Int32) &&& 31)) ^^^ ((-1) : Int32))) <<< ((1 : Int32) &&& 31))) ||| ((p0 &&& ((1082401 : Int32) ^^^ ((-1) : Int32))) >>> ((1 : Int32) &&& 31)))
def g_X0_partHoles_b122 (nf : Nat) (k29 : Int32 → Int32 → (Nat → Int32) → (Nat → Int32) → Int32 → Int32 → Int32 → Option (Int32 × (Nat → Int32) × (Nat → Int32) × Int32)) (x1 : Int32) (x2 : Int32) (woven : Nat → Int32) (tied : Nat → Int32) (ties : Int32) (holes : Int32) (byTowns : Int32) : Option (Int32 × (Nat → Int32) × (Nat → Int32) × Int32) :=
  k29 x1 (x2 + 1) woven tied ties holes byTowns
def g_X0_partHoles_b88 (nf : Nat) (k29 : Int32 → Int32 → (Nat → Int32) → (Nat → Int32) → Int32 → Int32 → Int32 → Option (Int32 × (Nat → Int32) × (Nat → Int32) × Int32)) (x2 : Int32) (s0 : Int32) (s1 : Int32) (woven : Nat → Int32) (tied : Nat → Int32) (ties : Int32) (holes : Int32) (byTowns : Int32) : Option (Int32 × (Nat → Int32) × (Nat → Int32) × Int32) :=
  g_X0_partHoles_b122 nf k29 (s0 * s1) x2 woven tied ties holes byTowns
def g_X0_partHoles_l29 (nf : Nat) : Nat → Int32 → Int32 → (Nat → Int32) → (Nat → Int32) → Int32 → Int32 → Int32 → Option (Int32 × (Nat → Int32) × (Nat → Int32) × Int32)
  | 0, _, _, _, _, _, _, _ => none
  | n + 1, x1, x2, woven, tied, ties, holes, byTowns =>
    if 25 ≤ x2 then
      some (x1, woven, tied, ties)
    else
      if (holes &&& ((1 : Int32) <<< (x2 &&& 31))) = 0 then
        g_X0_partHoles_b122 nf (g_X0_partHoles_l29 nf n) x1 x2 woven tied ties holes byTowns
      else
        (g_X8_allBeside nf ((1 : Int32) <<< (x2 &&& 31))).bind fun q1 =>
        if (q1 &&& holes) = 0 then
          ck 1 4 <|
          ck 1 4 <|
          if (byTowns &&& ((1 : Int32) <<< (x2 &&& 31))) = 0 then
            g_X0_partHoles_b88 nf (g_X0_partHoles_l29 nf n) x2 x1 3 (upd woven (1 : Int32).toNatClampNeg ((woven (1 : Int32).toNatClampNeg) ||| ((1 : Int32) <<< (x2 &&& 31)))) tied ties holes byTowns
          else
            g_X0_partHoles_b88 nf (g_X0_partHoles_l29 nf n) x2 x1 2 (upd woven (1 : Int32).toNatClampNeg ((woven (1 : Int32).toNatClampNeg) ||| ((1 : Int32) <<< (x2 &&& 31)))) tied ties holes byTowns
        else
          if 9 ≤ ties then
            g_X0_partHoles_b122 nf (g_X0_partHoles_l29 nf n) x1 x2 woven tied ties holes byTowns
          else
            ck ties 9 <|
            g_X0_partHoles_b122 nf (g_X0_partHoles_l29 nf n) x1 x2 woven (upd tied ties.toNatClampNeg ((1 : Int32) <<< (x2 &&& 31))) (ties + 1) holes byTowns
def g_X0_partHoles_l2 (nf : Nat) : Nat → Int32 → (Nat → Int32) → (Nat → Int32) → Int32 → Int32 → Int32 → Option (Int32 × (Nat → Int32) × (Nat → Int32) × Int32)
  | 0, _, _, _, _, _, _ => none
  | n + 1, x1, woven, tied, ties, holes, byTowns =>
    if 3 < x1 then
      g_X0_partHoles_l29 nf nf 1 0 woven tied 0 holes byTowns
    else
      ck x1 4 <|
      (g_X0_partHoles_l2 nf n) (x1 + 1) (upd woven x1.toNatClampNeg 0) tied ties holes byTowns
def g_X0_partHoles (nf : Nat) (woven : Nat → Int32) (tied : Nat → Int32) (ties : Int32) (holes : Int32) (byTowns : Int32) : Option (Int32 × (Nat → Int32) × (Nat → Int32) × Int32) :=
  g_X0_partHoles_l2 nf nf 1 woven tied ties holes byTowns
def g_X0_threadOf (nf : Nat) (p1 : Int32) (woven : Nat → Int32) : Option (Int32) :=
  ck 1 4 <|
  if ((woven (1 : Int32).toNatClampNeg) &&& p1) = 0 then
    ck 2 4 <|
    if ((woven (2 : Int32).toNatClampNeg) &&& p1) = 0 then
      some 3
    else
      some 2
  else
    some 1
def g_X0_digits_b34 (nf : Nat) (k4 : Int32 → Int32 → (Nat → Int32) → Int32 → Option (Int32)) (x1 : Int32) (x2 : Int32) (woven : Nat → Int32) (holes : Int32) : Option (Int32) :=
  k4 x1 (x2 + 1) woven holes
def g_X0_digits_l4 (nf : Nat) : Nat → Int32 → Int32 → (Nat → Int32) → Int32 → Option (Int32)
  | 0, _, _, _, _ => none
  | n + 1, x1, x2, woven, holes =>
    if 25 ≤ x2 then
      some x1
    else
      if (holes &&& ((1 : Int32) <<< (x2 &&& 31))) = 0 then
        g_X0_digits_b34 nf (g_X0_digits_l4 nf n) x1 x2 woven holes
      else
        (g_X0_threadOf nf ((1 : Int32) <<< (x2 &&& 31)) woven).bind fun q1 =>
        g_X0_digits_b34 nf (g_X0_digits_l4 nf n) ((10 * x1) + q1) x2 woven holes
def g_X0_digits (nf : Nat) (woven : Nat → Int32) (holes : Int32) : Option (Int32) :=
  g_X0_digits_l4 nf nf 0 0 woven holes
def g_X0_waysFrom_b33 (nf : Nat) (rc : Int32 → (Nat → Int32) → (Nat → Int32) → Int32 → Int32 → Int32 → Int32 → Option (Int32 × (Nat → Int32) × Int32)) (s1 : Int32) (woven : Nat → Int32) (tied : Nat → Int32) (ties : Int32) (holes : Int32) (byTowns : Int32) (first : Int32) : Option (Int32 × (Nat → Int32) × Int32) :=
  some (1, woven, s1)
def g_X0_waysFrom_b12 (nf : Nat) (rc : Int32 → (Nat → Int32) → (Nat → Int32) → Int32 → Int32 → Int32 → Int32 → Option (Int32 × (Nat → Int32) × Int32)) (woven : Nat → Int32) (tied : Nat → Int32) (ties : Int32) (holes : Int32) (byTowns : Int32) (first : Int32) : Option (Int32 × (Nat → Int32) × Int32) :=
  if first = (-6) then
    (g_X0_digits nf woven holes).bind fun q1 =>
    g_X0_waysFrom_b33 nf rc q1 woven tied ties holes byTowns first
  else
    g_X0_waysFrom_b33 nf rc first woven tied ties holes byTowns first
def g_X0_waysFrom_b137 (nf : Nat) (rc : Int32 → (Nat → Int32) → (Nat → Int32) → Int32 → Int32 → Int32 → Int32 → Option (Int32 × (Nat → Int32) × Int32)) (k56 : Int32 → Int32 → Int32 → Int32 → Int32 → (Nat → Int32) → (Nat → Int32) → Int32 → Int32 → Int32 → Int32 → Option (Int32 × (Nat → Int32) × Int32)) (x1 : Int32) (x2 : Int32) (x3 : Int32) (x4 : Int32) (x5 : Int32) (woven : Nat → Int32) (tied : Nat → Int32) (ties : Int32) (holes : Int32) (byTowns : Int32) (first : Int32) : Option (Int32 × (Nat → Int32) × Int32) :=
  k56 x1 x2 x3 x4 (x5 + 1) woven tied ties holes byTowns first
def g_X0_waysFrom_b82 (nf : Nat) (rc : Int32 → (Nat → Int32) → (Nat → Int32) → Int32 → Int32 → Int32 → Int32 → Option (Int32 × (Nat → Int32) × Int32)) (k56 : Int32 → Int32 → Int32 → Int32 → Int32 → (Nat → Int32) → (Nat → Int32) → Int32 → Int32 → Int32 → Int32 → Option (Int32 × (Nat → Int32) × Int32)) (x1 : Int32) (x2 : Int32) (x3 : Int32) (x4 : Int32) (x5 : Int32) (s0 : Int32) (woven : Nat → Int32) (tied : Nat → Int32) (ties : Int32) (holes : Int32) (byTowns : Int32) (first : Int32) : Option (Int32 × (Nat → Int32) × Int32) :=
  if s0 = 0 then
    ck x5 4 <|
    if ((woven x5.toNatClampNeg) &&& x3) = 0 then
      ck x5 4 <|
      ck x5 4 <|
      (rc (x1 + 1) (upd woven x5.toNatClampNeg ((woven x5.toNatClampNeg) ||| x2)) tied ties holes byTowns first).bind fun q2 =>
      ck x5 4 <|
      ck x5 4 <|
      g_X0_waysFrom_b137 nf rc k56 x1 x2 x3 (x4 + q2.1) x5 (upd q2.2.1 x5.toNatClampNeg ((q2.2.1 x5.toNatClampNeg) &&& (x2 ^^^ ((-1) : Int32)))) tied ties holes byTowns q2.2.2
    else
      g_X0_waysFrom_b137 nf rc k56 x1 x2 x3 x4 x5 woven tied ties holes byTowns first
  else
    g_X0_waysFrom_b137 nf rc k56 x1 x2 x3 x4 x5 woven tied ties holes byTowns first
def g_X0_waysFrom_b81 (nf : Nat) (rc : Int32 → (Nat → Int32) → (Nat → Int32) → Int32 → Int32 → Int32 → Int32 → Option (Int32 × (Nat → Int32) × Int32)) (k56 : Int32 → Int32 → Int32 → Int32 → Int32 → (Nat → Int32) → (Nat → Int32) → Int32 → Int32 → Int32 → Int32 → Option (Int32 × (Nat → Int32) × Int32)) (x1 : Int32) (x2 : Int32) (x3 : Int32) (x4 : Int32) (x5 : Int32) (woven : Nat → Int32) (tied : Nat → Int32) (ties : Int32) (holes : Int32) (byTowns : Int32) (first : Int32) : Option (Int32 × (Nat → Int32) × Int32) :=
  g_X0_waysFrom_b82 nf rc k56 x1 x2 x3 x4 x5 0 woven tied ties holes byTowns first
def g_X0_waysFrom_l56 (nf : Nat) (rc : Int32 → (Nat → Int32) → (Nat → Int32) → Int32 → Int32 → Int32 → Int32 → Option (Int32 × (Nat → Int32) × Int32)) : Nat → Int32 → Int32 → Int32 → Int32 → Int32 → (Nat → Int32) → (Nat → Int32) → Int32 → Int32 → Int32 → Int32 → Option (Int32 × (Nat → Int32) × Int32)
  | 0, _, _, _, _, _, _, _, _, _, _, _ => none
  | n + 1, x1, x2, x3, x4, x5, woven, tied, ties, holes, byTowns, first =>
    if 3 < x5 then
      some (x4, woven, first)
    else
      if x5 = 2 then
        if (byTowns &&& x2) = 0 then
          g_X0_waysFrom_b81 nf rc (g_X0_waysFrom_l56 nf rc n) x1 x2 x3 x4 x5 woven tied ties holes byTowns first
        else
          g_X0_waysFrom_b82 nf rc (g_X0_waysFrom_l56 nf rc n) x1 x2 x3 x4 x5 1 woven tied ties holes byTowns first
      else
        g_X0_waysFrom_b81 nf rc (g_X0_waysFrom_l56 nf rc n) x1 x2 x3 x4 x5 woven tied ties holes byTowns first
def g_X0_waysFrom (nf : Nat) : Nat → Int32 → (Nat → Int32) → (Nat → Int32) → Int32 → Int32 → Int32 → Int32 → Option (Int32 × (Nat → Int32) × Int32)
  | 0, _, _, _, _, _, _, _ => none
  | d + 1, p1, woven, tied, ties, holes, byTowns, first =>
    if p1 < 0 then
      g_X0_waysFrom_b12 nf (g_X0_waysFrom nf d) woven tied ties holes byTowns first
    else
      if p1 < ties then
        ck p1 9 <|
        (g_X8_allBeside nf (tied p1.toNatClampNeg)).bind fun q3 =>
        g_X0_waysFrom_l56 nf (g_X0_waysFrom nf d) nf p1 (tied p1.toNatClampNeg) q3 0 1 woven tied ties holes byTowns first
      else
        g_X0_waysFrom_b12 nf (g_X0_waysFrom nf d) woven tied ties holes byTowns first
def g_X0_darn (nf : Nat) (p1 : Int32) (p2 : Int32) (woven : Nat → Int32) (tied : Nat → Int32) (ties : Int32) (holes : Int32) (byTowns : Int32) (ways : Int32) (first : Int32) : Option ((Nat → Int32) × (Nat → Int32) × Int32 × Int32 × Int32 × Int32 × Int32) :=
  (g_X8_allBeside nf p2).bind fun q1 =>
  (g_X0_partHoles nf woven tied ties p1 q1).bind fun q2 =>
  (g_X0_waysFrom nf 11 0 q2.2.1 q2.2.2.1 q2.2.2.2 p1 q1 (-6)).bind fun q3 =>
  some (q3.2.1, q2.2.2.1, q2.2.2.2, p1, q1, (q2.1 * q3.1), q3.2.2)
def g_X1_become_l114 (nf : Nat) : Nat → Int32 → (Nat → Int32) → (Nat → Int32) → (Nat → Int32) → (Nat → Int32) → (Nat → Int32) → (Nat → Int32) → (Nat → Int32) → (Nat → Int32) → Int32 → Int32 → (Nat → Int32) → (Nat → Int32) → (Nat → Int32) → (Nat → Int32) → (Nat → Int32) → (Nat → Int32) → (Nat → Int32) → (Nat → Int32) → Int32 → Int32 → Option ((Nat → Int32) × (Nat → Int32) × (Nat → Int32) × (Nat → Int32) × (Nat → Int32) × (Nat → Int32) × (Nat → Int32) × (Nat → Int32) × Int32 × Int32)
  | 0, _, _, _, _, _, _, _, _, _, _, _, _, _, _, _, _, _, _, _, _, _ => none
  | n + 1, x2, lands, camphors, there, mothCells, mothHeads, threads, sightNights, sightCells, sights, night, o_lands, o_camphors, o_there, o_mothCells, o_mothHeads, o_threads, o_sightNights, o_sightCells, o_sights, o_night =>
    if 8 ≤ x2 then
      some (lands, camphors, there, mothCells, mothHeads, threads, sightNights, sightCells, o_sights, o_night)
    else
      ck x2 8 <|
      ck x2 8 <|
      ck x2 8 <|
      ck x2 8 <|
      (g_X1_become_l114 nf n) (x2 + 1) lands camphors there mothCells mothHeads threads (upd sightNights x2.toNatClampNeg (o_sightNights x2.toNatClampNeg)) (upd sightCells x2.toNatClampNeg (o_sightCells x2.toNatClampNeg)) sights night o_lands o_camphors o_there o_mothCells o_mothHeads o_threads o_sightNights o_sightCells o_sights o_night
def g_X1_become_l89 (nf : Nat) : Nat → Int32 → (Nat → Int32) → (Nat → Int32) → (Nat → Int32) → (Nat → Int32) → (Nat → Int32) → (Nat → Int32) → (Nat → Int32) → (Nat → Int32) → Int32 → Int32 → (Nat → Int32) → (Nat → Int32) → (Nat → Int32) → (Nat → Int32) → (Nat → Int32) → (Nat → Int32) → (Nat → Int32) → (Nat → Int32) → Int32 → Int32 → Option ((Nat → Int32) × (Nat → Int32) × (Nat → Int32) × (Nat → Int32) × (Nat → Int32) × (Nat → Int32) × (Nat → Int32) × (Nat → Int32) × Int32 × Int32)
  | 0, _, _, _, _, _, _, _, _, _, _, _, _, _, _, _, _, _, _, _, _, _ => none
  | n + 1, x2, lands, camphors, there, mothCells, mothHeads, threads, sightNights, sightCells, sights, night, o_lands, o_camphors, o_there, o_mothCells, o_mothHeads, o_threads, o_sightNights, o_sightCells, o_sights, o_night =>
    if 3 < x2 then
      g_X1_become_l114 nf nf 0 lands camphors there mothCells mothHeads threads sightNights sightCells sights night o_lands o_camphors o_there o_mothCells o_mothHeads o_threads o_sightNights o_sightCells o_sights o_night
    else
      ck x2 4 <|
      ck x2 4 <|
      (g_X1_become_l89 nf n) (x2 + 1) lands camphors there mothCells mothHeads (upd threads x2.toNatClampNeg (o_threads x2.toNatClampNeg)) sightNights sightCells sights night o_lands o_camphors o_there o_mothCells o_mothHeads o_threads o_sightNights o_sightCells o_sights o_night
def g_X1_become_l40 (nf : Nat) : Nat → Int32 → (Nat → Int32) → (Nat → Int32) → (Nat → Int32) → (Nat → Int32) → (Nat → Int32) → (Nat → Int32) → (Nat → Int32) → (Nat → Int32) → Int32 → Int32 → (Nat → Int32) → (Nat → Int32) → (Nat → Int32) → (Nat → Int32) → (Nat → Int32) → (Nat → Int32) → (Nat → Int32) → (Nat → Int32) → Int32 → Int32 → Option ((Nat → Int32) × (Nat → Int32) × (Nat → Int32) × (Nat → Int32) × (Nat → Int32) × (Nat → Int32) × (Nat → Int32) × (Nat → Int32) × Int32 × Int32)
  | 0, _, _, _, _, _, _, _, _, _, _, _, _, _, _, _, _, _, _, _, _, _ => none
  | n + 1, x2, lands, camphors, there, mothCells, mothHeads, threads, sightNights, sightCells, sights, night, o_lands, o_camphors, o_there, o_mothCells, o_mothHeads, o_threads, o_sightNights, o_sightCells, o_sights, o_night =>
    if 4 ≤ x2 then
      g_X1_become_l89 nf nf 1 lands camphors there mothCells mothHeads threads sightNights sightCells sights night o_lands o_camphors o_there o_mothCells o_mothHeads o_threads o_sightNights o_sightCells o_sights o_night
    else
      ck x2 4 <|
      ck x2 4 <|
      bz (o_there x2.toNatClampNeg) <|
      ck x2 4 <|
      ck x2 4 <|
      ck x2 4 <|
      ck x2 4 <|
      (g_X1_become_l40 nf n) (x2 + 1) lands camphors (upd there x2.toNatClampNeg (o_there x2.toNatClampNeg)) (upd mothCells x2.toNatClampNeg (o_mothCells x2.toNatClampNeg)) (upd mothHeads x2.toNatClampNeg (o_mothHeads x2.toNatClampNeg)) threads sightNights sightCells sights night o_lands o_camphors o_there o_mothCells o_mothHeads o_threads o_sightNights o_sightCells o_sights o_night
def g_X1_become_l2 (nf : Nat) : Nat → Int32 → (Nat → Int32) → (Nat → Int32) → (Nat → Int32) → (Nat → Int32) → (Nat → Int32) → (Nat → Int32) → (Nat → Int32) → (Nat → Int32) → Int32 → Int32 → (Nat → Int32) → (Nat → Int32) → (Nat → Int32) → (Nat → Int32) → (Nat → Int32) → (Nat → Int32) → (Nat → Int32) → (Nat → Int32) → Int32 → Int32 → Option ((Nat → Int32) × (Nat → Int32) × (Nat → Int32) × (Nat → Int32) × (Nat → Int32) × (Nat → Int32) × (Nat → Int32) × (Nat → Int32) × Int32 × Int32)
  | 0, _, _, _, _, _, _, _, _, _, _, _, _, _, _, _, _, _, _, _, _, _ => none
  | n + 1, x2, lands, camphors, there, mothCells, mothHeads, threads, sightNights, sightCells, sights, night, o_lands, o_camphors, o_there, o_mothCells, o_mothHeads, o_threads, o_sightNights, o_sightCells, o_sights, o_night =>
    if 25 ≤ x2 then
      g_X1_become_l40 nf nf 0 lands camphors there mothCells mothHeads threads sightNights sightCells sights night o_lands o_camphors o_there o_mothCells o_mothHeads o_threads o_sightNights o_sightCells o_sights o_night
    else
      ck x2 25 <|
      ck x2 25 <|
      ck x2 25 <|
      ck x2 25 <|
      (g_X1_become_l2 nf n) (x2 + 1) (upd lands x2.toNatClampNeg (o_lands x2.toNatClampNeg)) (upd camphors x2.toNatClampNeg (o_camphors x2.toNatClampNeg)) there mothCells mothHeads threads sightNights sightCells sights night o_lands o_camphors o_there o_mothCells o_mothHeads o_threads o_sightNights o_sightCells o_sights o_night
def g_X1_become (nf : Nat) (lands : Nat → Int32) (camphors : Nat → Int32) (there : Nat → Int32) (mothCells : Nat → Int32) (mothHeads : Nat → Int32) (threads : Nat → Int32) (sightNights : Nat → Int32) (sightCells : Nat → Int32) (sights : Int32) (night : Int32) (o_lands : Nat → Int32) (o_camphors : Nat → Int32) (o_there : Nat → Int32) (o_mothCells : Nat → Int32) (o_mothHeads : Nat → Int32) (o_threads : Nat → Int32) (o_sightNights : Nat → Int32) (o_sightCells : Nat → Int32) (o_sights : Int32) (o_night : Int32) : Option ((Nat → Int32) × (Nat → Int32) × (Nat → Int32) × (Nat → Int32) × (Nat → Int32) × (Nat → Int32) × (Nat → Int32) × (Nat → Int32) × Int32 × Int32) :=
  g_X1_become_l2 nf nf 0 lands camphors there mothCells mothHeads threads sightNights sightCells sights night o_lands o_camphors o_there o_mothCells o_mothHeads o_threads o_sightNights o_sightCells o_sights o_night
def g_X1_isThere (nf : Nat) (p1 : Int32) (there : Nat → Int32) : Option (Int32) :=
  if p1 < 0 then
    bz 0 <|
    some 0
  else
    if 4 ≤ p1 then
      bz 0 <|
      some 0
    else
      ck p1 4 <|
      if (there p1.toNatClampNeg) = 0 then
        bz 0 <|
        some 0
      else
        bz 1 <|
        some 1
def g_X1_mothBits_b26 (nf : Nat) (k4 : Int32 → Int32 → (Nat → Int32) → Option (Int32)) (x2 : Int32) (s0 : Int32) (s1 : Int32) (there : Nat → Int32) : Option (Int32) :=
  k4 (s0 ||| s1) (x2 + 1) there
def g_X1_mothBits_l4 (nf : Nat) : Nat → Int32 → Int32 → (Nat → Int32) → Option (Int32)
  | 0, _, _, _ => none
  | n + 1, x1, x2, there =>
    if 4 ≤ x2 then
      some x1
    else
      ck x2 4 <|
      if (there x2.toNatClampNeg) = 0 then
        g_X1_mothBits_b26 nf (g_X1_mothBits_l4 nf n) x2 x1 0 there
      else
        g_X1_mothBits_b26 nf (g_X1_mothBits_l4 nf n) x2 x1 ((1 : Int32) <<< (x2 &&& 31)) there
def g_X1_mothBits (nf : Nat) (there : Nat → Int32) : Option (Int32) :=
  g_X1_mothBits_l4 nf nf 0 0 there
def g_X1_mothCellBits_b31 (nf : Nat) (k4 : Int32 → Int32 → (Nat → Int32) → (Nat → Int32) → Option (Int32)) (x2 : Int32) (s0 : Int32) (s1 : Int32) (there : Nat → Int32) (mothCells : Nat → Int32) : Option (Int32) :=
  k4 (s0 ||| s1) (x2 + 1) there mothCells
def g_X1_mothCellBits_l4 (nf : Nat) : Nat → Int32 → Int32 → (Nat → Int32) → (Nat → Int32) → Option (Int32)
  | 0, _, _, _, _ => none
  | n + 1, x1, x2, there, mothCells =>
    if 4 ≤ x2 then
      some x1
    else
      ck x2 4 <|
      if (there x2.toNatClampNeg) = 0 then
        g_X1_mothCellBits_b31 nf (g_X1_mothCellBits_l4 nf n) x2 x1 0 there mothCells
      else
        ck x2 4 <|
        g_X1_mothCellBits_b31 nf (g_X1_mothCellBits_l4 nf n) x2 x1 ((1 : Int32) <<< ((mothCells x2.toNatClampNeg) &&& 31)) there mothCells
def g_X1_mothCellBits (nf : Nat) (there : Nat → Int32) (mothCells : Nat → Int32) : Option (Int32) :=
  g_X1_mothCellBits_l4 nf nf 0 0 there mothCells
def g_X1_bitsOf_b28 (nf : Nat) (k4 : Int32 → Int32 → Int32 → (Nat → Int32) → Option (Int32)) (x1 : Int32) (x3 : Int32) (s0 : Int32) (s1 : Int32) (lands : Nat → Int32) : Option (Int32) :=
  k4 x1 (s0 ||| s1) (x3 + 1) lands
def g_X1_bitsOf_l4 (nf : Nat) : Nat → Int32 → Int32 → Int32 → (Nat → Int32) → Option (Int32)
  | 0, _, _, _, _ => none
  | n + 1, x1, x2, x3, lands =>
    if 25 ≤ x3 then
      some x2
    else
      ck x3 25 <|
      if (lands x3.toNatClampNeg) = x1 then
        g_X1_bitsOf_b28 nf (g_X1_bitsOf_l4 nf n) x1 x3 x2 ((1 : Int32) <<< (x3 &&& 31)) lands
      else
        g_X1_bitsOf_b28 nf (g_X1_bitsOf_l4 nf n) x1 x3 x2 0 lands
def g_X1_bitsOf (nf : Nat) (p1 : Int32) (lands : Nat → Int32) : Option (Int32) :=
  g_X1_bitsOf_l4 nf nf p1 0 0 lands
def g_J6_bitCount_0f7a4 (nf : Nat) (p0 : Int32) : Option (Int32) :=
  some ((((((((p0 - ((p0.toUInt32 >>> ((1 : Int32).toUInt32 &&& Int32.toUInt32 31)).toInt32 &&& (1431655765 : Int32))) &&& (858993459 : Int32)) + (((p0 - ((p0.toUInt32 >>> ((1 : Int32).toUInt32 &&& Int32.toUInt32 31)).toInt32 &&& (1431655765 : Int32))).toUInt32 >>> ((2 : Int32).toUInt32 &&& Int32.toUInt32 31)).toInt32 &&& (858993459 : Int32))) + ((((p0 - ((p0.toUInt32 >>> ((1 : Int32).toUInt32 &&& Int32.toUInt32 31)).toInt32 &&& (1431655765 : Int32))) &&& (858993459 : Int32)) + (((p0 - ((p0.toUInt32 >>> ((1 : Int32).toUInt32 &&& Int32.toUInt32 31)).toInt32 &&& (1431655765 : Int32))).toUInt32 >>> ((2 : Int32).toUInt32 &&& Int32.toUInt32 31)).toInt32 &&& (858993459 : Int32))).toUInt32 >>> ((4 : Int32).toUInt32 &&& Int32.toUInt32 31)).toInt32) &&& (252645135 : Int32)) + ((((((p0 - ((p0.toUInt32 >>> ((1 : Int32).toUInt32 &&& Int32.toUInt32 31)).toInt32 &&& (1431655765 : Int32))) &&& (858993459 : Int32)) + (((p0 - ((p0.toUInt32 >>> ((1 : Int32).toUInt32 &&& Int32.toUInt32 31)).toInt32 &&& (1431655765 : Int32))).toUInt32 >>> ((2 : Int32).toUInt32 &&& Int32.toUInt32 31)).toInt32 &&& (858993459 : Int32))) + ((((p0 - ((p0.toUInt32 >>> ((1 : Int32).toUInt32 &&& Int32.toUInt32 31)).toInt32 &&& (1431655765 : Int32))) &&& (858993459 : Int32)) + (((p0 - ((p0.toUInt32 >>> ((1 : Int32).toUInt32 &&& Int32.toUInt32 31)).toInt32 &&& (1431655765 : Int32))).toUInt32 >>> ((2 : Int32).toUInt32 &&& Int32.toUInt32 31)).toInt32 &&& (858993459 : Int32))).toUInt32 >>> ((4 : Int32).toUInt32 &&& Int32.toUInt32 31)).toInt32) &&& (252645135 : Int32)).toUInt32 >>> ((8 : Int32).toUInt32 &&& Int32.toUInt32 31)).toInt32) + (((((((p0 - ((p0.toUInt32 >>> ((1 : Int32).toUInt32 &&& Int32.toUInt32 31)).toInt32 &&& (1431655765 : Int32))) &&& (858993459 : Int32)) + (((p0 - ((p0.toUInt32 >>> ((1 : Int32).toUInt32 &&& Int32.toUInt32 31)).toInt32 &&& (1431655765 : Int32))).toUInt32 >>> ((2 : Int32).toUInt32 &&& Int32.toUInt32 31)).toInt32 &&& (858993459 : Int32))) + ((((p0 - ((p0.toUInt32 >>> ((1 : Int32).toUInt32 &&& Int32.toUInt32 31)).toInt32 &&& (1431655765 : Int32))) &&& (858993459 : Int32)) + (((p0 - ((p0.toUInt32 >>> ((1 : Int32).toUInt32 &&& Int32.toUInt32 31)).toInt32 &&& (1431655765 : Int32))).toUInt32 >>> ((2 : Int32).toUInt32 &&& Int32.toUInt32 31)).toInt32 &&& (858993459 : Int32))).toUInt32 >>> ((4 : Int32).toUInt32 &&& Int32.toUInt32 31)).toInt32) &&& (252645135 : Int32)) + ((((((p0 - ((p0.toUInt32 >>> ((1 : Int32).toUInt32 &&& Int32.toUInt32 31)).toInt32 &&& (1431655765 : Int32))) &&& (858993459 : Int32)) + (((p0 - ((p0.toUInt32 >>> ((1 : Int32).toUInt32 &&& Int32.toUInt32 31)).toInt32 &&& (1431655765 : Int32))).toUInt32 >>> ((2 : Int32).toUInt32 &&& Int32.toUInt32 31)).toInt32 &&& (858993459 : Int32))) + ((((p0 - ((p0.toUInt32 >>> ((1 : Int32).toUInt32 &&& Int32.toUInt32 31)).toInt32 &&& (1431655765 : Int32))) &&& (858993459 : Int32)) + (((p0 - ((p0.toUInt32 >>> ((1 : Int32).toUInt32 &&& Int32.toUInt32 31)).toInt32 &&& (1431655765 : Int32))).toUInt32 >>> ((2 : Int32).toUInt32 &&& Int32.toUInt32 31)).toInt32 &&& (858993459 : Int32))).toUInt32 >>> ((4 : Int32).toUInt32 &&& Int32.toUInt32 31)).toInt32) &&& (252645135 : Int32)).toUInt32 >>> ((8 : Int32).toUInt32 &&& Int32.toUInt32 31)).toInt32).toUInt32 >>> ((16 : Int32).toUInt32 &&& Int32.toUInt32 31)).toInt32) &&& (63 : Int32))
def g_X1_countOf (nf : Nat) (p1 : Int32) (lands : Nat → Int32) : Option (Int32) :=
  (g_X1_bitsOf nf p1 lands).bind fun q1 =>
  (g_J6_bitCount_0f7a4 nf q1).bind fun q2 =>
  some q2
def g_X1_threadsInAll (nf : Nat) (threads : Nat → Int32) : Option (Int32) :=
  ck 1 4 <|
  ck 2 4 <|
  ck 3 4 <|
  some (((threads (1 : Int32).toNatClampNeg) + (threads (2 : Int32).toNatClampNeg)) + (threads (3 : Int32).toNatClampNeg))
def g_X8_beside (nf : Nat) (p0 : Int32) (p1 : Int32) : Option (Int32) :=
  if p1 = 0 then
    if p0 < 5 then
      some (-1)
    else
      some (p0 - 5)
  else
    if p1 = 1 then
      if 4 ≤ (p0 - p0 / 5 * 5) then
        some (-1)
      else
        some (p0 + 1)
    else
      if p1 = 2 then
        if 20 ≤ p0 then
          some (-1)
        else
          some (p0 + 5)
      else
        if (p0 - p0 / 5 * 5) ≤ 0 then
          some (-1)
        else
          some (p0 - 1)
def g_X8_isCell (nf : Nat) (p0 : Int32) : Option (Int32) :=
  if p0 < 0 then
    bz 0 <|
    some 0
  else
    if 25 ≤ p0 then
      bz 0 <|
      some 0
    else
      bz 1 <|
      some 1
def g_X1_fourLandsFrom (nf : Nat) (p1 : Int32) (lands : Nat → Int32) : Option (Int32) :=
  (g_X8_beside nf p1 1).bind fun q1 =>
  (g_X8_beside nf p1 2).bind fun q2 =>
  (g_X8_isCell nf q1).bind fun q3 =>
  if q3 = 0 then
    some (-1)
  else
    (g_X8_isCell nf q2).bind fun q4 =>
    if q4 = 0 then
      some (-1)
    else
      (g_X8_isCell nf (q2 + 1)).bind fun q5 =>
      if q5 = 0 then
        some (-1)
      else
        ck p1 25 <|
        ck q1 25 <|
        ck q2 25 <|
        ck (q2 + 1) 25 <|
        some ((((1000 * (lands p1.toNatClampNeg)) + (100 * (lands q1.toNatClampNeg))) + (10 * (lands q2.toNatClampNeg))) + (lands (q2 + 1).toNatClampNeg))
def g_X1_addSight (nf : Nat) (p1 : Int32) (p2 : Int32) (sightNights : Nat → Int32) (sightCells : Nat → Int32) (sights : Int32) : Option (Int32 × (Nat → Int32) × (Nat → Int32) × Int32) :=
  if sights < 8 then
    ck sights 8 <|
    ck sights 8 <|
    bz 1 <|
    some (1, (upd sightNights sights.toNatClampNeg p1), (upd sightCells sights.toNatClampNeg p2), (sights + 1))
  else
    bz 0 <|
    some (0, sightNights, sightCells, sights)
def g_X1_turn (nf : Nat) (p1 : Int32) (p2 : Int32) (there : Nat → Int32) (mothHeads : Nat → Int32) : Option (Int32 × (Nat → Int32)) :=
  (g_X1_isThere nf p1 there).bind fun q1 =>
  if q1 = 0 then
    some (1, mothHeads)
  else
    ck p1 4 <|
    if (mothHeads p1.toNatClampNeg) = p2 then
      some (2, mothHeads)
    else
      ck p1 4 <|
      some (0, (upd mothHeads p1.toNatClampNeg p2))
def g_X1_catchMoth (nf : Nat) (p1 : Int32) (there : Nat → Int32) : Option (Int32 × (Nat → Int32)) :=
  (g_X1_isThere nf p1 there).bind fun q1 =>
  if q1 = 0 then
    some (1, there)
  else
    ck p1 4 <|
    bz 0 <|
    some (0, (upd there p1.toNatClampNeg 0))
def g_X1_layCamphor (nf : Nat) (p1 : Int32) (camphors : Nat → Int32) : Option (Int32 × (Nat → Int32)) :=
  (g_X8_isCell nf p1).bind fun q1 =>
  if q1 = 0 then
    some (3, camphors)
  else
    ck p1 25 <|
    if (camphors p1.toNatClampNeg) < 3 then
      ck p1 25 <|
      some (0, (upd camphors p1.toNatClampNeg 3))
    else
      some (3, camphors)
def g_X8_within (nf : Nat) (p0 : Int32) (p1 : Int32) (p2 : Int32) : Option (Int32) :=
  if p0 < p1 then
    bz 0 <|
    some 0
  else
    if p2 < p0 then
      bz 0 <|
      some 0
    else
      bz 1 <|
      some 1
def g_X8_isThread (nf : Nat) (p0 : Int32) : Option (Int32) :=
  (g_X8_within nf p0 1 3).bind fun q1 =>
  bz q1 <|
  some q1
def g_X1_landBy (nf : Nat) (p0 : Int32) : Option (Int32) :=
  if p0 = 1 then
    some 2
  else
    if p0 = 2 then
      some 3
    else
      some 5
def g_X1_darn (nf : Nat) (p1 : Int32) (p2 : Int32) (lands : Nat → Int32) (threads : Nat → Int32) : Option (Int32 × (Nat → Int32) × (Nat → Int32)) :=
  (g_X8_isCell nf p1).bind fun q1 =>
  if q1 = 0 then
    some (4, lands, threads)
  else
    ck p1 25 <|
    if (lands p1.toNatClampNeg) = 0 then
      (g_X8_isThread nf p2).bind fun q2 =>
      if q2 = 0 then
        some (5, lands, threads)
      else
        ck p2 4 <|
        if (threads p2.toNatClampNeg) = 0 then
          some (5, lands, threads)
        else
          ck p2 4 <|
          ck p2 4 <|
          (g_X1_landBy nf p2).bind fun q3 =>
          ck p1 25 <|
          some (0, (upd lands p1.toNatClampNeg q3), (upd threads p2.toNatClampNeg ((threads p2.toNatClampNeg) - 1)))
    else
      some (4, lands, threads)
def g_X1_eat_b24 (nf : Nat) (x1 : Int32) (lands : Nat → Int32) (eaten : Int32) : Option ((Nat → Int32) × Int32) :=
  ck x1 25 <|
  some ((upd lands x1.toNatClampNeg 0), eaten)
def g_X1_eat (nf : Nat) (p1 : Int32) (lands : Nat → Int32) (eaten : Int32) : Option ((Nat → Int32) × Int32) :=
  ck p1 25 <|
  if (lands p1.toNatClampNeg) = 4 then
    if eaten = (-6) then
      g_X1_eat_b24 nf p1 lands p1
    else
      g_X1_eat_b24 nf p1 lands eaten
  else
    g_X1_eat_b24 nf p1 lands eaten
def g_X1_fly_b70 (nf : Nat) (k2 : Int32 → Int32 → (Nat → Int32) → (Nat → Int32) → (Nat → Int32) → (Nat → Int32) → Int32 → Option ((Nat → Int32) × (Nat → Int32) × (Nat → Int32) × Int32)) (x1 : Int32) (x2 : Int32) (lands : Nat → Int32) (camphors : Nat → Int32) (mothCells : Nat → Int32) (mothHeads : Nat → Int32) (eaten : Int32) : Option ((Nat → Int32) × (Nat → Int32) × (Nat → Int32) × Int32) :=
  k2 x1 (x2 + 1) lands camphors mothCells mothHeads eaten
def g_X1_fly_l2 (nf : Nat) : Nat → Int32 → Int32 → (Nat → Int32) → (Nat → Int32) → (Nat → Int32) → (Nat → Int32) → Int32 → Option ((Nat → Int32) × (Nat → Int32) × (Nat → Int32) × Int32)
  | 0, _, _, _, _, _, _, _ => none
  | n + 1, x1, x2, lands, camphors, mothCells, mothHeads, eaten =>
    if 4 ≤ x2 then
      some (lands, mothCells, mothHeads, eaten)
    else
      ck x1 4 <|
      ck x1 4 <|
      (g_X8_beside nf (mothCells x1.toNatClampNeg) (((mothHeads x1.toNatClampNeg) + x2) - ((mothHeads x1.toNatClampNeg) + x2) / 4 * 4)).bind fun q1 =>
      (g_X8_isCell nf q1).bind fun q2 =>
      if q2 = 0 then
        g_X1_fly_b70 nf (g_X1_fly_l2 nf n) x1 x2 lands camphors mothCells mothHeads eaten
      else
        ck q1 25 <|
        if (camphors q1.toNatClampNeg) = 0 then
          ck x1 4 <|
          ck x1 4 <|
          (g_X1_eat nf q1 lands eaten).bind fun q3 =>
          some (q3.1, (upd mothCells x1.toNatClampNeg q1), (upd mothHeads x1.toNatClampNeg (((mothHeads x1.toNatClampNeg) + x2) - ((mothHeads x1.toNatClampNeg) + x2) / 4 * 4)), q3.2)
        else
          g_X1_fly_b70 nf (g_X1_fly_l2 nf n) x1 x2 lands camphors mothCells mothHeads eaten
def g_X1_fly (nf : Nat) (p1 : Int32) (lands : Nat → Int32) (camphors : Nat → Int32) (mothCells : Nat → Int32) (mothHeads : Nat → Int32) (eaten : Int32) : Option ((Nat → Int32) × (Nat → Int32) × (Nat → Int32) × Int32) :=
  g_X1_fly_l2 nf nf p1 0 lands camphors mothCells mothHeads eaten
def g_X1_passNight_b39 (nf : Nat) (k20 : Int32 → (Nat → Int32) → (Nat → Int32) → (Nat → Int32) → (Nat → Int32) → (Nat → Int32) → Int32 → Int32 → Option (Int32 × (Nat → Int32) × (Nat → Int32) × (Nat → Int32) × (Nat → Int32) × Int32 × Int32)) (x1 : Int32) (lands : Nat → Int32) (camphors : Nat → Int32) (there : Nat → Int32) (mothCells : Nat → Int32) (mothHeads : Nat → Int32) (night : Int32) (eaten : Int32) : Option (Int32 × (Nat → Int32) × (Nat → Int32) × (Nat → Int32) × (Nat → Int32) × Int32 × Int32) :=
  k20 (x1 + 1) lands camphors there mothCells mothHeads night eaten
def g_X1_passNight_l47 (nf : Nat) : Nat → Int32 → (Nat → Int32) → (Nat → Int32) → (Nat → Int32) → (Nat → Int32) → (Nat → Int32) → Int32 → Int32 → Option (Int32 × (Nat → Int32) × (Nat → Int32) × (Nat → Int32) × (Nat → Int32) × Int32 × Int32)
  | 0, _, _, _, _, _, _, _, _ => none
  | n + 1, x1, lands, camphors, there, mothCells, mothHeads, night, eaten =>
    if 25 ≤ x1 then
      some (0, lands, camphors, mothCells, mothHeads, (night + 1), eaten)
    else
      ck x1 25 <|
      ck x1 25 <|
      (g_X1_passNight_l47 nf n) (x1 + 1) lands (upd camphors x1.toNatClampNeg (if 0 < ((camphors x1.toNatClampNeg) - 1) then ((camphors x1.toNatClampNeg) - 1) else 0)) there mothCells mothHeads night eaten
def g_X1_passNight_l20 (nf : Nat) : Nat → Int32 → (Nat → Int32) → (Nat → Int32) → (Nat → Int32) → (Nat → Int32) → (Nat → Int32) → Int32 → Int32 → Option (Int32 × (Nat → Int32) × (Nat → Int32) × (Nat → Int32) × (Nat → Int32) × Int32 × Int32)
  | 0, _, _, _, _, _, _, _, _ => none
  | n + 1, x1, lands, camphors, there, mothCells, mothHeads, night, eaten =>
    if 4 ≤ x1 then
      g_X1_passNight_l47 nf nf 0 lands camphors there mothCells mothHeads night eaten
    else
      ck x1 4 <|
      if (there x1.toNatClampNeg) = 0 then
        g_X1_passNight_b39 nf (g_X1_passNight_l20 nf n) x1 lands camphors there mothCells mothHeads night eaten
      else
        (g_X1_fly nf x1 lands camphors mothCells mothHeads eaten).bind fun q1 =>
        g_X1_passNight_b39 nf (g_X1_passNight_l20 nf n) x1 q1.1 camphors there q1.2.1 q1.2.2.1 night q1.2.2.2
def g_X1_passNight (nf : Nat) (lands : Nat → Int32) (camphors : Nat → Int32) (there : Nat → Int32) (mothCells : Nat → Int32) (mothHeads : Nat → Int32) (night : Int32) (eaten : Int32) : Option (Int32 × (Nat → Int32) × (Nat → Int32) × (Nat → Int32) × (Nat → Int32) × Int32 × Int32) :=
  if night < 99 then
    g_X1_passNight_l20 nf nf 0 lands camphors there mothCells mothHeads night (-6)
  else
    some (6, lands, camphors, mothCells, mothHeads, night, eaten)
def g_X1_draw_b60 (nf : Nat) (x2 : Int32) (lands : Nat → Int32) (camphors : Nat → Int32) (there : Nat → Int32) (mothCells : Nat → Int32) (mothHeads : Nat → Int32) (threads : Nat → Int32) (night : Int32) (eaten : Int32) : Option ((Nat → Int32) × (Nat → Int32) × (Nat → Int32) × (Nat → Int32) × (Nat → Int32) × Int32 × Int32) :=
  (g_X1_darn nf (x2 - x2 / 25 * 25) (1 + ((x2 / 25) - (x2 / 25) / 3 * 3)) lands threads).bind fun q1 =>
  some (q1.2.1, camphors, mothCells, mothHeads, q1.2.2, night, eaten)
def g_X1_draw (nf : Nat) (p1 : Int32) (p2 : Int32) (lands : Nat → Int32) (camphors : Nat → Int32) (there : Nat → Int32) (mothCells : Nat → Int32) (mothHeads : Nat → Int32) (threads : Nat → Int32) (night : Int32) (eaten : Int32) : Option ((Nat → Int32) × (Nat → Int32) × (Nat → Int32) × (Nat → Int32) × (Nat → Int32) × Int32 × Int32) :=
  if p1 = 0 then
    (g_X1_turn nf (p2 - p2 / 4 * 4) ((p2 / 4) - (p2 / 4) / 4 * 4) there mothHeads).bind fun q2 =>
    some (lands, camphors, mothCells, q2.2, threads, night, eaten)
  else
    if p1 = 1 then
      (g_X1_layCamphor nf (p2 - p2 / 25 * 25) camphors).bind fun q3 =>
      some (lands, q3.2, mothCells, mothHeads, threads, night, eaten)
    else
      if p1 = 2 then
        g_X1_draw_b60 nf p2 lands camphors there mothCells mothHeads threads night eaten
      else
        if p1 = 3 then
          g_X1_draw_b60 nf p2 lands camphors there mothCells mothHeads threads night eaten
        else
          (g_X1_passNight nf lands camphors there mothCells mothHeads night eaten).bind fun q4 =>
          some (q4.2.1, q4.2.2.1, q4.2.2.2.1, q4.2.2.2.2.1, threads, q4.2.2.2.2.2.1, q4.2.2.2.2.2.2)
def g_X2_pour_b23 (nf : Nat) (k2 : Int32 → Int32 → (Nat → Int64) → Int64 → Option ((Nat → Int64) × Int64)) (x1 : Int32) (x2 : Int32) (s1 : Int32) (s2 : Int64) (shares : Nat → Int64) (parts : Int64) : Option ((Nat → Int64) × Int64) :=
  ck s1 10 <|
  k2 x1 (x2 + 1) (vp_updL shares s1.toNatClampNeg s2) parts
def g_X2_pour_l2 (nf : Nat) : Nat → Int32 → Int32 → (Nat → Int64) → Int64 → Option ((Nat → Int64) × Int64)
  | 0, _, _, _, _ => none
  | n + 1, x1, x2, shares, parts =>
    if 9 < x2 then
      some (shares, 1)
    else
      if x2 = x1 then
        g_X2_pour_b23 nf (g_X2_pour_l2 nf n) x1 x2 x2 1 shares parts
      else
        g_X2_pour_b23 nf (g_X2_pour_l2 nf n) x1 x2 x2 0 shares parts
def g_X2_pour (nf : Nat) (p1 : Int32) (shares : Nat → Int64) (parts : Int64) : Option ((Nat → Int64) × Int64) :=
  g_X2_pour_l2 nf nf p1 0 shares parts
def g_X2_move_l126 (nf : Nat) : Nat → Int32 → (Nat → Int64) → (Nat → Int64) → Int64 → Option ((Nat → Int64) × (Nat → Int64) × Int64)
  | 0, _, _, _, _ => none
  | n + 1, x4, shares, moved, parts =>
    if 9 < x4 then
      some (shares, moved, (parts * 10))
    else
      ck x4 10 <|
      ck x4 10 <|
      (g_X2_move_l126 nf n) (x4 + 1) (vp_updL shares x4.toNatClampNeg (moved x4.toNatClampNeg)) moved parts
def g_X2_move_b123 (nf : Nat) (shares : Nat → Int64) (moved : Nat → Int64) (parts : Int64) : Option ((Nat → Int64) × (Nat → Int64) × Int64) :=
  g_X2_move_l126 nf nf 0 shares moved parts
def g_X2_move_l27 (nf : Nat) : Nat → Int32 → Int32 → Int32 → Int32 → (Nat → Int64) → (Nat → Int64) → Int64 → Option ((Nat → Int64) × (Nat → Int64) × Int64)
  | 0, _, _, _, _, _, _, _ => none
  | n + 1, x1, x2, x3, x4, shares, moved, parts =>
    if x1 < x4 then
      g_X2_move_b123 nf shares moved parts
    else
      if 9 < x4 then
        g_X2_move_b123 nf shares moved parts
      else
        ck (if x1 < (x4 + 1) then x1 else (x4 + 1)) 10 <|
        ck x4 10 <|
        ck (if x1 < (x4 + 1) then x1 else (x4 + 1)) 10 <|
        ck (if (x4 - 1) < 0 then 0 else (x4 - 1)) 10 <|
        ck x4 10 <|
        ck (if (x4 - 1) < 0 then 0 else (x4 - 1)) 10 <|
        ck x4 10 <|
        ck x4 10 <|
        ck x4 10 <|
        (g_X2_move_l27 nf n) x1 x2 x3 (x4 + 1) shares (vp_updL (vp_updL (vp_updL moved (if x1 < (x4 + 1) then x1 else (x4 + 1)).toNatClampNeg ((moved (if x1 < (x4 + 1) then x1 else (x4 + 1)).toNatClampNeg) + (x2.toInt64 * (shares x4.toNatClampNeg)))) (if (x4 - 1) < 0 then 0 else (x4 - 1)).toNatClampNeg (((vp_updL moved (if x1 < (x4 + 1) then x1 else (x4 + 1)).toNatClampNeg ((moved (if x1 < (x4 + 1) then x1 else (x4 + 1)).toNatClampNeg) + (x2.toInt64 * (shares x4.toNatClampNeg)))) (if (x4 - 1) < 0 then 0 else (x4 - 1)).toNatClampNeg) + (x3.toInt64 * (shares x4.toNatClampNeg)))) x4.toNatClampNeg (((vp_updL (vp_updL moved (if x1 < (x4 + 1) then x1 else (x4 + 1)).toNatClampNeg ((moved (if x1 < (x4 + 1) then x1 else (x4 + 1)).toNatClampNeg) + (x2.toInt64 * (shares x4.toNatClampNeg)))) (if (x4 - 1) < 0 then 0 else (x4 - 1)).toNatClampNeg (((vp_updL moved (if x1 < (x4 + 1) then x1 else (x4 + 1)).toNatClampNeg ((moved (if x1 < (x4 + 1) then x1 else (x4 + 1)).toNatClampNeg) + (x2.toInt64 * (shares x4.toNatClampNeg)))) (if (x4 - 1) < 0 then 0 else (x4 - 1)).toNatClampNeg) + (x3.toInt64 * (shares x4.toNatClampNeg)))) x4.toNatClampNeg) + (((10 - x2) - x3).toInt64 * (shares x4.toNatClampNeg)))) parts
def g_X2_move_l3 (nf : Nat) : Nat → Int32 → Int32 → Int32 → Int32 → (Nat → Int64) → (Nat → Int64) → Int64 → Option ((Nat → Int64) × (Nat → Int64) × Int64)
  | 0, _, _, _, _, _, _, _ => none
  | n + 1, x1, x2, x3, x4, shares, moved, parts =>
    if 9 < x4 then
      g_X2_move_l27 nf nf x1 x2 x3 0 shares moved parts
    else
      ck x4 10 <|
      (g_X2_move_l3 nf n) x1 x2 x3 (x4 + 1) shares (vp_updL moved x4.toNatClampNeg 0) parts
def g_X2_move (nf : Nat) (p1 : Int32) (p2 : Int32) (p3 : Int32) (shares : Nat → Int64) (moved : Nat → Int64) (parts : Int64) : Option ((Nat → Int64) × (Nat → Int64) × Int64) :=
  g_X2_move_l3 nf nf p1 p2 p3 0 shares moved parts
def g_X2_share (nf : Nat) (p1 : Int32) (shares : Nat → Int64) : Option (Int64) :=
  if p1 < 0 then
    some 0
  else
    if 9 < p1 then
      some 0
    else
      ck p1 10 <|
      some (shares p1.toNatClampNeg)
def g_J6_lowestOneBit_0f7a4 (nf : Nat) (p0 : Int32) : Option (Int32) :=
  some (p0 &&& (-p0))
def g_X3_wayBack_l12 (nf : Nat) : Nat → Int32 → Int32 → Int32 → (Nat → Int32) → Int32 → Option (Int32)
  | 0, _, _, _, _, _ => none
  | n + 1, x2, x3, x4, rings, harbour =>
    if x4 < 1 then
      some x2
    else
      if 25 < x4 then
        some x2
      else
        (g_X8_allBeside nf x3).bind fun q1 =>
        ck x4 26 <|
        (g_J6_lowestOneBit_0f7a4 nf (q1 &&& (rings x4.toNatClampNeg))).bind fun q2 =>
        (g_X3_wayBack_l12 nf n) (x2 ||| q2) q2 (x4 + (-1)) rings harbour
def g_X3_wayBack (nf : Nat) (p1 : Int32) (rings : Nat → Int32) (harbour : Int32) : Option (Int32) :=
  g_X3_wayBack_l12 nf nf 0 harbour (p1 - 1) rings harbour
def g_X3_openWay_l17 (nf : Nat) : Nat → Int32 → Int32 → Int32 → (Nat → Int32) → Int32 → Int32 → Option (Int32 × (Nat → Int32))
  | 0, _, _, _, _, _, _ => none
  | n + 1, x1, x2, x3, rings, moths, harbour =>
    if 25 < x3 then
      some (0, rings)
    else
      ck (x3 - 1) 26 <|
      (g_X8_allBeside nf (rings (x3 - 1).toNatClampNeg)).bind fun q1 =>
      if ((q1 &&& (x2 ^^^ ((-1) : Int32))) &&& (x1 ^^^ ((-1) : Int32))) = 0 then
        some (0, rings)
      else
        if (((q1 &&& (x2 ^^^ ((-1) : Int32))) &&& (x1 ^^^ ((-1) : Int32))) &&& harbour) = 0 then
          ck x3 26 <|
          (g_X3_openWay_l17 nf n) x1 (x2 ||| ((q1 &&& (x2 ^^^ ((-1) : Int32))) &&& (x1 ^^^ ((-1) : Int32)))) (x3 + 1) (upd rings x3.toNatClampNeg ((q1 &&& (x2 ^^^ ((-1) : Int32))) &&& (x1 ^^^ ((-1) : Int32)))) moths harbour
        else
          (g_X3_wayBack nf x3 rings harbour).bind fun q2 =>
          some (q2, rings)
def g_X3_openWay (nf : Nat) (p1 : Int32) (rings : Nat → Int32) (moths : Int32) (harbour : Int32) : Option (Int32 × (Nat → Int32)) :=
  ck 0 26 <|
  g_X3_openWay_l17 nf nf p1 moths 1 (upd rings (0 : Int32).toNatClampNeg moths) moths harbour
def g_X3_search_b34 (nf : Nat) (rc : Int32 → Int32 → Int32 → (Nat → Int32) → Int32 → Int32 → Int32 → Option ((Nat → Int32) × Int32)) (s1 : Int32) (rings : Nat → Int32) (moths : Int32) (harbour : Int32) (best : Int32) : Option ((Nat → Int32) × Int32) :=
  some (rings, s1)
def g_X3_search_b94 (nf : Nat) (rc : Int32 → Int32 → Int32 → (Nat → Int32) → Int32 → Int32 → Int32 → Option ((Nat → Int32) × Int32)) (k49 : Int32 → Int32 → Int32 → Int32 → Int32 → Int32 → (Nat → Int32) → Int32 → Int32 → Int32 → Option ((Nat → Int32) × Int32)) (x1 : Int32) (x2 : Int32) (x3 : Int32) (x4 : Int32) (x5 : Int32) (x6 : Int32) (rings : Nat → Int32) (moths : Int32) (harbour : Int32) (best : Int32) : Option ((Nat → Int32) × Int32) :=
  k49 x1 x2 x3 x4 x5 (x6 + 1) rings moths harbour best
def g_X3_search_l49 (nf : Nat) (rc : Int32 → Int32 → Int32 → (Nat → Int32) → Int32 → Int32 → Int32 → Option ((Nat → Int32) × Int32)) : Nat → Int32 → Int32 → Int32 → Int32 → Int32 → Int32 → (Nat → Int32) → Int32 → Int32 → Int32 → Option ((Nat → Int32) × Int32)
  | 0, _, _, _, _, _, _, _, _, _, _ => none
  | n + 1, x1, x2, x3, x4, x5, x6, rings, moths, harbour, best =>
    if 25 ≤ x6 then
      some (rings, best)
    else
      if ((x4 &&& (x2 ^^^ ((-1) : Int32))) &&& ((1 : Int32) <<< (x6 &&& 31))) = 0 then
        g_X3_search_b94 nf rc (g_X3_search_l49 nf rc n) x1 x2 x3 x4 x5 x6 rings moths harbour best
      else
        (rc (x1 ||| ((1 : Int32) <<< (x6 &&& 31))) x5 (x3 - 1) rings moths harbour best).bind fun q1 =>
        g_X3_search_b94 nf rc (g_X3_search_l49 nf rc n) x1 x2 x3 x4 (x5 ||| ((1 : Int32) <<< (x6 &&& 31))) x6 q1.1 moths harbour q1.2
def g_X3_search (nf : Nat) : Nat → Int32 → Int32 → Int32 → (Nat → Int32) → Int32 → Int32 → Int32 → Option ((Nat → Int32) × Int32)
  | 0, _, _, _, _, _, _, _ => none
  | d + 1, p1, p2, p3, rings, moths, harbour, best =>
    (g_X3_openWay nf p1 rings moths harbour).bind fun q2 =>
    if q2.1 = 0 then
      if best = (-6) then
        g_X3_search_b34 nf (g_X3_search nf d) p1 q2.2 moths harbour best
      else
        g_X3_search_b34 nf (g_X3_search nf d) (if p1 < best then p1 else best) q2.2 moths harbour best
    else
      if 0 < p3 then
        g_X3_search_l49 nf (g_X3_search nf d) nf p1 p2 p3 q2.1 p2 0 q2.2 moths harbour best
      else
        some (q2.2, best)
def g_X3_leastCells_l41 (nf : Nat) : Nat → Int32 → (Nat → Int32) → Int32 → Int32 → Int32 → Option (Int32 × (Nat → Int32) × Int32 × Int32 × Int32)
  | 0, _, _, _, _, _ => none
  | n + 1, x3, rings, moths, harbour, best =>
    if 4 < x3 then
      some (best, rings, moths, harbour, best)
    else
      if best = (-6) then
        (g_X3_search nf 6 0 0 x3 rings moths harbour best).bind fun q1 =>
        (g_X3_leastCells_l41 nf n) (x3 + 1) q1.1 moths harbour q1.2
      else
        some (best, rings, moths, harbour, best)
def g_X3_leastCells (nf : Nat) (p1 : Int32) (p2 : Int32) (rings : Nat → Int32) (moths : Int32) (harbour : Int32) (best : Int32) : Option (Int32 × (Nat → Int32) × Int32 × Int32 × Int32) :=
  (g_X8_allBeside nf p2).bind fun q2 =>
  if (p1 &&& (p2 ||| q2)) = 0 then
    g_X3_leastCells_l41 nf nf 0 rings p1 p2 (-6)
  else
    some ((-6), rings, p1, p2, best)
def g_X5_signAt (nf : Nat) (p1 : Int32) (signs : Nat → Int32) (size : Int32) : Option (Int32) :=
  if p1 < 0 then
    some 0
  else
    if size ≤ p1 then
      some 0
    else
      ck p1 60 <|
      some (signs p1.toNatClampNeg)
def g_X5_headOf (nf : Nat) (p0 : Int32) : Option (Int32) :=
  if p0 = 101 then
    some 1
  else
    if p0 = 110 then
      some 0
    else
      if p0 = 115 then
        some 2
      else
        if p0 = 119 then
          some 3
        else
          some (-1)
def g_X4_attemptDeed (nf : Nat) (p1 : Int32) (p2 : Int32) (f_there : Nat → Int32) (f_mothHeads : Nat → Int32) : Option (Int32 × (Nat → Int32) × (Nat → Int32)) :=
  if p2 = 33 then
    (g_X1_catchMoth nf p1 f_there).bind fun q3 =>
    some (q3.1, q3.2, f_mothHeads)
  else
    (g_X5_headOf nf p2).bind fun q1 =>
    (g_X1_turn nf p1 q1 f_there f_mothHeads).bind fun q2 =>
    some (q2.1, f_there, q2.2)
def g_X4_attempt (nf : Nat) (p1 : Int32) (p2 : Int32) (p3 : Int32) (f_lands : Nat → Int32) (f_camphors : Nat → Int32) (f_there : Nat → Int32) (f_mothCells : Nat → Int32) (f_mothHeads : Nat → Int32) (f_threads : Nat → Int32) (f_night : Int32) (f_eaten : Int32) : Option (Int32 × (Nat → Int32) × (Nat → Int32) × (Nat → Int32) × (Nat → Int32) × (Nat → Int32) × (Nat → Int32) × Int32 × Int32) :=
  if p1 = 37 then
    (g_X1_darn nf (p2 - 97) (p3 - 48) f_lands f_threads).bind fun q1 =>
    some (q1.1, q1.2.1, f_camphors, f_there, f_mothCells, f_mothHeads, q1.2.2, f_night, f_eaten)
  else
    if p1 = 43 then
      (g_X1_layCamphor nf (p2 - 97) f_camphors).bind fun q2 =>
      some (q2.1, f_lands, q2.2, f_there, f_mothCells, f_mothHeads, f_threads, f_night, f_eaten)
    else
      if p1 = 46 then
        (g_X1_passNight nf f_lands f_camphors f_there f_mothCells f_mothHeads f_night f_eaten).bind fun q3 =>
        some (q3.1, q3.2.1, q3.2.2.1, f_there, q3.2.2.2.1, q3.2.2.2.2.1, f_threads, q3.2.2.2.2.2.1, q3.2.2.2.2.2.2)
      else
        (g_X4_attemptDeed nf (p1 - 65) p2 f_there f_mothHeads).bind fun q4 =>
        some (q4.1, f_lands, f_camphors, q4.2.1, f_mothCells, q4.2.2, f_threads, f_night, f_eaten)
def g_X5_actLength (nf : Nat) (p0 : Int32) : Option (Int32) :=
  if p0 = 37 then
    some 3
  else
    if p0 = 46 then
      some 1
    else
      some 2
def g_X4_note_b57 (nf : Nat) (acts : Int32) (passed : Int32) (townNight : Int32) (town : Int32) (f_eaten : Int32) : Option (Int32 × Int32 × Int32 × Int32) :=
  some (acts, (passed + 1), townNight, town)
def g_X4_note (nf : Nat) (p1 : Int32) (acts : Int32) (passed : Int32) (townNight : Int32) (town : Int32) (f_eaten : Int32) : Option (Int32 × Int32 × Int32 × Int32) :=
  if p1 = 46 then
    if town = (-6) then
      if f_eaten = (-6) then
        g_X4_note_b57 nf (acts + 1) passed townNight town f_eaten
      else
        g_X4_note_b57 nf (acts + 1) passed passed f_eaten f_eaten
    else
      g_X4_note_b57 nf (acts + 1) passed townNight town f_eaten
  else
    some ((acts + 1), passed, townNight, town)
def g_X4_tell_b106 (nf : Nat) (k40 : Int32 → Int32 → Int32 → Int32 → Int32 → Int32 → Int32 → (Nat → Int32) → (Nat → Int32) → (Nat → Int32) → (Nat → Int32) → (Nat → Int32) → (Nat → Int32) → (Nat → Int32) → (Nat → Int32) → Int32 → Int32 → Int32 → (Nat → Int32) → Int32 → (Nat → Int32) → (Nat → Int32) → (Nat → Int32) → (Nat → Int32) → (Nat → Int32) → (Nat → Int32) → (Nat → Int32) → (Nat → Int32) → Int32 → Int32 → Option (Int32 × Int32 × Int32 × Int32 × Int32 × (Nat → Int32) × (Nat → Int32) × (Nat → Int32) × (Nat → Int32) × (Nat → Int32) × (Nat → Int32) × (Nat → Int32) × (Nat → Int32) × Int32 × Int32 × Int32)) (x3 : Int32) (x4 : Int32) (x5 : Int32) (acts : Int32) (why : Int32) (passed : Int32) (townNight : Int32) (town : Int32) (f_lands : Nat → Int32) (f_camphors : Nat → Int32) (f_there : Nat → Int32) (f_mothCells : Nat → Int32) (f_mothHeads : Nat → Int32) (f_threads : Nat → Int32) (f_sightNights : Nat → Int32) (f_sightCells : Nat → Int32) (f_sights : Int32) (f_night : Int32) (f_eaten : Int32) (p_signs : Nat → Int32) (p_size : Int32) (n_lands : Nat → Int32) (n_camphors : Nat → Int32) (n_there : Nat → Int32) (n_mothCells : Nat → Int32) (n_mothHeads : Nat → Int32) (n_threads : Nat → Int32) (n_sightNights : Nat → Int32) (n_sightCells : Nat → Int32) (n_sights : Int32) (n_night : Int32) : Option (Int32 × Int32 × Int32 × Int32 × Int32 × (Nat → Int32) × (Nat → Int32) × (Nat → Int32) × (Nat → Int32) × (Nat → Int32) × (Nat → Int32) × (Nat → Int32) × (Nat → Int32) × Int32 × Int32 × Int32) :=
  (g_X5_actLength nf x5).bind fun q6 =>
  k40 (x3 + q6) (x4 + 1) acts why passed townNight town f_lands f_camphors f_there f_mothCells f_mothHeads f_threads f_sightNights f_sightCells f_sights f_night f_eaten p_signs p_size n_lands n_camphors n_there n_mothCells n_mothHeads n_threads n_sightNights n_sightCells n_sights n_night
def g_X4_tell_l40 (nf : Nat) : Nat → Int32 → Int32 → Int32 → Int32 → Int32 → Int32 → Int32 → (Nat → Int32) → (Nat → Int32) → (Nat → Int32) → (Nat → Int32) → (Nat → Int32) → (Nat → Int32) → (Nat → Int32) → (Nat → Int32) → Int32 → Int32 → Int32 → (Nat → Int32) → Int32 → (Nat → Int32) → (Nat → Int32) → (Nat → Int32) → (Nat → Int32) → (Nat → Int32) → (Nat → Int32) → (Nat → Int32) → (Nat → Int32) → Int32 → Int32 → Option (Int32 × Int32 × Int32 × Int32 × Int32 × (Nat → Int32) × (Nat → Int32) × (Nat → Int32) × (Nat → Int32) × (Nat → Int32) × (Nat → Int32) × (Nat → Int32) × (Nat → Int32) × Int32 × Int32 × Int32)
  | 0, _, _, _, _, _, _, _, _, _, _, _, _, _, _, _, _, _, _, _, _, _, _, _, _, _, _, _, _, _, _ => none
  | n + 1, x3, x4, acts, why, passed, townNight, town, f_lands, f_camphors, f_there, f_mothCells, f_mothHeads, f_threads, f_sightNights, f_sightCells, f_sights, f_night, f_eaten, p_signs, p_size, n_lands, n_camphors, n_there, n_mothCells, n_mothHeads, n_threads, n_sightNights, n_sightCells, n_sights, n_night =>
    if 60 ≤ x4 then
      some (acts, why, passed, townNight, town, f_lands, f_camphors, f_there, f_mothCells, f_mothHeads, f_threads, f_sightNights, f_sightCells, f_sights, f_night, f_eaten)
    else
      if p_size ≤ x3 then
        some (acts, why, passed, townNight, town, f_lands, f_camphors, f_there, f_mothCells, f_mothHeads, f_threads, f_sightNights, f_sightCells, f_sights, f_night, f_eaten)
      else
        if why = 0 then
          (g_X5_signAt nf x3 p_signs p_size).bind fun q1 =>
          (g_X5_signAt nf (x3 + 1) p_signs p_size).bind fun q2 =>
          (g_X5_signAt nf (x3 + 2) p_signs p_size).bind fun q3 =>
          (g_X4_attempt nf q1 q2 q3 f_lands f_camphors f_there f_mothCells f_mothHeads f_threads f_night f_eaten).bind fun q4 =>
          if q4.1 = 0 then
            (g_X4_note nf q1 acts passed townNight town q4.2.2.2.2.2.2.2.2).bind fun q5 =>
            g_X4_tell_b106 nf (g_X4_tell_l40 nf n) x3 x4 q1 q5.1 q4.1 q5.2.1 q5.2.2.1 q5.2.2.2 q4.2.1 q4.2.2.1 q4.2.2.2.1 q4.2.2.2.2.1 q4.2.2.2.2.2.1 q4.2.2.2.2.2.2.1 f_sightNights f_sightCells f_sights q4.2.2.2.2.2.2.2.1 q4.2.2.2.2.2.2.2.2 p_signs p_size n_lands n_camphors n_there n_mothCells n_mothHeads n_threads n_sightNights n_sightCells n_sights n_night
          else
            g_X4_tell_b106 nf (g_X4_tell_l40 nf n) x3 x4 q1 acts q4.1 passed townNight town q4.2.1 q4.2.2.1 q4.2.2.2.1 q4.2.2.2.2.1 q4.2.2.2.2.2.1 q4.2.2.2.2.2.2.1 f_sightNights f_sightCells f_sights q4.2.2.2.2.2.2.2.1 q4.2.2.2.2.2.2.2.2 p_signs p_size n_lands n_camphors n_there n_mothCells n_mothHeads n_threads n_sightNights n_sightCells n_sights n_night
        else
          some (acts, why, passed, townNight, town, f_lands, f_camphors, f_there, f_mothCells, f_mothHeads, f_threads, f_sightNights, f_sightCells, f_sights, f_night, f_eaten)
def g_X4_tell (nf : Nat) (acts : Int32) (why : Int32) (passed : Int32) (townNight : Int32) (town : Int32) (f_lands : Nat → Int32) (f_camphors : Nat → Int32) (f_there : Nat → Int32) (f_mothCells : Nat → Int32) (f_mothHeads : Nat → Int32) (f_threads : Nat → Int32) (f_sightNights : Nat → Int32) (f_sightCells : Nat → Int32) (f_sights : Int32) (f_night : Int32) (f_eaten : Int32) (p_signs : Nat → Int32) (p_size : Int32) (n_lands : Nat → Int32) (n_camphors : Nat → Int32) (n_there : Nat → Int32) (n_mothCells : Nat → Int32) (n_mothHeads : Nat → Int32) (n_threads : Nat → Int32) (n_sightNights : Nat → Int32) (n_sightCells : Nat → Int32) (n_sights : Int32) (n_night : Int32) : Option (Int32 × Int32 × Int32 × Int32 × Int32 × (Nat → Int32) × (Nat → Int32) × (Nat → Int32) × (Nat → Int32) × (Nat → Int32) × (Nat → Int32) × (Nat → Int32) × (Nat → Int32) × Int32 × Int32 × Int32) :=
  (g_X1_become nf f_lands f_camphors f_there f_mothCells f_mothHeads f_threads f_sightNights f_sightCells f_sights f_night n_lands n_camphors n_there n_mothCells n_mothHeads n_threads n_sightNights n_sightCells n_sights n_night).bind fun q7 =>
  g_X4_tell_l40 nf nf 0 0 0 0 0 (-6) (-6) q7.1 q7.2.1 q7.2.2.1 q7.2.2.2.1 q7.2.2.2.2.1 q7.2.2.2.2.2.1 q7.2.2.2.2.2.2.1 q7.2.2.2.2.2.2.2.1 q7.2.2.2.2.2.2.2.2.1 q7.2.2.2.2.2.2.2.2.2 f_eaten p_signs p_size n_lands n_camphors n_there n_mothCells n_mothHeads n_threads n_sightNights n_sightCells n_sights n_night
def g_X5_append (nf : Nat) (p1 : Int32) (signs : Nat → Int32) (size : Int32) : Option (Int32 × (Nat → Int32) × Int32) :=
  if size < 60 then
    ck size 60 <|
    bz 1 <|
    some (1, (upd signs size.toNatClampNeg p1), (size + 1))
  else
    bz 0 <|
    some (0, signs, size)
def g_X5_clear (nf : Nat) (size : Int32) : Option (Int32 × Int32) :=
  some (size, 0)
def g_X8_isMoth (nf : Nat) (p0 : Int32) : Option (Int32) :=
  if p0 < 0 then
    bz 0 <|
    some 0
  else
    if 4 ≤ p0 then
      bz 0 <|
      some 0
    else
      bz 1 <|
      some 1
def g_X5_dueBehindFirst (nf : Nat) (p0 : Int32) : Option (Int32) :=
  if p0 = 37 then
    some 4
  else
    if p0 = 43 then
      some 3
    else
      if p0 = 46 then
        some 1
      else
        (g_X8_isMoth nf (p0 - 65)).bind fun q1 =>
        if q1 = 0 then
          some 0
        else
          some 2
def g_X5_dueBehind_b50 (nf : Nat) : Option (Int32) :=
  some 1
def g_X5_dueBehind (nf : Nat) (p0 : Int32) (p1 : Int32) : Option (Int32) :=
  if p0 = 1 then
    (g_X5_dueBehindFirst nf p1).bind fun q1 =>
    some q1
  else
    if p0 = 2 then
      if p1 = 33 then
        g_X5_dueBehind_b50 nf
      else
        (g_X5_headOf nf p1).bind fun q2 =>
        if q2 < 0 then
          some 0
        else
          g_X5_dueBehind_b50 nf
    else
      if p0 = 3 then
        (g_X8_isCell nf (p1 - 97)).bind fun q3 =>
        if q3 = 0 then
          some 0
        else
          some 1
      else
        if p0 = 4 then
          (g_X8_isCell nf (p1 - 97)).bind fun q4 =>
          if q4 = 0 then
            some 0
          else
            some 5
        else
          (g_X8_isThread nf (p1 - 48)).bind fun q5 =>
          if q5 = 0 then
            some 0
          else
            some 1
def g_X5_firstWrong_l4 (nf : Nat) : Nat → Int32 → Int32 → (Nat → Int32) → Int32 → Option (Int32)
  | 0, _, _, _, _ => none
  | n + 1, x1, x2, signs, size =>
    if size ≤ x2 then
      if x1 = 1 then
        some (-6)
      else
        some size
    else
      (g_X5_signAt nf x2 signs size).bind fun q1 =>
      (g_X5_dueBehind nf x1 q1).bind fun q2 =>
      if q2 = 0 then
        some x2
      else
        (g_X5_firstWrong_l4 nf n) q2 (x2 + 1) signs size
def g_X5_firstWrong (nf : Nat) (signs : Nat → Int32) (size : Int32) : Option (Int32) :=
  g_X5_firstWrong_l4 nf nf 1 0 signs size
def g_X6_costOfLand (nf : Nat) (p0 : Int32) : Option (Int32) :=
  if p0 = 3 then
    some 1000000
  else
    if p0 = 0 then
      some 100
    else
      some 0
def g_X6_nearest_b41 (nf : Nat) (k7 : Int32 → Int32 → Int32 → (Nat → Int32) → (Nat → Int32) → Option (Int32)) (x1 : Int32) (x2 : Int32) (x3 : Int32) (costs : Nat → Int32) (settled : Nat → Int32) : Option (Int32) :=
  k7 x1 x2 (x3 + 1) costs settled
def g_X6_nearest_l7 (nf : Nat) : Nat → Int32 → Int32 → Int32 → (Nat → Int32) → (Nat → Int32) → Option (Int32)
  | 0, _, _, _, _, _ => none
  | n + 1, x1, x2, x3, costs, settled =>
    if 25 ≤ x3 then
      some x1
    else
      ck x3 25 <|
      if (settled x3.toNatClampNeg) = 0 then
        ck x3 25 <|
        if x2 ≤ (costs x3.toNatClampNeg) then
          g_X6_nearest_b41 nf (g_X6_nearest_l7 nf n) x1 x2 x3 costs settled
        else
          ck x3 25 <|
          g_X6_nearest_b41 nf (g_X6_nearest_l7 nf n) x3 (costs x3.toNatClampNeg) x3 costs settled
      else
        g_X6_nearest_b41 nf (g_X6_nearest_l7 nf n) x1 x2 x3 costs settled
def g_X6_nearest (nf : Nat) (costs : Nat → Int32) (settled : Nat → Int32) : Option (Int32) :=
  g_X6_nearest_l7 nf nf (-1) 1000000 0 costs settled
def g_X6_spreadFrom_b55 (nf : Nat) (k2 : Int32 → Int32 → (Nat → Int32) → (Nat → Int32) → Option ((Nat → Int32))) (x1 : Int32) (x3 : Int32) (costs : Nat → Int32) (lands : Nat → Int32) : Option ((Nat → Int32)) :=
  k2 x1 (x3 + 1) costs lands
def g_X6_spreadFrom_l2 (nf : Nat) : Nat → Int32 → Int32 → (Nat → Int32) → (Nat → Int32) → Option ((Nat → Int32))
  | 0, _, _, _, _ => none
  | n + 1, x1, x3, costs, lands =>
    if 4 ≤ x3 then
      some costs
    else
      (g_X8_beside nf x1 x3).bind fun q1 =>
      (g_X8_isCell nf q1).bind fun q2 =>
      if q2 = 0 then
        g_X6_spreadFrom_b55 nf (g_X6_spreadFrom_l2 nf n) x1 x3 costs lands
      else
        ck q1 25 <|
        ck x1 25 <|
        ck q1 25 <|
        (g_X6_costOfLand nf (lands q1.toNatClampNeg)).bind fun q3 =>
        ck q1 25 <|
        g_X6_spreadFrom_b55 nf (g_X6_spreadFrom_l2 nf n) x1 x3 (upd costs q1.toNatClampNeg (if (((costs x1.toNatClampNeg) + 1) + q3) < (costs q1.toNatClampNeg) then (((costs x1.toNatClampNeg) + 1) + q3) else (costs q1.toNatClampNeg))) lands
def g_X6_spreadFrom (nf : Nat) (p1 : Int32) (costs : Nat → Int32) (lands : Nat → Int32) : Option ((Nat → Int32)) :=
  g_X6_spreadFrom_l2 nf nf p1 0 costs lands
def g_X6_leastCost_b99 (nf : Nat) (x3 : Int32) (costs : Nat → Int32) (settled : Nat → Int32) (lands : Nat → Int32) : Option (Int32 × (Nat → Int32) × (Nat → Int32)) :=
  ck x3 25 <|
  some ((costs x3.toNatClampNeg), costs, settled)
def g_X6_leastCost_l48 (nf : Nat) : Nat → Int32 → Int32 → (Nat → Int32) → (Nat → Int32) → (Nat → Int32) → Option (Int32 × (Nat → Int32) × (Nat → Int32))
  | 0, _, _, _, _, _ => none
  | n + 1, x3, x4, costs, settled, lands =>
    if 25 ≤ x4 then
      g_X6_leastCost_b99 nf x3 costs settled lands
    else
      (g_X6_nearest nf costs settled).bind fun q2 =>
      (g_X8_isCell nf q2).bind fun q3 =>
      if q3 = 0 then
        g_X6_leastCost_b99 nf x3 costs settled lands
      else
        if q2 = x3 then
          g_X6_leastCost_b99 nf x3 costs settled lands
        else
          ck q2 25 <|
          bz 1 <|
          (g_X6_spreadFrom nf q2 costs lands).bind fun q4 =>
          (g_X6_leastCost_l48 nf n) x3 (x4 + 1) q4 (upd settled q2.toNatClampNeg 1) lands
def g_X6_leastCost_l3 (nf : Nat) : Nat → Int32 → Int32 → Int32 → (Nat → Int32) → (Nat → Int32) → (Nat → Int32) → Option (Int32 × (Nat → Int32) × (Nat → Int32))
  | 0, _, _, _, _, _, _ => none
  | n + 1, x2, x3, x4, costs, settled, lands =>
    if 25 ≤ x4 then
      ck x2 25 <|
      (g_X6_costOfLand nf (lands x2.toNatClampNeg)).bind fun q1 =>
      ck x2 25 <|
      g_X6_leastCost_l48 nf nf x3 0 (upd costs x2.toNatClampNeg q1) settled lands
    else
      ck x4 25 <|
      ck x4 25 <|
      bz 0 <|
      (g_X6_leastCost_l3 nf n) x2 x3 (x4 + 1) (upd costs x4.toNatClampNeg 1000000) (upd settled x4.toNatClampNeg 0) lands
def g_X6_leastCost (nf : Nat) (p2 : Int32) (p3 : Int32) (costs : Nat → Int32) (settled : Nat → Int32) (lands : Nat → Int32) : Option (Int32 × (Nat → Int32) × (Nat → Int32)) :=
  g_X6_leastCost_l3 nf nf p2 p3 0 costs settled lands
def g_X7_standBehind_l2 (nf : Nat) : Nat → Int32 → Int32 → Option (Int32)
  | 0, _, _ => none
  | n + 1, x0, x1 =>
    if 4 ≤ x1 then
      some x0
    else
      (g_X8_beside nf (x0 / 4) ((x0 + x1) - (x0 + x1) / 4 * 4)).bind fun q1 =>
      (g_X8_isCell nf q1).bind fun q2 =>
      if q2 = 0 then
        (g_X7_standBehind_l2 nf n) x0 (x1 + 1)
      else
        some ((4 * q1) + ((x0 + x1) - (x0 + x1) / 4 * 4))
def g_X7_standBehind (nf : Nat) (p0 : Int32) : Option (Int32) :=
  g_X7_standBehind_l2 nf nf p0 0
def g_X7_readSights_b111 (nf : Nat) (k23 : Int32 → (Nat → Int32) → (Nat → Int32) → (Nat → Int32) → Int32 → Option ((Nat → Int32))) (x2 : Int32) (cellsSeen : Nat → Int32) (n_sightNights : Nat → Int32) (n_sightCells : Nat → Int32) (n_sights : Int32) : Option ((Nat → Int32)) :=
  k23 (x2 + 1) cellsSeen n_sightNights n_sightCells n_sights
def g_X7_readSights_b110 (nf : Nat) (k23 : Int32 → (Nat → Int32) → (Nat → Int32) → (Nat → Int32) → Int32 → Option ((Nat → Int32))) (x2 : Int32) (s1 : Int32) (s2 : Int32) (cellsSeen : Nat → Int32) (n_sightNights : Nat → Int32) (n_sightCells : Nat → Int32) (n_sights : Int32) : Option ((Nat → Int32)) :=
  ck s1 41 <|
  g_X7_readSights_b111 nf k23 x2 (upd cellsSeen s1.toNatClampNeg s2) n_sightNights n_sightCells n_sights
def g_X7_readSights_b91 (nf : Nat) (k23 : Int32 → (Nat → Int32) → (Nat → Int32) → (Nat → Int32) → Int32 → Option ((Nat → Int32))) (x2 : Int32) (x3 : Int32) (x4 : Int32) (s0 : Int32) (cellsSeen : Nat → Int32) (n_sightNights : Nat → Int32) (n_sightCells : Nat → Int32) (n_sights : Int32) : Option ((Nat → Int32)) :=
  if s0 = 0 then
    g_X7_readSights_b110 nf k23 x2 x3 (-2) cellsSeen n_sightNights n_sightCells n_sights
  else
    g_X7_readSights_b110 nf k23 x2 x3 x4 cellsSeen n_sightNights n_sightCells n_sights
def g_X7_readSights_b86 (nf : Nat) (k23 : Int32 → (Nat → Int32) → (Nat → Int32) → (Nat → Int32) → Int32 → Option ((Nat → Int32))) (x2 : Int32) (x3 : Int32) (x4 : Int32) (cellsSeen : Nat → Int32) (n_sightNights : Nat → Int32) (n_sightCells : Nat → Int32) (n_sights : Int32) : Option ((Nat → Int32)) :=
  g_X7_readSights_b91 nf k23 x2 x3 x4 1 cellsSeen n_sightNights n_sightCells n_sights
def g_X7_readSights_l23 (nf : Nat) : Nat → Int32 → (Nat → Int32) → (Nat → Int32) → (Nat → Int32) → Int32 → Option ((Nat → Int32))
  | 0, _, _, _, _, _ => none
  | n + 1, x2, cellsSeen, n_sightNights, n_sightCells, n_sights =>
    if 8 ≤ x2 then
      some cellsSeen
    else
      if n_sights ≤ x2 then
        some cellsSeen
      else
        ck x2 8 <|
        ck x2 8 <|
        (g_X8_within nf (n_sightNights x2.toNatClampNeg) 0 40).bind fun q1 =>
        if q1 = 0 then
          g_X7_readSights_b111 nf (g_X7_readSights_l23 nf n) x2 cellsSeen n_sightNights n_sightCells n_sights
        else
          ck (n_sightNights x2.toNatClampNeg) 41 <|
          if (cellsSeen (n_sightNights x2.toNatClampNeg).toNatClampNeg) = (-1) then
            g_X7_readSights_b86 nf (g_X7_readSights_l23 nf n) x2 (n_sightNights x2.toNatClampNeg) (n_sightCells x2.toNatClampNeg) cellsSeen n_sightNights n_sightCells n_sights
          else
            ck (n_sightNights x2.toNatClampNeg) 41 <|
            if (cellsSeen (n_sightNights x2.toNatClampNeg).toNatClampNeg) = (n_sightCells x2.toNatClampNeg) then
              g_X7_readSights_b86 nf (g_X7_readSights_l23 nf n) x2 (n_sightNights x2.toNatClampNeg) (n_sightCells x2.toNatClampNeg) cellsSeen n_sightNights n_sightCells n_sights
            else
              g_X7_readSights_b91 nf (g_X7_readSights_l23 nf n) x2 (n_sightNights x2.toNatClampNeg) (n_sightCells x2.toNatClampNeg) 0 cellsSeen n_sightNights n_sightCells n_sights
def g_X7_readSights_l2 (nf : Nat) : Nat → Int32 → (Nat → Int32) → (Nat → Int32) → (Nat → Int32) → Int32 → Option ((Nat → Int32))
  | 0, _, _, _, _, _ => none
  | n + 1, x2, cellsSeen, n_sightNights, n_sightCells, n_sights =>
    if 41 ≤ x2 then
      g_X7_readSights_l23 nf nf 0 cellsSeen n_sightNights n_sightCells n_sights
    else
      ck x2 41 <|
      (g_X7_readSights_l2 nf n) (x2 + 1) (upd cellsSeen x2.toNatClampNeg (-1)) n_sightNights n_sightCells n_sights
def g_X7_readSights (nf : Nat) (cellsSeen : Nat → Int32) (n_sightNights : Nat → Int32) (n_sightCells : Nat → Int32) (n_sights : Int32) : Option ((Nat → Int32)) :=
  g_X7_readSights_l2 nf nf 0 cellsSeen n_sightNights n_sightCells n_sights
def g_X7_fits_b34 (nf : Nat) (k4 : Int32 → Int32 → (Nat → Int32) → (Nat → Int32) → Option (Int32)) (x2 : Int32) (x3 : Int32) (next_ : Nat → Int32) (cellsSeen : Nat → Int32) : Option (Int32) :=
  ck x2 100 <|
  k4 (next_ x2.toNatClampNeg) (x3 + 1) next_ cellsSeen
def g_X7_fits_l4 (nf : Nat) : Nat → Int32 → Int32 → (Nat → Int32) → (Nat → Int32) → Option (Int32)
  | 0, _, _, _, _ => none
  | n + 1, x2, x3, next_, cellsSeen =>
    if 41 ≤ x3 then
      bz 1 <|
      some 1
    else
      ck x3 41 <|
      if (cellsSeen x3.toNatClampNeg) = (-1) then
        g_X7_fits_b34 nf (g_X7_fits_l4 nf n) x2 x3 next_ cellsSeen
      else
        ck x3 41 <|
        if (cellsSeen x3.toNatClampNeg) = (x2 / 4) then
          g_X7_fits_b34 nf (g_X7_fits_l4 nf n) x2 x3 next_ cellsSeen
        else
          bz 0 <|
          some 0
def g_X7_fits (nf : Nat) (p1 : Int32) (next_ : Nat → Int32) (cellsSeen : Nat → Int32) : Option (Int32) :=
  g_X7_fits_l4 nf nf p1 0 next_ cellsSeen
def g_X7_gather_b46 (nf : Nat) (k12 : Int32 → (Nat → Int32) → (Nat → Int32) → (Nat → Int32) → Int32 → (Nat → Int32) → (Nat → Int32) → Int32 → Option ((Nat → Int32) × (Nat → Int32) × Int32)) (x2 : Int32) (next_ : Nat → Int32) (starts : Nat → Int32) (cellsSeen : Nat → Int32) (fitting : Int32) (n_sightNights : Nat → Int32) (n_sightCells : Nat → Int32) (n_sights : Int32) : Option ((Nat → Int32) × (Nat → Int32) × Int32) :=
  k12 (x2 + 1) next_ starts cellsSeen fitting n_sightNights n_sightCells n_sights
def g_X7_gather_l12 (nf : Nat) : Nat → Int32 → (Nat → Int32) → (Nat → Int32) → (Nat → Int32) → Int32 → (Nat → Int32) → (Nat → Int32) → Int32 → Option ((Nat → Int32) × (Nat → Int32) × Int32)
  | 0, _, _, _, _, _, _, _, _ => none
  | n + 1, x2, next_, starts, cellsSeen, fitting, n_sightNights, n_sightCells, n_sights =>
    if 100 ≤ x2 then
      some (starts, cellsSeen, fitting)
    else
      (g_X7_fits nf x2 next_ cellsSeen).bind fun q1 =>
      if q1 = 0 then
        g_X7_gather_b46 nf (g_X7_gather_l12 nf n) x2 next_ starts cellsSeen fitting n_sightNights n_sightCells n_sights
      else
        ck fitting 100 <|
        g_X7_gather_b46 nf (g_X7_gather_l12 nf n) x2 next_ (upd starts fitting.toNatClampNeg x2) cellsSeen (fitting + 1) n_sightNights n_sightCells n_sights
def g_X7_gather (nf : Nat) (next_ : Nat → Int32) (starts : Nat → Int32) (cellsSeen : Nat → Int32) (fitting : Int32) (n_sightNights : Nat → Int32) (n_sightCells : Nat → Int32) (n_sights : Int32) : Option ((Nat → Int32) × (Nat → Int32) × Int32) :=
  (g_X7_readSights nf cellsSeen n_sightNights n_sightCells n_sights).bind fun q2 =>
  g_X7_gather_l12 nf nf 0 next_ starts q2 0 n_sightNights n_sightCells n_sights
def g_X7_toldStart_b20 (nf : Nat) (s0 : Int32) (starts : Nat → Int32) : Option (Int32) :=
  some (((s0 / 4) * 10) + (s0 - s0 / 4 * 4))
def g_X7_toldStart_b19 (nf : Nat) (starts : Nat → Int32) : Option (Int32) :=
  g_X7_toldStart_b20 nf 0 starts
def g_X7_toldStart (nf : Nat) (p1 : Int32) (starts : Nat → Int32) : Option (Int32) :=
  if p1 < 0 then
    g_X7_toldStart_b19 nf starts
  else
    if 100 ≤ p1 then
      g_X7_toldStart_b19 nf starts
    else
      ck p1 100 <|
      g_X7_toldStart_b20 nf (starts p1.toNatClampNeg) starts
def g_X7_mostInOneCell_l25 (nf : Nat) : Nat → Int32 → Int32 → (Nat → Int32) → (Nat → Int32) → Int32 → Option (Int32 × (Nat → Int32))
  | 0, _, _, _, _, _ => none
  | n + 1, x1, x2, stands, inCell, fitting =>
    if fitting ≤ x2 then
      some (x1, inCell)
    else
      ck x2 100 <|
      ck ((stands x2.toNatClampNeg) / 4) 25 <|
      ck ((stands x2.toNatClampNeg) / 4) 25 <|
      ck ((stands x2.toNatClampNeg) / 4) 25 <|
      (g_X7_mostInOneCell_l25 nf n) (if x1 < ((upd inCell ((stands x2.toNatClampNeg) / 4).toNatClampNeg ((inCell ((stands x2.toNatClampNeg) / 4).toNatClampNeg) + 1)) ((stands x2.toNatClampNeg) / 4).toNatClampNeg) then ((upd inCell ((stands x2.toNatClampNeg) / 4).toNatClampNeg ((inCell ((stands x2.toNatClampNeg) / 4).toNatClampNeg) + 1)) ((stands x2.toNatClampNeg) / 4).toNatClampNeg) else x1) (x2 + 1) stands (upd inCell ((stands x2.toNatClampNeg) / 4).toNatClampNeg ((inCell ((stands x2.toNatClampNeg) / 4).toNatClampNeg) + 1)) fitting
def g_X7_mostInOneCell_l2 (nf : Nat) : Nat → Int32 → (Nat → Int32) → (Nat → Int32) → Int32 → Option (Int32 × (Nat → Int32))
  | 0, _, _, _, _ => none
  | n + 1, x1, stands, inCell, fitting =>
    if 25 ≤ x1 then
      g_X7_mostInOneCell_l25 nf nf 0 0 stands inCell fitting
    else
      ck x1 25 <|
      (g_X7_mostInOneCell_l2 nf n) (x1 + 1) stands (upd inCell x1.toNatClampNeg 0) fitting
def g_X7_mostInOneCell (nf : Nat) (stands : Nat → Int32) (inCell : Nat → Int32) (fitting : Int32) : Option (Int32 × (Nat → Int32)) :=
  g_X7_mostInOneCell_l2 nf nf 0 stands inCell fitting
def g_X7_chooseNight_l72 (nf : Nat) (k41 : Int32 → (Nat → Int32) → (Nat → Int32) → (Nat → Int32) → (Nat → Int32) → Int32 → Int32 → Int32 → Option ((Nat → Int32) × (Nat → Int32) × Int32 × Int32)) : Nat → Int32 → Int32 → (Nat → Int32) → (Nat → Int32) → (Nat → Int32) → (Nat → Int32) → Int32 → Int32 → Int32 → Option ((Nat → Int32) × (Nat → Int32) × Int32 × Int32)
  | 0, _, _, _, _, _, _, _, _, _ => none
  | n + 1, x1, x3, next_, starts, stands, inCell, fitting, bestNight, mostLeft =>
    if fitting ≤ x3 then
      k41 (x1 + 1) next_ starts stands inCell fitting bestNight mostLeft
    else
      ck x3 100 <|
      ck (stands x3.toNatClampNeg) 100 <|
      ck x3 100 <|
      (g_X7_chooseNight_l72 nf k41 n) x1 (x3 + 1) next_ starts (upd stands x3.toNatClampNeg (next_ (stands x3.toNatClampNeg).toNatClampNeg)) inCell fitting bestNight mostLeft
def g_X7_chooseNight_b70 (nf : Nat) (k41 : Int32 → (Nat → Int32) → (Nat → Int32) → (Nat → Int32) → (Nat → Int32) → Int32 → Int32 → Int32 → Option ((Nat → Int32) × (Nat → Int32) × Int32 × Int32)) (x1 : Int32) (next_ : Nat → Int32) (starts : Nat → Int32) (stands : Nat → Int32) (inCell : Nat → Int32) (fitting : Int32) (bestNight : Int32) (mostLeft : Int32) : Option ((Nat → Int32) × (Nat → Int32) × Int32 × Int32) :=
  g_X7_chooseNight_l72 nf k41 nf x1 0 next_ starts stands inCell fitting bestNight mostLeft
def g_X7_chooseNight_l41 (nf : Nat) : Nat → Int32 → (Nat → Int32) → (Nat → Int32) → (Nat → Int32) → (Nat → Int32) → Int32 → Int32 → Int32 → Option ((Nat → Int32) × (Nat → Int32) × Int32 × Int32)
  | 0, _, _, _, _, _, _, _, _ => none
  | n + 1, x1, next_, starts, stands, inCell, fitting, bestNight, mostLeft =>
    if 41 ≤ x1 then
      some (stands, inCell, bestNight, mostLeft)
    else
      (g_X7_mostInOneCell nf stands inCell fitting).bind fun q1 =>
      if mostLeft ≤ q1.1 then
        g_X7_chooseNight_b70 nf (g_X7_chooseNight_l41 nf n) x1 next_ starts stands q1.2 fitting bestNight mostLeft
      else
        g_X7_chooseNight_b70 nf (g_X7_chooseNight_l41 nf n) x1 next_ starts stands q1.2 fitting x1 q1.1
def g_X7_chooseNight_l2 (nf : Nat) : Nat → Int32 → (Nat → Int32) → (Nat → Int32) → (Nat → Int32) → (Nat → Int32) → Int32 → Int32 → Int32 → Option ((Nat → Int32) × (Nat → Int32) × Int32 × Int32)
  | 0, _, _, _, _, _, _, _, _ => none
  | n + 1, x1, next_, starts, stands, inCell, fitting, bestNight, mostLeft =>
    if fitting ≤ x1 then
      g_X7_chooseNight_l41 nf nf 0 next_ starts stands inCell fitting 0 101
    else
      ck x1 100 <|
      ck x1 100 <|
      (g_X7_chooseNight_l2 nf n) (x1 + 1) next_ starts (upd stands x1.toNatClampNeg (starts x1.toNatClampNeg)) inCell fitting bestNight mostLeft
def g_X7_chooseNight (nf : Nat) (next_ : Nat → Int32) (starts : Nat → Int32) (stands : Nat → Int32) (inCell : Nat → Int32) (fitting : Int32) (bestNight : Int32) (mostLeft : Int32) : Option ((Nat → Int32) × (Nat → Int32) × Int32 × Int32) :=
  g_X7_chooseNight_l2 nf nf 0 next_ starts stands inCell fitting bestNight mostLeft
def g_X8_land (nf : Nat) (p1 : Int32) (p2 : Int32) (n_lands : Nat → Int32) : Option (Int32 × (Nat → Int32)) :=
  (g_X8_isCell nf p1).bind fun q1 =>
  if q1 = 0 then
    some ((-1), n_lands)
  else
    (g_X8_within nf p2 0 5).bind fun q2 =>
    if q2 = 0 then
      some ((-2), n_lands)
    else
      ck p1 25 <|
      ck p1 25 <|
      some ((n_lands p1.toNatClampNeg), (upd n_lands p1.toNatClampNeg p2))
def g_X8_camphor (nf : Nat) (p1 : Int32) (p2 : Int32) (n_camphors : Nat → Int32) : Option (Int32 × (Nat → Int32)) :=
  (g_X8_isCell nf p1).bind fun q1 =>
  if q1 = 0 then
    some ((-1), n_camphors)
  else
    (g_X8_within nf p2 0 9).bind fun q2 =>
    if q2 = 0 then
      some ((-2), n_camphors)
    else
      ck p1 25 <|
      ck p1 25 <|
      some ((n_camphors p1.toNatClampNeg), (upd n_camphors p1.toNatClampNeg p2))
def g_X8_isWay (nf : Nat) (p0 : Int32) : Option (Int32) :=
  (g_X8_within nf p0 0 3).bind fun q1 =>
  bz q1 <|
  some q1
def g_X8_moth (nf : Nat) (p1 : Int32) (p2 : Int32) (p3 : Int32) (n_there : Nat → Int32) (n_mothCells : Nat → Int32) (n_mothHeads : Nat → Int32) : Option (Int32 × (Nat → Int32) × (Nat → Int32) × (Nat → Int32)) :=
  (g_X8_isMoth nf p1).bind fun q1 =>
  if q1 = 0 then
    some ((-1), n_there, n_mothCells, n_mothHeads)
  else
    (g_X8_isCell nf p2).bind fun q2 =>
    if q2 = 0 then
      some ((-1), n_there, n_mothCells, n_mothHeads)
    else
      (g_X8_isWay nf p3).bind fun q3 =>
      if q3 = 0 then
        some ((-2), n_there, n_mothCells, n_mothHeads)
      else
        ck p1 4 <|
        bz 1 <|
        ck p1 4 <|
        ck p1 4 <|
        (g_X1_mothBits nf (upd n_there p1.toNatClampNeg 1)).bind fun q4 =>
        (g_J6_bitCount_0f7a4 nf q4).bind fun q5 =>
        some (q5, (upd n_there p1.toNatClampNeg 1), (upd n_mothCells p1.toNatClampNeg p2), (upd n_mothHeads p1.toNatClampNeg p3))
def g_X8_spool (nf : Nat) (p1 : Int32) (p2 : Int32) (n_threads : Nat → Int32) : Option (Int32 × (Nat → Int32)) :=
  (g_X8_isThread nf p1).bind fun q1 =>
  if q1 = 0 then
    some ((-1), n_threads)
  else
    (g_X8_within nf p2 0 99).bind fun q2 =>
    if q2 = 0 then
      some ((-2), n_threads)
    else
      ck p1 4 <|
      ck p1 4 <|
      some ((n_threads p1.toNatClampNeg), (upd n_threads p1.toNatClampNeg p2))
def g_X8_say (nf : Nat) (p1 : Int32) (p_signs : Nat → Int32) (p_size : Int32) : Option (Int32 × (Nat → Int32) × Int32) :=
  (g_X8_within nf p1 33 126).bind fun q1 =>
  if q1 = 0 then
    some ((-2), p_signs, p_size)
  else
    (g_X5_append nf p1 p_signs p_size).bind fun q2 =>
    if q2.1 = 0 then
      some ((-4), q2.2.1, q2.2.2)
    else
      some (q2.2.2, q2.2.1, q2.2.2)
def g_X8_wipe (nf : Nat) (p_size : Int32) : Option (Int32 × Int32) :=
  (g_X5_clear nf p_size).bind fun q1 =>
  some (q1.1, q1.2)
def g_X8_fault (nf : Nat) (p_signs : Nat → Int32) (p_size : Int32) : Option (Int32) :=
  (g_X5_firstWrong nf p_signs p_size).bind fun q1 =>
  some q1
def g_X8_judge (nf : Nat) (p1 : Int32) (n_lands : Nat → Int32) (n_camphors : Nat → Int32) (n_there : Nat → Int32) (n_mothCells : Nat → Int32) (n_mothHeads : Nat → Int32) (n_threads : Nat → Int32) (n_sightNights : Nat → Int32) (n_sightCells : Nat → Int32) (n_sights : Int32) (n_night : Int32) (p_signs : Nat → Int32) (p_size : Int32) (c_acts : Int32) (c_why : Int32) (c_passed : Int32) (c_townNight : Int32) (c_town : Int32) (f_lands : Nat → Int32) (f_camphors : Nat → Int32) (f_there : Nat → Int32) (f_mothCells : Nat → Int32) (f_mothHeads : Nat → Int32) (f_threads : Nat → Int32) (f_sightNights : Nat → Int32) (f_sightCells : Nat → Int32) (f_sights : Int32) (f_night : Int32) (f_eaten : Int32) : Option (Int32 × Int32 × Int32 × Int32 × Int32 × Int32 × (Nat → Int32) × (Nat → Int32) × (Nat → Int32) × (Nat → Int32) × (Nat → Int32) × (Nat → Int32) × (Nat → Int32) × (Nat → Int32) × Int32 × Int32 × Int32) :=
  (g_X8_within nf p1 0 1).bind fun q1 =>
  if q1 = 0 then
    some ((-2), c_acts, c_why, c_passed, c_townNight, c_town, f_lands, f_camphors, f_there, f_mothCells, f_mothHeads, f_threads, f_sightNights, f_sightCells, f_sights, f_night, f_eaten)
  else
    (g_X5_firstWrong nf p_signs p_size).bind fun q2 =>
    if q2 = (-6) then
      (g_X4_tell nf c_acts c_why c_passed c_townNight c_town f_lands f_camphors f_there f_mothCells f_mothHeads f_threads f_sightNights f_sightCells f_sights f_night f_eaten p_signs p_size n_lands n_camphors n_there n_mothCells n_mothHeads n_threads n_sightNights n_sightCells n_sights n_night).bind fun q3 =>
      if q3.2.1 = 0 then
        some ((-6), q3.1, q3.2.1, q3.2.2.1, q3.2.2.2.1, q3.2.2.2.2.1, q3.2.2.2.2.2.1, q3.2.2.2.2.2.2.1, q3.2.2.2.2.2.2.2.1, q3.2.2.2.2.2.2.2.2.1, q3.2.2.2.2.2.2.2.2.2.1, q3.2.2.2.2.2.2.2.2.2.2.1, q3.2.2.2.2.2.2.2.2.2.2.2.1, q3.2.2.2.2.2.2.2.2.2.2.2.2.1, q3.2.2.2.2.2.2.2.2.2.2.2.2.2.1, q3.2.2.2.2.2.2.2.2.2.2.2.2.2.2.1, q3.2.2.2.2.2.2.2.2.2.2.2.2.2.2.2)
      else
        if p1 = 0 then
          some (q3.1, q3.1, q3.2.1, q3.2.2.1, q3.2.2.2.1, q3.2.2.2.2.1, q3.2.2.2.2.2.1, q3.2.2.2.2.2.2.1, q3.2.2.2.2.2.2.2.1, q3.2.2.2.2.2.2.2.2.1, q3.2.2.2.2.2.2.2.2.2.1, q3.2.2.2.2.2.2.2.2.2.2.1, q3.2.2.2.2.2.2.2.2.2.2.2.1, q3.2.2.2.2.2.2.2.2.2.2.2.2.1, q3.2.2.2.2.2.2.2.2.2.2.2.2.2.1, q3.2.2.2.2.2.2.2.2.2.2.2.2.2.2.1, q3.2.2.2.2.2.2.2.2.2.2.2.2.2.2.2)
        else
          some (q3.2.1, q3.1, q3.2.1, q3.2.2.1, q3.2.2.2.1, q3.2.2.2.2.1, q3.2.2.2.2.2.1, q3.2.2.2.2.2.2.1, q3.2.2.2.2.2.2.2.1, q3.2.2.2.2.2.2.2.2.1, q3.2.2.2.2.2.2.2.2.2.1, q3.2.2.2.2.2.2.2.2.2.2.1, q3.2.2.2.2.2.2.2.2.2.2.2.1, q3.2.2.2.2.2.2.2.2.2.2.2.2.1, q3.2.2.2.2.2.2.2.2.2.2.2.2.2.1, q3.2.2.2.2.2.2.2.2.2.2.2.2.2.2.1, q3.2.2.2.2.2.2.2.2.2.2.2.2.2.2.2)
    else
      some ((-5), c_acts, c_why, c_passed, c_townNight, c_town, f_lands, f_camphors, f_there, f_mothCells, f_mothHeads, f_threads, f_sightNights, f_sightCells, f_sights, f_night, f_eaten)
def g_X8_nightsCanBe (nf : Nat) (n_lands : Nat → Int32) (n_camphors : Nat → Int32) (n_there : Nat → Int32) (n_mothCells : Nat → Int32) (n_mothHeads : Nat → Int32) (n_threads : Nat → Int32) (n_sightNights : Nat → Int32) (n_sightCells : Nat → Int32) (n_sights : Int32) (n_night : Int32) (p_signs : Nat → Int32) (p_size : Int32) (c_acts : Int32) (c_why : Int32) (c_passed : Int32) (c_townNight : Int32) (c_town : Int32) (f_lands : Nat → Int32) (f_camphors : Nat → Int32) (f_there : Nat → Int32) (f_mothCells : Nat → Int32) (f_mothHeads : Nat → Int32) (f_threads : Nat → Int32) (f_sightNights : Nat → Int32) (f_sightCells : Nat → Int32) (f_sights : Int32) (f_night : Int32) (f_eaten : Int32) : Option (Int32 × Int32 × Int32 × Int32 × Int32 × Int32 × (Nat → Int32) × (Nat → Int32) × (Nat → Int32) × (Nat → Int32) × (Nat → Int32) × (Nat → Int32) × (Nat → Int32) × (Nat → Int32) × Int32 × Int32 × Int32) :=
  (g_X5_firstWrong nf p_signs p_size).bind fun q1 =>
  if q1 = (-6) then
    (g_X4_tell nf c_acts c_why c_passed c_townNight c_town f_lands f_camphors f_there f_mothCells f_mothHeads f_threads f_sightNights f_sightCells f_sights f_night f_eaten p_signs p_size n_lands n_camphors n_there n_mothCells n_mothHeads n_threads n_sightNights n_sightCells n_sights n_night).bind fun q2 =>
    if q2.2.1 = 0 then
      bz 1 <|
      some (1, q2.1, q2.2.1, q2.2.2.1, q2.2.2.2.1, q2.2.2.2.2.1, q2.2.2.2.2.2.1, q2.2.2.2.2.2.2.1, q2.2.2.2.2.2.2.2.1, q2.2.2.2.2.2.2.2.2.1, q2.2.2.2.2.2.2.2.2.2.1, q2.2.2.2.2.2.2.2.2.2.2.1, q2.2.2.2.2.2.2.2.2.2.2.2.1, q2.2.2.2.2.2.2.2.2.2.2.2.2.1, q2.2.2.2.2.2.2.2.2.2.2.2.2.2.1, q2.2.2.2.2.2.2.2.2.2.2.2.2.2.2.1, q2.2.2.2.2.2.2.2.2.2.2.2.2.2.2.2)
    else
      bz 0 <|
      some (0, q2.1, q2.2.1, q2.2.2.1, q2.2.2.2.1, q2.2.2.2.2.1, q2.2.2.2.2.2.1, q2.2.2.2.2.2.2.1, q2.2.2.2.2.2.2.2.1, q2.2.2.2.2.2.2.2.2.1, q2.2.2.2.2.2.2.2.2.2.1, q2.2.2.2.2.2.2.2.2.2.2.1, q2.2.2.2.2.2.2.2.2.2.2.2.1, q2.2.2.2.2.2.2.2.2.2.2.2.2.1, q2.2.2.2.2.2.2.2.2.2.2.2.2.2.1, q2.2.2.2.2.2.2.2.2.2.2.2.2.2.2.1, q2.2.2.2.2.2.2.2.2.2.2.2.2.2.2.2)
  else
    bz 0 <|
    some (0, c_acts, c_why, c_passed, c_townNight, c_town, f_lands, f_camphors, f_there, f_mothCells, f_mothHeads, f_threads, f_sightNights, f_sightCells, f_sights, f_night, f_eaten)
def g_X8_done (nf : Nat) (n_lands : Nat → Int32) (n_camphors : Nat → Int32) (n_there : Nat → Int32) (n_mothCells : Nat → Int32) (n_mothHeads : Nat → Int32) (n_threads : Nat → Int32) (n_sightNights : Nat → Int32) (n_sightCells : Nat → Int32) (n_sights : Int32) (n_night : Int32) (p_signs : Nat → Int32) (p_size : Int32) (c_acts : Int32) (c_why : Int32) (c_passed : Int32) (c_townNight : Int32) (c_town : Int32) (f_lands : Nat → Int32) (f_camphors : Nat → Int32) (f_there : Nat → Int32) (f_mothCells : Nat → Int32) (f_mothHeads : Nat → Int32) (f_threads : Nat → Int32) (f_sightNights : Nat → Int32) (f_sightCells : Nat → Int32) (f_sights : Int32) (f_night : Int32) (f_eaten : Int32) : Option (Int32 × (Nat → Int32) × (Nat → Int32) × (Nat → Int32) × (Nat → Int32) × (Nat → Int32) × (Nat → Int32) × (Nat → Int32) × (Nat → Int32) × Int32 × Int32 × Int32 × Int32 × Int32 × Int32 × Int32 × Int32 × (Nat → Int32) × (Nat → Int32) × (Nat → Int32) × (Nat → Int32) × (Nat → Int32) × (Nat → Int32) × (Nat → Int32) × (Nat → Int32) × Int32 × Int32 × Int32) :=
  (g_X8_nightsCanBe nf n_lands n_camphors n_there n_mothCells n_mothHeads n_threads n_sightNights n_sightCells n_sights n_night p_signs p_size c_acts c_why c_passed c_townNight c_town f_lands f_camphors f_there f_mothCells f_mothHeads f_threads f_sightNights f_sightCells f_sights f_night f_eaten).bind fun q1 =>
  if q1.1 = 0 then
    some ((-5), n_lands, n_camphors, n_there, n_mothCells, n_mothHeads, n_threads, n_sightNights, n_sightCells, n_sights, n_night, p_size, q1.2.1, q1.2.2.1, q1.2.2.2.1, q1.2.2.2.2.1, q1.2.2.2.2.2.1, q1.2.2.2.2.2.2.1, q1.2.2.2.2.2.2.2.1, q1.2.2.2.2.2.2.2.2.1, q1.2.2.2.2.2.2.2.2.2.1, q1.2.2.2.2.2.2.2.2.2.2.1, q1.2.2.2.2.2.2.2.2.2.2.2.1, q1.2.2.2.2.2.2.2.2.2.2.2.2.1, q1.2.2.2.2.2.2.2.2.2.2.2.2.2.1, q1.2.2.2.2.2.2.2.2.2.2.2.2.2.2.1, q1.2.2.2.2.2.2.2.2.2.2.2.2.2.2.2.1, q1.2.2.2.2.2.2.2.2.2.2.2.2.2.2.2.2)
  else
    (g_X1_become nf n_lands n_camphors n_there n_mothCells n_mothHeads n_threads n_sightNights n_sightCells n_sights n_night q1.2.2.2.2.2.2.1 q1.2.2.2.2.2.2.2.1 q1.2.2.2.2.2.2.2.2.1 q1.2.2.2.2.2.2.2.2.2.1 q1.2.2.2.2.2.2.2.2.2.2.1 q1.2.2.2.2.2.2.2.2.2.2.2.1 q1.2.2.2.2.2.2.2.2.2.2.2.2.1 q1.2.2.2.2.2.2.2.2.2.2.2.2.2.1 q1.2.2.2.2.2.2.2.2.2.2.2.2.2.2.1 q1.2.2.2.2.2.2.2.2.2.2.2.2.2.2.2.1).bind fun q2 =>
    (g_X5_clear nf p_size).bind fun q3 =>
    some (q1.2.1, q2.1, q2.2.1, q2.2.2.1, q2.2.2.2.1, q2.2.2.2.2.1, q2.2.2.2.2.2.1, q2.2.2.2.2.2.2.1, q2.2.2.2.2.2.2.2.1, q2.2.2.2.2.2.2.2.2.1, q2.2.2.2.2.2.2.2.2.2, q3.2, q1.2.1, q1.2.2.1, q1.2.2.2.1, q1.2.2.2.2.1, q1.2.2.2.2.2.1, q1.2.2.2.2.2.2.1, q1.2.2.2.2.2.2.2.1, q1.2.2.2.2.2.2.2.2.1, q1.2.2.2.2.2.2.2.2.2.1, q1.2.2.2.2.2.2.2.2.2.2.1, q1.2.2.2.2.2.2.2.2.2.2.2.1, q1.2.2.2.2.2.2.2.2.2.2.2.2.1, q1.2.2.2.2.2.2.2.2.2.2.2.2.2.1, q1.2.2.2.2.2.2.2.2.2.2.2.2.2.2.1, q1.2.2.2.2.2.2.2.2.2.2.2.2.2.2.2.1, q1.2.2.2.2.2.2.2.2.2.2.2.2.2.2.2.2)
def g_X8_behind (nf : Nat) (p1 : Int32) (p2 : Int32) (n_lands : Nat → Int32) (n_camphors : Nat → Int32) (n_there : Nat → Int32) (n_mothCells : Nat → Int32) (n_mothHeads : Nat → Int32) (n_threads : Nat → Int32) (n_sightNights : Nat → Int32) (n_sightCells : Nat → Int32) (n_sights : Int32) (n_night : Int32) (p_signs : Nat → Int32) (p_size : Int32) (c_acts : Int32) (c_why : Int32) (c_passed : Int32) (c_townNight : Int32) (c_town : Int32) (f_lands : Nat → Int32) (f_camphors : Nat → Int32) (f_there : Nat → Int32) (f_mothCells : Nat → Int32) (f_mothHeads : Nat → Int32) (f_threads : Nat → Int32) (f_sightNights : Nat → Int32) (f_sightCells : Nat → Int32) (f_sights : Int32) (f_night : Int32) (f_eaten : Int32) : Option (Int32 × Int32 × Int32 × Int32 × Int32 × Int32 × (Nat → Int32) × (Nat → Int32) × (Nat → Int32) × (Nat → Int32) × (Nat → Int32) × (Nat → Int32) × (Nat → Int32) × (Nat → Int32) × Int32 × Int32 × Int32) :=
  (g_X8_isCell nf p1).bind fun q1 =>
  if q1 = 0 then
    some ((-1), c_acts, c_why, c_passed, c_townNight, c_town, f_lands, f_camphors, f_there, f_mothCells, f_mothHeads, f_threads, f_sightNights, f_sightCells, f_sights, f_night, f_eaten)
  else
    (g_X8_within nf p2 0 1).bind fun q2 =>
    if q2 = 0 then
      some ((-2), c_acts, c_why, c_passed, c_townNight, c_town, f_lands, f_camphors, f_there, f_mothCells, f_mothHeads, f_threads, f_sightNights, f_sightCells, f_sights, f_night, f_eaten)
    else
      (g_X8_nightsCanBe nf n_lands n_camphors n_there n_mothCells n_mothHeads n_threads n_sightNights n_sightCells n_sights n_night p_signs p_size c_acts c_why c_passed c_townNight c_town f_lands f_camphors f_there f_mothCells f_mothHeads f_threads f_sightNights f_sightCells f_sights f_night f_eaten).bind fun q3 =>
      if q3.1 = 0 then
        some ((-5), q3.2.1, q3.2.2.1, q3.2.2.2.1, q3.2.2.2.2.1, q3.2.2.2.2.2.1, q3.2.2.2.2.2.2.1, q3.2.2.2.2.2.2.2.1, q3.2.2.2.2.2.2.2.2.1, q3.2.2.2.2.2.2.2.2.2.1, q3.2.2.2.2.2.2.2.2.2.2.1, q3.2.2.2.2.2.2.2.2.2.2.2.1, q3.2.2.2.2.2.2.2.2.2.2.2.2.1, q3.2.2.2.2.2.2.2.2.2.2.2.2.2.1, q3.2.2.2.2.2.2.2.2.2.2.2.2.2.2.1, q3.2.2.2.2.2.2.2.2.2.2.2.2.2.2.2.1, q3.2.2.2.2.2.2.2.2.2.2.2.2.2.2.2.2)
      else
        if p2 = 0 then
          ck p1 25 <|
          some ((q3.2.2.2.2.2.2.1 p1.toNatClampNeg), q3.2.1, q3.2.2.1, q3.2.2.2.1, q3.2.2.2.2.1, q3.2.2.2.2.2.1, q3.2.2.2.2.2.2.1, q3.2.2.2.2.2.2.2.1, q3.2.2.2.2.2.2.2.2.1, q3.2.2.2.2.2.2.2.2.2.1, q3.2.2.2.2.2.2.2.2.2.2.1, q3.2.2.2.2.2.2.2.2.2.2.2.1, q3.2.2.2.2.2.2.2.2.2.2.2.2.1, q3.2.2.2.2.2.2.2.2.2.2.2.2.2.1, q3.2.2.2.2.2.2.2.2.2.2.2.2.2.2.1, q3.2.2.2.2.2.2.2.2.2.2.2.2.2.2.2.1, q3.2.2.2.2.2.2.2.2.2.2.2.2.2.2.2.2)
        else
          ck p1 25 <|
          some ((q3.2.2.2.2.2.2.2.1 p1.toNatClampNeg), q3.2.1, q3.2.2.1, q3.2.2.2.1, q3.2.2.2.2.1, q3.2.2.2.2.2.1, q3.2.2.2.2.2.2.1, q3.2.2.2.2.2.2.2.1, q3.2.2.2.2.2.2.2.2.1, q3.2.2.2.2.2.2.2.2.2.1, q3.2.2.2.2.2.2.2.2.2.2.1, q3.2.2.2.2.2.2.2.2.2.2.2.1, q3.2.2.2.2.2.2.2.2.2.2.2.2.1, q3.2.2.2.2.2.2.2.2.2.2.2.2.2.1, q3.2.2.2.2.2.2.2.2.2.2.2.2.2.2.1, q3.2.2.2.2.2.2.2.2.2.2.2.2.2.2.2.1, q3.2.2.2.2.2.2.2.2.2.2.2.2.2.2.2.2)
def g_X8_flies (nf : Nat) (p1 : Int32) (p2 : Int32) (n_lands : Nat → Int32) (n_camphors : Nat → Int32) (n_there : Nat → Int32) (n_mothCells : Nat → Int32) (n_mothHeads : Nat → Int32) (n_threads : Nat → Int32) (n_sightNights : Nat → Int32) (n_sightCells : Nat → Int32) (n_sights : Int32) (n_night : Int32) (p_signs : Nat → Int32) (p_size : Int32) (c_acts : Int32) (c_why : Int32) (c_passed : Int32) (c_townNight : Int32) (c_town : Int32) (f_lands : Nat → Int32) (f_camphors : Nat → Int32) (f_there : Nat → Int32) (f_mothCells : Nat → Int32) (f_mothHeads : Nat → Int32) (f_threads : Nat → Int32) (f_sightNights : Nat → Int32) (f_sightCells : Nat → Int32) (f_sights : Int32) (f_night : Int32) (f_eaten : Int32) : Option (Int32 × Int32 × Int32 × Int32 × Int32 × Int32 × (Nat → Int32) × (Nat → Int32) × (Nat → Int32) × (Nat → Int32) × (Nat → Int32) × (Nat → Int32) × (Nat → Int32) × (Nat → Int32) × Int32 × Int32 × Int32) :=
  (g_X1_isThere nf p1 n_there).bind fun q1 =>
  if q1 = 0 then
    some ((-1), c_acts, c_why, c_passed, c_townNight, c_town, f_lands, f_camphors, f_there, f_mothCells, f_mothHeads, f_threads, f_sightNights, f_sightCells, f_sights, f_night, f_eaten)
  else
    (g_X8_within nf p2 0 1).bind fun q2 =>
    if q2 = 0 then
      some ((-2), c_acts, c_why, c_passed, c_townNight, c_town, f_lands, f_camphors, f_there, f_mothCells, f_mothHeads, f_threads, f_sightNights, f_sightCells, f_sights, f_night, f_eaten)
    else
      (g_X8_nightsCanBe nf n_lands n_camphors n_there n_mothCells n_mothHeads n_threads n_sightNights n_sightCells n_sights n_night p_signs p_size c_acts c_why c_passed c_townNight c_town f_lands f_camphors f_there f_mothCells f_mothHeads f_threads f_sightNights f_sightCells f_sights f_night f_eaten).bind fun q3 =>
      if q3.1 = 0 then
        some ((-5), q3.2.1, q3.2.2.1, q3.2.2.2.1, q3.2.2.2.2.1, q3.2.2.2.2.2.1, q3.2.2.2.2.2.2.1, q3.2.2.2.2.2.2.2.1, q3.2.2.2.2.2.2.2.2.1, q3.2.2.2.2.2.2.2.2.2.1, q3.2.2.2.2.2.2.2.2.2.2.1, q3.2.2.2.2.2.2.2.2.2.2.2.1, q3.2.2.2.2.2.2.2.2.2.2.2.2.1, q3.2.2.2.2.2.2.2.2.2.2.2.2.2.1, q3.2.2.2.2.2.2.2.2.2.2.2.2.2.2.1, q3.2.2.2.2.2.2.2.2.2.2.2.2.2.2.2.1, q3.2.2.2.2.2.2.2.2.2.2.2.2.2.2.2.2)
      else
        (g_X1_isThere nf p1 q3.2.2.2.2.2.2.2.2.1).bind fun q4 =>
        if q4 = 0 then
          some ((-6), q3.2.1, q3.2.2.1, q3.2.2.2.1, q3.2.2.2.2.1, q3.2.2.2.2.2.1, q3.2.2.2.2.2.2.1, q3.2.2.2.2.2.2.2.1, q3.2.2.2.2.2.2.2.2.1, q3.2.2.2.2.2.2.2.2.2.1, q3.2.2.2.2.2.2.2.2.2.2.1, q3.2.2.2.2.2.2.2.2.2.2.2.1, q3.2.2.2.2.2.2.2.2.2.2.2.2.1, q3.2.2.2.2.2.2.2.2.2.2.2.2.2.1, q3.2.2.2.2.2.2.2.2.2.2.2.2.2.2.1, q3.2.2.2.2.2.2.2.2.2.2.2.2.2.2.2.1, q3.2.2.2.2.2.2.2.2.2.2.2.2.2.2.2.2)
        else
          if p2 = 0 then
            ck p1 4 <|
            some ((q3.2.2.2.2.2.2.2.2.2.1 p1.toNatClampNeg), q3.2.1, q3.2.2.1, q3.2.2.2.1, q3.2.2.2.2.1, q3.2.2.2.2.2.1, q3.2.2.2.2.2.2.1, q3.2.2.2.2.2.2.2.1, q3.2.2.2.2.2.2.2.2.1, q3.2.2.2.2.2.2.2.2.2.1, q3.2.2.2.2.2.2.2.2.2.2.1, q3.2.2.2.2.2.2.2.2.2.2.2.1, q3.2.2.2.2.2.2.2.2.2.2.2.2.1, q3.2.2.2.2.2.2.2.2.2.2.2.2.2.1, q3.2.2.2.2.2.2.2.2.2.2.2.2.2.2.1, q3.2.2.2.2.2.2.2.2.2.2.2.2.2.2.2.1, q3.2.2.2.2.2.2.2.2.2.2.2.2.2.2.2.2)
          else
            ck p1 4 <|
            some ((q3.2.2.2.2.2.2.2.2.2.2.1 p1.toNatClampNeg), q3.2.1, q3.2.2.1, q3.2.2.2.1, q3.2.2.2.2.1, q3.2.2.2.2.2.1, q3.2.2.2.2.2.2.1, q3.2.2.2.2.2.2.2.1, q3.2.2.2.2.2.2.2.2.1, q3.2.2.2.2.2.2.2.2.2.1, q3.2.2.2.2.2.2.2.2.2.2.1, q3.2.2.2.2.2.2.2.2.2.2.2.1, q3.2.2.2.2.2.2.2.2.2.2.2.2.1, q3.2.2.2.2.2.2.2.2.2.2.2.2.2.1, q3.2.2.2.2.2.2.2.2.2.2.2.2.2.2.1, q3.2.2.2.2.2.2.2.2.2.2.2.2.2.2.2.1, q3.2.2.2.2.2.2.2.2.2.2.2.2.2.2.2.2)
def g_X8_then (nf : Nat) (p1 : Int32) (n_lands : Nat → Int32) (n_camphors : Nat → Int32) (n_there : Nat → Int32) (n_mothCells : Nat → Int32) (n_mothHeads : Nat → Int32) (n_threads : Nat → Int32) (n_sightNights : Nat → Int32) (n_sightCells : Nat → Int32) (n_sights : Int32) (n_night : Int32) (p_signs : Nat → Int32) (p_size : Int32) (c_acts : Int32) (c_why : Int32) (c_passed : Int32) (c_townNight : Int32) (c_town : Int32) (f_lands : Nat → Int32) (f_camphors : Nat → Int32) (f_there : Nat → Int32) (f_mothCells : Nat → Int32) (f_mothHeads : Nat → Int32) (f_threads : Nat → Int32) (f_sightNights : Nat → Int32) (f_sightCells : Nat → Int32) (f_sights : Int32) (f_night : Int32) (f_eaten : Int32) : Option (Int32 × Int32 × Int32 × Int32 × Int32 × Int32 × (Nat → Int32) × (Nat → Int32) × (Nat → Int32) × (Nat → Int32) × (Nat → Int32) × (Nat → Int32) × (Nat → Int32) × (Nat → Int32) × Int32 × Int32 × Int32) :=
  (g_X8_within nf p1 0 4).bind fun q1 =>
  if q1 = 0 then
    some ((-2), c_acts, c_why, c_passed, c_townNight, c_town, f_lands, f_camphors, f_there, f_mothCells, f_mothHeads, f_threads, f_sightNights, f_sightCells, f_sights, f_night, f_eaten)
  else
    (g_X8_nightsCanBe nf n_lands n_camphors n_there n_mothCells n_mothHeads n_threads n_sightNights n_sightCells n_sights n_night p_signs p_size c_acts c_why c_passed c_townNight c_town f_lands f_camphors f_there f_mothCells f_mothHeads f_threads f_sightNights f_sightCells f_sights f_night f_eaten).bind fun q2 =>
    if q2.1 = 0 then
      some ((-5), q2.2.1, q2.2.2.1, q2.2.2.2.1, q2.2.2.2.2.1, q2.2.2.2.2.2.1, q2.2.2.2.2.2.2.1, q2.2.2.2.2.2.2.2.1, q2.2.2.2.2.2.2.2.2.1, q2.2.2.2.2.2.2.2.2.2.1, q2.2.2.2.2.2.2.2.2.2.2.1, q2.2.2.2.2.2.2.2.2.2.2.2.1, q2.2.2.2.2.2.2.2.2.2.2.2.2.1, q2.2.2.2.2.2.2.2.2.2.2.2.2.2.1, q2.2.2.2.2.2.2.2.2.2.2.2.2.2.2.1, q2.2.2.2.2.2.2.2.2.2.2.2.2.2.2.2.1, q2.2.2.2.2.2.2.2.2.2.2.2.2.2.2.2.2)
    else
      if p1 = 0 then
        (g_X1_countOf nf 0 q2.2.2.2.2.2.2.1).bind fun q3 =>
        some (q3, q2.2.1, q2.2.2.1, q2.2.2.2.1, q2.2.2.2.2.1, q2.2.2.2.2.2.1, q2.2.2.2.2.2.2.1, q2.2.2.2.2.2.2.2.1, q2.2.2.2.2.2.2.2.2.1, q2.2.2.2.2.2.2.2.2.2.1, q2.2.2.2.2.2.2.2.2.2.2.1, q2.2.2.2.2.2.2.2.2.2.2.2.1, q2.2.2.2.2.2.2.2.2.2.2.2.2.1, q2.2.2.2.2.2.2.2.2.2.2.2.2.2.1, q2.2.2.2.2.2.2.2.2.2.2.2.2.2.2.1, q2.2.2.2.2.2.2.2.2.2.2.2.2.2.2.2.1, q2.2.2.2.2.2.2.2.2.2.2.2.2.2.2.2.2)
      else
        if p1 = 1 then
          (g_X1_threadsInAll nf q2.2.2.2.2.2.2.2.2.2.2.2.1).bind fun q4 =>
          some (q4, q2.2.1, q2.2.2.1, q2.2.2.2.1, q2.2.2.2.2.1, q2.2.2.2.2.2.1, q2.2.2.2.2.2.2.1, q2.2.2.2.2.2.2.2.1, q2.2.2.2.2.2.2.2.2.1, q2.2.2.2.2.2.2.2.2.2.1, q2.2.2.2.2.2.2.2.2.2.2.1, q2.2.2.2.2.2.2.2.2.2.2.2.1, q2.2.2.2.2.2.2.2.2.2.2.2.2.1, q2.2.2.2.2.2.2.2.2.2.2.2.2.2.1, q2.2.2.2.2.2.2.2.2.2.2.2.2.2.2.1, q2.2.2.2.2.2.2.2.2.2.2.2.2.2.2.2.1, q2.2.2.2.2.2.2.2.2.2.2.2.2.2.2.2.2)
        else
          if p1 = 2 then
            some (q2.2.2.2.2.2.2.2.2.2.2.2.2.2.2.2.1, q2.2.1, q2.2.2.1, q2.2.2.2.1, q2.2.2.2.2.1, q2.2.2.2.2.2.1, q2.2.2.2.2.2.2.1, q2.2.2.2.2.2.2.2.1, q2.2.2.2.2.2.2.2.2.1, q2.2.2.2.2.2.2.2.2.2.1, q2.2.2.2.2.2.2.2.2.2.2.1, q2.2.2.2.2.2.2.2.2.2.2.2.1, q2.2.2.2.2.2.2.2.2.2.2.2.2.1, q2.2.2.2.2.2.2.2.2.2.2.2.2.2.1, q2.2.2.2.2.2.2.2.2.2.2.2.2.2.2.1, q2.2.2.2.2.2.2.2.2.2.2.2.2.2.2.2.1, q2.2.2.2.2.2.2.2.2.2.2.2.2.2.2.2.2)
          else
            if p1 = 3 then
              some (q2.2.2.2.2.1, q2.2.1, q2.2.2.1, q2.2.2.2.1, q2.2.2.2.2.1, q2.2.2.2.2.2.1, q2.2.2.2.2.2.2.1, q2.2.2.2.2.2.2.2.1, q2.2.2.2.2.2.2.2.2.1, q2.2.2.2.2.2.2.2.2.2.1, q2.2.2.2.2.2.2.2.2.2.2.1, q2.2.2.2.2.2.2.2.2.2.2.2.1, q2.2.2.2.2.2.2.2.2.2.2.2.2.1, q2.2.2.2.2.2.2.2.2.2.2.2.2.2.1, q2.2.2.2.2.2.2.2.2.2.2.2.2.2.2.1, q2.2.2.2.2.2.2.2.2.2.2.2.2.2.2.2.1, q2.2.2.2.2.2.2.2.2.2.2.2.2.2.2.2.2)
            else
              some (q2.2.2.2.2.2.1, q2.2.1, q2.2.2.1, q2.2.2.2.1, q2.2.2.2.2.1, q2.2.2.2.2.2.1, q2.2.2.2.2.2.2.1, q2.2.2.2.2.2.2.2.1, q2.2.2.2.2.2.2.2.2.1, q2.2.2.2.2.2.2.2.2.2.1, q2.2.2.2.2.2.2.2.2.2.2.1, q2.2.2.2.2.2.2.2.2.2.2.2.1, q2.2.2.2.2.2.2.2.2.2.2.2.2.1, q2.2.2.2.2.2.2.2.2.2.2.2.2.2.1, q2.2.2.2.2.2.2.2.2.2.2.2.2.2.2.1, q2.2.2.2.2.2.2.2.2.2.2.2.2.2.2.2.1, q2.2.2.2.2.2.2.2.2.2.2.2.2.2.2.2.2)
def g_X8_road (nf : Nat) (p1 : Int32) (p2 : Int32) (n_lands : Nat → Int32) (r_costs : Nat → Int32) (r_settled : Nat → Int32) : Option (Int32 × (Nat → Int32) × (Nat → Int32)) :=
  (g_X8_isCell nf p1).bind fun q1 =>
  if q1 = 0 then
    some ((-1), r_costs, r_settled)
  else
    (g_X8_isCell nf p2).bind fun q2 =>
    if q2 = 0 then
      some ((-1), r_costs, r_settled)
    else
      (g_X6_leastCost nf p1 p2 r_costs r_settled n_lands).bind fun q3 =>
      if 100 ≤ q3.1 then
        some ((-6), q3.2.1, q3.2.2)
      else
        some (q3.1, q3.2.1, q3.2.2)
def g_X8_whole (nf : Nat) (p1 : Int32) (p2 : Int32) (p3 : Int32) (n_lands : Nat → Int32) (r_costs : Nat → Int32) (r_settled : Nat → Int32) : Option (Int32 × (Nat → Int32) × (Nat → Int32)) :=
  (g_X8_isCell nf p1).bind fun q1 =>
  if q1 = 0 then
    some ((-1), r_costs, r_settled)
  else
    (g_X8_isCell nf p2).bind fun q2 =>
    if q2 = 0 then
      some ((-1), r_costs, r_settled)
    else
      (g_X8_within nf p3 0 1).bind fun q3 =>
      if q3 = 0 then
        some ((-2), r_costs, r_settled)
      else
        (g_X6_leastCost nf p1 p2 r_costs r_settled n_lands).bind fun q4 =>
        if q4.1 < 1000000 then
          if p3 = 0 then
            some ((q4.1 / 100), q4.2.1, q4.2.2)
          else
            some ((q4.1 - q4.1 / 100 * 100), q4.2.1, q4.2.2)
        else
          some ((-6), q4.2.1, q4.2.2)
def g_X8_camphored (nf : Nat) (p1 : Int32) (p2 : Int32) (n_there : Nat → Int32) (n_mothCells : Nat → Int32) (y_rings : Nat → Int32) (y_moths : Int32) (y_harbour : Int32) (y_best : Int32) : Option (Int32 × (Nat → Int32) × Int32 × Int32 × Int32) :=
  (g_X8_isCell nf p1).bind fun q1 =>
  if q1 = 0 then
    some ((-1), y_rings, y_moths, y_harbour, y_best)
  else
    (g_X8_within nf p2 0 1).bind fun q2 =>
    if q2 = 0 then
      some ((-2), y_rings, y_moths, y_harbour, y_best)
    else
      (g_X1_mothCellBits nf n_there n_mothCells).bind fun q3 =>
      (g_X3_leastCells nf q3 ((1 : Int32) <<< (p1 &&& 31)) y_rings y_moths y_harbour y_best).bind fun q4 =>
      if q4.1 = (-6) then
        some ((-6), q4.2.1, q4.2.2.1, q4.2.2.2.1, q4.2.2.2.2)
      else
        if p2 = 0 then
          (g_J6_bitCount_0f7a4 nf q4.1).bind fun q5 =>
          some (q5, q4.2.1, q4.2.2.1, q4.2.2.2.1, q4.2.2.2.2)
        else
          some (q4.1, q4.2.1, q4.2.2.1, q4.2.2.2.1, q4.2.2.2.2)
def g_X8_darned (nf : Nat) (p1 : Int32) (n_lands : Nat → Int32) (d_woven : Nat → Int32) (d_tied : Nat → Int32) (d_ties : Int32) (d_holes : Int32) (d_byTowns : Int32) (d_ways : Int32) (d_first : Int32) : Option (Int32 × (Nat → Int32) × (Nat → Int32) × Int32 × Int32 × Int32 × Int32 × Int32) :=
  (g_X8_within nf p1 0 1).bind fun q1 =>
  if q1 = 0 then
    some ((-2), d_woven, d_tied, d_ties, d_holes, d_byTowns, d_ways, d_first)
  else
    (g_X1_countOf nf 0 n_lands).bind fun q2 =>
    if q2 ≤ 9 then
      (g_X1_bitsOf nf 0 n_lands).bind fun q3 =>
      (g_X1_bitsOf nf 4 n_lands).bind fun q4 =>
      (g_X0_darn nf q3 q4 d_woven d_tied d_ties d_holes d_byTowns d_ways d_first).bind fun q5 =>
      if p1 = 0 then
        some (q5.2.2.2.2.2.1, q5.1, q5.2.1, q5.2.2.1, q5.2.2.2.1, q5.2.2.2.2.1, q5.2.2.2.2.2.1, q5.2.2.2.2.2.2)
      else
        some (q5.2.2.2.2.2.2, q5.1, q5.2.1, q5.2.2.1, q5.2.2.2.1, q5.2.2.2.2.1, q5.2.2.2.2.2.1, q5.2.2.2.2.2.2)
    else
      some ((-3), d_woven, d_tied, d_ties, d_holes, d_byTowns, d_ways, d_first)
def g_X8_areFourLands (nf : Nat) (p0 : Int32) : Option (Int32) :=
  (g_X8_within nf p0 0 9999).bind fun q1 =>
  if q1 = 0 then
    bz 0 <|
    some 0
  else
    if 5 < (p0 / 1000) then
      bz 0 <|
      some 0
    else
      if 5 < ((p0 / 100) - (p0 / 100) / 10 * 10) then
        bz 0 <|
        some 0
      else
        if 5 < ((p0 / 10) - (p0 / 10) / 10 * 10) then
          bz 0 <|
          some 0
        else
          if 5 < (p0 - p0 / 10 * 10) then
            bz 0 <|
            some 0
          else
            bz 1 <|
            some 1
def g_X8_sheet_b67 (nf : Nat) (k28 : Int32 → Int32 → Int32 → Int32 → Int32 → (Nat → Int32) → Option (Int32)) (x1 : Int32) (x2 : Int32) (x3 : Int32) (x4 : Int32) (x5 : Int32) (n_lands : Nat → Int32) : Option (Int32) :=
  k28 x1 x2 x3 x4 (x5 + 1) n_lands
def g_X8_sheet_b65 (nf : Nat) (k28 : Int32 → Int32 → Int32 → Int32 → Int32 → (Nat → Int32) → Option (Int32)) (x1 : Int32) (x2 : Int32) (x3 : Int32) (x5 : Int32) (s0 : Int32) (n_lands : Nat → Int32) : Option (Int32) :=
  g_X8_sheet_b67 nf k28 x1 x2 x3 s0 x5 n_lands
def g_X8_sheet_l28 (nf : Nat) : Nat → Int32 → Int32 → Int32 → Int32 → Int32 → (Nat → Int32) → Option (Int32)
  | 0, _, _, _, _, _, _ => none
  | n + 1, x1, x2, x3, x4, x5, n_lands =>
    if 25 ≤ x5 then
      if x2 = 0 then
        some x3
      else
        some x4
    else
      (g_X1_fourLandsFrom nf x5 n_lands).bind fun q1 =>
      if q1 = x1 then
        if x4 = (-6) then
          g_X8_sheet_b65 nf (g_X8_sheet_l28 nf n) x1 x2 (x3 + 1) x5 x5 n_lands
        else
          g_X8_sheet_b65 nf (g_X8_sheet_l28 nf n) x1 x2 (x3 + 1) x5 x4 n_lands
      else
        g_X8_sheet_b67 nf (g_X8_sheet_l28 nf n) x1 x2 x3 x4 x5 n_lands
def g_X8_sheet (nf : Nat) (p1 : Int32) (p2 : Int32) (n_lands : Nat → Int32) : Option (Int32) :=
  (g_X8_areFourLands nf p1).bind fun q2 =>
  if q2 = 0 then
    some (-2)
  else
    (g_X8_within nf p2 0 1).bind fun q3 =>
    if q3 = 0 then
      some (-2)
    else
      g_X8_sheet_l28 nf nf p1 p2 0 (-6) 0 n_lands
def g_X8_seen (nf : Nat) (p1 : Int32) (p2 : Int32) (n_sightNights : Nat → Int32) (n_sightCells : Nat → Int32) (n_sights : Int32) : Option (Int32 × (Nat → Int32) × (Nat → Int32) × Int32) :=
  (g_X8_isCell nf p2).bind fun q1 =>
  if q1 = 0 then
    some ((-1), n_sightNights, n_sightCells, n_sights)
  else
    (g_X8_within nf p1 0 40).bind fun q2 =>
    if q2 = 0 then
      some ((-2), n_sightNights, n_sightCells, n_sights)
    else
      (g_X1_addSight nf p1 p2 n_sightNights n_sightCells n_sights).bind fun q3 =>
      if q3.1 = 0 then
        some ((-4), q3.2.1, q3.2.2.1, q3.2.2.2)
      else
        some (q3.2.2.2, q3.2.1, q3.2.2.1, q3.2.2.2)
def g_X8_forget (nf : Nat) (n_sights : Int32) : Option (Int32 × Int32) :=
  some (n_sights, 0)
def g_X8_began (nf : Nat) (p1 : Int32) (n_sightNights : Nat → Int32) (n_sightCells : Nat → Int32) (n_sights : Int32) (t_next_ : Nat → Int32) (t_starts : Nat → Int32) (t_cellsSeen : Nat → Int32) (t_fitting : Int32) : Option (Int32 × (Nat → Int32) × (Nat → Int32) × Int32) :=
  (g_X7_gather nf t_next_ t_starts t_cellsSeen t_fitting n_sightNights n_sightCells n_sights).bind fun q1 =>
  if p1 = (-1) then
    some (q1.2.2, q1.1, q1.2.1, q1.2.2)
  else
    (g_X8_within nf p1 0 (q1.2.2 - 1)).bind fun q2 =>
    if q2 = 0 then
      some ((-6), q1.1, q1.2.1, q1.2.2)
    else
      (g_X7_toldStart nf p1 q1.1).bind fun q3 =>
      some (q3, q1.1, q1.2.1, q1.2.2)
def g_X8_ask (nf : Nat) (p1 : Int32) (n_sightNights : Nat → Int32) (n_sightCells : Nat → Int32) (n_sights : Int32) (t_next_ : Nat → Int32) (t_starts : Nat → Int32) (t_stands : Nat → Int32) (t_cellsSeen : Nat → Int32) (t_inCell : Nat → Int32) (t_fitting : Int32) (t_bestNight : Int32) (t_mostLeft : Int32) : Option (Int32 × (Nat → Int32) × (Nat → Int32) × (Nat → Int32) × (Nat → Int32) × Int32 × Int32 × Int32) :=
  (g_X8_within nf p1 0 1).bind fun q1 =>
  if q1 = 0 then
    some ((-2), t_starts, t_stands, t_cellsSeen, t_inCell, t_fitting, t_bestNight, t_mostLeft)
  else
    (g_X7_gather nf t_next_ t_starts t_cellsSeen t_fitting n_sightNights n_sightCells n_sights).bind fun q2 =>
    if q2.2.2 = 0 then
      some ((-6), q2.1, t_stands, q2.2.1, t_inCell, q2.2.2, t_bestNight, t_mostLeft)
    else
      (g_X7_chooseNight nf t_next_ q2.1 t_stands t_inCell q2.2.2 t_bestNight t_mostLeft).bind fun q3 =>
      if p1 = 0 then
        some (q3.2.2.1, q2.1, q3.1, q2.2.1, q3.2.1, q2.2.2, q3.2.2.1, q3.2.2.2)
      else
        some (q3.2.2.2, q2.1, q3.1, q2.2.1, q3.2.1, q2.2.2, q3.2.2.1, q3.2.2.2)
def g_X8_greatestCommon_l9 (nf : Nat) : Nat → Int64 → Int64 → Int32 → Option (Int64)
  | 0, _, _, _ => none
  | n + 1, x4, x6, x8 =>
    if 128 ≤ x8 then
      some x4
    else
      if (lg_cmp x6 0) = 0 then
        some x4
      else
        dz x6 <|
        (g_X8_greatestCommon_l9 nf n) x6 (x4 - x4 / x6 * x6) (x8 + 1)
def g_X8_greatestCommon (nf : Nat) (p0 : Int64) (p2 : Int64) : Option (Int64) :=
  g_X8_greatestCommon_l9 nf nf p0 p2 0
def g_X8_coffee_l112 (nf : Nat) : Nat → Int32 → Int32 → Int32 → Int32 → Int32 → Int32 → Int32 → (Nat → Int64) → (Nat → Int64) → Int64 → Option (Int64 × (Nat → Int64) × (Nat → Int64) × Int64)
  | 0, _, _, _, _, _, _, _, _, _, _ => none
  | n + 1, x1, x3, x4, x5, x6, x7, x10, m_shares, m_moved, m_parts =>
    if x5 ≤ x10 then
      (g_X2_share nf x6 m_shares).bind fun q6 =>
      (g_X8_greatestCommon nf m_parts q6).bind fun q7 =>
      if (lg_cmp q7 0) = 0 then
        some ((-1000000000000000002), m_shares, m_moved, m_parts)
      else
        if x7 = 0 then
          dz q7 <|
          some ((q6 / q7), m_shares, m_moved, m_parts)
        else
          dz q7 <|
          some ((m_parts / q7), m_shares, m_moved, m_parts)
    else
      (g_X2_move nf x1 x3 x4 m_shares m_moved m_parts).bind fun q8 =>
      (g_X8_coffee_l112 nf n) x1 x3 x4 x5 x6 x7 (x10 + 1) q8.1 q8.2.1 q8.2.2
def g_X8_coffee_b64 (nf : Nat) (x1 : Int32) (x2 : Int32) (x3 : Int32) (x4 : Int32) (x5 : Int32) (x6 : Int32) (x7 : Int32) (x8 : Int32) (s0 : Int32) (m_shares : Nat → Int64) (m_moved : Nat → Int64) (m_parts : Int64) : Option (Int64 × (Nat → Int64) × (Nat → Int64) × Int64) :=
  if x8 = 0 then
    some ((-1000000000000000002), m_shares, m_moved, m_parts)
  else
    if s0 = 0 then
      some ((-1000000000000000002), m_shares, m_moved, m_parts)
    else
      (g_X8_within nf x5 0 16).bind fun q3 =>
      if q3 = 0 then
        some ((-1000000000000000002), m_shares, m_moved, m_parts)
      else
        (g_X8_within nf x7 0 1).bind fun q4 =>
        if q4 = 0 then
          some ((-1000000000000000002), m_shares, m_moved, m_parts)
        else
          (g_X2_pour nf x2 m_shares m_parts).bind fun q5 =>
          g_X8_coffee_l112 nf nf x1 x3 x4 x5 x6 x7 0 q5.1 m_moved q5.2
def g_X8_coffee_b63 (nf : Nat) (x1 : Int32) (x2 : Int32) (x3 : Int32) (x4 : Int32) (x5 : Int32) (x6 : Int32) (x7 : Int32) (x8 : Int32) (m_shares : Nat → Int64) (m_moved : Nat → Int64) (m_parts : Int64) : Option (Int64 × (Nat → Int64) × (Nat → Int64) × Int64) :=
  g_X8_coffee_b64 nf x1 x2 x3 x4 x5 x6 x7 x8 0 m_shares m_moved m_parts
def g_X8_coffee_b34 (nf : Nat) (x1 : Int32) (x2 : Int32) (x3 : Int32) (x4 : Int32) (x5 : Int32) (x6 : Int32) (x7 : Int32) (s0 : Int32) (m_shares : Nat → Int64) (m_moved : Nat → Int64) (m_parts : Int64) : Option (Int64 × (Nat → Int64) × (Nat → Int64) × Int64) :=
  (g_X8_within nf x3 0 10).bind fun q1 =>
  if q1 = 0 then
    g_X8_coffee_b63 nf x1 x2 x3 x4 x5 x6 x7 s0 m_shares m_moved m_parts
  else
    (g_X8_within nf x4 0 (10 - x3)).bind fun q2 =>
    if q2 = 0 then
      g_X8_coffee_b63 nf x1 x2 x3 x4 x5 x6 x7 s0 m_shares m_moved m_parts
    else
      g_X8_coffee_b64 nf x1 x2 x3 x4 x5 x6 x7 s0 1 m_shares m_moved m_parts
def g_X8_coffee_b33 (nf : Nat) (x1 : Int32) (x2 : Int32) (x3 : Int32) (x4 : Int32) (x5 : Int32) (x6 : Int32) (x7 : Int32) (m_shares : Nat → Int64) (m_moved : Nat → Int64) (m_parts : Int64) : Option (Int64 × (Nat → Int64) × (Nat → Int64) × Int64) :=
  g_X8_coffee_b34 nf x1 x2 x3 x4 x5 x6 x7 0 m_shares m_moved m_parts
def g_X8_coffee (nf : Nat) (p1 : Int32) (p2 : Int32) (p3 : Int32) (p4 : Int32) (p5 : Int32) (p6 : Int32) (p7 : Int32) (m_shares : Nat → Int64) (m_moved : Nat → Int64) (m_parts : Int64) : Option (Int64 × (Nat → Int64) × (Nat → Int64) × Int64) :=
  (g_X8_within nf p1 0 9).bind fun q9 =>
  if q9 = 0 then
    g_X8_coffee_b33 nf p1 p2 p3 p4 p5 p6 p7 m_shares m_moved m_parts
  else
    (g_X8_within nf p2 0 p1).bind fun q10 =>
    if q10 = 0 then
      g_X8_coffee_b33 nf p1 p2 p3 p4 p5 p6 p7 m_shares m_moved m_parts
    else
      (g_X8_within nf p6 0 p1).bind fun q11 =>
      if q11 = 0 then
        g_X8_coffee_b33 nf p1 p2 p3 p4 p5 p6 p7 m_shares m_moved m_parts
      else
        g_X8_coffee_b34 nf p1 p2 p3 p4 p5 p6 p7 1 m_shares m_moved m_parts
def g_X8_year_l50 (nf : Nat) : Nat → Int32 → Int32 → Int32 → Int32 → (Nat → Int32) → (Nat → Int32) → (Nat → Int32) → (Nat → Int32) → (Nat → Int32) → (Nat → Int32) → (Nat → Int32) → (Nat → Int32) → Int32 → Int32 → (Nat → Int32) → (Nat → Int32) → (Nat → Int32) → (Nat → Int32) → (Nat → Int32) → (Nat → Int32) → (Nat → Int32) → (Nat → Int32) → Int32 → Int32 → Int32 → Option (Int32 × (Nat → Int32) × (Nat → Int32) × (Nat → Int32) × (Nat → Int32) × (Nat → Int32) × (Nat → Int32) × (Nat → Int32) × (Nat → Int32) × Int32 × Int32 × Int32)
  | 0, _, _, _, _, _, _, _, _, _, _, _, _, _, _, _, _, _, _, _, _, _, _, _, _, _ => none
  | n + 1, x2, x3, x4, x5, n_lands, n_camphors, n_there, n_mothCells, n_mothHeads, n_threads, n_sightNights, n_sightCells, n_sights, n_night, s_lands, s_camphors, s_there, s_mothCells, s_mothHeads, s_threads, s_sightNights, s_sightCells, s_sights, s_night, s_eaten =>
    if x2 ≤ x5 then
      if x3 = 0 then
        (g_X1_countOf nf 0 s_lands).bind fun q1 =>
        some (q1, s_lands, s_camphors, s_there, s_mothCells, s_mothHeads, s_threads, s_sightNights, s_sightCells, s_sights, s_night, s_eaten)
      else
        if x3 = 1 then
          (g_X1_threadsInAll nf s_threads).bind fun q2 =>
          some (q2, s_lands, s_camphors, s_there, s_mothCells, s_mothHeads, s_threads, s_sightNights, s_sightCells, s_sights, s_night, s_eaten)
        else
          (g_X1_countOf nf 4 s_lands).bind fun q3 =>
          some (q3, s_lands, s_camphors, s_there, s_mothCells, s_mothHeads, s_threads, s_sightNights, s_sightCells, s_sights, s_night, s_eaten)
    else
      (g_X1_draw nf ((((75 * x4) + 74) - ((75 * x4) + 74) / 65537 * 65537) - (((75 * x4) + 74) - ((75 * x4) + 74) / 65537 * 65537) / 8 * 8) ((((75 * x4) + 74) - ((75 * x4) + 74) / 65537 * 65537) / 8) s_lands s_camphors s_there s_mothCells s_mothHeads s_threads s_night s_eaten).bind fun q4 =>
      (g_X8_year_l50 nf n) x2 x3 (((75 * x4) + 74) - ((75 * x4) + 74) / 65537 * 65537) (x5 + 1) n_lands n_camphors n_there n_mothCells n_mothHeads n_threads n_sightNights n_sightCells n_sights n_night q4.1 q4.2.1 s_there q4.2.2.1 q4.2.2.2.1 q4.2.2.2.2.1 s_sightNights s_sightCells s_sights q4.2.2.2.2.2.1 q4.2.2.2.2.2.2
def g_X8_year (nf : Nat) (p1 : Int32) (p2 : Int32) (p3 : Int32) (n_lands : Nat → Int32) (n_camphors : Nat → Int32) (n_there : Nat → Int32) (n_mothCells : Nat → Int32) (n_mothHeads : Nat → Int32) (n_threads : Nat → Int32) (n_sightNights : Nat → Int32) (n_sightCells : Nat → Int32) (n_sights : Int32) (n_night : Int32) (s_lands : Nat → Int32) (s_camphors : Nat → Int32) (s_there : Nat → Int32) (s_mothCells : Nat → Int32) (s_mothHeads : Nat → Int32) (s_threads : Nat → Int32) (s_sightNights : Nat → Int32) (s_sightCells : Nat → Int32) (s_sights : Int32) (s_night : Int32) (s_eaten : Int32) : Option (Int32 × (Nat → Int32) × (Nat → Int32) × (Nat → Int32) × (Nat → Int32) × (Nat → Int32) × (Nat → Int32) × (Nat → Int32) × (Nat → Int32) × Int32 × Int32 × Int32) :=
  (g_X8_within nf p1 0 9999).bind fun q5 =>
  if q5 = 0 then
    some ((-2), s_lands, s_camphors, s_there, s_mothCells, s_mothHeads, s_threads, s_sightNights, s_sightCells, s_sights, s_night, s_eaten)
  else
    (g_X8_within nf p2 1 99).bind fun q6 =>
    if q6 = 0 then
      some ((-2), s_lands, s_camphors, s_there, s_mothCells, s_mothHeads, s_threads, s_sightNights, s_sightCells, s_sights, s_night, s_eaten)
    else
      (g_X8_within nf p3 0 2).bind fun q7 =>
      if q7 = 0 then
        some ((-2), s_lands, s_camphors, s_there, s_mothCells, s_mothHeads, s_threads, s_sightNights, s_sightCells, s_sights, s_night, s_eaten)
      else
        (g_X1_become nf s_lands s_camphors s_there s_mothCells s_mothHeads s_threads s_sightNights s_sightCells s_sights s_night n_lands n_camphors n_there n_mothCells n_mothHeads n_threads n_sightNights n_sightCells n_sights n_night).bind fun q8 =>
        g_X8_year_l50 nf nf p2 p3 p1 0 n_lands n_camphors n_there n_mothCells n_mothHeads n_threads n_sightNights n_sightCells n_sights n_night q8.1 q8.2.1 q8.2.2.1 q8.2.2.2.1 q8.2.2.2.2.1 q8.2.2.2.2.2.1 q8.2.2.2.2.2.2.1 q8.2.2.2.2.2.2.2.1 q8.2.2.2.2.2.2.2.2.1 q8.2.2.2.2.2.2.2.2.2 s_eaten
def g_X8_image (nf : Nat) (p1 : Int32) (n_lands : Nat → Int32) (n_camphors : Nat → Int32) (n_there : Nat → Int32) (n_mothCells : Nat → Int32) (n_mothHeads : Nat → Int32) (n_threads : Nat → Int32) (n_sightNights : Nat → Int32) (n_sightCells : Nat → Int32) (n_sights : Int32) (n_night : Int32) (u_lands : Nat → Int32) (u_camphors : Nat → Int32) (u_there : Nat → Int32) (u_mothCells : Nat → Int32) (u_mothHeads : Nat → Int32) (u_threads : Nat → Int32) (u_sightNights : Nat → Int32) (u_sightCells : Nat → Int32) (u_sights : Int32) (u_night : Int32) (v_lands : Nat → Int32) (v_camphors : Nat → Int32) (v_there : Nat → Int32) (v_mothCells : Nat → Int32) (v_mothHeads : Nat → Int32) (v_threads : Nat → Int32) (v_sightNights : Nat → Int32) (v_sightCells : Nat → Int32) (v_sights : Int32) (v_night : Int32) (kept : Nat → Int32) : Option (Int32 × (Nat → Int32) × (Nat → Int32) × (Nat → Int32) × (Nat → Int32) × (Nat → Int32) × (Nat → Int32) × (Nat → Int32) × (Nat → Int32) × Int32 × Int32 × (Nat → Int32) × (Nat → Int32) × (Nat → Int32) × (Nat → Int32) × (Nat → Int32) × (Nat → Int32) × (Nat → Int32) × (Nat → Int32) × Int32 × Int32 × (Nat → Int32)) :=
  (g_X8_within nf p1 0 1).bind fun q1 =>
  if q1 = 0 then
    some ((-2), u_lands, u_camphors, u_there, u_mothCells, u_mothHeads, u_threads, u_sightNights, u_sightCells, u_sights, u_night, v_lands, v_camphors, v_there, v_mothCells, v_mothHeads, v_threads, v_sightNights, v_sightCells, v_sights, v_night, kept)
  else
    ck p1 2 <|
    if p1 = 0 then
      (g_X1_become nf u_lands u_camphors u_there u_mothCells u_mothHeads u_threads u_sightNights u_sightCells u_sights u_night n_lands n_camphors n_there n_mothCells n_mothHeads n_threads n_sightNights n_sightCells n_sights n_night).bind fun q2 =>
      ck p1 2 <|
      bz 1 <|
      some (1, q2.1, q2.2.1, q2.2.2.1, q2.2.2.2.1, q2.2.2.2.2.1, q2.2.2.2.2.2.1, q2.2.2.2.2.2.2.1, q2.2.2.2.2.2.2.2.1, q2.2.2.2.2.2.2.2.2.1, q2.2.2.2.2.2.2.2.2.2, v_lands, v_camphors, v_there, v_mothCells, v_mothHeads, v_threads, v_sightNights, v_sightCells, v_sights, v_night, (upd kept p1.toNatClampNeg 1))
    else
      (g_X1_become nf v_lands v_camphors v_there v_mothCells v_mothHeads v_threads v_sightNights v_sightCells v_sights v_night n_lands n_camphors n_there n_mothCells n_mothHeads n_threads n_sightNights n_sightCells n_sights n_night).bind fun q3 =>
      ck p1 2 <|
      bz 1 <|
      some (1, u_lands, u_camphors, u_there, u_mothCells, u_mothHeads, u_threads, u_sightNights, u_sightCells, u_sights, u_night, q3.1, q3.2.1, q3.2.2.1, q3.2.2.2.1, q3.2.2.2.2.1, q3.2.2.2.2.2.1, q3.2.2.2.2.2.2.1, q3.2.2.2.2.2.2.2.1, q3.2.2.2.2.2.2.2.2.1, q3.2.2.2.2.2.2.2.2.2, (upd kept p1.toNatClampNeg 1))
def g_X8_restore (nf : Nat) (p1 : Int32) (n_lands : Nat → Int32) (n_camphors : Nat → Int32) (n_there : Nat → Int32) (n_mothCells : Nat → Int32) (n_mothHeads : Nat → Int32) (n_threads : Nat → Int32) (n_sightNights : Nat → Int32) (n_sightCells : Nat → Int32) (n_sights : Int32) (n_night : Int32) (u_lands : Nat → Int32) (u_camphors : Nat → Int32) (u_there : Nat → Int32) (u_mothCells : Nat → Int32) (u_mothHeads : Nat → Int32) (u_threads : Nat → Int32) (u_sightNights : Nat → Int32) (u_sightCells : Nat → Int32) (u_sights : Int32) (u_night : Int32) (v_lands : Nat → Int32) (v_camphors : Nat → Int32) (v_there : Nat → Int32) (v_mothCells : Nat → Int32) (v_mothHeads : Nat → Int32) (v_threads : Nat → Int32) (v_sightNights : Nat → Int32) (v_sightCells : Nat → Int32) (v_sights : Int32) (v_night : Int32) (kept : Nat → Int32) : Option (Int32 × (Nat → Int32) × (Nat → Int32) × (Nat → Int32) × (Nat → Int32) × (Nat → Int32) × (Nat → Int32) × (Nat → Int32) × (Nat → Int32) × Int32 × Int32) :=
  (g_X8_within nf p1 0 1).bind fun q1 =>
  if q1 = 0 then
    some ((-2), n_lands, n_camphors, n_there, n_mothCells, n_mothHeads, n_threads, n_sightNights, n_sightCells, n_sights, n_night)
  else
    ck p1 2 <|
    if (kept p1.toNatClampNeg) = 0 then
      some ((-3), n_lands, n_camphors, n_there, n_mothCells, n_mothHeads, n_threads, n_sightNights, n_sightCells, n_sights, n_night)
    else
      ck p1 2 <|
      if p1 = 0 then
        (g_X1_become nf n_lands n_camphors n_there n_mothCells n_mothHeads n_threads n_sightNights n_sightCells n_sights n_night u_lands u_camphors u_there u_mothCells u_mothHeads u_threads u_sightNights u_sightCells u_sights u_night).bind fun q2 =>
        some (1, q2.1, q2.2.1, q2.2.2.1, q2.2.2.2.1, q2.2.2.2.2.1, q2.2.2.2.2.2.1, q2.2.2.2.2.2.2.1, q2.2.2.2.2.2.2.2.1, q2.2.2.2.2.2.2.2.2.1, q2.2.2.2.2.2.2.2.2.2)
      else
        (g_X1_become nf n_lands n_camphors n_there n_mothCells n_mothHeads n_threads n_sightNights n_sightCells n_sights n_night v_lands v_camphors v_there v_mothCells v_mothHeads v_threads v_sightNights v_sightCells v_sights v_night).bind fun q3 =>
        some (1, q3.1, q3.2.1, q3.2.2.1, q3.2.2.2.1, q3.2.2.2.2.1, q3.2.2.2.2.2.1, q3.2.2.2.2.2.2.1, q3.2.2.2.2.2.2.2.1, q3.2.2.2.2.2.2.2.2.1, q3.2.2.2.2.2.2.2.2.2)
def g_X8_toldOfOne (nf : Nat) (p1 : Int32) (n_lands : Nat → Int32) (n_camphors : Nat → Int32) (n_there : Nat → Int32) (n_mothCells : Nat → Int32) (n_mothHeads : Nat → Int32) (n_threads : Nat → Int32) : Option (Int32) :=
  (g_X8_isThread nf (p1 - 10)).bind fun q1 =>
  if q1 = 0 then
    (g_X1_isThere nf (p1 - 20) n_there).bind fun q2 =>
    if q2 = 0 then
      (g_X1_isThere nf (p1 - 30) n_there).bind fun q3 =>
      if q3 = 0 then
        (g_X8_isCell nf (p1 - 100)).bind fun q4 =>
        if q4 = 0 then
          (g_X8_isCell nf (p1 - 200)).bind fun q5 =>
          if q5 = 0 then
            some (-2)
          else
            ck (p1 - 200) 25 <|
            some (n_camphors (p1 - 200).toNatClampNeg)
        else
          ck (p1 - 100) 25 <|
          some (n_lands (p1 - 100).toNatClampNeg)
      else
        ck (p1 - 30) 4 <|
        some (n_mothHeads (p1 - 30).toNatClampNeg)
    else
      ck (p1 - 20) 4 <|
      some (n_mothCells (p1 - 20).toNatClampNeg)
  else
    ck (p1 - 10) 4 <|
    some (n_threads (p1 - 10).toNatClampNeg)
def g_X8_told (nf : Nat) (p1 : Int32) (n_lands : Nat → Int32) (n_camphors : Nat → Int32) (n_there : Nat → Int32) (n_mothCells : Nat → Int32) (n_mothHeads : Nat → Int32) (n_threads : Nat → Int32) (n_sights : Int32) (n_night : Int32) (p_size : Int32) : Option (Int32) :=
  if p1 = 0 then
    some p_size
  else
    if p1 = 1 then
      (g_X1_mothBits nf n_there).bind fun q1 =>
      some q1
    else
      if p1 = 2 then
        some n_night
      else
        if p1 = 3 then
          (g_X1_countOf nf 0 n_lands).bind fun q2 =>
          some q2
        else
          if p1 = 4 then
            some n_sights
          else
            (g_X8_toldOfOne nf p1 n_lands n_camphors n_there n_mothCells n_mothHeads n_threads).bind fun q3 =>
            some q3
def g_X9_in (nf : Nat) (p0 : Int32) (p1 : Int32) (p2 : Int32) : Option (Int32) :=
  if p0 < p1 then
    bz 0 <|
    some 0
  else
    if p2 < p0 then
      bz 0 <|
      some 0
    else
      bz 1 <|
      some 1
def g_X9_has (nf : Nat) (p0 : Int32) (p1 : Int32) : Option (Int32) :=
  if ((p0 >>> (p1 &&& 31)) &&& (1 : Int32)) = 1 then
    bz 1 <|
    some 1
  else
    bz 0 <|
    some 0
def g_X9_isCell (nf : Nat) (p0 : Int32) : Option (Int32) :=
  (g_X9_in nf p0 0 24).bind fun q1 =>
  bz q1 <|
  some q1
def g_X9_isThere (nf : Nat) (p1 : Int32) (book : Nat → Int32) : Option (Int32) :=
  (g_X9_in nf p1 0 3).bind fun q1 =>
  if q1 = 0 then
    bz 0 <|
    some 0
  else
    ck 61 63 <|
    (g_X9_has nf (book (61 : Int32).toNatClampNeg) p1).bind fun q2 =>
    if q2 = 0 then
      bz 0 <|
      some 0
    else
      bz 1 <|
      some 1
def g_X9_beside (nf : Nat) (p0 : Int32) (p1 : Int32) : Option (Int32) :=
  if p1 = 0 then
    if (p0 / 5) ≤ 0 then
      some (-6)
    else
      some (p0 - 5)
  else
    if p1 = 1 then
      if 4 ≤ (p0 - p0 / 5 * 5) then
        some (-6)
      else
        some (p0 + 1)
    else
      if p1 = 2 then
        if 4 ≤ (p0 / 5) then
          some (-6)
        else
          some (p0 + 5)
      else
        if (p0 - p0 / 5 * 5) ≤ 0 then
          some (-6)
        else
          some (p0 - 1)
def g_X9_land (nf : Nat) (p1 : Int32) (p2 : Int32) (book : Nat → Int32) : Option (Int32 × (Nat → Int32)) :=
  (g_X9_isCell nf p1).bind fun q1 =>
  if q1 = 0 then
    some ((-1), book)
  else
    (g_X9_in nf p2 0 5).bind fun q2 =>
    if q2 = 0 then
      some ((-2), book)
    else
      ck p1 63 <|
      ck p1 63 <|
      some ((book p1.toNatClampNeg), (upd book p1.toNatClampNeg p2))
def g_X9_camphor (nf : Nat) (p1 : Int32) (p2 : Int32) (book : Nat → Int32) : Option (Int32 × (Nat → Int32)) :=
  (g_X9_isCell nf p1).bind fun q1 =>
  if q1 = 0 then
    some ((-1), book)
  else
    (g_X9_in nf p2 0 9).bind fun q2 =>
    if q2 = 0 then
      some ((-2), book)
    else
      ck (25 + p1) 63 <|
      ck (25 + p1) 63 <|
      some ((book (25 + p1).toNatClampNeg), (upd book (25 + p1).toNatClampNeg p2))
def g_X9_moth_l69 (nf : Nat) : Nat → Int32 → Int32 → (Nat → Int32) → Option (Int32 × (Nat → Int32))
  | 0, _, _, _ => none
  | n + 1, x4, x5, book =>
    if 4 ≤ x5 then
      some (x4, book)
    else
      ck 61 63 <|
      (g_X9_moth_l69 nf n) (x4 + (((book (61 : Int32).toNatClampNeg) >>> (x5 &&& 31)) &&& (1 : Int32))) (x5 + 1) book
def g_X9_moth (nf : Nat) (p1 : Int32) (p2 : Int32) (p3 : Int32) (book : Nat → Int32) : Option (Int32 × (Nat → Int32)) :=
  (g_X9_in nf p1 0 3).bind fun q1 =>
  if q1 = 0 then
    some ((-1), book)
  else
    (g_X9_isCell nf p2).bind fun q2 =>
    if q2 = 0 then
      some ((-1), book)
    else
      (g_X9_in nf p3 0 3).bind fun q3 =>
      if q3 = 0 then
        some ((-2), book)
      else
        ck (50 + p1) 63 <|
        ck (54 + p1) 63 <|
        ck 61 63 <|
        ck 61 63 <|
        g_X9_moth_l69 nf nf 0 0 (upd (upd (upd book (50 + p1).toNatClampNeg p2) (54 + p1).toNatClampNeg p3) (61 : Int32).toNatClampNeg (((upd (upd book (50 + p1).toNatClampNeg p2) (54 + p1).toNatClampNeg p3) (61 : Int32).toNatClampNeg) ||| ((1 : Int32) <<< (p1 &&& 31))))
def g_X9_spool (nf : Nat) (p1 : Int32) (p2 : Int32) (book : Nat → Int32) : Option (Int32 × (Nat → Int32)) :=
  (g_X9_in nf p1 1 3).bind fun q1 =>
  if q1 = 0 then
    some ((-1), book)
  else
    (g_X9_in nf p2 0 99).bind fun q2 =>
    if q2 = 0 then
      some ((-2), book)
    else
      ck (57 + p1) 63 <|
      ck (57 + p1) 63 <|
      some ((book (57 + p1).toNatClampNeg), (upd book (57 + p1).toNatClampNeg p2))
def g_X9_say (nf : Nat) (p1 : Int32) (signs : Int32) (pad : Nat → Int32) : Option (Int32 × Int32 × (Nat → Int32)) :=
  (g_X9_in nf p1 33 126).bind fun q1 =>
  if q1 = 0 then
    some ((-2), signs, pad)
  else
    if signs = 60 then
      some ((-4), signs, pad)
    else
      ck signs 60 <|
      some ((signs + 1), (signs + 1), (upd pad signs.toNatClampNeg p1))
def g_X9_wipe (nf : Nat) (signs : Int32) : Option (Int32 × Int32) :=
  some (signs, 0)
def g_X9_wayOf (nf : Nat) (p0 : Int32) : Option (Int32) :=
  if p0 = 110 then
    some 0
  else
    if p0 = 101 then
      some 1
    else
      if p0 = 115 then
        some 2
      else
        if p0 = 119 then
          some 3
        else
          some (-6)
def g_X9_step_b93 (nf : Nat) : Option (Int32) :=
  some 0
def g_X9_step (nf : Nat) (p0 : Int32) (p1 : Int32) : Option (Int32) :=
  if p0 = 0 then
    (g_X9_in nf p1 65 68).bind fun q1 =>
    if q1 = 0 then
      if p1 = 43 then
        some 2
      else
        if p1 = 37 then
          some 3
        else
          if p1 = 46 then
            some 0
          else
            some (-6)
    else
      some 1
  else
    if p0 = 1 then
      (g_X9_wayOf nf p1).bind fun q2 =>
      if 0 ≤ q2 then
        g_X9_step_b93 nf
      else
        if p1 = 33 then
          g_X9_step_b93 nf
        else
          some (-6)
    else
      if p0 = 2 then
        (g_X9_in nf p1 97 121).bind fun q3 =>
        if q3 = 0 then
          some (-6)
        else
          some 0
      else
        if p0 = 3 then
          (g_X9_in nf p1 97 121).bind fun q4 =>
          if q4 = 0 then
            some (-6)
          else
            some 4
        else
          (g_X9_in nf p1 49 51).bind fun q5 =>
          if q5 = 0 then
            some (-6)
          else
            some 0
def g_X9_faultOf_l4 (nf : Nat) : Nat → Int32 → Int32 → Int32 → (Nat → Int32) → Option (Int32)
  | 0, _, _, _, _ => none
  | n + 1, x1, x2, signs, pad =>
    if signs ≤ x2 then
      if x1 = 0 then
        some (-6)
      else
        some signs
    else
      ck x2 60 <|
      (g_X9_step nf x1 (pad x2.toNatClampNeg)).bind fun q1 =>
      if 0 ≤ q1 then
        (g_X9_faultOf_l4 nf n) q1 (x2 + 1) signs pad
      else
        some x2
def g_X9_faultOf (nf : Nat) (signs : Int32) (pad : Nat → Int32) : Option (Int32) :=
  g_X9_faultOf_l4 nf nf 0 0 signs pad
def g_X9_fault (nf : Nat) (signs : Int32) (pad : Nat → Int32) : Option (Int32) :=
  (g_X9_faultOf nf signs pad).bind fun q1 =>
  some q1
def g_X9_asNow_l2 (nf : Nat) : Nat → Int32 → (Nat → Int32) → (Nat → Int32) → Int32 → Int32 → Int32 → Option ((Nat → Int32) × Int32 × Int32 × Int32)
  | 0, _, _, _, _, _, _ => none
  | n + 1, x1, book, now, nights, townAt, townCell =>
    if 63 ≤ x1 then
      some (now, 0, (-6), (-6))
    else
      ck x1 63 <|
      ck x1 63 <|
      (g_X9_asNow_l2 nf n) (x1 + 1) book (upd now x1.toNatClampNeg (book x1.toNatClampNeg)) nights townAt townCell
def g_X9_asNow (nf : Nat) (book : Nat → Int32) (now : Nat → Int32) (nights : Int32) (townAt : Int32) (townCell : Int32) : Option ((Nat → Int32) × Int32 × Int32 × Int32) :=
  g_X9_asNow_l2 nf nf 0 book now nights townAt townCell
def g_X9_flying (nf : Nat) (p1 : Int32) (now : Nat → Int32) : Option (Int32) :=
  (g_X9_in nf p1 0 3).bind fun q1 =>
  if q1 = 0 then
    bz 0 <|
    some 0
  else
    ck 61 63 <|
    (g_X9_has nf (now (61 : Int32).toNatClampNeg) p1).bind fun q2 =>
    if q2 = 0 then
      bz 0 <|
      some 0
    else
      bz 1 <|
      some 1
def g_X9_turn (nf : Nat) (p1 : Int32) (p2 : Int32) (now : Nat → Int32) : Option (Int32 × (Nat → Int32)) :=
  (g_X9_flying nf p1 now).bind fun q1 =>
  if q1 = 0 then
    some (1, now)
  else
    ck (54 + p1) 63 <|
    if (now (54 + p1).toNatClampNeg) = p2 then
      some (2, now)
    else
      ck (54 + p1) 63 <|
      some (0, (upd now (54 + p1).toNatClampNeg p2))
def g_X9_catchIt (nf : Nat) (p1 : Int32) (now : Nat → Int32) : Option (Int32 × (Nat → Int32)) :=
  (g_X9_flying nf p1 now).bind fun q1 =>
  if q1 = 0 then
    some (1, now)
  else
    ck 61 63 <|
    ck 61 63 <|
    some (0, (upd now (61 : Int32).toNatClampNeg ((now (61 : Int32).toNatClampNeg) &&& (((1 : Int32) <<< (p1 &&& 31)) ^^^ ((-1) : Int32)))))
def g_X9_strew (nf : Nat) (p1 : Int32) (now : Nat → Int32) : Option (Int32 × (Nat → Int32)) :=
  ck (25 + p1) 63 <|
  if (now (25 + p1).toNatClampNeg) ≤ 2 then
    ck (25 + p1) 63 <|
    some (0, (upd now (25 + p1).toNatClampNeg 3))
  else
    some (3, now)
def g_X9_darn_b62 (nf : Nat) (s1 : Int32) (s2 : Int32) (now : Nat → Int32) : Option (Int32 × (Nat → Int32)) :=
  ck s1 63 <|
  some (0, (upd now s1.toNatClampNeg s2))
def g_X9_darn (nf : Nat) (p1 : Int32) (p2 : Int32) (now : Nat → Int32) : Option (Int32 × (Nat → Int32)) :=
  ck p1 63 <|
  if (now p1.toNatClampNeg) = 0 then
    ck (57 + p2) 63 <|
    if (now (57 + p2).toNatClampNeg) = 0 then
      some (5, now)
    else
      ck (57 + p2) 63 <|
      ck (57 + p2) 63 <|
      if p2 = 1 then
        g_X9_darn_b62 nf p1 2 (upd now (57 + p2).toNatClampNeg ((now (57 + p2).toNatClampNeg) - 1))
      else
        if p2 = 2 then
          g_X9_darn_b62 nf p1 3 (upd now (57 + p2).toNatClampNeg ((now (57 + p2).toNatClampNeg) - 1))
        else
          g_X9_darn_b62 nf p1 5 (upd now (57 + p2).toNatClampNeg ((now (57 + p2).toNatClampNeg) - 1))
  else
    some (4, now)
def g_X9_fly_b86 (nf : Nat) (x1 : Int32) (x3 : Int32) (x4 : Int32) (now : Nat → Int32) (nights : Int32) (townAt : Int32) (townCell : Int32) : Option ((Nat → Int32) × Int32 × Int32) :=
  ck (50 + x1) 63 <|
  ck (54 + x1) 63 <|
  ck x4 63 <|
  some ((upd (upd (upd now (50 + x1).toNatClampNeg x4) (54 + x1).toNatClampNeg x3) x4.toNatClampNeg 0), townAt, townCell)
def g_X9_fly_b116 (nf : Nat) (k2 : Int32 → Int32 → (Nat → Int32) → Int32 → Int32 → Int32 → Option ((Nat → Int32) × Int32 × Int32)) (x1 : Int32) (x2 : Int32) (now : Nat → Int32) (nights : Int32) (townAt : Int32) (townCell : Int32) : Option ((Nat → Int32) × Int32 × Int32) :=
  k2 x1 (x2 + 1) now nights townAt townCell
def g_X9_fly_l2 (nf : Nat) : Nat → Int32 → Int32 → (Nat → Int32) → Int32 → Int32 → Int32 → Option ((Nat → Int32) × Int32 × Int32)
  | 0, _, _, _, _, _, _ => none
  | n + 1, x1, x2, now, nights, townAt, townCell =>
    if 4 ≤ x2 then
      some (now, townAt, townCell)
    else
      ck (54 + x1) 63 <|
      ck (50 + x1) 63 <|
      (g_X9_beside nf (now (50 + x1).toNatClampNeg) (((now (54 + x1).toNatClampNeg) + x2) - ((now (54 + x1).toNatClampNeg) + x2) / 4 * 4)).bind fun q1 =>
      if q1 < 0 then
        g_X9_fly_b116 nf (g_X9_fly_l2 nf n) x1 x2 now nights townAt townCell
      else
        ck (25 + q1) 63 <|
        if (now (25 + q1).toNatClampNeg) = 0 then
          ck q1 63 <|
          if (now q1.toNatClampNeg) = 4 then
            if 0 ≤ townAt then
              g_X9_fly_b86 nf x1 (((now (54 + x1).toNatClampNeg) + x2) - ((now (54 + x1).toNatClampNeg) + x2) / 4 * 4) q1 now nights townAt townCell
            else
              g_X9_fly_b86 nf x1 (((now (54 + x1).toNatClampNeg) + x2) - ((now (54 + x1).toNatClampNeg) + x2) / 4 * 4) q1 now nights nights q1
          else
            g_X9_fly_b86 nf x1 (((now (54 + x1).toNatClampNeg) + x2) - ((now (54 + x1).toNatClampNeg) + x2) / 4 * 4) q1 now nights townAt townCell
        else
          g_X9_fly_b116 nf (g_X9_fly_l2 nf n) x1 x2 now nights townAt townCell
def g_X9_fly (nf : Nat) (p1 : Int32) (now : Nat → Int32) (nights : Int32) (townAt : Int32) (townCell : Int32) : Option ((Nat → Int32) × Int32 × Int32) :=
  g_X9_fly_l2 nf nf p1 0 now nights townAt townCell
def g_X9_endNight_b35 (nf : Nat) (k17 : Int32 → (Nat → Int32) → Int32 → Int32 → Int32 → Option (Int32 × (Nat → Int32) × Int32 × Int32 × Int32)) (x1 : Int32) (now : Nat → Int32) (nights : Int32) (townAt : Int32) (townCell : Int32) : Option (Int32 × (Nat → Int32) × Int32 × Int32 × Int32) :=
  k17 (x1 + 1) now nights townAt townCell
def g_X9_endNight_b76 (nf : Nat) (k43 : Int32 → (Nat → Int32) → Int32 → Int32 → Int32 → Option (Int32 × (Nat → Int32) × Int32 × Int32 × Int32)) (x1 : Int32) (s1 : Int32) (s2 : Int32) (s3 : Int32) (now : Nat → Int32) (nights : Int32) (townAt : Int32) (townCell : Int32) : Option (Int32 × (Nat → Int32) × Int32 × Int32 × Int32) :=
  ck s1 63 <|
  k43 (x1 + 1) (upd now s1.toNatClampNeg (s2 - s3)) nights townAt townCell
def g_X9_endNight_l43 (nf : Nat) : Nat → Int32 → (Nat → Int32) → Int32 → Int32 → Int32 → Option (Int32 × (Nat → Int32) × Int32 × Int32 × Int32)
  | 0, _, _, _, _, _ => none
  | n + 1, x1, now, nights, townAt, townCell =>
    if 25 ≤ x1 then
      ck 62 63 <|
      ck 62 63 <|
      some (0, (upd now (62 : Int32).toNatClampNeg ((now (62 : Int32).toNatClampNeg) + 1)), (nights + 1), townAt, townCell)
    else
      ck (25 + x1) 63 <|
      ck (25 + x1) 63 <|
      if (now (25 + x1).toNatClampNeg) ≤ 0 then
        g_X9_endNight_b76 nf (g_X9_endNight_l43 nf n) x1 (25 + x1) (now (25 + x1).toNatClampNeg) 0 now nights townAt townCell
      else
        g_X9_endNight_b76 nf (g_X9_endNight_l43 nf n) x1 (25 + x1) (now (25 + x1).toNatClampNeg) 1 now nights townAt townCell
def g_X9_endNight_l17 (nf : Nat) : Nat → Int32 → (Nat → Int32) → Int32 → Int32 → Int32 → Option (Int32 × (Nat → Int32) × Int32 × Int32 × Int32)
  | 0, _, _, _, _, _ => none
  | n + 1, x1, now, nights, townAt, townCell =>
    if 4 ≤ x1 then
      g_X9_endNight_l43 nf nf 0 now nights townAt townCell
    else
      (g_X9_flying nf x1 now).bind fun q1 =>
      if q1 = 0 then
        g_X9_endNight_b35 nf (g_X9_endNight_l17 nf n) x1 now nights townAt townCell
      else
        (g_X9_fly nf x1 now nights townAt townCell).bind fun q2 =>
        g_X9_endNight_b35 nf (g_X9_endNight_l17 nf n) x1 q2.1 nights q2.2.1 q2.2.2
def g_X9_endNight (nf : Nat) (now : Nat → Int32) (nights : Int32) (townAt : Int32) (townCell : Int32) : Option (Int32 × (Nat → Int32) × Int32 × Int32 × Int32) :=
  ck 62 63 <|
  if (now (62 : Int32).toNatClampNeg) = 99 then
    some (6, now, nights, townAt, townCell)
  else
    g_X9_endNight_l17 nf nf 0 now nights townAt townCell
def g_X9_nextAct (nf : Nat) (now : Nat → Int32) (pad : Nat → Int32) (nights : Int32) (townAt : Int32) (townCell : Int32) (at_ : Int32) : Option (Int32 × (Nat → Int32) × Int32 × Int32 × Int32 × Int32) :=
  ck at_ 60 <|
  if (pad at_.toNatClampNeg) = 46 then
    (g_X9_endNight nf now nights townAt townCell).bind fun q6 =>
    some (q6.1, q6.2.1, q6.2.2.1, q6.2.2.2.1, q6.2.2.2.2, (at_ + 1))
  else
    if (pad at_.toNatClampNeg) = 37 then
      ck ((at_ + 3) - 2) 60 <|
      ck ((at_ + 3) - 1) 60 <|
      (g_X9_darn nf ((pad ((at_ + 3) - 2).toNatClampNeg) - 97) ((pad ((at_ + 3) - 1).toNatClampNeg) - 48) now).bind fun q5 =>
      some (q5.1, q5.2, nights, townAt, townCell, (at_ + 3))
    else
      ck ((at_ + 2) - 1) 60 <|
      if (pad at_.toNatClampNeg) = 43 then
        (g_X9_strew nf ((pad ((at_ + 2) - 1).toNatClampNeg) - 97) now).bind fun q4 =>
        some (q4.1, q4.2, nights, townAt, townCell, (at_ + 2))
      else
        if (pad ((at_ + 2) - 1).toNatClampNeg) = 33 then
          (g_X9_catchIt nf ((pad at_.toNatClampNeg) - 65) now).bind fun q3 =>
          some (q3.1, q3.2, nights, townAt, townCell, (at_ + 2))
        else
          (g_X9_wayOf nf (pad ((at_ + 2) - 1).toNatClampNeg)).bind fun q1 =>
          (g_X9_turn nf ((pad at_.toNatClampNeg) - 65) q1 now).bind fun q2 =>
          some (q2.1, q2.2, nights, townAt, townCell, (at_ + 2))
def g_X9_goNights_l14 (nf : Nat) : Nat → (Nat → Int32) → (Nat → Int32) → Int32 → (Nat → Int32) → Int32 → Int32 → Int32 → Int32 → Int32 → Int32 → Option (Int32 × (Nat → Int32) × Int32 × Int32 × Int32 × Int32 × Int32 × Int32)
  | 0, _, _, _, _, _, _, _, _, _, _ => none
  | n + 1, book, now, signs, pad, nights, townAt, townCell, reason, acts, at_ =>
    if signs ≤ at_ then
      some ((-6), now, nights, townAt, townCell, reason, acts, at_)
    else
      (g_X9_nextAct nf now pad nights townAt townCell at_).bind fun q1 =>
      if q1.1 ≤ 0 then
        (g_X9_goNights_l14 nf n) book q1.2.1 signs pad q1.2.2.1 q1.2.2.2.1 q1.2.2.2.2.1 q1.1 (acts + 1) q1.2.2.2.2.2
      else
        some (acts, q1.2.1, q1.2.2.1, q1.2.2.2.1, q1.2.2.2.2.1, q1.1, acts, q1.2.2.2.2.2)
def g_X9_goNights (nf : Nat) (book : Nat → Int32) (now : Nat → Int32) (signs : Int32) (pad : Nat → Int32) (nights : Int32) (townAt : Int32) (townCell : Int32) (reason : Int32) (acts : Int32) (at_ : Int32) : Option (Int32 × (Nat → Int32) × Int32 × Int32 × Int32 × Int32 × Int32 × Int32) :=
  (g_X9_asNow nf book now nights townAt townCell).bind fun q2 =>
  g_X9_goNights_l14 nf nf book q2.1 signs pad q2.2.1 q2.2.2.1 q2.2.2.2 reason 0 0
def g_X9_judge_b35 (nf : Nat) (x2 : Int32) (book : Nat → Int32) (now : Nat → Int32) (signs : Int32) (pad : Nat → Int32) (nights : Int32) (townAt : Int32) (townCell : Int32) (reason : Int32) (acts : Int32) (at_ : Int32) : Option (Int32 × (Nat → Int32) × Int32 × Int32 × Int32 × Int32 × Int32 × Int32) :=
  some (x2, now, nights, townAt, townCell, reason, acts, at_)
def g_X9_judge (nf : Nat) (p1 : Int32) (book : Nat → Int32) (now : Nat → Int32) (signs : Int32) (pad : Nat → Int32) (nights : Int32) (townAt : Int32) (townCell : Int32) (reason : Int32) (acts : Int32) (at_ : Int32) : Option (Int32 × (Nat → Int32) × Int32 × Int32 × Int32 × Int32 × Int32 × Int32) :=
  (g_X9_in nf p1 0 1).bind fun q1 =>
  if q1 = 0 then
    some ((-2), now, nights, townAt, townCell, reason, acts, at_)
  else
    (g_X9_faultOf nf signs pad).bind fun q2 =>
    if q2 < 0 then
      (g_X9_goNights nf book now signs pad nights townAt townCell reason acts at_).bind fun q3 =>
      if q3.1 < 0 then
        g_X9_judge_b35 nf q3.1 book q3.2.1 signs pad q3.2.2.1 q3.2.2.2.1 q3.2.2.2.2.1 q3.2.2.2.2.2.1 q3.2.2.2.2.2.2.1 q3.2.2.2.2.2.2.2
      else
        if p1 = 0 then
          g_X9_judge_b35 nf q3.1 book q3.2.1 signs pad q3.2.2.1 q3.2.2.2.1 q3.2.2.2.2.1 q3.2.2.2.2.2.1 q3.2.2.2.2.2.2.1 q3.2.2.2.2.2.2.2
        else
          some (q3.2.2.2.2.2.1, q3.2.1, q3.2.2.1, q3.2.2.2.1, q3.2.2.2.2.1, q3.2.2.2.2.2.1, q3.2.2.2.2.2.2.1, q3.2.2.2.2.2.2.2)
    else
      some ((-5), now, nights, townAt, townCell, reason, acts, at_)
def g_X9_barOfNights_b14 (nf : Nat) (book : Nat → Int32) (now : Nat → Int32) (signs : Int32) (pad : Nat → Int32) (nights : Int32) (townAt : Int32) (townCell : Int32) (reason : Int32) (acts : Int32) (at_ : Int32) : Option (Int32 × (Nat → Int32) × Int32 × Int32 × Int32 × Int32 × Int32 × Int32) :=
  some ((-5), now, nights, townAt, townCell, reason, acts, at_)
def g_X9_barOfNights (nf : Nat) (book : Nat → Int32) (now : Nat → Int32) (signs : Int32) (pad : Nat → Int32) (nights : Int32) (townAt : Int32) (townCell : Int32) (reason : Int32) (acts : Int32) (at_ : Int32) : Option (Int32 × (Nat → Int32) × Int32 × Int32 × Int32 × Int32 × Int32 × Int32) :=
  (g_X9_faultOf nf signs pad).bind fun q1 =>
  if 0 ≤ q1 then
    g_X9_barOfNights_b14 nf book now signs pad nights townAt townCell reason acts at_
  else
    (g_X9_goNights nf book now signs pad nights townAt townCell reason acts at_).bind fun q2 =>
    if q2.1 < 0 then
      some (0, q2.2.1, q2.2.2.1, q2.2.2.2.1, q2.2.2.2.2.1, q2.2.2.2.2.2.1, q2.2.2.2.2.2.2.1, q2.2.2.2.2.2.2.2)
    else
      g_X9_barOfNights_b14 nf book q2.2.1 signs pad q2.2.2.1 q2.2.2.2.1 q2.2.2.2.2.1 q2.2.2.2.2.2.1 q2.2.2.2.2.2.2.1 q2.2.2.2.2.2.2.2
def g_X9_done_l12 (nf : Nat) : Nat → Int32 → (Nat → Int32) → (Nat → Int32) → Int32 → (Nat → Int32) → Int32 → Int32 → Int32 → Int32 → Int32 → Int32 → Option (Int32 × (Nat → Int32) × (Nat → Int32) × Int32 × Int32 × Int32 × Int32 × Int32 × Int32 × Int32)
  | 0, _, _, _, _, _, _, _, _, _, _, _ => none
  | n + 1, x1, book, now, signs, pad, nights, townAt, townCell, reason, acts, at_ =>
    if 63 ≤ x1 then
      some (acts, book, now, 0, nights, townAt, townCell, reason, acts, at_)
    else
      ck x1 63 <|
      ck x1 63 <|
      (g_X9_done_l12 nf n) (x1 + 1) (upd book x1.toNatClampNeg (now x1.toNatClampNeg)) now signs pad nights townAt townCell reason acts at_
def g_X9_done (nf : Nat) (book : Nat → Int32) (now : Nat → Int32) (signs : Int32) (pad : Nat → Int32) (nights : Int32) (townAt : Int32) (townCell : Int32) (reason : Int32) (acts : Int32) (at_ : Int32) : Option (Int32 × (Nat → Int32) × (Nat → Int32) × Int32 × Int32 × Int32 × Int32 × Int32 × Int32 × Int32) :=
  (g_X9_barOfNights nf book now signs pad nights townAt townCell reason acts at_).bind fun q1 =>
  if 0 ≤ q1.1 then
    g_X9_done_l12 nf nf 0 book q1.2.1 signs pad q1.2.2.1 q1.2.2.2.1 q1.2.2.2.2.1 q1.2.2.2.2.2.1 q1.2.2.2.2.2.2.1 q1.2.2.2.2.2.2.2
  else
    some ((-5), book, q1.2.1, signs, q1.2.2.1, q1.2.2.2.1, q1.2.2.2.2.1, q1.2.2.2.2.2.1, q1.2.2.2.2.2.2.1, q1.2.2.2.2.2.2.2)
def g_X9_behind (nf : Nat) (p1 : Int32) (p2 : Int32) (book : Nat → Int32) (now : Nat → Int32) (signs : Int32) (pad : Nat → Int32) (nights : Int32) (townAt : Int32) (townCell : Int32) (reason : Int32) (acts : Int32) (at_ : Int32) : Option (Int32 × (Nat → Int32) × Int32 × Int32 × Int32 × Int32 × Int32 × Int32) :=
  (g_X9_isCell nf p1).bind fun q1 =>
  if q1 = 0 then
    some ((-1), now, nights, townAt, townCell, reason, acts, at_)
  else
    (g_X9_in nf p2 0 1).bind fun q2 =>
    if q2 = 0 then
      some ((-2), now, nights, townAt, townCell, reason, acts, at_)
    else
      (g_X9_barOfNights nf book now signs pad nights townAt townCell reason acts at_).bind fun q3 =>
      if 0 ≤ q3.1 then
        ck ((25 * p2) + p1) 63 <|
        some ((q3.2.1 ((25 * p2) + p1).toNatClampNeg), q3.2.1, q3.2.2.1, q3.2.2.2.1, q3.2.2.2.2.1, q3.2.2.2.2.2.1, q3.2.2.2.2.2.2.1, q3.2.2.2.2.2.2.2)
      else
        some ((-5), q3.2.1, q3.2.2.1, q3.2.2.2.1, q3.2.2.2.2.1, q3.2.2.2.2.2.1, q3.2.2.2.2.2.2.1, q3.2.2.2.2.2.2.2)
def g_X9_flies (nf : Nat) (p1 : Int32) (p2 : Int32) (book : Nat → Int32) (now : Nat → Int32) (signs : Int32) (pad : Nat → Int32) (nights : Int32) (townAt : Int32) (townCell : Int32) (reason : Int32) (acts : Int32) (at_ : Int32) : Option (Int32 × (Nat → Int32) × Int32 × Int32 × Int32 × Int32 × Int32 × Int32) :=
  (g_X9_isThere nf p1 book).bind fun q1 =>
  if q1 = 0 then
    some ((-1), now, nights, townAt, townCell, reason, acts, at_)
  else
    (g_X9_in nf p2 0 1).bind fun q2 =>
    if q2 = 0 then
      some ((-2), now, nights, townAt, townCell, reason, acts, at_)
    else
      (g_X9_barOfNights nf book now signs pad nights townAt townCell reason acts at_).bind fun q3 =>
      if 0 ≤ q3.1 then
        (g_X9_flying nf p1 q3.2.1).bind fun q4 =>
        if q4 = 0 then
          some ((-6), q3.2.1, q3.2.2.1, q3.2.2.2.1, q3.2.2.2.2.1, q3.2.2.2.2.2.1, q3.2.2.2.2.2.2.1, q3.2.2.2.2.2.2.2)
        else
          ck ((50 + (4 * p2)) + p1) 63 <|
          some ((q3.2.1 ((50 + (4 * p2)) + p1).toNatClampNeg), q3.2.1, q3.2.2.1, q3.2.2.2.1, q3.2.2.2.2.1, q3.2.2.2.2.2.1, q3.2.2.2.2.2.2.1, q3.2.2.2.2.2.2.2)
      else
        some ((-5), q3.2.1, q3.2.2.1, q3.2.2.2.1, q3.2.2.2.2.1, q3.2.2.2.2.2.1, q3.2.2.2.2.2.2.1, q3.2.2.2.2.2.2.2)
def g_X9_countOf_b26 (nf : Nat) (k4 : Int32 → Int32 → Int32 → (Nat → Int32) → Option (Int32)) (x1 : Int32) (x3 : Int32) (s0 : Int32) (s1 : Int32) (now : Nat → Int32) : Option (Int32) :=
  k4 x1 (s0 + s1) (x3 + 1) now
def g_X9_countOf_l4 (nf : Nat) : Nat → Int32 → Int32 → Int32 → (Nat → Int32) → Option (Int32)
  | 0, _, _, _, _ => none
  | n + 1, x1, x2, x3, now =>
    if 25 ≤ x3 then
      some x2
    else
      ck x3 63 <|
      if (now x3.toNatClampNeg) = x1 then
        g_X9_countOf_b26 nf (g_X9_countOf_l4 nf n) x1 x3 x2 1 now
      else
        g_X9_countOf_b26 nf (g_X9_countOf_l4 nf n) x1 x3 x2 0 now
def g_X9_countOf (nf : Nat) (p1 : Int32) (now : Nat → Int32) : Option (Int32) :=
  g_X9_countOf_l4 nf nf p1 0 0 now
def g_X9_then (nf : Nat) (p1 : Int32) (book : Nat → Int32) (now : Nat → Int32) (signs : Int32) (pad : Nat → Int32) (nights : Int32) (townAt : Int32) (townCell : Int32) (reason : Int32) (acts : Int32) (at_ : Int32) : Option (Int32 × (Nat → Int32) × Int32 × Int32 × Int32 × Int32 × Int32 × Int32) :=
  (g_X9_in nf p1 0 4).bind fun q1 =>
  if q1 = 0 then
    some ((-2), now, nights, townAt, townCell, reason, acts, at_)
  else
    (g_X9_barOfNights nf book now signs pad nights townAt townCell reason acts at_).bind fun q2 =>
    if 0 ≤ q2.1 then
      if p1 = 0 then
        (g_X9_countOf nf 0 q2.2.1).bind fun q3 =>
        some (q3, q2.2.1, q2.2.2.1, q2.2.2.2.1, q2.2.2.2.2.1, q2.2.2.2.2.2.1, q2.2.2.2.2.2.2.1, q2.2.2.2.2.2.2.2)
      else
        if p1 = 1 then
          ck 58 63 <|
          ck 59 63 <|
          ck 60 63 <|
          some ((((q2.2.1 (58 : Int32).toNatClampNeg) + (q2.2.1 (59 : Int32).toNatClampNeg)) + (q2.2.1 (60 : Int32).toNatClampNeg)), q2.2.1, q2.2.2.1, q2.2.2.2.1, q2.2.2.2.2.1, q2.2.2.2.2.2.1, q2.2.2.2.2.2.2.1, q2.2.2.2.2.2.2.2)
        else
          if p1 = 2 then
            ck 62 63 <|
            some ((q2.2.1 (62 : Int32).toNatClampNeg), q2.2.1, q2.2.2.1, q2.2.2.2.1, q2.2.2.2.2.1, q2.2.2.2.2.2.1, q2.2.2.2.2.2.2.1, q2.2.2.2.2.2.2.2)
          else
            if p1 = 3 then
              some (q2.2.2.2.1, q2.2.1, q2.2.2.1, q2.2.2.2.1, q2.2.2.2.2.1, q2.2.2.2.2.2.1, q2.2.2.2.2.2.2.1, q2.2.2.2.2.2.2.2)
            else
              some (q2.2.2.2.2.1, q2.2.1, q2.2.2.1, q2.2.2.2.1, q2.2.2.2.2.1, q2.2.2.2.2.2.1, q2.2.2.2.2.2.2.1, q2.2.2.2.2.2.2.2)
    else
      some ((-5), q2.2.1, q2.2.2.1, q2.2.2.2.1, q2.2.2.2.2.1, q2.2.2.2.2.2.1, q2.2.2.2.2.2.2.1, q2.2.2.2.2.2.2.2)
def g_X9_layRoads_b48 (nf : Nat) (k2 : Int32 → Int32 → (Nat → Int32) → (Nat → Int32) → Option ((Nat → Int32))) (x1 : Int32) (x2 : Int32) (s1 : Int32) (s2 : Int32) (book : Nat → Int32) (cost : Nat → Int32) : Option ((Nat → Int32)) :=
  ck s1 25 <|
  k2 x1 (x2 + 1) book (upd cost s1.toNatClampNeg s2)
def g_X9_layRoads_b46 (nf : Nat) (k2 : Int32 → Int32 → (Nat → Int32) → (Nat → Int32) → Option ((Nat → Int32))) (x1 : Int32) (x2 : Int32) (s1 : Int32) (book : Nat → Int32) (cost : Nat → Int32) : Option ((Nat → Int32)) :=
  g_X9_layRoads_b48 nf k2 x1 x2 s1 1000000 book cost
def g_X9_layRoads_b166 (nf : Nat) (k57 : Int32 → (Nat → Int32) → (Nat → Int32) → Option ((Nat → Int32))) (k65 : Int32 → Int32 → (Nat → Int32) → (Nat → Int32) → Option ((Nat → Int32))) (k74 : Int32 → Int32 → Int32 → (Nat → Int32) → (Nat → Int32) → Option ((Nat → Int32))) (x2 : Int32) (x3 : Int32) (x4 : Int32) (book : Nat → Int32) (cost : Nat → Int32) : Option ((Nat → Int32)) :=
  k74 x2 x3 (x4 + 1) book cost
def g_X9_layRoads_b134 (nf : Nat) (k57 : Int32 → (Nat → Int32) → (Nat → Int32) → Option ((Nat → Int32))) (k65 : Int32 → Int32 → (Nat → Int32) → (Nat → Int32) → Option ((Nat → Int32))) (k74 : Int32 → Int32 → Int32 → (Nat → Int32) → (Nat → Int32) → Option ((Nat → Int32))) (x2 : Int32) (x3 : Int32) (x4 : Int32) (x5 : Int32) (s0 : Int32) (book : Nat → Int32) (cost : Nat → Int32) : Option ((Nat → Int32)) :=
  if 1000000 ≤ s0 then
    g_X9_layRoads_b166 nf k57 k65 k74 x2 x3 x4 book cost
  else
    ck x5 25 <|
    if (cost x5.toNatClampNeg) ≤ s0 then
      g_X9_layRoads_b166 nf k57 k65 k74 x2 x3 x4 book cost
    else
      ck x5 25 <|
      g_X9_layRoads_b166 nf k57 k65 k74 1 x3 x4 book (upd cost x5.toNatClampNeg s0)
def g_X9_layRoads_b104 (nf : Nat) (k57 : Int32 → (Nat → Int32) → (Nat → Int32) → Option ((Nat → Int32))) (k65 : Int32 → Int32 → (Nat → Int32) → (Nat → Int32) → Option ((Nat → Int32))) (k74 : Int32 → Int32 → Int32 → (Nat → Int32) → (Nat → Int32) → Option ((Nat → Int32))) (x2 : Int32) (x3 : Int32) (x4 : Int32) (x5 : Int32) (book : Nat → Int32) (cost : Nat → Int32) : Option ((Nat → Int32)) :=
  g_X9_layRoads_b134 nf k57 k65 k74 x2 x3 x4 x5 1000000 book cost
def g_X9_layRoads_b133 (nf : Nat) (k57 : Int32 → (Nat → Int32) → (Nat → Int32) → Option ((Nat → Int32))) (k65 : Int32 → Int32 → (Nat → Int32) → (Nat → Int32) → Option ((Nat → Int32))) (k74 : Int32 → Int32 → Int32 → (Nat → Int32) → (Nat → Int32) → Option ((Nat → Int32))) (x2 : Int32) (x3 : Int32) (x4 : Int32) (x5 : Int32) (s0 : Int32) (s1 : Int32) (book : Nat → Int32) (cost : Nat → Int32) : Option ((Nat → Int32)) :=
  g_X9_layRoads_b134 nf k57 k65 k74 x2 x3 x4 x5 (s0 + s1) book cost
def g_X9_layRoads_l74 (nf : Nat) (k57 : Int32 → (Nat → Int32) → (Nat → Int32) → Option ((Nat → Int32))) (k65 : Int32 → Int32 → (Nat → Int32) → (Nat → Int32) → Option ((Nat → Int32))) : Nat → Int32 → Int32 → Int32 → (Nat → Int32) → (Nat → Int32) → Option ((Nat → Int32))
  | 0, _, _, _, _, _ => none
  | n + 1, x2, x3, x4, book, cost =>
    if 4 ≤ x4 then
      k65 x2 (x3 + 1) book cost
    else
      (g_X9_beside nf x3 x4).bind fun q1 =>
      if q1 < 0 then
        g_X9_layRoads_b104 nf k57 k65 (g_X9_layRoads_l74 nf k57 k65 n) x2 x3 x4 q1 book cost
      else
        ck q1 63 <|
        if (book q1.toNatClampNeg) = 3 then
          g_X9_layRoads_b104 nf k57 k65 (g_X9_layRoads_l74 nf k57 k65 n) x2 x3 x4 q1 book cost
        else
          ck x3 25 <|
          ck q1 63 <|
          if (book q1.toNatClampNeg) = 0 then
            g_X9_layRoads_b133 nf k57 k65 (g_X9_layRoads_l74 nf k57 k65 n) x2 x3 x4 q1 ((cost x3.toNatClampNeg) + 1) 100 book cost
          else
            g_X9_layRoads_b133 nf k57 k65 (g_X9_layRoads_l74 nf k57 k65 n) x2 x3 x4 q1 ((cost x3.toNatClampNeg) + 1) 0 book cost
def g_X9_layRoads_l65 (nf : Nat) (k57 : Int32 → (Nat → Int32) → (Nat → Int32) → Option ((Nat → Int32))) : Nat → Int32 → Int32 → (Nat → Int32) → (Nat → Int32) → Option ((Nat → Int32))
  | 0, _, _, _, _ => none
  | n + 1, x2, x3, book, cost =>
    if 25 ≤ x3 then
      k57 x2 book cost
    else
      g_X9_layRoads_l74 nf k57 (g_X9_layRoads_l65 nf k57 n) nf x2 x3 0 book cost
def g_X9_layRoads_l57 (nf : Nat) : Nat → Int32 → (Nat → Int32) → (Nat → Int32) → Option ((Nat → Int32))
  | 0, _, _, _ => none
  | n + 1, x2, book, cost =>
    if x2 = 0 then
      some cost
    else
      g_X9_layRoads_l65 nf (g_X9_layRoads_l57 nf n) nf 0 0 book cost
def g_X9_layRoads_l2 (nf : Nat) : Nat → Int32 → Int32 → (Nat → Int32) → (Nat → Int32) → Option ((Nat → Int32))
  | 0, _, _, _, _ => none
  | n + 1, x1, x2, book, cost =>
    if 25 ≤ x2 then
      g_X9_layRoads_l57 nf nf 1 book cost
    else
      if x2 = x1 then
        ck x2 63 <|
        if (book x2.toNatClampNeg) = 3 then
          g_X9_layRoads_b46 nf (g_X9_layRoads_l2 nf n) x1 x2 x2 book cost
        else
          ck x2 63 <|
          if (book x2.toNatClampNeg) = 0 then
            g_X9_layRoads_b48 nf (g_X9_layRoads_l2 nf n) x1 x2 x2 100 book cost
          else
            g_X9_layRoads_b48 nf (g_X9_layRoads_l2 nf n) x1 x2 x2 0 book cost
      else
        g_X9_layRoads_b46 nf (g_X9_layRoads_l2 nf n) x1 x2 x2 book cost
def g_X9_layRoads (nf : Nat) (p1 : Int32) (book : Nat → Int32) (cost : Nat → Int32) : Option ((Nat → Int32)) :=
  g_X9_layRoads_l2 nf nf p1 0 book cost
def g_X9_road (nf : Nat) (p1 : Int32) (p2 : Int32) (book : Nat → Int32) (cost : Nat → Int32) : Option (Int32 × (Nat → Int32)) :=
  (g_X9_isCell nf p1).bind fun q1 =>
  if q1 = 0 then
    some ((-1), cost)
  else
    (g_X9_isCell nf p2).bind fun q2 =>
    if q2 = 0 then
      some ((-1), cost)
    else
      (g_X9_layRoads nf p1 book cost).bind fun q3 =>
      ck p2 25 <|
      if 100 ≤ (q3 p2.toNatClampNeg) then
        some ((-6), q3)
      else
        ck p2 25 <|
        some ((q3 p2.toNatClampNeg), q3)
def g_X9_whole (nf : Nat) (p1 : Int32) (p2 : Int32) (p3 : Int32) (book : Nat → Int32) (cost : Nat → Int32) : Option (Int32 × (Nat → Int32)) :=
  (g_X9_isCell nf p1).bind fun q1 =>
  if q1 = 0 then
    some ((-1), cost)
  else
    (g_X9_isCell nf p2).bind fun q2 =>
    if q2 = 0 then
      some ((-1), cost)
    else
      (g_X9_in nf p3 0 1).bind fun q3 =>
      if q3 = 0 then
        some ((-2), cost)
      else
        (g_X9_layRoads nf p1 book cost).bind fun q4 =>
        ck p2 25 <|
        if (q4 p2.toNatClampNeg) < 1000000 then
          if p3 = 0 then
            ck p2 25 <|
            some (((q4 p2.toNatClampNeg) / 100), q4)
          else
            ck p2 25 <|
            some (((q4 p2.toNatClampNeg) - (q4 p2.toNatClampNeg) / 100 * 100), q4)
        else
          some ((-6), q4)
def g_X9_isSafe_b37 (nf : Nat) (k5 : Int32 → Int32 → Int32 → Int32 → (Nat → Int32) → Option (Int32)) (x1 : Int32) (x2 : Int32) (x4 : Int32) (s0 : Int32) (s1 : Int32) (book : Nat → Int32) : Option (Int32) :=
  k5 x1 x2 (s0 ||| s1) (x4 + 1) book
def g_X9_isSafe_b118 (nf : Nat) (k48 : Int32 → Int32 → Int32 → Int32 → (Nat → Int32) → Option (Int32)) (k60 : Int32 → Int32 → Int32 → Int32 → Int32 → (Nat → Int32) → Option (Int32)) (k70 : Int32 → Int32 → Int32 → Int32 → Int32 → Int32 → (Nat → Int32) → Option (Int32)) (x1 : Int32) (x2 : Int32) (x4 : Int32) (x5 : Int32) (x6 : Int32) (s0 : Int32) (s1 : Int32) (book : Nat → Int32) : Option (Int32) :=
  k70 x1 x2 (s0 ||| s1) x4 x5 (x6 + 1) book
def g_X9_isSafe_b117 (nf : Nat) (k48 : Int32 → Int32 → Int32 → Int32 → (Nat → Int32) → Option (Int32)) (k60 : Int32 → Int32 → Int32 → Int32 → Int32 → (Nat → Int32) → Option (Int32)) (k70 : Int32 → Int32 → Int32 → Int32 → Int32 → Int32 → (Nat → Int32) → Option (Int32)) (x1 : Int32) (x2 : Int32) (x4 : Int32) (x5 : Int32) (x6 : Int32) (s0 : Int32) (book : Nat → Int32) : Option (Int32) :=
  g_X9_isSafe_b118 nf k48 k60 k70 x1 x2 x4 x5 x6 s0 0 book
def g_X9_isSafe_l70 (nf : Nat) (k48 : Int32 → Int32 → Int32 → Int32 → (Nat → Int32) → Option (Int32)) (k60 : Int32 → Int32 → Int32 → Int32 → Int32 → (Nat → Int32) → Option (Int32)) : Nat → Int32 → Int32 → Int32 → Int32 → Int32 → Int32 → (Nat → Int32) → Option (Int32)
  | 0, _, _, _, _, _, _, _ => none
  | n + 1, x1, x2, x3, x4, x5, x6, book =>
    if 4 ≤ x6 then
      k60 x1 x2 x3 x4 (x5 + 1) book
    else
      (g_X9_beside nf x5 x6).bind fun q3 =>
      (g_X9_has nf x4 x5).bind fun q4 =>
      if q4 = 0 then
        g_X9_isSafe_b117 nf k48 k60 (g_X9_isSafe_l70 nf k48 k60 n) x1 x2 x4 x5 x6 x3 book
      else
        if q3 < 0 then
          g_X9_isSafe_b117 nf k48 k60 (g_X9_isSafe_l70 nf k48 k60 n) x1 x2 x4 x5 x6 x3 book
        else
          (g_X9_has nf x2 q3).bind fun q5 =>
          if q5 = 0 then
            g_X9_isSafe_b118 nf k48 k60 (g_X9_isSafe_l70 nf k48 k60 n) x1 x2 x4 x5 x6 x3 ((1 : Int32) <<< (q3 &&& 31)) book
          else
            g_X9_isSafe_b117 nf k48 k60 (g_X9_isSafe_l70 nf k48 k60 n) x1 x2 x4 x5 x6 x3 book
def g_X9_isSafe_l60 (nf : Nat) (k48 : Int32 → Int32 → Int32 → Int32 → (Nat → Int32) → Option (Int32)) : Nat → Int32 → Int32 → Int32 → Int32 → Int32 → (Nat → Int32) → Option (Int32)
  | 0, _, _, _, _, _, _ => none
  | n + 1, x1, x2, x3, x4, x5, book =>
    if 25 ≤ x5 then
      k48 x1 x2 x3 x4 book
    else
      g_X9_isSafe_l70 nf k48 (g_X9_isSafe_l60 nf k48 n) nf x1 x2 x3 x4 x5 0 book
def g_X9_isSafe_l48 (nf : Nat) : Nat → Int32 → Int32 → Int32 → Int32 → (Nat → Int32) → Option (Int32)
  | 0, _, _, _, _, _ => none
  | n + 1, x1, x2, x3, x4, book =>
    if x3 = x4 then
      (g_X9_has nf x3 x1).bind fun q2 =>
      if q2 = 0 then
        bz 1 <|
        some 1
      else
        bz 0 <|
        some 0
    else
      g_X9_isSafe_l60 nf (g_X9_isSafe_l48 nf n) nf x1 x2 x3 x3 0 book
def g_X9_isSafe_l5 (nf : Nat) : Nat → Int32 → Int32 → Int32 → Int32 → (Nat → Int32) → Option (Int32)
  | 0, _, _, _, _, _ => none
  | n + 1, x1, x2, x3, x4, book =>
    if 4 ≤ x4 then
      g_X9_isSafe_l48 nf nf x1 x2 x3 (-1) book
    else
      (g_X9_isThere nf x4 book).bind fun q1 =>
      if q1 = 0 then
        g_X9_isSafe_b37 nf (g_X9_isSafe_l5 nf n) x1 x2 x4 x3 0 book
      else
        ck (50 + x4) 63 <|
        g_X9_isSafe_b37 nf (g_X9_isSafe_l5 nf n) x1 x2 x4 x3 ((1 : Int32) <<< ((book (50 + x4).toNatClampNeg) &&& 31)) book
def g_X9_isSafe (nf : Nat) (p1 : Int32) (p2 : Int32) (book : Nat → Int32) : Option (Int32) :=
  g_X9_isSafe_l5 nf nf p1 p2 0 0 book
def g_X9_bits_l4 (nf : Nat) : Nat → Int32 → Int32 → Int32 → Option (Int32)
  | 0, _, _, _ => none
  | n + 1, x0, x1, x2 =>
    if 25 ≤ x2 then
      some x1
    else
      (g_X9_bits_l4 nf n) x0 (x1 + ((x0 >>> (x2 &&& 31)) &&& (1 : Int32))) (x2 + 1)
def g_X9_bits (nf : Nat) (p0 : Int32) : Option (Int32) :=
  g_X9_bits_l4 nf nf p0 0 0
def g_X9_tryShut_b221 (nf : Nat) (k23 : Int32 → Int32 → Int32 → Int32 → (Nat → Int32) → Option (Int32)) (k67 : Int32 → Int32 → Int32 → Int32 → Int32 → (Nat → Int32) → Option (Int32)) (k123 : Int32 → Int32 → Int32 → Int32 → Int32 → Int32 → Int32 → (Nat → Int32) → Option (Int32)) (k177 : Int32 → Int32 → Int32 → Int32 → Int32 → Int32 → Int32 → Int32 → Int32 → (Nat → Int32) → Option (Int32)) (x1 : Int32) (x2 : Int32) (x3 : Int32) (x4 : Int32) (x5 : Int32) (x6 : Int32) (x7 : Int32) (x8 : Int32) (x9 : Int32) (book : Nat → Int32) : Option (Int32) :=
  k177 x1 x2 x3 x4 x5 x6 x7 x8 (x9 + 1) book
def g_X9_tryShut_b227 (nf : Nat) (k23 : Int32 → Int32 → Int32 → Int32 → (Nat → Int32) → Option (Int32)) (k67 : Int32 → Int32 → Int32 → Int32 → Int32 → (Nat → Int32) → Option (Int32)) (k123 : Int32 → Int32 → Int32 → Int32 → Int32 → Int32 → Int32 → (Nat → Int32) → Option (Int32)) (x1 : Int32) (x2 : Int32) (x3 : Int32) (x4 : Int32) (x5 : Int32) (x6 : Int32) (x7 : Int32) (book : Nat → Int32) : Option (Int32) :=
  k123 x1 x2 x3 x4 x5 x6 (x7 + 1) book
def g_X9_tryShut_l177 (nf : Nat) (k23 : Int32 → Int32 → Int32 → Int32 → (Nat → Int32) → Option (Int32)) (k67 : Int32 → Int32 → Int32 → Int32 → Int32 → (Nat → Int32) → Option (Int32)) (k123 : Int32 → Int32 → Int32 → Int32 → Int32 → Int32 → Int32 → (Nat → Int32) → Option (Int32)) : Nat → Int32 → Int32 → Int32 → Int32 → Int32 → Int32 → Int32 → Int32 → Int32 → (Nat → Int32) → Option (Int32)
  | 0, _, _, _, _, _, _, _, _, _, _ => none
  | n + 1, x1, x2, x3, x4, x5, x6, x7, x8, x9, book =>
    if x7 ≤ x9 then
      g_X9_tryShut_b227 nf k23 k67 k123 x1 x2 x3 x4 x5 x6 x7 book
    else
      if x3 ≤ 3 then
        g_X9_tryShut_b227 nf k23 k67 k123 x1 x2 x3 x4 x5 x6 x7 book
      else
        (g_X9_has nf x2 x9).bind fun q7 =>
        if q7 = 0 then
          g_X9_tryShut_b221 nf k23 k67 k123 (g_X9_tryShut_l177 nf k23 k67 k123 n) x1 x2 x3 x4 x5 x6 x7 x8 x9 book
        else
          (g_X9_isSafe nf x1 (x8 ||| ((1 : Int32) <<< (x9 &&& 31))) book).bind fun q8 =>
          if q8 = 0 then
            g_X9_tryShut_b221 nf k23 k67 k123 (g_X9_tryShut_l177 nf k23 k67 k123 n) x1 x2 x3 x4 x5 x6 x7 x8 x9 book
          else
            some (x8 ||| ((1 : Int32) <<< (x9 &&& 31)))
def g_X9_tryShut_b174 (nf : Nat) (k23 : Int32 → Int32 → Int32 → Int32 → (Nat → Int32) → Option (Int32)) (k67 : Int32 → Int32 → Int32 → Int32 → Int32 → (Nat → Int32) → Option (Int32)) (k123 : Int32 → Int32 → Int32 → Int32 → Int32 → Int32 → Int32 → (Nat → Int32) → Option (Int32)) (x1 : Int32) (x2 : Int32) (x3 : Int32) (x4 : Int32) (x5 : Int32) (x6 : Int32) (x7 : Int32) (x8 : Int32) (book : Nat → Int32) : Option (Int32) :=
  g_X9_tryShut_l177 nf k23 k67 k123 nf x1 x2 x3 x4 x5 x6 x7 x8 0 book
def g_X9_tryShut_b233 (nf : Nat) (k23 : Int32 → Int32 → Int32 → Int32 → (Nat → Int32) → Option (Int32)) (k67 : Int32 → Int32 → Int32 → Int32 → Int32 → (Nat → Int32) → Option (Int32)) (x1 : Int32) (x2 : Int32) (x3 : Int32) (x4 : Int32) (x5 : Int32) (book : Nat → Int32) : Option (Int32) :=
  k67 x1 x2 x3 x4 (x5 + 1) book
def g_X9_tryShut_l123 (nf : Nat) (k23 : Int32 → Int32 → Int32 → Int32 → (Nat → Int32) → Option (Int32)) (k67 : Int32 → Int32 → Int32 → Int32 → Int32 → (Nat → Int32) → Option (Int32)) : Nat → Int32 → Int32 → Int32 → Int32 → Int32 → Int32 → Int32 → (Nat → Int32) → Option (Int32)
  | 0, _, _, _, _, _, _, _, _ => none
  | n + 1, x1, x2, x3, x4, x5, x6, x7, book =>
    if x5 ≤ x7 then
      g_X9_tryShut_b233 nf k23 k67 x1 x2 x3 x4 x5 book
    else
      if x3 ≤ 2 then
        g_X9_tryShut_b233 nf k23 k67 x1 x2 x3 x4 x5 book
      else
        (g_X9_has nf x2 x7).bind fun q5 =>
        if q5 = 0 then
          g_X9_tryShut_b227 nf k23 k67 (g_X9_tryShut_l123 nf k23 k67 n) x1 x2 x3 x4 x5 x6 x7 book
        else
          if x3 = 3 then
            (g_X9_isSafe nf x1 (x6 ||| ((1 : Int32) <<< (x7 &&& 31))) book).bind fun q6 =>
            if q6 = 0 then
              g_X9_tryShut_b174 nf k23 k67 (g_X9_tryShut_l123 nf k23 k67 n) x1 x2 x3 x4 x5 x6 x7 (x6 ||| ((1 : Int32) <<< (x7 &&& 31))) book
            else
              some (x6 ||| ((1 : Int32) <<< (x7 &&& 31)))
          else
            g_X9_tryShut_b174 nf k23 k67 (g_X9_tryShut_l123 nf k23 k67 n) x1 x2 x3 x4 x5 x6 x7 (x6 ||| ((1 : Int32) <<< (x7 &&& 31))) book
def g_X9_tryShut_b120 (nf : Nat) (k23 : Int32 → Int32 → Int32 → Int32 → (Nat → Int32) → Option (Int32)) (k67 : Int32 → Int32 → Int32 → Int32 → Int32 → (Nat → Int32) → Option (Int32)) (x1 : Int32) (x2 : Int32) (x3 : Int32) (x4 : Int32) (x5 : Int32) (x6 : Int32) (book : Nat → Int32) : Option (Int32) :=
  g_X9_tryShut_l123 nf k23 k67 nf x1 x2 x3 x4 x5 x6 0 book
def g_X9_tryShut_b239 (nf : Nat) (k23 : Int32 → Int32 → Int32 → Int32 → (Nat → Int32) → Option (Int32)) (x1 : Int32) (x2 : Int32) (x3 : Int32) (x4 : Int32) (book : Nat → Int32) : Option (Int32) :=
  k23 x1 x2 x3 (x4 + 1) book
def g_X9_tryShut_l67 (nf : Nat) (k23 : Int32 → Int32 → Int32 → Int32 → (Nat → Int32) → Option (Int32)) : Nat → Int32 → Int32 → Int32 → Int32 → Int32 → (Nat → Int32) → Option (Int32)
  | 0, _, _, _, _, _, _ => none
  | n + 1, x1, x2, x3, x4, x5, book =>
    if x4 ≤ x5 then
      g_X9_tryShut_b239 nf k23 x1 x2 x3 x4 book
    else
      if x3 ≤ 1 then
        g_X9_tryShut_b239 nf k23 x1 x2 x3 x4 book
      else
        (g_X9_has nf x2 x5).bind fun q3 =>
        if q3 = 0 then
          g_X9_tryShut_b233 nf k23 (g_X9_tryShut_l67 nf k23 n) x1 x2 x3 x4 x5 book
        else
          if x3 = 2 then
            (g_X9_isSafe nf x1 (((1 : Int32) <<< (x4 &&& 31)) ||| ((1 : Int32) <<< (x5 &&& 31))) book).bind fun q4 =>
            if q4 = 0 then
              g_X9_tryShut_b120 nf k23 (g_X9_tryShut_l67 nf k23 n) x1 x2 x3 x4 x5 (((1 : Int32) <<< (x4 &&& 31)) ||| ((1 : Int32) <<< (x5 &&& 31))) book
            else
              some (((1 : Int32) <<< (x4 &&& 31)) ||| ((1 : Int32) <<< (x5 &&& 31)))
          else
            g_X9_tryShut_b120 nf k23 (g_X9_tryShut_l67 nf k23 n) x1 x2 x3 x4 x5 (((1 : Int32) <<< (x4 &&& 31)) ||| ((1 : Int32) <<< (x5 &&& 31))) book
def g_X9_tryShut_b64 (nf : Nat) (k23 : Int32 → Int32 → Int32 → Int32 → (Nat → Int32) → Option (Int32)) (x1 : Int32) (x2 : Int32) (x3 : Int32) (x4 : Int32) (book : Nat → Int32) : Option (Int32) :=
  g_X9_tryShut_l67 nf k23 nf x1 x2 x3 x4 0 book
def g_X9_tryShut_l23 (nf : Nat) : Nat → Int32 → Int32 → Int32 → Int32 → (Nat → Int32) → Option (Int32)
  | 0, _, _, _, _, _ => none
  | n + 1, x1, x2, x3, x4, book =>
    if 25 ≤ x4 then
      some (-6)
    else
      (g_X9_has nf x2 x4).bind fun q1 =>
      if q1 = 0 then
        g_X9_tryShut_b239 nf (g_X9_tryShut_l23 nf n) x1 x2 x3 x4 book
      else
        if x3 = 1 then
          (g_X9_isSafe nf x1 ((1 : Int32) <<< (x4 &&& 31)) book).bind fun q2 =>
          if q2 = 0 then
            g_X9_tryShut_b64 nf (g_X9_tryShut_l23 nf n) x1 x2 x3 x4 book
          else
            some ((1 : Int32) <<< (x4 &&& 31))
        else
          g_X9_tryShut_b64 nf (g_X9_tryShut_l23 nf n) x1 x2 x3 x4 book
def g_X9_tryShut (nf : Nat) (p1 : Int32) (p2 : Int32) (p3 : Int32) (book : Nat → Int32) : Option (Int32) :=
  if p3 = 0 then
    (g_X9_isSafe nf p1 0 book).bind fun q9 =>
    if q9 = 0 then
      some (-6)
    else
      some 0
  else
    g_X9_tryShut_l23 nf nf p1 p2 p3 0 book
def g_X9_camphored_b67 (nf : Nat) (k33 : Int32 → Int32 → Int32 → Int32 → (Nat → Int32) → Option (Int32)) (x1 : Int32) (x2 : Int32) (x4 : Int32) (s0 : Int32) (s1 : Int32) (book : Nat → Int32) : Option (Int32) :=
  k33 x1 x2 (s0 &&& s1) (x4 + 1) book
def g_X9_camphored_b131 (nf : Nat) (x4 : Int32) (book : Nat → Int32) : Option (Int32) :=
  some x4
def g_X9_camphored_b121 (nf : Nat) (x2 : Int32) (x4 : Int32) (book : Nat → Int32) : Option (Int32) :=
  if x4 < 0 then
    g_X9_camphored_b131 nf x4 book
  else
    if x2 = 1 then
      g_X9_camphored_b131 nf x4 book
    else
      (g_X9_bits nf x4).bind fun q4 =>
      some q4
def g_X9_camphored_l94 (nf : Nat) : Nat → Int32 → Int32 → Int32 → Int32 → Int32 → (Nat → Int32) → Option (Int32)
  | 0, _, _, _, _, _, _ => none
  | n + 1, x1, x2, x3, x4, x5, book =>
    if 5 ≤ x5 then
      g_X9_camphored_b121 nf x2 x4 book
    else
      if 0 ≤ x4 then
        g_X9_camphored_b121 nf x2 x4 book
      else
        (g_X9_tryShut nf x1 x3 x5 book).bind fun q3 =>
        (g_X9_camphored_l94 nf n) x1 x2 x3 q3 (x5 + 1) book
def g_X9_camphored_l33 (nf : Nat) : Nat → Int32 → Int32 → Int32 → Int32 → (Nat → Int32) → Option (Int32)
  | 0, _, _, _, _, _ => none
  | n + 1, x1, x2, x3, x4, book =>
    if 4 ≤ x4 then
      (g_X9_isSafe nf x1 x3 book).bind fun q1 =>
      if q1 = 0 then
        some (-6)
      else
        g_X9_camphored_l94 nf nf x1 x2 x3 (-6) 0 book
    else
      (g_X9_isThere nf x4 book).bind fun q2 =>
      if q2 = 0 then
        g_X9_camphored_b67 nf (g_X9_camphored_l33 nf n) x1 x2 x4 x3 (-1) book
      else
        ck (50 + x4) 63 <|
        g_X9_camphored_b67 nf (g_X9_camphored_l33 nf n) x1 x2 x4 x3 (((1 : Int32) <<< ((book (50 + x4).toNatClampNeg) &&& 31)) ^^^ ((-1) : Int32)) book
def g_X9_camphored (nf : Nat) (p1 : Int32) (p2 : Int32) (book : Nat → Int32) : Option (Int32) :=
  (g_X9_isCell nf p1).bind fun q5 =>
  if q5 = 0 then
    some (-1)
  else
    (g_X9_in nf p2 0 1).bind fun q6 =>
    if q6 = 0 then
      some (-2)
    else
      g_X9_camphored_l33 nf nf p1 p2 ((33554431 : Int32) &&& (((1 : Int32) <<< (p1 &&& 31)) ^^^ ((-1) : Int32))) 0 book
def g_X9_threadOf_l7 (nf : Nat) : Nat → Int32 → Int32 → Int32 → Option (Int32)
  | 0, _, _, _ => none
  | n + 1, x2, x3, x4 =>
    if x4 ≤ x2 then
      some ((x3 - x3 / 3 * 3) + 1)
    else
      (g_X9_threadOf_l7 nf n) x2 (x3 / 3) (x4 + (-1))
def g_X9_threadOf (nf : Nat) (p0 : Int32) (p1 : Int32) (p2 : Int32) : Option (Int32) :=
  g_X9_threadOf_l7 nf nf p2 p0 (p1 - 1)
def g_X9_canDarn_b122 (nf : Nat) (k5 : Int32 → Int32 → Int32 → Int32 → (Nat → Int32) → (Nat → Int32) → Option (Int32)) (k27 : Int32 → Int32 → Int32 → Int32 → Int32 → Int32 → (Nat → Int32) → (Nat → Int32) → Option (Int32)) (k82 : Int32 → Int32 → Int32 → Int32 → Int32 → Int32 → Int32 → Int32 → (Nat → Int32) → (Nat → Int32) → Option (Int32)) (x1 : Int32) (x2 : Int32) (x4 : Int32) (x5 : Int32) (x6 : Int32) (x7 : Int32) (x8 : Int32) (s0 : Int32) (book : Nat → Int32) (hole : Nat → Int32) : Option (Int32) :=
  k82 x1 x2 s0 x4 x5 x6 x7 (x8 + 1) book hole
def g_X9_canDarn_b117 (nf : Nat) (k5 : Int32 → Int32 → Int32 → Int32 → (Nat → Int32) → (Nat → Int32) → Option (Int32)) (k27 : Int32 → Int32 → Int32 → Int32 → Int32 → Int32 → (Nat → Int32) → (Nat → Int32) → Option (Int32)) (k82 : Int32 → Int32 → Int32 → Int32 → Int32 → Int32 → Int32 → Int32 → (Nat → Int32) → (Nat → Int32) → Option (Int32)) (x1 : Int32) (x2 : Int32) (x4 : Int32) (x5 : Int32) (x6 : Int32) (x7 : Int32) (x8 : Int32) (book : Nat → Int32) (hole : Nat → Int32) : Option (Int32) :=
  g_X9_canDarn_b122 nf k5 k27 k82 x1 x2 x4 x5 x6 x7 x8 1 book hole
def g_X9_canDarn_b121 (nf : Nat) (k5 : Int32 → Int32 → Int32 → Int32 → (Nat → Int32) → (Nat → Int32) → Option (Int32)) (k27 : Int32 → Int32 → Int32 → Int32 → Int32 → Int32 → (Nat → Int32) → (Nat → Int32) → Option (Int32)) (k82 : Int32 → Int32 → Int32 → Int32 → Int32 → Int32 → Int32 → Int32 → (Nat → Int32) → (Nat → Int32) → Option (Int32)) (x1 : Int32) (x2 : Int32) (x4 : Int32) (x5 : Int32) (x6 : Int32) (x7 : Int32) (x8 : Int32) (book : Nat → Int32) (hole : Nat → Int32) : Option (Int32) :=
  g_X9_canDarn_b122 nf k5 k27 k82 x1 x2 x4 x5 x6 x7 x8 0 book hole
def g_X9_canDarn_l82 (nf : Nat) (k5 : Int32 → Int32 → Int32 → Int32 → (Nat → Int32) → (Nat → Int32) → Option (Int32)) (k27 : Int32 → Int32 → Int32 → Int32 → Int32 → Int32 → (Nat → Int32) → (Nat → Int32) → Option (Int32)) : Nat → Int32 → Int32 → Int32 → Int32 → Int32 → Int32 → Int32 → Int32 → (Nat → Int32) → (Nat → Int32) → Option (Int32)
  | 0, _, _, _, _, _, _, _, _, _, _ => none
  | n + 1, x1, x2, x3, x4, x5, x6, x7, x8, book, hole =>
    if x4 ≤ x8 then
      k27 x1 x2 x3 x4 x5 (x6 + 1) book hole
    else
      if x3 = 0 then
        g_X9_canDarn_b121 nf k5 k27 (g_X9_canDarn_l82 nf k5 k27 n) x1 x2 x4 x5 x6 x7 x8 book hole
      else
        ck x8 25 <|
        if (hole x8.toNatClampNeg) = x7 then
          (g_X9_threadOf nf x1 x2 x8).bind fun q3 =>
          if q3 = x5 then
            g_X9_canDarn_b121 nf k5 k27 (g_X9_canDarn_l82 nf k5 k27 n) x1 x2 x4 x5 x6 x7 x8 book hole
          else
            g_X9_canDarn_b117 nf k5 k27 (g_X9_canDarn_l82 nf k5 k27 n) x1 x2 x4 x5 x6 x7 x8 book hole
        else
          g_X9_canDarn_b117 nf k5 k27 (g_X9_canDarn_l82 nf k5 k27 n) x1 x2 x4 x5 x6 x7 x8 book hole
def g_X9_canDarn_b78 (nf : Nat) (k5 : Int32 → Int32 → Int32 → Int32 → (Nat → Int32) → (Nat → Int32) → Option (Int32)) (k27 : Int32 → Int32 → Int32 → Int32 → Int32 → Int32 → (Nat → Int32) → (Nat → Int32) → Option (Int32)) (x1 : Int32) (x2 : Int32) (x4 : Int32) (x5 : Int32) (x6 : Int32) (x7 : Int32) (s0 : Int32) (book : Nat → Int32) (hole : Nat → Int32) : Option (Int32) :=
  g_X9_canDarn_l82 nf k5 k27 nf x1 x2 s0 x4 x5 x6 x7 0 book hole
def g_X9_canDarn_b73 (nf : Nat) (k5 : Int32 → Int32 → Int32 → Int32 → (Nat → Int32) → (Nat → Int32) → Option (Int32)) (k27 : Int32 → Int32 → Int32 → Int32 → Int32 → Int32 → (Nat → Int32) → (Nat → Int32) → Option (Int32)) (x1 : Int32) (x2 : Int32) (x4 : Int32) (x5 : Int32) (x6 : Int32) (x7 : Int32) (book : Nat → Int32) (hole : Nat → Int32) : Option (Int32) :=
  g_X9_canDarn_b78 nf k5 k27 x1 x2 x4 x5 x6 x7 1 book hole
def g_X9_canDarn_b77 (nf : Nat) (k5 : Int32 → Int32 → Int32 → Int32 → (Nat → Int32) → (Nat → Int32) → Option (Int32)) (k27 : Int32 → Int32 → Int32 → Int32 → Int32 → Int32 → (Nat → Int32) → (Nat → Int32) → Option (Int32)) (x1 : Int32) (x2 : Int32) (x4 : Int32) (x5 : Int32) (x6 : Int32) (x7 : Int32) (book : Nat → Int32) (hole : Nat → Int32) : Option (Int32) :=
  g_X9_canDarn_b78 nf k5 k27 x1 x2 x4 x5 x6 x7 0 book hole
def g_X9_canDarn_l27 (nf : Nat) (k5 : Int32 → Int32 → Int32 → Int32 → (Nat → Int32) → (Nat → Int32) → Option (Int32)) : Nat → Int32 → Int32 → Int32 → Int32 → Int32 → Int32 → (Nat → Int32) → (Nat → Int32) → Option (Int32)
  | 0, _, _, _, _, _, _, _, _ => none
  | n + 1, x1, x2, x3, x4, x5, x6, book, hole =>
    if 4 ≤ x6 then
      k5 x1 x2 x3 (x4 + 1) book hole
    else
      ck x4 25 <|
      (g_X9_beside nf (hole x4.toNatClampNeg) x6).bind fun q2 =>
      if x3 = 0 then
        g_X9_canDarn_b77 nf k5 (g_X9_canDarn_l27 nf k5 n) x1 x2 x4 x5 x6 q2 book hole
      else
        if q2 < 0 then
          g_X9_canDarn_b73 nf k5 (g_X9_canDarn_l27 nf k5 n) x1 x2 x4 x5 x6 q2 book hole
        else
          if x5 = 2 then
            ck q2 63 <|
            if (book q2.toNatClampNeg) = 4 then
              g_X9_canDarn_b77 nf k5 (g_X9_canDarn_l27 nf k5 n) x1 x2 x4 x5 x6 q2 book hole
            else
              g_X9_canDarn_b73 nf k5 (g_X9_canDarn_l27 nf k5 n) x1 x2 x4 x5 x6 q2 book hole
          else
            g_X9_canDarn_b73 nf k5 (g_X9_canDarn_l27 nf k5 n) x1 x2 x4 x5 x6 q2 book hole
def g_X9_canDarn_l5 (nf : Nat) : Nat → Int32 → Int32 → Int32 → Int32 → (Nat → Int32) → (Nat → Int32) → Option (Int32)
  | 0, _, _, _, _, _, _ => none
  | n + 1, x1, x2, x3, x4, book, hole =>
    if x2 ≤ x4 then
      bz x3 <|
      some x3
    else
      if x3 = 0 then
        bz x3 <|
        some x3
      else
        (g_X9_threadOf nf x1 x2 x4).bind fun q1 =>
        g_X9_canDarn_l27 nf (g_X9_canDarn_l5 nf n) nf x1 x2 x3 x4 q1 0 book hole
def g_X9_canDarn (nf : Nat) (p1 : Int32) (p2 : Int32) (book : Nat → Int32) (hole : Nat → Int32) : Option (Int32) :=
  g_X9_canDarn_l5 nf nf p1 p2 1 0 book hole
def g_X9_darned_b41 (nf : Nat) (k16 : Int32 → Int32 → Int32 → (Nat → Int32) → (Nat → Int32) → Option (Int32 × (Nat → Int32))) (x1 : Int32) (x2 : Int32) (x3 : Int32) (book : Nat → Int32) (hole : Nat → Int32) : Option (Int32 × (Nat → Int32)) :=
  k16 x1 x2 (x3 + 1) book hole
def g_X9_darned_b111 (nf : Nat) (k89 : Int32 → Int32 → Int32 → Int32 → Int32 → (Nat → Int32) → (Nat → Int32) → Option (Int32 × (Nat → Int32))) (x1 : Int32) (x2 : Int32) (x4 : Int32) (x5 : Int32) (x6 : Int32) (book : Nat → Int32) (hole : Nat → Int32) : Option (Int32 × (Nat → Int32)) :=
  k89 x1 x2 x4 x5 (x6 + (-1)) book hole
def g_X9_darned_b126 (nf : Nat) (x1 : Int32) (x4 : Int32) (book : Nat → Int32) (hole : Nat → Int32) : Option (Int32 × (Nat → Int32)) :=
  if x1 = 0 then
    some (x4, hole)
  else
    some ((-6), hole)
def g_X9_darned_l144 (nf : Nat) : Nat → Int32 → Int32 → Int32 → Int32 → (Nat → Int32) → (Nat → Int32) → Option (Int32 × (Nat → Int32))
  | 0, _, _, _, _, _, _ => none
  | n + 1, x2, x5, x6, x7, book, hole =>
    if x2 ≤ x7 then
      some (x6, hole)
    else
      (g_X9_threadOf nf x5 x2 x7).bind fun q2 =>
      (g_X9_darned_l144 nf n) x2 x5 ((10 * x6) + q2) (x7 + 1) book hole
def g_X9_darned_l89 (nf : Nat) : Nat → Int32 → Int32 → Int32 → Int32 → Int32 → (Nat → Int32) → (Nat → Int32) → Option (Int32 × (Nat → Int32))
  | 0, _, _, _, _, _, _, _ => none
  | n + 1, x1, x2, x4, x5, x6, book, hole =>
    if x6 < 0 then
      if x1 = 0 then
        g_X9_darned_b126 nf x1 x4 book hole
      else
        if 0 ≤ x5 then
          g_X9_darned_l144 nf nf x2 x5 0 0 book hole
        else
          g_X9_darned_b126 nf x1 x4 book hole
    else
      (g_X9_canDarn nf x6 x2 book hole).bind fun q1 =>
      if q1 = 0 then
        g_X9_darned_b111 nf (g_X9_darned_l89 nf n) x1 x2 x4 x5 x6 book hole
      else
        g_X9_darned_b111 nf (g_X9_darned_l89 nf n) x1 x2 (x4 + 1) x6 x6 book hole
def g_X9_darned_l61 (nf : Nat) : Nat → Int32 → Int32 → Int32 → Int32 → (Nat → Int32) → (Nat → Int32) → Option (Int32 × (Nat → Int32))
  | 0, _, _, _, _, _, _ => none
  | n + 1, x1, x2, x3, x4, book, hole =>
    if x2 ≤ x4 then
      g_X9_darned_l89 nf nf x1 x2 0 (-6) (x3 - 1) book hole
    else
      (g_X9_darned_l61 nf n) x1 x2 (x3 * 3) (x4 + 1) book hole
def g_X9_darned_l16 (nf : Nat) : Nat → Int32 → Int32 → Int32 → (Nat → Int32) → (Nat → Int32) → Option (Int32 × (Nat → Int32))
  | 0, _, _, _, _, _ => none
  | n + 1, x1, x2, x3, book, hole =>
    if 25 ≤ x3 then
      if x2 ≤ 9 then
        g_X9_darned_l61 nf nf x1 x2 1 0 book hole
      else
        some ((-3), hole)
    else
      ck x3 63 <|
      if (book x3.toNatClampNeg) = 0 then
        ck x2 25 <|
        g_X9_darned_b41 nf (g_X9_darned_l16 nf n) x1 (x2 + 1) x3 book (upd hole x2.toNatClampNeg x3)
      else
        g_X9_darned_b41 nf (g_X9_darned_l16 nf n) x1 x2 x3 book hole
def g_X9_darned (nf : Nat) (p1 : Int32) (book : Nat → Int32) (hole : Nat → Int32) : Option (Int32 × (Nat → Int32)) :=
  (g_X9_in nf p1 0 1).bind fun q3 =>
  if q3 = 0 then
    some ((-2), hole)
  else
    g_X9_darned_l16 nf nf p1 0 0 book hole
def g_X9_sheet_b57 (nf : Nat) (k32 : Int32 → Int32 → Int32 → Int32 → Int32 → (Nat → Int32) → Option (Int32)) (x1 : Int32) (x2 : Int32) (x4 : Int32) (x5 : Int32) (s0 : Int32) (book : Nat → Int32) : Option (Int32) :=
  k32 x1 x2 s0 (x4 / 10) (x5 + 1) book
def g_X9_sheet_b56 (nf : Nat) (k32 : Int32 → Int32 → Int32 → Int32 → Int32 → (Nat → Int32) → Option (Int32)) (x1 : Int32) (x2 : Int32) (x4 : Int32) (x5 : Int32) (book : Nat → Int32) : Option (Int32) :=
  g_X9_sheet_b57 nf k32 x1 x2 x4 x5 0 book
def g_X9_sheet_b188 (nf : Nat) (k89 : Int32 → Int32 → Int32 → Int32 → Int32 → (Nat → Int32) → Option (Int32)) (x1 : Int32) (x2 : Int32) (x5 : Int32) (x7 : Int32) (s0 : Int32) (book : Nat → Int32) : Option (Int32) :=
  k89 x1 x2 x5 s0 (x7 + (-1)) book
def g_X9_sheet_b173 (nf : Nat) (k89 : Int32 → Int32 → Int32 → Int32 → Int32 → (Nat → Int32) → Option (Int32)) (x1 : Int32) (x2 : Int32) (x6 : Int32) (x7 : Int32) (x8 : Int32) (s0 : Int32) (s1 : Int32) (book : Nat → Int32) : Option (Int32) :=
  if x8 = 0 then
    g_X9_sheet_b188 nf k89 x1 x2 (s0 + s1) x7 x6 book
  else
    g_X9_sheet_b188 nf k89 x1 x2 (s0 + s1) x7 x7 book
def g_X9_sheet_b159 (nf : Nat) (k89 : Int32 → Int32 → Int32 → Int32 → Int32 → (Nat → Int32) → Option (Int32)) (x1 : Int32) (x2 : Int32) (x5 : Int32) (x6 : Int32) (x7 : Int32) (s0 : Int32) (book : Nat → Int32) : Option (Int32) :=
  if s0 = 0 then
    g_X9_sheet_b173 nf k89 x1 x2 x6 x7 s0 x5 0 book
  else
    g_X9_sheet_b173 nf k89 x1 x2 x6 x7 s0 x5 1 book
def g_X9_sheet_b158 (nf : Nat) (k89 : Int32 → Int32 → Int32 → Int32 → Int32 → (Nat → Int32) → Option (Int32)) (x1 : Int32) (x2 : Int32) (x5 : Int32) (x6 : Int32) (x7 : Int32) (book : Nat → Int32) : Option (Int32) :=
  g_X9_sheet_b159 nf k89 x1 x2 x5 x6 x7 0 book
def g_X9_sheet_l89 (nf : Nat) : Nat → Int32 → Int32 → Int32 → Int32 → Int32 → (Nat → Int32) → Option (Int32)
  | 0, _, _, _, _, _, _ => none
  | n + 1, x1, x2, x5, x6, x7, book =>
    if x7 < 0 then
      if x2 = 0 then
        some x5
      else
        some x6
    else
      if 4 ≤ (x7 - x7 / 5 * 5) then
        g_X9_sheet_b158 nf (g_X9_sheet_l89 nf n) x1 x2 x5 x6 x7 book
      else
        ck x7 63 <|
        ck (x7 + 1) 63 <|
        ck (x7 + 5) 63 <|
        ck (x7 + 6) 63 <|
        if ((((1000 * (book x7.toNatClampNeg)) + (100 * (book (x7 + 1).toNatClampNeg))) + (10 * (book (x7 + 5).toNatClampNeg))) + (book (x7 + 6).toNatClampNeg)) = x1 then
          g_X9_sheet_b159 nf (g_X9_sheet_l89 nf n) x1 x2 x5 x6 x7 1 book
        else
          g_X9_sheet_b158 nf (g_X9_sheet_l89 nf n) x1 x2 x5 x6 x7 book
def g_X9_sheet_l32 (nf : Nat) : Nat → Int32 → Int32 → Int32 → Int32 → Int32 → (Nat → Int32) → Option (Int32)
  | 0, _, _, _, _, _, _ => none
  | n + 1, x1, x2, x3, x4, x5, book =>
    if 4 ≤ x5 then
      if x3 = 0 then
        some (-2)
      else
        g_X9_sheet_l89 nf nf x1 x2 0 (-6) 18 book
    else
      if x3 = 0 then
        g_X9_sheet_b56 nf (g_X9_sheet_l32 nf n) x1 x2 x4 x5 book
      else
        if 6 ≤ (x4 - x4 / 10 * 10) then
          g_X9_sheet_b56 nf (g_X9_sheet_l32 nf n) x1 x2 x4 x5 book
        else
          g_X9_sheet_b57 nf (g_X9_sheet_l32 nf n) x1 x2 x4 x5 1 book
def g_X9_sheet_b25 (nf : Nat) (x1 : Int32) (x2 : Int32) (s0 : Int32) (book : Nat → Int32) : Option (Int32) :=
  g_X9_sheet_l32 nf nf x1 x2 s0 x1 0 book
def g_X9_sheet_b24 (nf : Nat) (x1 : Int32) (x2 : Int32) (book : Nat → Int32) : Option (Int32) :=
  g_X9_sheet_b25 nf x1 x2 0 book
def g_X9_sheet (nf : Nat) (p1 : Int32) (p2 : Int32) (book : Nat → Int32) : Option (Int32) :=
  (g_X9_in nf p1 0 5555).bind fun q1 =>
  if q1 = 0 then
    g_X9_sheet_b24 nf p1 p2 book
  else
    (g_X9_in nf p2 0 1).bind fun q2 =>
    if q2 = 0 then
      g_X9_sheet_b24 nf p1 p2 book
    else
      g_X9_sheet_b25 nf p1 p2 1 book
def g_X9_seen (nf : Nat) (p1 : Int32) (p2 : Int32) (sights : Int32) (sight : Nat → Int32) : Option (Int32 × Int32 × (Nat → Int32)) :=
  (g_X9_isCell nf p2).bind fun q1 =>
  if q1 = 0 then
    some ((-1), sights, sight)
  else
    (g_X9_in nf p1 0 40).bind fun q2 =>
    if q2 = 0 then
      some ((-2), sights, sight)
    else
      if sights = 8 then
        some ((-4), sights, sight)
      else
        ck (2 * sights) 16 <|
        ck ((2 * sights) + 1) 16 <|
        some ((sights + 1), (sights + 1), (upd (upd sight (2 * sights).toNatClampNeg p1) ((2 * sights) + 1).toNatClampNeg p2))
def g_X9_forget (nf : Nat) (sights : Int32) : Option (Int32 × Int32) :=
  some (sights, 0)
def g_X9_cellAfter_l19 (nf : Nat) (k13 : Int32 → Int32 → Int32 → Int32 → Option (Int32)) : Nat → Int32 → Int32 → Int32 → Int32 → Option (Int32)
  | 0, _, _, _, _ => none
  | n + 1, x1, x2, x3, x4 =>
    (g_X9_beside nf x2 x3).bind fun q1 =>
    if 0 ≤ q1 then
      (g_X9_beside nf x2 x3).bind fun q2 =>
      k13 x1 q2 x3 (x4 + 1)
    else
      (g_X9_cellAfter_l19 nf k13 n) x1 x2 ((x3 + 1) - (x3 + 1) / 4 * 4) x4
def g_X9_cellAfter_l13 (nf : Nat) : Nat → Int32 → Int32 → Int32 → Int32 → Option (Int32)
  | 0, _, _, _, _ => none
  | n + 1, x1, x2, x3, x4 =>
    if x1 ≤ x4 then
      some x2
    else
      g_X9_cellAfter_l19 nf (g_X9_cellAfter_l13 nf n) nf x1 x2 x3 x4
def g_X9_cellAfter (nf : Nat) (p0 : Int32) (p1 : Int32) : Option (Int32) :=
  g_X9_cellAfter_l13 nf nf p1 (p0 / 10) (p0 - p0 / 10 * 10) 0
def g_X9_isFit_b58 (nf : Nat) (k16 : Int32 → Int32 → Int32 → Int32 → (Nat → Int32) → Option (Int32)) (x1 : Int32) (x3 : Int32) (s0 : Int32) (sights : Int32) (sight : Nat → Int32) : Option (Int32) :=
  k16 x1 s0 (x3 + 1) sights sight
def g_X9_isFit_l16 (nf : Nat) : Nat → Int32 → Int32 → Int32 → Int32 → (Nat → Int32) → Option (Int32)
  | 0, _, _, _, _, _ => none
  | n + 1, x1, x2, x3, sights, sight =>
    if sights ≤ x3 then
      bz x2 <|
      some x2
    else
      if x2 = 0 then
        bz x2 <|
        some x2
      else
        ck (2 * x3) 16 <|
        (g_X9_cellAfter nf x1 (sight (2 * x3).toNatClampNeg)).bind fun q1 =>
        ck ((2 * x3) + 1) 16 <|
        if q1 = (sight ((2 * x3) + 1).toNatClampNeg) then
          g_X9_isFit_b58 nf (g_X9_isFit_l16 nf n) x1 x3 1 sights sight
        else
          g_X9_isFit_b58 nf (g_X9_isFit_l16 nf n) x1 x3 0 sights sight
def g_X9_isFit_b13 (nf : Nat) (x1 : Int32) (s0 : Int32) (sights : Int32) (sight : Nat → Int32) : Option (Int32) :=
  g_X9_isFit_l16 nf nf x1 s0 0 sights sight
def g_X9_isFit (nf : Nat) (p1 : Int32) (sights : Int32) (sight : Nat → Int32) : Option (Int32) :=
  if 4 ≤ (p1 - p1 / 10 * 10) then
    g_X9_isFit_b13 nf p1 0 sights sight
  else
    g_X9_isFit_b13 nf p1 1 sights sight
def g_X9_began_b29 (nf : Nat) (k4 : Int32 → Int32 → Int32 → Int32 → (Nat → Int32) → Option (Int32)) (x1 : Int32) (x2 : Int32) (x3 : Int32) (sights : Int32) (sight : Nat → Int32) : Option (Int32) :=
  k4 x1 x2 (x3 + 1) sights sight
def g_X9_began_l4 (nf : Nat) : Nat → Int32 → Int32 → Int32 → Int32 → (Nat → Int32) → Option (Int32)
  | 0, _, _, _, _, _ => none
  | n + 1, x1, x2, x3, sights, sight =>
    if 250 ≤ x3 then
      if x1 = (-1) then
        some x2
      else
        some (-6)
    else
      (g_X9_isFit nf x3 sights sight).bind fun q1 =>
      if q1 = 0 then
        g_X9_began_b29 nf (g_X9_began_l4 nf n) x1 x2 x3 sights sight
      else
        if x2 = x1 then
          some x3
        else
          g_X9_began_b29 nf (g_X9_began_l4 nf n) x1 (x2 + 1) x3 sights sight
def g_X9_began (nf : Nat) (p1 : Int32) (sights : Int32) (sight : Nat → Int32) : Option (Int32) :=
  g_X9_began_l4 nf nf p1 0 0 sights sight
def g_X9_ask_b121 (nf : Nat) (k21 : Int32 → Int32 → Int32 → Int32 → Int32 → (Nat → Int32) → (Nat → Int32) → Option (Int32 × (Nat → Int32))) (k58 : Int32 → Int32 → Int32 → Int32 → Int32 → Int32 → Int32 → (Nat → Int32) → (Nat → Int32) → Option (Int32 × (Nat → Int32))) (x1 : Int32) (x2 : Int32) (x3 : Int32) (x4 : Int32) (x5 : Int32) (x6 : Int32) (sights : Int32) (sight : Nat → Int32) (counts : Nat → Int32) : Option (Int32 × (Nat → Int32)) :=
  k58 x1 x2 x3 x4 x5 (x6 + 1) sights sight counts
def g_X9_ask_b119 (nf : Nat) (k21 : Int32 → Int32 → Int32 → Int32 → Int32 → (Nat → Int32) → (Nat → Int32) → Option (Int32 × (Nat → Int32))) (k58 : Int32 → Int32 → Int32 → Int32 → Int32 → Int32 → Int32 → (Nat → Int32) → (Nat → Int32) → Option (Int32 × (Nat → Int32))) (x1 : Int32) (x2 : Int32) (x3 : Int32) (x4 : Int32) (x6 : Int32) (s0 : Int32) (sights : Int32) (sight : Nat → Int32) (counts : Nat → Int32) : Option (Int32 × (Nat → Int32)) :=
  g_X9_ask_b121 nf k21 k58 x1 x2 x3 x4 s0 x6 sights sight counts
def g_X9_ask_b168 (nf : Nat) (k21 : Int32 → Int32 → Int32 → Int32 → Int32 → (Nat → Int32) → (Nat → Int32) → Option (Int32 × (Nat → Int32))) (x1 : Int32) (x2 : Int32) (x4 : Int32) (s0 : Int32) (sights : Int32) (sight : Nat → Int32) (counts : Nat → Int32) : Option (Int32 × (Nat → Int32)) :=
  k21 x1 x2 s0 (x4 + 1) sights sight counts
def g_X9_ask_b156 (nf : Nat) (k21 : Int32 → Int32 → Int32 → Int32 → Int32 → (Nat → Int32) → (Nat → Int32) → Option (Int32 × (Nat → Int32))) (x1 : Int32) (x3 : Int32) (x4 : Int32) (x5 : Int32) (x6 : Int32) (s0 : Int32) (sights : Int32) (sight : Nat → Int32) (counts : Nat → Int32) : Option (Int32 × (Nat → Int32)) :=
  if x6 = 0 then
    g_X9_ask_b168 nf k21 x1 s0 x4 x3 sights sight counts
  else
    g_X9_ask_b168 nf k21 x1 s0 x4 x5 sights sight counts
def g_X9_ask_b143 (nf : Nat) (k21 : Int32 → Int32 → Int32 → Int32 → Int32 → (Nat → Int32) → (Nat → Int32) → Option (Int32 × (Nat → Int32))) (x1 : Int32) (x2 : Int32) (x3 : Int32) (x4 : Int32) (x5 : Int32) (s0 : Int32) (sights : Int32) (sight : Nat → Int32) (counts : Nat → Int32) : Option (Int32 × (Nat → Int32)) :=
  if s0 = 0 then
    g_X9_ask_b156 nf k21 x1 x3 x4 x5 s0 x2 sights sight counts
  else
    g_X9_ask_b156 nf k21 x1 x3 x4 x5 s0 x4 sights sight counts
def g_X9_ask_b142 (nf : Nat) (k21 : Int32 → Int32 → Int32 → Int32 → Int32 → (Nat → Int32) → (Nat → Int32) → Option (Int32 × (Nat → Int32))) (x1 : Int32) (x2 : Int32) (x3 : Int32) (x4 : Int32) (x5 : Int32) (sights : Int32) (sight : Nat → Int32) (counts : Nat → Int32) : Option (Int32 × (Nat → Int32)) :=
  g_X9_ask_b143 nf k21 x1 x2 x3 x4 x5 0 sights sight counts
def g_X9_ask_l58 (nf : Nat) (k21 : Int32 → Int32 → Int32 → Int32 → Int32 → (Nat → Int32) → (Nat → Int32) → Option (Int32 × (Nat → Int32))) : Nat → Int32 → Int32 → Int32 → Int32 → Int32 → Int32 → Int32 → (Nat → Int32) → (Nat → Int32) → Option (Int32 × (Nat → Int32))
  | 0, _, _, _, _, _, _, _, _, _ => none
  | n + 1, x1, x2, x3, x4, x5, x6, sights, sight, counts =>
    if 250 ≤ x6 then
      if x5 ≤ 0 then
        g_X9_ask_b142 nf k21 x1 x2 x3 x4 x5 sights sight counts
      else
        if x3 ≤ x5 then
          g_X9_ask_b142 nf k21 x1 x2 x3 x4 x5 sights sight counts
        else
          g_X9_ask_b143 nf k21 x1 x2 x3 x4 x5 1 sights sight counts
    else
      (g_X9_isFit nf x6 sights sight).bind fun q1 =>
      if q1 = 0 then
        g_X9_ask_b121 nf k21 (g_X9_ask_l58 nf k21 n) x1 x2 x3 x4 x5 x6 sights sight counts
      else
        (g_X9_cellAfter nf x6 x4).bind fun q2 =>
        ck q2 25 <|
        ck q2 25 <|
        ck q2 25 <|
        if ((upd counts q2.toNatClampNeg ((counts q2.toNatClampNeg) + 1)) q2.toNatClampNeg) ≤ x5 then
          g_X9_ask_b119 nf k21 (g_X9_ask_l58 nf k21 n) x1 x2 x3 x4 x6 x5 sights sight (upd counts q2.toNatClampNeg ((counts q2.toNatClampNeg) + 1))
        else
          ck q2 25 <|
          g_X9_ask_b119 nf k21 (g_X9_ask_l58 nf k21 n) x1 x2 x3 x4 x6 ((upd counts q2.toNatClampNeg ((counts q2.toNatClampNeg) + 1)) q2.toNatClampNeg) sights sight (upd counts q2.toNatClampNeg ((counts q2.toNatClampNeg) + 1))
def g_X9_ask_l34 (nf : Nat) (k21 : Int32 → Int32 → Int32 → Int32 → Int32 → (Nat → Int32) → (Nat → Int32) → Option (Int32 × (Nat → Int32))) : Nat → Int32 → Int32 → Int32 → Int32 → Int32 → Int32 → Int32 → (Nat → Int32) → (Nat → Int32) → Option (Int32 × (Nat → Int32))
  | 0, _, _, _, _, _, _, _, _, _ => none
  | n + 1, x1, x2, x3, x4, x5, x6, sights, sight, counts =>
    if 25 ≤ x6 then
      g_X9_ask_l58 nf k21 nf x1 x2 x3 x4 x5 0 sights sight counts
    else
      ck x6 25 <|
      (g_X9_ask_l34 nf k21 n) x1 x2 x3 x4 x5 (x6 + 1) sights sight (upd counts x6.toNatClampNeg 0)
def g_X9_ask_b183 (nf : Nat) (x2 : Int32) (sights : Int32) (sight : Nat → Int32) (counts : Nat → Int32) : Option (Int32 × (Nat → Int32)) :=
  some (x2, counts)
def g_X9_ask_l21 (nf : Nat) : Nat → Int32 → Int32 → Int32 → Int32 → Int32 → (Nat → Int32) → (Nat → Int32) → Option (Int32 × (Nat → Int32))
  | 0, _, _, _, _, _, _, _ => none
  | n + 1, x1, x2, x3, x4, sights, sight, counts =>
    if 41 ≤ x4 then
      if x2 < 0 then
        g_X9_ask_b183 nf x2 sights sight counts
      else
        if x1 = 0 then
          g_X9_ask_b183 nf x2 sights sight counts
        else
          some (x3, counts)
    else
      g_X9_ask_l34 nf (g_X9_ask_l21 nf n) nf x1 x2 x3 x4 0 0 sights sight counts
def g_X9_ask (nf : Nat) (p1 : Int32) (sights : Int32) (sight : Nat → Int32) (counts : Nat → Int32) : Option (Int32 × (Nat → Int32)) :=
  (g_X9_in nf p1 0 1).bind fun q3 =>
  if q3 = 0 then
    some ((-2), counts)
  else
    g_X9_ask_l21 nf nf p1 (-6) 1000000 0 sights sight counts
def g_X9_folds_l100 (nf : Nat) (k24 : Int32 → Int32 → Int32 → (Nat → Int32) → (Nat → Int32) → Option (Int32 × (Nat → Int32) × (Nat → Int32))) : Nat → Int32 → Int32 → Int32 → (Nat → Int32) → (Nat → Int32) → Option (Int32 × (Nat → Int32) × (Nat → Int32))
  | 0, _, _, _, _, _ => none
  | n + 1, x1, x2, x3, worth, met =>
    ck x3 61 <|
    ck (worth x3.toNatClampNeg) 64 <|
    if (met (worth x3.toNatClampNeg).toNatClampNeg) = 1 then
      ck x3 61 <|
      ck x3 61 <|
      (g_X9_folds_l100 nf k24 n) x1 x2 x3 (upd worth x3.toNatClampNeg ((worth x3.toNatClampNeg) + 1)) met
    else
      k24 x1 x2 (x3 + 1) worth met
def g_X9_folds_l56 (nf : Nat) (k24 : Int32 → Int32 → Int32 → (Nat → Int32) → (Nat → Int32) → Option (Int32 × (Nat → Int32) × (Nat → Int32))) : Nat → Int32 → Int32 → Int32 → Int32 → (Nat → Int32) → (Nat → Int32) → Option (Int32 × (Nat → Int32) × (Nat → Int32))
  | 0, _, _, _, _, _, _ => none
  | n + 1, x1, x2, x3, x4, worth, met =>
    if x3 ≤ (2 * x4) then
      ck x3 61 <|
      g_X9_folds_l100 nf k24 nf x1 x2 x3 (upd worth x3.toNatClampNeg 0) met
    else
      ck x4 61 <|
      ck (x3 - x4) 61 <|
      ck ((worth x4.toNatClampNeg) ^^^ (worth (x3 - x4).toNatClampNeg)) 64 <|
      (g_X9_folds_l56 nf k24 n) x1 x2 x3 (x4 + 1) worth (upd met ((worth x4.toNatClampNeg) ^^^ (worth (x3 - x4).toNatClampNeg)).toNatClampNeg 1)
def g_X9_folds_l32 (nf : Nat) (k24 : Int32 → Int32 → Int32 → (Nat → Int32) → (Nat → Int32) → Option (Int32 × (Nat → Int32) × (Nat → Int32))) : Nat → Int32 → Int32 → Int32 → Int32 → (Nat → Int32) → (Nat → Int32) → Option (Int32 × (Nat → Int32) × (Nat → Int32))
  | 0, _, _, _, _, _, _ => none
  | n + 1, x1, x2, x3, x4, worth, met =>
    if 64 ≤ x4 then
      g_X9_folds_l56 nf k24 nf x1 x2 x3 1 worth met
    else
      ck x4 64 <|
      (g_X9_folds_l32 nf k24 n) x1 x2 x3 (x4 + 1) worth (upd met x4.toNatClampNeg 0)
def g_X9_folds_l136 (nf : Nat) : Nat → Int32 → Int32 → Int32 → (Nat → Int32) → (Nat → Int32) → Option (Int32 × (Nat → Int32) × (Nat → Int32))
  | 0, _, _, _, _, _ => none
  | n + 1, x1, x2, x3, worth, met =>
    if x1 ≤ (2 * x3) then
      if x2 = 0 then
        some (0, worth, met)
      else
        some ((-6), worth, met)
    else
      ck x3 61 <|
      ck (x1 - x3) 61 <|
      if (worth x3.toNatClampNeg) = (worth (x1 - x3).toNatClampNeg) then
        if x2 = 0 then
          some (1, worth, met)
        else
          some (x3, worth, met)
      else
        (g_X9_folds_l136 nf n) x1 x2 (x3 + 1) worth met
def g_X9_folds_l24 (nf : Nat) : Nat → Int32 → Int32 → Int32 → (Nat → Int32) → (Nat → Int32) → Option (Int32 × (Nat → Int32) × (Nat → Int32))
  | 0, _, _, _, _, _ => none
  | n + 1, x1, x2, x3, worth, met =>
    if x1 < x3 then
      g_X9_folds_l136 nf nf x1 x2 1 worth met
    else
      g_X9_folds_l32 nf (g_X9_folds_l24 nf n) nf x1 x2 x3 0 worth met
def g_X9_folds (nf : Nat) (p1 : Int32) (p2 : Int32) (worth : Nat → Int32) (met : Nat → Int32) : Option (Int32 × (Nat → Int32) × (Nat → Int32)) :=
  (g_X9_in nf p1 0 60).bind fun q1 =>
  if q1 = 0 then
    some ((-2), worth, met)
  else
    (g_X9_in nf p2 0 1).bind fun q2 =>
    if q2 = 0 then
      some ((-2), worth, met)
    else
      g_X9_folds_l24 nf nf p1 p2 0 worth met
def g_X9_coffee_b111 (nf : Nat) (k87 : Int32 → Int32 → Int32 → Int32 → Int32 → Int32 → Int32 → Int32 → (Nat → Int64) → (Nat → Int64) → Option (Int64 × (Nat → Int64) × (Nat → Int64))) (x1 : Int32) (x2 : Int32) (x3 : Int32) (x4 : Int32) (x5 : Int32) (x6 : Int32) (x7 : Int32) (x8 : Int32) (s1 : Int32) (s2 : Int64) (ways : Nat → Int64) (nextWays : Nat → Int64) : Option (Int64 × (Nat → Int64) × (Nat → Int64)) :=
  ck s1 10 <|
  k87 x1 x2 x3 x4 x5 x6 x7 (x8 + 1) (vp_updL ways s1.toNatClampNeg s2) nextWays
def g_X9_coffee_b223 (nf : Nat) (k124 : Int32 → Int32 → Int32 → Int32 → Int32 → Int32 → Int64 → Int32 → (Nat → Int64) → (Nat → Int64) → Option (Int64 × (Nat → Int64) × (Nat → Int64))) (k166 : Int32 → Int32 → Int32 → Int32 → Int32 → Int32 → Int64 → Int32 → Int32 → (Nat → Int64) → (Nat → Int64) → Option (Int64 × (Nat → Int64) × (Nat → Int64))) (x1 : Int32) (x3 : Int32) (x4 : Int32) (x5 : Int32) (x6 : Int32) (x7 : Int32) (x8 : Int64) (x10 : Int32) (x11 : Int32) (s1 : Int32) (ways : Nat → Int64) (nextWays : Nat → Int64) : Option (Int64 × (Nat → Int64) × (Nat → Int64)) :=
  ck s1 10 <|
  ck x11 10 <|
  ck s1 10 <|
  ck x11 10 <|
  ck x11 10 <|
  ck x11 10 <|
  k166 x1 x3 x4 x5 x6 x7 x8 x10 (x11 + 1) ways (vp_updL (vp_updL nextWays s1.toNatClampNeg ((nextWays s1.toNatClampNeg) + ((ways x11.toNatClampNeg) * x4.toInt64))) x11.toNatClampNeg (((vp_updL nextWays s1.toNatClampNeg ((nextWays s1.toNatClampNeg) + ((ways x11.toNatClampNeg) * x4.toInt64))) x11.toNatClampNeg) + ((ways x11.toNatClampNeg) * ((10 - x3) - x4).toInt64)))
def g_X9_coffee_b191 (nf : Nat) (k124 : Int32 → Int32 → Int32 → Int32 → Int32 → Int32 → Int64 → Int32 → (Nat → Int64) → (Nat → Int64) → Option (Int64 × (Nat → Int64) × (Nat → Int64))) (k166 : Int32 → Int32 → Int32 → Int32 → Int32 → Int32 → Int64 → Int32 → Int32 → (Nat → Int64) → (Nat → Int64) → Option (Int64 × (Nat → Int64) × (Nat → Int64))) (x1 : Int32) (x3 : Int32) (x4 : Int32) (x5 : Int32) (x6 : Int32) (x7 : Int32) (x8 : Int64) (x10 : Int32) (x11 : Int32) (s1 : Int32) (ways : Nat → Int64) (nextWays : Nat → Int64) : Option (Int64 × (Nat → Int64) × (Nat → Int64)) :=
  ck s1 10 <|
  ck x11 10 <|
  ck s1 10 <|
  if x11 ≤ 0 then
    g_X9_coffee_b223 nf k124 k166 x1 x3 x4 x5 x6 x7 x8 x10 x11 x11 ways (vp_updL nextWays s1.toNatClampNeg ((nextWays s1.toNatClampNeg) + ((ways x11.toNatClampNeg) * x3.toInt64)))
  else
    g_X9_coffee_b223 nf k124 k166 x1 x3 x4 x5 x6 x7 x8 x10 x11 (x11 - 1) ways (vp_updL nextWays s1.toNatClampNeg ((nextWays s1.toNatClampNeg) + ((ways x11.toNatClampNeg) * x3.toInt64)))
def g_X9_coffee_l273 (nf : Nat) (k124 : Int32 → Int32 → Int32 → Int32 → Int32 → Int32 → Int64 → Int32 → (Nat → Int64) → (Nat → Int64) → Option (Int64 × (Nat → Int64) × (Nat → Int64))) : Nat → Int32 → Int32 → Int32 → Int32 → Int32 → Int32 → Int64 → Int32 → Int32 → (Nat → Int64) → (Nat → Int64) → Option (Int64 × (Nat → Int64) × (Nat → Int64))
  | 0, _, _, _, _, _, _, _, _, _, _, _ => none
  | n + 1, x1, x3, x4, x5, x6, x7, x8, x10, x11, ways, nextWays =>
    if 10 ≤ x11 then
      k124 x1 x3 x4 x5 x6 x7 x8 (x10 + 1) ways nextWays
    else
      ck x11 10 <|
      ck x11 10 <|
      (g_X9_coffee_l273 nf k124 n) x1 x3 x4 x5 x6 x7 x8 x10 (x11 + 1) (vp_updL ways x11.toNatClampNeg (nextWays x11.toNatClampNeg)) nextWays
def g_X9_coffee_l166 (nf : Nat) (k124 : Int32 → Int32 → Int32 → Int32 → Int32 → Int32 → Int64 → Int32 → (Nat → Int64) → (Nat → Int64) → Option (Int64 × (Nat → Int64) × (Nat → Int64))) : Nat → Int32 → Int32 → Int32 → Int32 → Int32 → Int32 → Int64 → Int32 → Int32 → (Nat → Int64) → (Nat → Int64) → Option (Int64 × (Nat → Int64) × (Nat → Int64))
  | 0, _, _, _, _, _, _, _, _, _, _, _ => none
  | n + 1, x1, x3, x4, x5, x6, x7, x8, x10, x11, ways, nextWays =>
    if x1 < x11 then
      g_X9_coffee_l273 nf k124 nf x1 x3 x4 x5 x6 x7 x8 x10 0 ways nextWays
    else
      if x1 ≤ x11 then
        g_X9_coffee_b191 nf k124 (g_X9_coffee_l166 nf k124 n) x1 x3 x4 x5 x6 x7 x8 x10 x11 x11 ways nextWays
      else
        g_X9_coffee_b191 nf k124 (g_X9_coffee_l166 nf k124 n) x1 x3 x4 x5 x6 x7 x8 x10 x11 (x11 + 1) ways nextWays
def g_X9_coffee_l142 (nf : Nat) (k124 : Int32 → Int32 → Int32 → Int32 → Int32 → Int32 → Int64 → Int32 → (Nat → Int64) → (Nat → Int64) → Option (Int64 × (Nat → Int64) × (Nat → Int64))) : Nat → Int32 → Int32 → Int32 → Int32 → Int32 → Int32 → Int64 → Int32 → Int32 → (Nat → Int64) → (Nat → Int64) → Option (Int64 × (Nat → Int64) × (Nat → Int64))
  | 0, _, _, _, _, _, _, _, _, _, _, _ => none
  | n + 1, x1, x3, x4, x5, x6, x7, x8, x10, x11, ways, nextWays =>
    if 10 ≤ x11 then
      g_X9_coffee_l166 nf k124 nf x1 x3 x4 x5 x6 x7 x8 x10 0 ways nextWays
    else
      ck x11 10 <|
      (g_X9_coffee_l142 nf k124 n) x1 x3 x4 x5 x6 x7 x8 x10 (x11 + 1) ways (vp_updL nextWays x11.toNatClampNeg 0)
def g_X9_coffee_l319 (nf : Nat) : Nat → Int32 → Int32 → Int64 → Int64 → Int64 → (Nat → Int64) → (Nat → Int64) → Option (Int64 × (Nat → Int64) × (Nat → Int64))
  | 0, _, _, _, _, _, _, _ => none
  | n + 1, x6, x7, x8, x10, x12, ways, nextWays =>
    if (lg_cmp x12 0) = 0 then
      if x7 = 0 then
        ck x6 10 <|
        dz x10 <|
        some (((ways x6.toNatClampNeg) / x10), ways, nextWays)
      else
        dz x10 <|
        some ((x8 / x10), ways, nextWays)
    else
      dz x12 <|
      (g_X9_coffee_l319 nf n) x6 x7 x8 x12 (x10 - x10 / x12 * x12) ways nextWays
def g_X9_coffee_l124 (nf : Nat) : Nat → Int32 → Int32 → Int32 → Int32 → Int32 → Int32 → Int64 → Int32 → (Nat → Int64) → (Nat → Int64) → Option (Int64 × (Nat → Int64) × (Nat → Int64))
  | 0, _, _, _, _, _, _, _, _, _, _ => none
  | n + 1, x1, x3, x4, x5, x6, x7, x8, x10, ways, nextWays =>
    if x5 ≤ x10 then
      ck x6 10 <|
      g_X9_coffee_l319 nf nf x6 x7 x8 (ways x6.toNatClampNeg) x8 ways nextWays
    else
      g_X9_coffee_l142 nf (g_X9_coffee_l124 nf n) nf x1 x3 x4 x5 x6 x7 (x8 * 10) x10 0 ways nextWays
def g_X9_coffee_l87 (nf : Nat) : Nat → Int32 → Int32 → Int32 → Int32 → Int32 → Int32 → Int32 → Int32 → (Nat → Int64) → (Nat → Int64) → Option (Int64 × (Nat → Int64) × (Nat → Int64))
  | 0, _, _, _, _, _, _, _, _, _, _ => none
  | n + 1, x1, x2, x3, x4, x5, x6, x7, x8, ways, nextWays =>
    if 10 ≤ x8 then
      g_X9_coffee_l124 nf nf x1 x3 x4 x5 x6 x7 1 0 ways nextWays
    else
      if x8 = x2 then
        g_X9_coffee_b111 nf (g_X9_coffee_l87 nf n) x1 x2 x3 x4 x5 x6 x7 x8 x8 1 ways nextWays
      else
        g_X9_coffee_b111 nf (g_X9_coffee_l87 nf n) x1 x2 x3 x4 x5 x6 x7 x8 x8 0 ways nextWays
def g_X9_coffee (nf : Nat) (p1 : Int32) (p2 : Int32) (p3 : Int32) (p4 : Int32) (p5 : Int32) (p6 : Int32) (p7 : Int32) (ways : Nat → Int64) (nextWays : Nat → Int64) : Option (Int64 × (Nat → Int64) × (Nat → Int64)) :=
  (g_X9_in nf p1 0 9).bind fun q1 =>
  if q1 = 0 then
    some ((-1000000000000000002), ways, nextWays)
  else
    (g_X9_in nf p2 0 p1).bind fun q2 =>
    if q2 = 0 then
      some ((-1000000000000000002), ways, nextWays)
    else
      (g_X9_in nf p3 0 10).bind fun q3 =>
      if q3 = 0 then
        some ((-1000000000000000002), ways, nextWays)
      else
        (g_X9_in nf p4 0 10).bind fun q4 =>
        if q4 = 0 then
          some ((-1000000000000000002), ways, nextWays)
        else
          if 10 < (p3 + p4) then
            some ((-1000000000000000002), ways, nextWays)
          else
            (g_X9_in nf p5 0 16).bind fun q5 =>
            if q5 = 0 then
              some ((-1000000000000000002), ways, nextWays)
            else
              (g_X9_in nf p6 0 p1).bind fun q6 =>
              if q6 = 0 then
                some ((-1000000000000000002), ways, nextWays)
              else
                (g_X9_in nf p7 0 1).bind fun q7 =>
                if q7 = 0 then
                  some ((-1000000000000000002), ways, nextWays)
                else
                  g_X9_coffee_l87 nf nf p1 p2 p3 p4 p5 p6 p7 0 ways nextWays
def g_X9_year_b163 (nf : Nat) (k43 : Int32 → Int32 → Int32 → Int32 → (Nat → Int32) → (Nat → Int32) → Int32 → Int32 → Int32 → Int32 → Option (Int32 × (Nat → Int32) × Int32 × Int32 × Int32 × Int32)) (x2 : Int32) (x3 : Int32) (x4 : Int32) (x5 : Int32) (book : Nat → Int32) (now : Nat → Int32) (nights : Int32) (townAt : Int32) (townCell : Int32) (reason : Int32) : Option (Int32 × (Nat → Int32) × Int32 × Int32 × Int32 × Int32) :=
  k43 x2 x3 x4 (x5 + 1) book now nights townAt townCell reason
def g_X9_year_l43 (nf : Nat) : Nat → Int32 → Int32 → Int32 → Int32 → (Nat → Int32) → (Nat → Int32) → Int32 → Int32 → Int32 → Int32 → Option (Int32 × (Nat → Int32) × Int32 × Int32 × Int32 × Int32)
  | 0, _, _, _, _, _, _, _, _, _, _ => none
  | n + 1, x2, x3, x4, x5, book, now, nights, townAt, townCell, reason =>
    if x2 ≤ x5 then
      if x3 = 0 then
        (g_X9_countOf nf 0 now).bind fun q2 =>
        some (q2, now, nights, townAt, townCell, reason)
      else
        if x3 = 1 then
          ck 58 63 <|
          ck 59 63 <|
          ck 60 63 <|
          some ((((now (58 : Int32).toNatClampNeg) + (now (59 : Int32).toNatClampNeg)) + (now (60 : Int32).toNatClampNeg)), now, nights, townAt, townCell, reason)
        else
          (g_X9_countOf nf 4 now).bind fun q1 =>
          some (q1, now, nights, townAt, townCell, reason)
    else
      if ((((75 * x4) + 74) - ((75 * x4) + 74) / 65537 * 65537) - (((75 * x4) + 74) - ((75 * x4) + 74) / 65537 * 65537) / 8 * 8) = 0 then
        (g_X9_turn nf (((((75 * x4) + 74) - ((75 * x4) + 74) / 65537 * 65537) / 8) - ((((75 * x4) + 74) - ((75 * x4) + 74) / 65537 * 65537) / 8) / 4 * 4) ((((((75 * x4) + 74) - ((75 * x4) + 74) / 65537 * 65537) / 8) / 4) - (((((75 * x4) + 74) - ((75 * x4) + 74) / 65537 * 65537) / 8) / 4) / 4 * 4) now).bind fun q6 =>
        g_X9_year_b163 nf (g_X9_year_l43 nf n) x2 x3 (((75 * x4) + 74) - ((75 * x4) + 74) / 65537 * 65537) x5 book q6.2 nights townAt townCell q6.1
      else
        if ((((75 * x4) + 74) - ((75 * x4) + 74) / 65537 * 65537) - (((75 * x4) + 74) - ((75 * x4) + 74) / 65537 * 65537) / 8 * 8) = 1 then
          (g_X9_strew nf (((((75 * x4) + 74) - ((75 * x4) + 74) / 65537 * 65537) / 8) - ((((75 * x4) + 74) - ((75 * x4) + 74) / 65537 * 65537) / 8) / 25 * 25) now).bind fun q5 =>
          g_X9_year_b163 nf (g_X9_year_l43 nf n) x2 x3 (((75 * x4) + 74) - ((75 * x4) + 74) / 65537 * 65537) x5 book q5.2 nights townAt townCell q5.1
        else
          if 4 ≤ ((((75 * x4) + 74) - ((75 * x4) + 74) / 65537 * 65537) - (((75 * x4) + 74) - ((75 * x4) + 74) / 65537 * 65537) / 8 * 8) then
            (g_X9_endNight nf now nights townAt townCell).bind fun q3 =>
            g_X9_year_b163 nf (g_X9_year_l43 nf n) x2 x3 (((75 * x4) + 74) - ((75 * x4) + 74) / 65537 * 65537) x5 book q3.2.1 q3.2.2.1 q3.2.2.2.1 q3.2.2.2.2 q3.1
          else
            (g_X9_darn nf (((((75 * x4) + 74) - ((75 * x4) + 74) / 65537 * 65537) / 8) - ((((75 * x4) + 74) - ((75 * x4) + 74) / 65537 * 65537) / 8) / 25 * 25) (1 + ((((((75 * x4) + 74) - ((75 * x4) + 74) / 65537 * 65537) / 8) / 25) - (((((75 * x4) + 74) - ((75 * x4) + 74) / 65537 * 65537) / 8) / 25) / 3 * 3)) now).bind fun q4 =>
            g_X9_year_b163 nf (g_X9_year_l43 nf n) x2 x3 (((75 * x4) + 74) - ((75 * x4) + 74) / 65537 * 65537) x5 book q4.2 nights townAt townCell q4.1
def g_X9_year (nf : Nat) (p1 : Int32) (p2 : Int32) (p3 : Int32) (book : Nat → Int32) (now : Nat → Int32) (nights : Int32) (townAt : Int32) (townCell : Int32) (reason : Int32) : Option (Int32 × (Nat → Int32) × Int32 × Int32 × Int32 × Int32) :=
  (g_X9_in nf p1 0 9999).bind fun q7 =>
  if q7 = 0 then
    some ((-2), now, nights, townAt, townCell, reason)
  else
    (g_X9_in nf p2 1 99).bind fun q8 =>
    if q8 = 0 then
      some ((-2), now, nights, townAt, townCell, reason)
    else
      (g_X9_in nf p3 0 2).bind fun q9 =>
      if q9 = 0 then
        some ((-2), now, nights, townAt, townCell, reason)
      else
        (g_X9_asNow nf book now nights townAt townCell).bind fun q10 =>
        g_X9_year_l43 nf nf p2 p3 p1 0 book q10.1 q10.2.1 q10.2.2.1 q10.2.2.2 reason
def g_X9_image_l47 (nf : Nat) : Nat → Int32 → Int32 → Int32 → (Nat → Int32) → Int32 → (Nat → Int32) → (Nat → Int32) → (Nat → Int32) → Option (Int32 × (Nat → Int32) × (Nat → Int32))
  | 0, _, _, _, _, _, _, _, _ => none
  | n + 1, x1, x2, x3, book, sights, sight, image, isKept =>
    if 16 ≤ x3 then
      ck (x2 + 80) 180 <|
      ck x1 2 <|
      bz 1 <|
      some (1, (upd image (x2 + 80).toNatClampNeg sights), (upd isKept x1.toNatClampNeg 1))
    else
      ck x3 16 <|
      ck ((x2 + 63) + x3) 180 <|
      (g_X9_image_l47 nf n) x1 x2 (x3 + 1) book sights sight (upd image ((x2 + 63) + x3).toNatClampNeg (sight x3.toNatClampNeg)) isKept
def g_X9_image_l19 (nf : Nat) : Nat → Int32 → Int32 → Int32 → (Nat → Int32) → Int32 → (Nat → Int32) → (Nat → Int32) → (Nat → Int32) → Option (Int32 × (Nat → Int32) × (Nat → Int32))
  | 0, _, _, _, _, _, _, _, _ => none
  | n + 1, x1, x2, x3, book, sights, sight, image, isKept =>
    if 63 ≤ x3 then
      g_X9_image_l47 nf nf x1 x2 0 book sights sight image isKept
    else
      ck x3 63 <|
      ck (x2 + x3) 180 <|
      (g_X9_image_l19 nf n) x1 x2 (x3 + 1) book sights sight (upd image (x2 + x3).toNatClampNeg (book x3.toNatClampNeg)) isKept
def g_X9_image (nf : Nat) (p1 : Int32) (book : Nat → Int32) (sights : Int32) (sight : Nat → Int32) (image : Nat → Int32) (isKept : Nat → Int32) : Option (Int32 × (Nat → Int32) × (Nat → Int32)) :=
  (g_X9_in nf p1 0 1).bind fun q1 =>
  if q1 = 0 then
    some ((-2), image, isKept)
  else
    g_X9_image_l19 nf nf p1 (90 * p1) 0 book sights sight image isKept
def g_X9_restore_l59 (nf : Nat) : Nat → Int32 → Int32 → (Nat → Int32) → Int32 → (Nat → Int32) → (Nat → Int32) → (Nat → Int32) → Option (Int32 × (Nat → Int32) × Int32 × (Nat → Int32))
  | 0, _, _, _, _, _, _, _ => none
  | n + 1, x2, x3, book, sights, sight, image, isKept =>
    if 16 ≤ x3 then
      ck (x2 + 80) 180 <|
      some (1, book, (image (x2 + 80).toNatClampNeg), sight)
    else
      ck ((x2 + 63) + x3) 180 <|
      ck x3 16 <|
      (g_X9_restore_l59 nf n) x2 (x3 + 1) book sights (upd sight x3.toNatClampNeg (image ((x2 + 63) + x3).toNatClampNeg)) image isKept
def g_X9_restore_l31 (nf : Nat) : Nat → Int32 → Int32 → (Nat → Int32) → Int32 → (Nat → Int32) → (Nat → Int32) → (Nat → Int32) → Option (Int32 × (Nat → Int32) × Int32 × (Nat → Int32))
  | 0, _, _, _, _, _, _, _ => none
  | n + 1, x2, x3, book, sights, sight, image, isKept =>
    if 63 ≤ x3 then
      g_X9_restore_l59 nf nf x2 0 book sights sight image isKept
    else
      ck (x2 + x3) 180 <|
      ck x3 63 <|
      (g_X9_restore_l31 nf n) x2 (x3 + 1) (upd book x3.toNatClampNeg (image (x2 + x3).toNatClampNeg)) sights sight image isKept
def g_X9_restore (nf : Nat) (p1 : Int32) (book : Nat → Int32) (sights : Int32) (sight : Nat → Int32) (image : Nat → Int32) (isKept : Nat → Int32) : Option (Int32 × (Nat → Int32) × Int32 × (Nat → Int32)) :=
  (g_X9_in nf p1 0 1).bind fun q1 =>
  if q1 = 0 then
    some ((-2), book, sights, sight)
  else
    ck p1 2 <|
    if (isKept p1.toNatClampNeg) = 0 then
      some ((-3), book, sights, sight)
    else
      g_X9_restore_l31 nf nf (90 * p1) 0 book sights sight image isKept
def g_X9_told (nf : Nat) (p1 : Int32) (book : Nat → Int32) (now : Nat → Int32) (sights : Int32) (signs : Int32) (nights : Int32) (townAt : Int32) (townCell : Int32) : Option (Int32 × (Nat → Int32) × Int32 × Int32 × Int32) :=
  if p1 < 200 then
    if p1 < 100 then
      if p1 < 20 then
        (g_X9_asNow nf book now nights townAt townCell).bind fun q1 =>
        (g_X9_in nf p1 11 13).bind fun q2 =>
        if q2 = 0 then
          if p1 = 0 then
            some (signs, q1.1, q1.2.1, q1.2.2.1, q1.2.2.2)
          else
            if p1 = 1 then
              ck 61 63 <|
              some ((book (61 : Int32).toNatClampNeg), q1.1, q1.2.1, q1.2.2.1, q1.2.2.2)
            else
              if p1 = 2 then
                ck 62 63 <|
                some ((book (62 : Int32).toNatClampNeg), q1.1, q1.2.1, q1.2.2.1, q1.2.2.2)
              else
                if p1 = 3 then
                  (g_X9_countOf nf 0 q1.1).bind fun q3 =>
                  some (q3, q1.1, q1.2.1, q1.2.2.1, q1.2.2.2)
                else
                  if p1 = 4 then
                    some (sights, q1.1, q1.2.1, q1.2.2.1, q1.2.2.2)
                  else
                    some ((-2), q1.1, q1.2.1, q1.2.2.1, q1.2.2.2)
        else
          ck (47 + p1) 63 <|
          some ((book (47 + p1).toNatClampNeg), q1.1, q1.2.1, q1.2.2.1, q1.2.2.2)
      else
        if 40 ≤ p1 then
          some ((-2), now, nights, townAt, townCell)
        else
          (g_X9_isThere nf (p1 - p1 / 10 * 10) book).bind fun q4 =>
          if q4 = 0 then
            some ((-2), now, nights, townAt, townCell)
          else
            ck ((42 + ((p1 / 10) * 4)) + (p1 - p1 / 10 * 10)) 63 <|
            some ((book ((42 + ((p1 / 10) * 4)) + (p1 - p1 / 10 * 10)).toNatClampNeg), now, nights, townAt, townCell)
    else
      (g_X9_isCell nf (p1 - 100)).bind fun q5 =>
      if q5 = 0 then
        some ((-2), now, nights, townAt, townCell)
      else
        ck (p1 - 100) 63 <|
        some ((book (p1 - 100).toNatClampNeg), now, nights, townAt, townCell)
  else
    (g_X9_isCell nf (p1 - 200)).bind fun q6 =>
    if q6 = 0 then
      some ((-2), now, nights, townAt, townCell)
    else
      ck (p1 - 175) 63 <|
      some ((book (p1 - 175).toNatClampNeg), now, nights, townAt, townCell)
