/-! the words that all methods rest on: the good ones of the tables -/
def TG : List Cond := lw_tbl.filter goodWord
theorem TG_m {w : Cond} (i : Nat) (h : lw_tbl[i]? = some w) (hg : goodWord w = true) : w ∈ TG := List.mem_filter.mpr ⟨List.mem_of_getElem? h, hg⟩
theorem TG_good {w : Cond} (h : w ∈ TG) : goodWord w = true := (List.mem_filter.mp h).2
theorem TG_tbl {w : Cond} (h : w ∈ TG) : w ∈ lw_tbl := (List.mem_filter.mp h).1
theorem TG_in {ws : List Cond} (h : ∀ w ∈ ws, w ∈ TG) : GoodIn TG ws := fun w hw => ⟨h w hw, good_of_word (TG_good (h w hw))⟩
abbrev wm (y : MethodName) (b : ByteArray) (n : Nat) (ret : Option FieldType) : List Cond := .code y b n ret :: TG
/-! names of classes and fields -/
def N_Orders : String := "TrickHouses$Orders"
def T_Orders : u_T := fun k => match k with
  | 0 => ("TrickHouses$Orders", "row", "[I", true)
  | _ => ("TrickHouses$Orders", "size", "I", false)
def y_Orders_t : Nat → FieldType := fun k => match k with
  | 0 => .array .int
  | _ => .int
theorem t_Orders_nm : ∀ a, a < 2 → ∀ b, b < 2 → a ≠ b → (T_Orders a).2.1 ≠ (T_Orders b).2.1 := by decide +kernel
theorem t_Orders_ok : ∀ k, k < 2 → parseFieldDescriptor (T_Orders k).2.2.1 = some (y_Orders_t k) := by decide +kernel
theorem t_Orders_in0 : ∀ w ∈ u_ws N_Orders T_Orders 2, w ∈ lw_tbl := by decide +kernel
theorem t_Orders_good : ∀ w ∈ u_ws N_Orders T_Orders 2, goodWord w = true := by decide +kernel
theorem t_Orders_in : ∀ w ∈ u_ws N_Orders T_Orders 2, w ∈ TG := fun w h => List.mem_filter.mpr ⟨t_Orders_in0 w h, t_Orders_good w h⟩
def N_Readings : String := "TrickHouses$Readings"
def T_Readings : u_T := fun k => match k with
  | 0 => ("TrickHouses$Readings", "road", "LTrickHouses$Way;", true)
  | 1 => ("TrickHouses$Readings", "walk", "LTrickHouses$Walk;", true)
  | 2 => ("TrickHouses$Readings", "guest", "[I", true)
  | 3 => ("TrickHouses$Readings", "house", "[I", true)
  | 4 => ("TrickHouses$Readings", "count", "I", false)
  | 5 => ("TrickHouses$Readings", "fitting", "I", false)
  | _ => ("TrickHouses$Readings", "leastFitting", "I", false)
def y_Readings_t : Nat → FieldType := fun k => match k with
  | 0 => .object "TrickHouses$Way"
  | 1 => .object "TrickHouses$Walk"
  | 2 => .array .int
  | 3 => .array .int
  | 4 => .int
  | 5 => .int
  | _ => .int
theorem t_Readings_nm : ∀ a, a < 7 → ∀ b, b < 7 → a ≠ b → (T_Readings a).2.1 ≠ (T_Readings b).2.1 := by decide +kernel
theorem t_Readings_ok : ∀ k, k < 7 → parseFieldDescriptor (T_Readings k).2.2.1 = some (y_Readings_t k) := by decide +kernel
theorem t_Readings_in0 : ∀ w ∈ u_ws N_Readings T_Readings 7, w ∈ lw_tbl := by decide +kernel
theorem t_Readings_good : ∀ w ∈ u_ws N_Readings T_Readings 7, goodWord w = true := by decide +kernel
theorem t_Readings_in : ∀ w ∈ u_ws N_Readings T_Readings 7, w ∈ TG := fun w h => List.mem_filter.mpr ⟨t_Readings_in0 w h, t_Readings_good w h⟩
def N_Search : String := "TrickHouses$Search"
def T_Search : u_T := fun k => match k with
  | 0 => ("TrickHouses$Search", "road", "LTrickHouses$Way;", true)
  | 1 => ("TrickHouses$Search", "walk", "LTrickHouses$Walk;", true)
  | 2 => ("TrickHouses$Search", "orders", "LTrickHouses$Orders;", true)
  | 3 => ("TrickHouses$Search", "found", "[I", true)
  | 4 => ("TrickHouses$Search", "most", "I", false)
  | 5 => ("TrickHouses$Search", "fewest", "I", false)
  | 6 => ("TrickHouses$Search", "good", "I", false)
  | _ => ("TrickHouses$Search", "all", "I", false)
def y_Search_t : Nat → FieldType := fun k => match k with
  | 0 => .object "TrickHouses$Way"
  | 1 => .object "TrickHouses$Walk"
  | 2 => .object "TrickHouses$Orders"
  | 3 => .array .int
  | 4 => .int
  | 5 => .int
  | 6 => .int
  | _ => .int
theorem t_Search_nm : ∀ a, a < 8 → ∀ b, b < 8 → a ≠ b → (T_Search a).2.1 ≠ (T_Search b).2.1 := by decide +kernel
theorem t_Search_ok : ∀ k, k < 8 → parseFieldDescriptor (T_Search k).2.2.1 = some (y_Search_t k) := by decide +kernel
theorem t_Search_in0 : ∀ w ∈ u_ws N_Search T_Search 8, w ∈ lw_tbl := by decide +kernel
theorem t_Search_good : ∀ w ∈ u_ws N_Search T_Search 8, goodWord w = true := by decide +kernel
theorem t_Search_in : ∀ w ∈ u_ws N_Search T_Search 8, w ∈ TG := fun w h => List.mem_filter.mpr ⟨t_Search_in0 w h, t_Search_good w h⟩
def N_Sheet : String := "TrickHouses$Sheet"
def T_Sheet : u_T := fun k => match k with
  | 0 => ("TrickHouses$Sheet", "cells", "[I", true)
  | 1 => ("TrickHouses$Sheet", "hasRow", "Z", false)
  | 2 => ("TrickHouses$Sheet", "lane", "I", false)
  | _ => ("TrickHouses$Sheet", "length", "I", false)
def y_Sheet_t : Nat → FieldType := fun k => match k with
  | 0 => .array .int
  | 1 => .boolean
  | 2 => .int
  | _ => .int
theorem t_Sheet_nm : ∀ a, a < 4 → ∀ b, b < 4 → a ≠ b → (T_Sheet a).2.1 ≠ (T_Sheet b).2.1 := by decide +kernel
theorem t_Sheet_ok : ∀ k, k < 4 → parseFieldDescriptor (T_Sheet k).2.2.1 = some (y_Sheet_t k) := by decide +kernel
theorem t_Sheet_in0 : ∀ w ∈ u_ws N_Sheet T_Sheet 4, w ∈ lw_tbl := by decide +kernel
theorem t_Sheet_good : ∀ w ∈ u_ws N_Sheet T_Sheet 4, goodWord w = true := by decide +kernel
theorem t_Sheet_in : ∀ w ∈ u_ws N_Sheet T_Sheet 4, w ∈ TG := fun w h => List.mem_filter.mpr ⟨t_Sheet_in0 w h, t_Sheet_good w h⟩
def N_Text : String := "TrickHouses$Text"
def T_Text : u_T := fun k => match k with
  | 0 => ("TrickHouses$Text", "codes", "[I", true)
  | 1 => ("TrickHouses$Text", "count", "I", false)
  | 2 => ("TrickHouses$Text", "houses", "I", false)
  | _ => ("TrickHouses$Text", "guests", "I", false)
def y_Text_t : Nat → FieldType := fun k => match k with
  | 0 => .array .int
  | 1 => .int
  | 2 => .int
  | _ => .int
theorem t_Text_nm : ∀ a, a < 4 → ∀ b, b < 4 → a ≠ b → (T_Text a).2.1 ≠ (T_Text b).2.1 := by decide +kernel
theorem t_Text_ok : ∀ k, k < 4 → parseFieldDescriptor (T_Text k).2.2.1 = some (y_Text_t k) := by decide +kernel
theorem t_Text_in0 : ∀ w ∈ u_ws N_Text T_Text 4, w ∈ lw_tbl := by decide +kernel
theorem t_Text_good : ∀ w ∈ u_ws N_Text T_Text 4, goodWord w = true := by decide +kernel
theorem t_Text_in : ∀ w ∈ u_ws N_Text T_Text 4, w ∈ TG := fun w h => List.mem_filter.mpr ⟨t_Text_in0 w h, t_Text_good w h⟩
def N_Trials : String := "TrickHouses$Trials"
def T_Trials : u_T := fun k => match k with
  | 0 => ("TrickHouses$Trials", "road", "LTrickHouses$Way;", true)
  | 1 => ("TrickHouses$Trials", "walk", "LTrickHouses$Walk;", true)
  | 2 => ("TrickHouses$Trials", "found", "I", false)
  | _ => ("TrickHouses$Trials", "come", "I", false)
def y_Trials_t : Nat → FieldType := fun k => match k with
  | 0 => .object "TrickHouses$Way"
  | 1 => .object "TrickHouses$Walk"
  | 2 => .int
  | _ => .int
theorem t_Trials_nm : ∀ a, a < 4 → ∀ b, b < 4 → a ≠ b → (T_Trials a).2.1 ≠ (T_Trials b).2.1 := by decide +kernel
theorem t_Trials_ok : ∀ k, k < 4 → parseFieldDescriptor (T_Trials k).2.2.1 = some (y_Trials_t k) := by decide +kernel
theorem t_Trials_in0 : ∀ w ∈ u_ws N_Trials T_Trials 4, w ∈ lw_tbl := by decide +kernel
theorem t_Trials_good : ∀ w ∈ u_ws N_Trials T_Trials 4, goodWord w = true := by decide +kernel
theorem t_Trials_in : ∀ w ∈ u_ws N_Trials T_Trials 4, w ∈ TG := fun w h => List.mem_filter.mpr ⟨t_Trials_in0 w h, t_Trials_good w h⟩
def N_Walk : String := "TrickHouses$Walk"
def T_Walk : u_T := fun k => match k with
  | 0 => ("TrickHouses$Walk", "road", "LTrickHouses$Way;", true)
  | 1 => ("TrickHouses$Walk", "knows", "[I", true)
  | 2 => ("TrickHouses$Walk", "lostIn", "[I", true)
  | 3 => ("TrickHouses$Walk", "through", "I", false)
  | 4 => ("TrickHouses$Walk", "gone", "I", false)
  | _ => ("TrickHouses$Walk", "firstLoss", "I", false)
def y_Walk_t : Nat → FieldType := fun k => match k with
  | 0 => .object "TrickHouses$Way"
  | 1 => .array .int
  | 2 => .array .int
  | 3 => .int
  | 4 => .int
  | _ => .int
theorem t_Walk_nm : ∀ a, a < 6 → ∀ b, b < 6 → a ≠ b → (T_Walk a).2.1 ≠ (T_Walk b).2.1 := by decide +kernel
theorem t_Walk_ok : ∀ k, k < 6 → parseFieldDescriptor (T_Walk k).2.2.1 = some (y_Walk_t k) := by decide +kernel
theorem t_Walk_in0 : ∀ w ∈ u_ws N_Walk T_Walk 6, w ∈ lw_tbl := by decide +kernel
theorem t_Walk_good : ∀ w ∈ u_ws N_Walk T_Walk 6, goodWord w = true := by decide +kernel
theorem t_Walk_in : ∀ w ∈ u_ws N_Walk T_Walk 6, w ∈ TG := fun w h => List.mem_filter.mpr ⟨t_Walk_in0 w h, t_Walk_good w h⟩
def N_Way : String := "TrickHouses$Way"
def T_Way : u_T := fun k => match k with
  | 0 => ("TrickHouses$Way", "kind", "[I", true)
  | 1 => ("TrickHouses$Way", "helps", "[I", true)
  | 2 => ("TrickHouses$Way", "helpsToo", "[I", true)
  | 3 => ("TrickHouses$Way", "bars", "[I", true)
  | 4 => ("TrickHouses$Way", "gear", "[I", true)
  | 5 => ("TrickHouses$Way", "houses", "I", false)
  | 6 => ("TrickHouses$Way", "guests", "I", false)
  | _ => ("TrickHouses$Way", "barredByAll", "I", false)
def y_Way_t : Nat → FieldType := fun k => match k with
  | 0 => .array .int
  | 1 => .array .int
  | 2 => .array .int
  | 3 => .array .int
  | 4 => .array .int
  | 5 => .int
  | 6 => .int
  | _ => .int
theorem t_Way_nm : ∀ a, a < 8 → ∀ b, b < 8 → a ≠ b → (T_Way a).2.1 ≠ (T_Way b).2.1 := by decide +kernel
theorem t_Way_ok : ∀ k, k < 8 → parseFieldDescriptor (T_Way k).2.2.1 = some (y_Way_t k) := by decide +kernel
theorem t_Way_in0 : ∀ w ∈ u_ws N_Way T_Way 8, w ∈ lw_tbl := by decide +kernel
theorem t_Way_good : ∀ w ∈ u_ws N_Way T_Way 8, goodWord w = true := by decide +kernel
theorem t_Way_in : ∀ w ∈ u_ws N_Way T_Way 8, w ∈ TG := fun w h => List.mem_filter.mpr ⟨t_Way_in0 w h, t_Way_good w h⟩
def N_Main : String := "TrickHouses"
def T_Main : u_T := fun k => match k with
  | 0 => ("TrickHouses", "sheets", "[LTrickHouses$Sheet;", true)
  | 1 => ("TrickHouses", "text", "LTrickHouses$Text;", true)
  | 2 => ("TrickHouses", "road", "LTrickHouses$Way;", true)
  | 3 => ("TrickHouses", "walk", "LTrickHouses$Walk;", true)
  | 4 => ("TrickHouses", "search", "LTrickHouses$Search;", true)
  | 5 => ("TrickHouses", "trials", "LTrickHouses$Trials;", true)
  | 6 => ("TrickHouses", "readings", "LTrickHouses$Readings;", true)
  | 7 => ("TrickHouses", "traced", "I", false)
  | _ => ("TrickHouses", "latestFault", "I", false)
def y_Main_t : Nat → FieldType := fun k => match k with
  | 0 => .array (.object "TrickHouses$Sheet")
  | 1 => .object "TrickHouses$Text"
  | 2 => .object "TrickHouses$Way"
  | 3 => .object "TrickHouses$Walk"
  | 4 => .object "TrickHouses$Search"
  | 5 => .object "TrickHouses$Trials"
  | 6 => .object "TrickHouses$Readings"
  | 7 => .int
  | _ => .int
theorem t_Main_nm : ∀ a, a < 9 → ∀ b, b < 9 → a ≠ b → (T_Main a).2.1 ≠ (T_Main b).2.1 := by decide +kernel
theorem t_Main_ok : ∀ k, k < 9 → parseFieldDescriptor (T_Main k).2.2.1 = some (y_Main_t k) := by decide +kernel
theorem t_Main_in0 : ∀ w ∈ u_ws N_Main T_Main 9, w ∈ lw_tbl := by decide +kernel
theorem t_Main_good : ∀ w ∈ u_ws N_Main T_Main 9, goodWord w = true := by decide +kernel
theorem t_Main_in : ∀ w ∈ u_ws N_Main T_Main 9, w ∈ TG := fun w h => List.mem_filter.mpr ⟨t_Main_in0 w h, t_Main_good w h⟩
def N_Model : String := "TrickHousesModel"
def T_Model : u_T := fun k => match k with
  | 0 => ("TrickHousesModel", "fault", "I", false)
  | 1 => ("TrickHousesModel", "trace", "I", false)
  | 2 => ("TrickHousesModel", "sorts", "[I", true)
  | 3 => ("TrickHousesModel", "sheetLong", "[I", true)
  | 4 => ("TrickHousesModel", "cells", "[I", true)
  | 5 => ("TrickHousesModel", "houses", "I", false)
  | 6 => ("TrickHousesModel", "guests", "I", false)
  | 7 => ("TrickHousesModel", "kind", "[I", true)
  | 8 => ("TrickHousesModel", "helps", "[I", true)
  | 9 => ("TrickHousesModel", "other", "[I", true)
  | 10 => ("TrickHousesModel", "bars", "[I", true)
  | 11 => ("TrickHousesModel", "gearOf", "[I", true)
  | 12 => ("TrickHousesModel", "barredToo", "I", false)
  | 13 => ("TrickHousesModel", "at", "I", false)
  | 14 => ("TrickHousesModel", "readHouses", "I", false)
  | 15 => ("TrickHousesModel", "readMany", "I", false)
  | 16 => ("TrickHousesModel", "read", "[I", true)
  | 17 => ("TrickHousesModel", "readGear", "[I", true)
  | 18 => ("TrickHousesModel", "lostNow", "I", false)
  | 19 => ("TrickHousesModel", "lostIn", "[I", true)
  | 20 => ("TrickHousesModel", "knows", "[I", true)
  | 21 => ("TrickHousesModel", "row", "[I", true)
  | 22 => ("TrickHousesModel", "found", "[I", true)
  | 23 => ("TrickHousesModel", "readings", "I", false)
  | 24 => ("TrickHousesModel", "readGuestOf", "[I", true)
  | _ => ("TrickHousesModel", "readIn", "[I", true)
def y_Model_t : Nat → FieldType := fun k => match k with
  | 0 => .int
  | 1 => .int
  | 2 => .array .int
  | 3 => .array .int
  | 4 => .array .int
  | 5 => .int
  | 6 => .int
  | 7 => .array .int
  | 8 => .array .int
  | 9 => .array .int
  | 10 => .array .int
  | 11 => .array .int
  | 12 => .int
  | 13 => .int
  | 14 => .int
  | 15 => .int
  | 16 => .array .int
  | 17 => .array .int
  | 18 => .int
  | 19 => .array .int
  | 20 => .array .int
  | 21 => .array .int
  | 22 => .array .int
  | 23 => .int
  | 24 => .array .int
  | _ => .array .int
theorem t_Model_nm : ∀ a, a < 26 → ∀ b, b < 26 → a ≠ b → (T_Model a).2.1 ≠ (T_Model b).2.1 := by decide +kernel
theorem t_Model_ok : ∀ k, k < 26 → parseFieldDescriptor (T_Model k).2.2.1 = some (y_Model_t k) := by decide +kernel
theorem t_Model_in0 : ∀ w ∈ u_ws N_Model T_Model 26, w ∈ lw_tbl := by decide +kernel
theorem t_Model_good : ∀ w ∈ u_ws N_Model T_Model 26, goodWord w = true := by decide +kernel
theorem t_Model_in : ∀ w ∈ u_ws N_Model T_Model 26, w ∈ TG := fun w h => List.mem_filter.mpr ⟨t_Model_in0 w h, t_Model_good w h⟩
abbrev classes : List vw_C := [(N_Orders, T_Orders, 2), (N_Readings, T_Readings, 7), (N_Search, T_Search, 8), (N_Sheet, T_Sheet, 4), (N_Text, T_Text, 4), (N_Trials, T_Trials, 4), (N_Walk, T_Walk, 6), (N_Way, T_Way, 8), (N_Main, T_Main, 9), (N_Model, T_Model, 26)]
/-! the world: 46 cells, numbers in M -/
abbrev Mem : Type := Nat → Nat → Int32
def mrow (M : Mem) (k : Nat) (f : Nat → Int32) : Mem := fun q => if q = k then f else M q
def mset (M : Mem) (k j : Nat) (v : Int32) : Mem := mrow M k (upd (M k) j v)
abbrev GG : Type := va_G × ClassId × ClassId × (Nat → Nat)
def ent (g : GG) (k : Nat) (m : Nat → Int32) : va_E := match k with
  | 0 => .inr (8, [.ref (g.2.2.2 1), .ref (g.2.2.2 10), .ref (g.2.2.2 12), .ref (g.2.2.2 18), .ref (g.2.2.2 21), .ref (g.2.2.2 25), .ref (g.2.2.2 26), .int (m 7), .int (m 8)])
  | 1 => .inl (g.2.2.1, 4, .inr (.inr (.inr (.inr (fun j => some (g.2.2.2 (2 + j)))))))
  | 2 => .inr (3, [.ref (g.2.2.2 6), .int (m 1), .int (m 2), .int (m 3)])
  | 3 => .inr (3, [.ref (g.2.2.2 7), .int (m 1), .int (m 2), .int (m 3)])
  | 4 => .inr (3, [.ref (g.2.2.2 8), .int (m 1), .int (m 2), .int (m 3)])
  | 5 => .inr (3, [.ref (g.2.2.2 9), .int (m 1), .int (m 2), .int (m 3)])
  | 6 => .inl (g.2.1, 60, .inl m)
  | 7 => .inl (g.2.1, 60, .inl m)
  | 8 => .inl (g.2.1, 60, .inl m)
  | 9 => .inl (g.2.1, 60, .inl m)
  | 10 => .inr (4, [.ref (g.2.2.2 11), .int (m 1), .int (m 2), .int (m 3)])
  | 11 => .inl (g.2.1, 60, .inl m)
  | 12 => .inr (7, [.ref (g.2.2.2 13), .ref (g.2.2.2 14), .ref (g.2.2.2 15), .ref (g.2.2.2 16), .ref (g.2.2.2 17), .int (m 5), .int (m 6), .int (m 7)])
  | 13 => .inl (g.2.1, 6, .inl m)
  | 14 => .inl (g.2.1, 6, .inl m)
  | 15 => .inl (g.2.1, 6, .inl m)
  | 16 => .inl (g.2.1, 6, .inl m)
  | 17 => .inl (g.2.1, 5, .inl m)
  | 18 => .inr (6, [.ref (g.2.2.2 12), .ref (g.2.2.2 19), .ref (g.2.2.2 20), .int (m 3), .int (m 4), .int (m 5)])
  | 19 => .inl (g.2.1, 6, .inl m)
  | 20 => .inl (g.2.1, 5, .inl m)
  | 21 => .inr (2, [.ref (g.2.2.2 12), .ref (g.2.2.2 18), .ref (g.2.2.2 22), .ref (g.2.2.2 24), .int (m 4), .int (m 5), .int (m 6), .int (m 7)])
  | 22 => .inr (0, [.ref (g.2.2.2 23), .int (m 1)])
  | 23 => .inl (g.2.1, 5, .inl m)
  | 24 => .inl (g.2.1, 5, .inl m)
  | 25 => .inr (5, [.ref (g.2.2.2 12), .ref (g.2.2.2 18), .int (m 2), .int (m 3)])
  | 26 => .inr (1, [.ref (g.2.2.2 12), .ref (g.2.2.2 18), .ref (g.2.2.2 27), .ref (g.2.2.2 28), .int (m 4), .int (m 5), .int (m 6)])
  | 27 => .inl (g.2.1, 8, .inl m)
  | 28 => .inl (g.2.1, 8, .inl m)
  | 29 => .inr (9, [.int (m 0), .int (m 1), .ref (g.2.2.2 30), .ref (g.2.2.2 31), .ref (g.2.2.2 32), .int (m 5), .int (m 6), .ref (g.2.2.2 33), .ref (g.2.2.2 34), .ref (g.2.2.2 35), .ref (g.2.2.2 36), .ref (g.2.2.2 37), .int (m 12), .int (m 13), .int (m 14), .int (m 15), .ref (g.2.2.2 38), .ref (g.2.2.2 39), .int (m 18), .ref (g.2.2.2 40), .ref (g.2.2.2 41), .ref (g.2.2.2 42), .ref (g.2.2.2 43), .int (m 23), .ref (g.2.2.2 44), .ref (g.2.2.2 45)])
  | 30 => .inl (g.2.1, 4, .inl m)
  | 31 => .inl (g.2.1, 4, .inl m)
  | 32 => .inl (g.2.1, 240, .inl m)
  | 33 => .inl (g.2.1, 6, .inl m)
  | 34 => .inl (g.2.1, 6, .inl m)
  | 35 => .inl (g.2.1, 6, .inl m)
  | 36 => .inl (g.2.1, 6, .inl m)
  | 37 => .inl (g.2.1, 5, .inl m)
  | 38 => .inl (g.2.1, 24, .inl m)
  | 39 => .inl (g.2.1, 5, .inl m)
  | 40 => .inl (g.2.1, 5, .inl m)
  | 41 => .inl (g.2.1, 6, .inl m)
  | 42 => .inl (g.2.1, 5, .inl m)
  | 43 => .inl (g.2.1, 5, .inl m)
  | 44 => .inl (g.2.1, 8, .inl m)
  | 45 => .inl (g.2.1, 8, .inl m)
  | _ => .inl (g.2.1, 0, .inl m)
def wsOf (g : GG) (M : Mem) : va_W := (List.range 46).map (fun k => (g.2.2.2 k, ent g k (M k)))
def AW (g : GG) : Nat → Prop := fun q => ∃ k, k < 46 ∧ q = g.2.2.2 k
def WP (g : GG) (M : Mem) (H : Heap) : Prop := va_P g.1 classes (wsOf g M) H
abbrev tysOf (g : GG) : List (ClassId × FieldType) := [(g.2.1, .int), (g.2.2.1, .object "TrickHouses$Sheet")]
def y_isBelow : MethodName := ⟨N_Main, "isBelow", "(II)Z"⟩
abbrev nw1 : Cond := .methodLinkNest N_Text 55 y_isBelow N_Main
abbrev nw2 : Cond := .methodLinkNest N_Way 52 y_isBelow N_Main
def WK (g : GG) (U : State) : Prop := va_K g.1 classes (tysOf g) U ∧ va_Nw nw1 U ∧ va_Nw nw2 U
def WI (g : GG) : Prop := ∀ i j, i < 46 → j < 46 → g.2.2.2 i = g.2.2.2 j → i = j
theorem WK.warm {g : GG} {s U : State} (h : WK g s) (hW : s.WarmedH U.vm) : WK g U := ⟨va_K.moved hW.alike h.1, va_Nw.warmM hW h.2.1, va_Nw.warmM hW h.2.2⟩
theorem WK.calling {g : GG} {U : State} {gg : JFrame} {mk : MethodId} {a : Array Value} (h : WK g U) : WK g (U.calling gg mk a) := ⟨va_K.moved (u := U) (U := U.calling gg mk a) (Vm.Alike.refl U.vm) h.1, va_Nw.same rfl (u := U) rfl h.2.1, va_Nw.same rfl (u := U) rfl h.2.2⟩
theorem ws_at (g : GG) (M : Mem) {k : Nat} (hk : k < 46) : (wsOf g M)[k]? = some (g.2.2.2 k, ent g k (M k)) := by
  simp [wsOf, hk]
theorem ws_ge (g : GG) (M : Mem) {k : Nat} (hk : ¬ k < 46) : (wsOf g M)[k]? = none := by
  simp [wsOf]; omega
theorem ws_set (g : GG) (M : Mem) {k : Nat} (hk : k < 46) (f : Nat → Int32) : (wsOf g M).set k (g.2.2.2 k, ent g k f) = wsOf g (mrow M k f) := by
  apply List.ext_getElem?
  intro i
  by_cases hi : i < 46
  · by_cases hik : i = k
    · subst hik
      rw [List.getElem?_set_self (by simp [wsOf]; omega), ws_at g _ hi]
      simp [mrow]
    · rw [List.getElem?_set_ne (Ne.symm hik), ws_at g _ hi, ws_at g _ hi]
      simp [mrow, hik]
  · rw [ws_ge g _ hi, List.getElem?_set_ne (by omega), ws_ge g _ hi]
theorem ws_D {g : GG} (h : WI g) (M : Mem) : va_D (AW g) (wsOf g M) := by
  have key : ∀ (i : Nat) (q : Nat × va_E), (wsOf g M)[i]? = some q → i < 46 ∧ q.1 = g.2.2.2 i := by
    intro i q hq
    by_cases hi : i < 46
    · rw [ws_at g M hi] at hq
      cases hq
      exact ⟨hi, rfl⟩
    · rw [ws_ge g M hi] at hq
      cases hq
  refine ⟨fun i j x y hx hy e => ?_, fun k q hq => ⟨k, (key k q hq).1, (key k q hq).2⟩⟩
  obtain ⟨h1, e1⟩ := key i x hx
  obtain ⟨h2, e2⟩ := key j y hy
  exact h i j h1 h2 (by rw [← e1, ← e2, e])
section RW
variable {p : Program} {l : Launch} {e : Env} {R : Room} {s : State} {m : MethodId} {args : Array Value} {below : List Frame} {meth : Method} {c : Code} {H H0 : Heap} {locs : List Loc} {cells slots : Nat} {Q : State → Prop}
variable {cc : ByteArray} {pc nL : Nat} {ls : Array Slot} {rest : List Value} {own : String} {g : GG} {M : Mem}
theorem r_get {Cn : String} {T : u_T} {N ci : Nat} (hin : ∀ w ∈ u_ws Cn T N, w ∈ TG) (hc : classes[ci]? = some (Cn, T, N)) (k : Nat) (hk : k < 46) {fs : List Value} (he : ent g k (M k) = .inr (ci, fs)) (j : Nat) (hj : j < N) (hd : (T j).1 = Cn) {v : Value} (hv : fs[j]? = some v)
    (C : CallFix p m c cc nL s args TG own) (hW : WK g s) (hP : WP g M H) {index : Nat} (hl : Cond.fieldLink own index Cn (T j).2.1 (T j).2.2.1 ∈ TG) (hdg : decode cc pc = .ok (.getfield index, 3))
    (kk : W p l e R s m args below meth c H locs cells slots Q (F0 m (pc + 3) ls (v :: rest))) : W p l e R s m args below meth c H locs cells slots Q (F0 m pc ls (.ref (g.2.2.2 k) :: rest)) := by
  refine va_get (D := g.1) (cl := classes) (ci := ci) (C := Cn) (T := T) (N := N) (tys := tysOf g) C.1 C.2.1 C.2.2.2.2 hin C.2.2.2.1 hW.1 hP k (by rw [ws_at g M hk, he]) hc j hj (C.2.2.2.2 _ hl) (fun x h => by rw [hd] at h; exact h) hv hdg kk
theorem r_put {Cn : String} {T : u_T} {N ci : Nat} (hin : ∀ w ∈ u_ws Cn T N, w ∈ TG) (ty0 : Nat → FieldType) (hty : ∀ k, k < N → parseFieldDescriptor (T k).2.2.1 = some (ty0 k)) (hnm : ∀ a, a < N → ∀ b, b < N → a ≠ b → (T a).2.1 ≠ (T b).2.1) (hc : classes[ci]? = some (Cn, T, N)) (k : Nat) (hk : k < 46) {fs : List Value} (he : ent g k (M k) = .inr (ci, fs)) (j : Nat) (hj : j < N) (hd : (T j).1 = Cn) (hfin : (T j).2.2.2 = false) {v : Int32} {ty : FieldType} (hpd : parseFieldDescriptor (T j).2.2.1 = some ty) (hn : narrow ty (.int v) = .int v) (hfit : fits ty (.int v) = true) (hlen : j < fs.length) (hs : .inr (ci, fs.set j (.int v)) = ent g k (upd (M k) j v)) (hI : WI g)
    (C : CallFix p m c cc nL s args TG own) (hW : WK g s) (hP : WP g M H) (hS : va_S (AW g) H0 H locs) {index : Nat} (hl : Cond.fieldLink own index Cn (T j).2.1 (T j).2.2.1 ∈ TG) (hdg : decode cc pc = .ok (.putfield index, 3))
    (kk : ∀ (H1 : Heap) (locs1 : List Loc), WP g (mset M k j v) H1 → va_S (AW g) H0 H1 locs1 → W p l e R s m args below meth c H1 locs1 cells slots Q (F0 m (pc + 3) ls rest)) : W p l e R s m args below meth c H locs cells slots Q (F0 m pc ls (.int v :: .ref (g.2.2.2 k) :: rest)) := by
  refine va_put (D := g.1) (cl := classes) (ci := ci) (C := Cn) (T := T) (N := N) (tys := tysOf g) C.1 C.2.1 C.2.2.2.2 hin ty0 hty hnm C.2.2.2.1 hW.1 hP (ws_D hI M) hS k (by rw [ws_at g M hk, he]) hc j hj (C.2.2.2.2 _ hl) (fun x h => by rw [hd] at h; exact h) hfin hpd hn hfit hlen hdg (fun H1 locs1 hP1 _ hS1 => ?_)
  rw [hs, ws_set g M hk] at hP1
  exact kk H1 locs1 hP1 hS1
theorem r_ald (k : Nat) (hk : k < 46) {n : Nat} (he : ent g k (M k) = .inl (g.2.1, n, .inl (M k)))
    (C : CallFix p m c cc nL s args TG own) (hW : WK g s) (hP : WP g M H) {i : Int32} (hin : vp_in i n) (hdg : decode cc pc = .ok (.iaload, 1))
    (kk : W p l e R s m args below meth c H locs cells slots Q (F0 m (pc + 1) ls (.int (M k i.toNatClampNeg) :: rest))) : W p l e R s m args below meth c H locs cells slots Q (F0 m pc ls (.int i :: .ref (g.2.2.2 k) :: rest)) :=
  va_iald (tys := tysOf g) C.1 C.2.1 hW.1 hP k 0 (by rw [ws_at g M hk, he]) rfl hin hdg kk
theorem r_ast (k : Nat) (hk : k < 46) {n : Nat} (he : ∀ f, ent g k f = .inl (g.2.1, n, .inl f)) (hI : WI g)
    (C : CallFix p m c cc nL s args TG own) (hW : WK g s) (hP : WP g M H) (hS : va_S (AW g) H0 H locs) {i x : Int32} (hin : vp_in i n) (hdg : decode cc pc = .ok (.iastore, 1))
    (kk : ∀ (H1 : Heap) (locs1 : List Loc), WP g (mset M k i.toNatClampNeg x) H1 → va_S (AW g) H0 H1 locs1 → W p l e R s m args below meth c H1 locs1 cells slots Q (F0 m (pc + 1) ls rest)) : W p l e R s m args below meth c H locs cells slots Q (F0 m pc ls (.int x :: .int i :: .ref (g.2.2.2 k) :: rest)) := by
  refine va_iast (tys := tysOf g) C.1 C.2.1 hW.1 hP (ws_D hI M) hS k 0 (by rw [ws_at g M hk, he]) rfl hin hdg (fun H1 locs1 hP1 _ hS1 => ?_)
  rw [← he, ws_set g M hk] at hP1
  exact kk H1 locs1 hP1 hS1
end RW
