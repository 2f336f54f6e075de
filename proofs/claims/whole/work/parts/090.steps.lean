def St_loft (Inv : MM → Prop) : Prop := ∀ M : MM, Inv M → ∀ a1 a2 a3 a4 : Int32, ∃ r : Int32, ∃ M1 : MM, ∃ M2 : MM, f_X10_loft M a1 a2 a3 a4 = some (r, M1) ∧ f_X11_loft M1 a1 a2 a3 a4 = some (r, M2) ∧ Inv M2
def St_ofBatten (Inv : MM → Prop) : Prop := ∀ M : MM, Inv M → ∀ a1 a2 : Int32, ∃ r : Int32, f_X10_ofBatten M a1 a2 = some r ∧ f_X11_ofBatten M a1 a2 = some r ∧ Inv M
def St_seen (Inv : MM → Prop) : Prop := ∀ M : MM, Inv M → ∃ r : Int32, f_X10_seen M = some r ∧ f_X11_seen M = some r ∧ Inv M
def St_hides (Inv : MM → Prop) : Prop := ∀ M : MM, Inv M → ∀ a1 : Int32, ∃ r : Int32, f_X10_hides M a1 = some r ∧ f_X11_hides M a1 = some r ∧ Inv M
def St_hire (Inv : MM → Prop) : Prop := ∀ M : MM, Inv M → ∀ a1 : Int32, ∃ r : Int32, ∃ M1 : MM, ∃ M2 : MM, f_X10_hire M a1 = some (r, M1) ∧ f_X11_hire M1 a1 = some (r, M2) ∧ Inv M2
def St_trim (Inv : MM → Prop) : Prop := ∀ M : MM, Inv M → ∀ a1 : Int32, ∃ r : Int32, ∃ M1 : MM, ∃ M2 : MM, f_X10_trim M a1 = some (r, M1) ∧ f_X11_trim M1 a1 = some (r, M2) ∧ Inv M2
def St_fly (Inv : MM → Prop) : Prop := ∀ M : MM, Inv M → ∀ a1 a2 : Int32, ∃ r : Int32, ∃ M1 : MM, ∃ M2 : MM, f_X10_fly M a1 a2 = some (r, M1) ∧ f_X11_fly M1 a1 a2 = some (r, M2) ∧ Inv M2
def St_cue (Inv : MM → Prop) : Prop := ∀ M : MM, Inv M → ∀ a1 a2 a3 a4 : Int32, ∃ r : Int32, ∃ M1 : MM, ∃ M2 : MM, f_X10_cue M a1 a2 a3 a4 = some (r, M1) ∧ f_X11_cue M1 a1 a2 a3 a4 = some (r, M2) ∧ Inv M2
def St_hang (Inv : MM → Prop) : Prop := ∀ M : MM, Inv M → ∀ a1 a2 : Int32, ∃ r : Int32, ∃ M1 : MM, ∃ M2 : MM, f_X10_hang M a1 a2 = some (r, M1) ∧ f_X11_hang M1 a1 a2 = some (r, M2) ∧ Inv M2
def St_brick (Inv : MM → Prop) : Prop := ∀ M : MM, Inv M → ∀ a1 a2 : Int32, ∃ r : Int32, ∃ M1 : MM, ∃ M2 : MM, f_X10_brick M a1 a2 = some (r, M1) ∧ f_X11_brick M1 a1 a2 = some (r, M2) ∧ Inv M2
def St_undo (Inv : MM → Prop) : Prop := ∀ M : MM, Inv M → ∃ r : Int32, ∃ M1 : MM, ∃ M2 : MM, f_X10_undo M = some (r, M1) ∧ f_X11_undo M1 = some (r, M2) ∧ Inv M2
def St_keep (Inv : MM → Prop) : Prop := ∀ M : MM, Inv M → ∀ a1 : Int32, ∃ r : Int32, ∃ M1 : MM, ∃ M2 : MM, f_X10_keep M a1 = some (r, M1) ∧ f_X11_keep M1 a1 = some (r, M2) ∧ Inv M2
def St_restore (Inv : MM → Prop) : Prop := ∀ M : MM, Inv M → ∀ a1 : Int32, ∃ r : Int32, ∃ M1 : MM, ∃ M2 : MM, f_X10_restore M a1 = some (r, M1) ∧ f_X11_restore M1 a1 = some (r, M2) ∧ Inv M2
def St_act (Inv : MM → Prop) : Prop := ∀ M : MM, Inv M → ∀ a1 a2 a3 a4 a5 : Int32, ∃ r : Int32, ∃ M1 : MM, ∃ M2 : MM, f_X10_act M a1 a2 a3 a4 a5 = some (r, M1) ∧ f_X11_act M1 a1 a2 a3 a4 a5 = some (r, M2) ∧ Inv M2
def St_picture (Inv : MM → Prop) : Prop := ∀ M : MM, Inv M → ∀ a1 a2 : Int32, ∃ r : Int32, ∃ M1 : MM, ∃ M2 : MM, f_X10_picture M a1 a2 = some (r, M1) ∧ f_X11_picture M1 a1 a2 = some (r, M2) ∧ Inv M2
def St_split (Inv : MM → Prop) : Prop := ∀ M : MM, Inv M → ∀ a1 a2 a3 a4 a5 : Int32, ∃ r : Int32, ∃ M1 : MM, ∃ M2 : MM, f_X10_split M a1 a2 a3 a4 a5 = some (r, M1) ∧ f_X11_split M1 a1 a2 a3 a4 a5 = some (r, M2) ∧ Inv M2
def St_crew (Inv : MM → Prop) : Prop := ∀ M : MM, Inv M → ∀ a1 a2 a3 a4 : Int32, ∃ r : Int32, ∃ M1 : MM, ∃ M2 : MM, f_X10_crew M a1 a2 a3 a4 = some (r, M1) ∧ f_X11_crew M1 a1 a2 a3 a4 = some (r, M2) ∧ Inv M2
def St_balance (Inv : MM → Prop) : Prop := ∀ M : MM, Inv M → ∀ a1 a2 : Int32, ∃ r : Int32, ∃ M2 : MM, f_X10_balance M a1 a2 = some r ∧ f_X11_balance M a1 a2 = some (r, M2) ∧ Inv M2
def St_reading (Inv : MM → Prop) : Prop := ∀ M : MM, Inv M → ∀ a1 a2 a3 : Int32, ∃ r : Int32, ∃ M1 : MM, ∃ M2 : MM, f_X10_reading M a1 a2 a3 = some (r, M1) ∧ f_X11_reading M1 a1 a2 a3 = some (r, M2) ∧ Inv M2
def St_back (Inv : MM → Prop) : Prop := ∀ M : MM, Inv M → ∀ a1 : Int32, ∃ r : Int32, ∃ M1 : MM, ∃ M2 : MM, f_X10_back M a1 = some (r, M1) ∧ f_X11_back M1 a1 = some (r, M2) ∧ Inv M2
def St_loads (Inv : MM → Prop) : Prop := ∀ M : MM, Inv M → ∀ a1 : Int32, ∃ r : Int32, ∃ M2 : MM, f_X10_loads M a1 = some r ∧ f_X11_loads M a1 = some (r, M2) ∧ Inv M2
def St_weights (Inv : MM → Prop) : Prop := ∀ M : MM, Inv M → ∀ a1 : Int32, ∃ r : Int32, ∃ M2 : MM, f_X10_weights M a1 = some r ∧ f_X11_weights M a1 = some (r, M2) ∧ Inv M2
def St_kinds (Inv : MM → Prop) : Prop := ∀ M : MM, Inv M → ∀ a1 : Int32, ∃ r : Int32, ∃ M2 : MM, f_X10_kinds M a1 = some r ∧ f_X11_kinds M a1 = some (r, M2) ∧ Inv M2
def St_odds (Inv : MM → Prop) : Prop := ∀ M : MM, Inv M → ∀ a1 a2 : Int32, ∃ r : Int64, ∃ M2 : MM, f_X10_odds M a1 a2 = some r ∧ f_X11_odds M a1 a2 = some (r, M2) ∧ Inv M2
def St_sheet (Inv : MM → Prop) : Prop := ∀ M : MM, Inv M → ∀ a1 a2 a3 : Int32, ∃ r : Int32, ∃ M1 : MM, ∃ M2 : MM, f_X10_sheet M a1 a2 a3 = some (r, M1) ∧ f_X11_sheet M1 a1 a2 a3 = some (r, M2) ∧ Inv M2
def St_lose (Inv : MM → Prop) : Prop := ∀ M : MM, Inv M → ∀ a1 : Int32, ∃ r : Int32, ∃ M1 : MM, ∃ M2 : MM, f_X10_lose M a1 = some (r, M1) ∧ f_X11_lose M1 a1 = some (r, M2) ∧ Inv M2
def St_put (Inv : MM → Prop) : Prop := ∀ M : MM, Inv M → ∀ a1 a2 a3 : Int32, ∃ r : Int32, ∃ M1 : MM, ∃ M2 : MM, f_X10_put M a1 a2 a3 = some (r, M1) ∧ f_X11_put M1 a1 a2 a3 = some (r, M2) ∧ Inv M2
def St_cell (Inv : MM → Prop) : Prop := ∀ M : MM, Inv M → ∀ a1 a2 a3 : Int32, ∃ r : Int64, ∃ M1 : MM, ∃ M2 : MM, f_X10_cell M a1 a2 a3 = some (r, M1) ∧ f_X11_cell M1 a1 a2 a3 = some (r, M2) ∧ Inv M2
def St_copy (Inv : MM → Prop) : Prop := ∀ M : MM, Inv M → ∀ a1 a2 a3 a4 a5 : Int32, ∃ r : Int32, ∃ M1 : MM, ∃ M2 : MM, f_X10_copy M a1 a2 a3 a4 a5 = some (r, M1) ∧ f_X11_copy M1 a1 a2 a3 a4 a5 = some (r, M2) ∧ Inv M2
def St_tell (Inv : MM → Prop) : Prop := ∀ M : MM, Inv M → ∀ a1 : Int32, ∃ r : Int32, ∃ M1 : MM, ∃ M2 : MM, f_X10_tell M a1 = some (r, M1) ∧ f_X11_tell M1 a1 = some (r, M2) ∧ Inv M2
def St_call (Inv : MM → Prop) : Prop := ∀ M : MM, Inv M → ∀ a1 : Int32, ∃ r : Int32, ∃ M1 : MM, ∃ M2 : MM, f_X10_call M a1 = some (r, M1) ∧ f_X11_call M1 a1 = some (r, M2) ∧ Inv M2
def St_as (Inv : MM → Prop) : Prop := ∀ M : MM, Inv M → ∀ a1 a2 : Int32, ∃ r : Int32, ∃ M1 : MM, ∃ M2 : MM, f_X10_as M a1 a2 = some (r, M1) ∧ f_X11_as M1 a1 a2 = some (r, M2) ∧ Inv M2
def St_trace (Inv : MM → Prop) : Prop := ∀ M : MM, Inv M → ∃ r : Int32, f_X10_trace M = some r ∧ f_X11_trace M = some r ∧ Inv M
def St_fault (Inv : MM → Prop) : Prop := ∀ M : MM, Inv M → ∃ r : Int32, f_X10_fault M = some r ∧ f_X11_fault M = some r ∧ Inv M
def St_many (Inv : MM → Prop) : Prop := ∀ M : MM, Inv M → ∀ a1 : Int32, ∃ r : Int32, f_X10_many M a1 = some r ∧ f_X11_many M a1 = some r ∧ Inv M
def AllSt (Inv : MM → Prop) : Prop := St_loft Inv ∧ St_ofBatten Inv ∧ St_seen Inv ∧ St_hides Inv ∧ St_hire Inv ∧ St_trim Inv ∧ St_fly Inv ∧ St_cue Inv ∧ St_hang Inv ∧ St_brick Inv ∧ St_undo Inv ∧ St_keep Inv ∧ St_restore Inv ∧ St_act Inv ∧ St_picture Inv ∧ St_split Inv ∧ St_crew Inv ∧ St_balance Inv ∧ St_reading Inv ∧ St_back Inv ∧ St_loads Inv ∧ St_weights Inv ∧ St_kinds Inv ∧ St_odds Inv ∧ St_sheet Inv ∧ St_lose Inv ∧ St_put Inv ∧ St_cell Inv ∧ St_copy Inv ∧ St_tell Inv ∧ St_call Inv ∧ St_as Inv ∧ St_trace Inv ∧ St_fault Inv ∧ St_many Inv
