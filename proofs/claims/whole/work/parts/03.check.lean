def nthD : List Nat → Nat → Nat → Nat
  | [], _, d => d
  | a :: _, 0, _ => a
  | _ :: l, n + 1, d => nthD l n d
/-! what an entry of a table must be, by the byte code -/
def swChk (pc : Nat) : Int → List Int → List (Int32 × Nat) → Bool
  | _, [], [] => true
  | lo, o :: os, (b, t) :: l => decide (b.toInt = lo) && (decide ((pc : Int) + o = (t : Int)) && swChk pc (lo + 1) os l)
  | _, _, _ => false
def chkI (own : Nat) (isI : Bool) (mL pc n : Nat) (ins : Instr) (x y z : Nat) (v : Int32) (w : Int64) (ts : List (Int32 × Nat)) : Bool := match ins with
  | .iconst m => Nat.beq n 1 && decide (Int32.ofInt m = v)
  | .bipush m => Nat.beq n 2 && decide ((Int8.ofInt m).toInt32 = v)
  | .sipush m => Nat.beq n 3 && decide ((Int16.ofInt m).toInt32 = v)
  | .ldc_w i => Nat.beq n 3 && decide ((own, (i, v)) ∈ KT)
  | .ldc i => Nat.beq n 2 && (match z with
    | 0 => decide ((own, (i, v)) ∈ KT)
    | _ => Nat.beq own 4 && (decide (nth strIdx y = some i) && Nat.ble (y + 1) 14))
  | .lconst m => Nat.beq n 1 && decide (Int64.ofNat (m : Nat) = w)
  | .ldc2_w i => Nat.beq n 3 && decide ((own, (i, w)) ∈ KL)
  | .iload_n _ | .lload_n _ | .aload_n _ => Nat.beq n 1
  | .iload _ | .lload _ | .aload _ => Nat.beq n 2
  | .istore_n k | .astore_n k => Nat.beq n 1 && Nat.ble (k.val + 1) mL
  | .istore k | .astore k => Nat.beq n 2 && Nat.ble (k + 1) mL
  | .lstore_n k => Nat.beq n 1 && Nat.ble (k.val + 2) mL
  | .lstore k => Nat.beq n 2 && Nat.ble (k + 2) mL
  | .iinc k m => Nat.beq n 3 && (Nat.ble (k + 1) mL && decide (Int32.ofInt m = v))
  | .ifCond _ o | .if_icmp _ o | .goto o | .ifnonnull o => Nat.beq n 3 && decide ((pc : Int) + o = (x : Int))
  | .tableswitch d lo hi offs => decide ((pc : Int) + d = (x : Int)) && (decide (hi = lo + (offs.size : Int) - 1) && swChk pc lo offs.toList ts)
  | .getfield i => Nat.beq n 3 && (match z with
    | 4 => Nat.beq own 9 && (Nat.beq i 9 && Nat.beq x 9)
    | 5 => Nat.beq own 9 && (Nat.beq i 15 && Nat.beq x 9)
    | _ => decide ((own, (i, (x, y))) ∈ FT) && (Nat.beq z (nthD ((fTags[x]?).getD []) y 99) && (Nat.ble (x + 1) 8 && Nat.ble (y + 1) ((nFs[x]?).getD 0))))
  | .putfield i => Nat.beq n 3 && (decide ((own, (i, (x, y))) ∈ FT) && (Nat.beq z (nthD ((fTags[x]?).getD []) y 99) && (Nat.ble (x + 1) 8 && (Nat.ble (y + 1) ((nFs[x]?).getD 0) && (Nat.beq (nthD ((fFin[x]?).getD []) y 1) 0 || (isI && Nat.beq own x))))))
  | .getstatic i => Nat.beq n 3 && (match x with
    | 0 => Nat.beq own 6 && Nat.beq i 296
    | 1 => Nat.beq own 9 && Nat.beq i 38
    | 2 => Nat.beq own 9 && Nat.beq i 1053
    | _ => false)
  | .invokevirtual i => Nat.beq n 3 && (Nat.beq z 9 || (Nat.beq z 0 && (Nat.ble (x + 1) 209 && (Nat.beq y (nthD naL x 99 + 1) && decide ((0, (own, (i, x))) ∈ CS)))))
  | .invokestatic i => Nat.beq n 3 && (Nat.beq z 9 || (Nat.beq z 1 && (Nat.ble (x + 1) 209 && (Nat.beq y (nthD naL x 99) && (decide ((1, (own, (i, x))) ∈ CS) || decide ((3, (own, (i, x))) ∈ CS))))))
  | .invokespecial _ | .new _ | .anewarray _ => Nat.beq n 3
  | .newarray _ => Nat.beq n 2
  | _ => Nat.beq n 1
def chk (own : Nat) (isI : Bool) (mL : Nat) (bs : ByteArray) (pc : Nat) (e : IE) : Bool := match e with
  | (ins, (nx, (x, (y, (z, (v, (w, ts))))))) => Nat.beq nx 0 || (match decode bs pc with
    | .ok (i, n) => decide (i = ins) && (Nat.beq nx (pc + n) && chkI own isI mL pc n ins x y z v w ts)
    | .error _ => false)
def chkM (m : ME) : Bool := (List.range (meK m)).all fun pc => chk (meO m) (meI m) (meL m) (meB m) pc (meF m pc)
theorem chkM_at {m : ME} (h : chkM m = true) (pc : Nat) : chk (meO m) (meI m) (meL m) (meB m) pc (meTab m pc) = true := by
  unfold meTab mkT
  cases hb : Nat.ble (meK m) pc with
  | true => rfl
  | false =>
    have hl : pc < meK m := Nat.not_le.mp fun q => by rw [Nat.ble_eq_true_of_le q] at hb; cases hb
    exact List.all_eq_true.mp h pc (List.mem_range.mpr hl)
set_option maxRecDepth 100000 in
theorem kC_init : chkM mC_init = true := by decide +kernel
set_option maxRecDepth 100000 in
theorem kT_init : chkM mT_init = true := by decide +kernel
set_option maxRecDepth 100000 in
theorem kD_init : chkM mD_init = true := by decide +kernel
set_option maxRecDepth 100000 in
theorem kR_init : chkM mR_init = true := by decide +kernel
set_option maxRecDepth 100000 in
theorem kS_init : chkM mS_init = true := by decide +kernel
set_option maxRecDepth 100000 in
theorem kT_layFirstText : chkM mT_layFirstText = true := by decide +kernel
set_option maxRecDepth 100000 in
theorem kJ_length : chkM mJ_length = true := by decide +kernel
set_option maxRecDepth 100000 in
theorem kJ_coder : chkM mJ_coder = true := by decide +kernel
set_option maxRecDepth 100000 in
theorem kJ_charAt : chkM mJ_charAt = true := by decide +kernel
set_option maxRecDepth 100000 in
theorem kJ_isLatin1 : chkM mJ_isLatin1 = true := by decide +kernel
set_option maxRecDepth 100000 in
theorem kJ_charAtL : chkM mJ_charAtL = true := by decide +kernel
set_option maxRecDepth 100000 in
theorem kJ_checkIndexS : chkM mJ_checkIndexS = true := by decide +kernel
set_option maxRecDepth 100000 in
theorem kJ_checkIndexP : chkM mJ_checkIndexP = true := by decide +kernel
set_option maxRecDepth 100000 in
theorem kT_takes : chkM mT_takes = true := by decide +kernel
set_option maxRecDepth 100000 in
theorem kD_readInto : chkM mD_readInto = true := by decide +kernel
set_option maxRecDepth 100000 in
theorem kR_beEmpty : chkM mR_beEmpty = true := by decide +kernel
set_option maxRecDepth 100000 in
theorem kJ_fill : chkM mJ_fill = true := by decide +kernel
set_option maxRecDepth 100000 in
theorem kT_findTokens : chkM mT_findTokens = true := by decide +kernel
set_option maxRecDepth 100000 in
theorem kT_behindBlanks : chkM mT_behindBlanks = true := by decide +kernel
set_option maxRecDepth 100000 in
theorem kT_isBlank : chkM mT_isBlank = true := by decide +kernel
set_option maxRecDepth 100000 in
theorem kT_behindToken : chkM mT_behindToken = true := by decide +kernel
set_option maxRecDepth 100000 in
theorem kT_isLetter : chkM mT_isLetter = true := by decide +kernel
set_option maxRecDepth 100000 in
theorem kT_behindWord : chkM mT_behindWord = true := by decide +kernel
set_option maxRecDepth 100000 in
theorem kT_wordOf : chkM mT_wordOf = true := by decide +kernel
set_option maxRecDepth 100000 in
theorem kT_spells : chkM mT_spells = true := by decide +kernel
set_option maxRecDepth 100000 in
theorem kT_addToken : chkM mT_addToken = true := by decide +kernel
set_option maxRecDepth 100000 in
theorem kT_isDigit : chkM mT_isDigit = true := by decide +kernel
set_option maxRecDepth 100000 in
theorem kT_behindAmount : chkM mT_behindAmount = true := by decide +kernel
set_option maxRecDepth 100000 in
theorem kJ_indexOf : chkM mJ_indexOf = true := by decide +kernel
set_option maxRecDepth 100000 in
theorem kJ_indexOf2 : chkM mJ_indexOf2 = true := by decide +kernel
set_option maxRecDepth 100000 in
theorem kJ_indexOfL : chkM mJ_indexOfL = true := by decide +kernel
set_option maxRecDepth 100000 in
theorem kJ_canEncode : chkM mJ_canEncode = true := by decide +kernel
set_option maxRecDepth 100000 in
theorem kJ_max : chkM mJ_max = true := by decide +kernel
set_option maxRecDepth 100000 in
theorem kJ_min : chkM mJ_min = true := by decide +kernel
set_option maxRecDepth 100000 in
theorem kJ_indexOfChar : chkM mJ_indexOfChar = true := by decide +kernel
set_option maxRecDepth 100000 in
theorem kD_lookAt : chkM mD_lookAt = true := by decide +kernel
set_option maxRecDepth 100000 in
theorem kT_token : chkM mT_token = true := by decide +kernel
set_option maxRecDepth 100000 in
theorem kD_readPart : chkM mD_readPart = true := by decide +kernel
set_option maxRecDepth 100000 in
theorem kD_passes : chkM mD_passes = true := by decide +kernel
set_option maxRecDepth 100000 in
theorem kD_readEither : chkM mD_readEither = true := by decide +kernel
set_option maxRecDepth 100000 in
theorem kD_readBoth : chkM mD_readBoth = true := by decide +kernel
set_option maxRecDepth 100000 in
theorem kD_readNot : chkM mD_readNot = true := by decide +kernel
set_option maxRecDepth 100000 in
theorem kD_readComparison : chkM mD_readComparison = true := by decide +kernel
set_option maxRecDepth 100000 in
theorem kD_readSum : chkM mD_readSum = true := by decide +kernel
set_option maxRecDepth 100000 in
theorem kD_readTerm : chkM mD_readTerm = true := by decide +kernel
set_option maxRecDepth 100000 in
theorem kD_readOne : chkM mD_readOne = true := by decide +kernel
set_option maxRecDepth 100000 in
theorem kT_amount : chkM mT_amount = true := by decide +kernel
set_option maxRecDepth 100000 in
theorem kR_add : chkM mR_add = true := by decide +kernel
set_option maxRecDepth 100000 in
theorem kR_endPart : chkM mR_endPart = true := by decide +kernel
set_option maxRecDepth 100000 in
theorem kT_place : chkM mT_place = true := by decide +kernel
set_option maxRecDepth 100000 in
theorem kV_init : chkM mV_init = true := by decide +kernel
set_option maxRecDepth 100000 in
theorem kP_init : chkM mP_init = true := by decide +kernel
set_option maxRecDepth 100000 in
theorem kC_set : chkM mC_set = true := by decide +kernel
set_option maxRecDepth 100000 in
theorem kC_setDay : chkM mC_setDay = true := by decide +kernel
set_option maxRecDepth 100000 in
theorem kV_isThere : chkM mV_isThere = true := by decide +kernel
set_option maxRecDepth 100000 in
theorem kC_maySet : chkM mC_maySet = true := by decide +kernel
set_option maxRecDepth 100000 in
theorem kC_isWithin : chkM mC_isWithin = true := by decide +kernel
set_option maxRecDepth 100000 in
theorem kP_attribute : chkM mP_attribute = true := by decide +kernel
set_option maxRecDepth 100000 in
theorem kP_lay : chkM mP_lay = true := by decide +kernel
set_option maxRecDepth 100000 in
theorem kC_person : chkM mC_person = true := by decide +kernel
set_option maxRecDepth 100000 in
theorem kC_comesOne : chkM mC_comesOne = true := by decide +kernel
set_option maxRecDepth 100000 in
theorem kP_comeAs : chkM mP_comeAs = true := by decide +kernel
set_option maxRecDepth 100000 in
theorem kC_told : chkM mC_told = true := by decide +kernel
set_option maxRecDepth 100000 in
theorem kV_doesOf : chkM mV_doesOf = true := by decide +kernel
set_option maxRecDepth 100000 in
theorem kV_asleepCount : chkM mV_asleepCount = true := by decide +kernel
set_option maxRecDepth 100000 in
theorem kV_asleepBits : chkM mV_asleepBits = true := by decide +kernel
set_option maxRecDepth 100000 in
theorem kJ_bitCount : chkM mJ_bitCount = true := by decide +kernel
set_option maxRecDepth 100000 in
theorem kR_value : chkM mR_value = true := by decide +kernel
set_option maxRecDepth 100000 in
theorem kR_named : chkM mR_named = true := by decide +kernel
set_option maxRecDepth 100000 in
theorem kR_oneIf : chkM mR_oneIf = true := by decide +kernel
set_option maxRecDepth 100000 in
theorem kR_joined : chkM mR_joined = true := by decide +kernel
set_option maxRecDepth 100000 in
theorem kC_bound : chkM mC_bound = true := by decide +kernel
set_option maxRecDepth 100000 in
theorem kP_doing : chkM mP_doing = true := by decide +kernel
set_option maxRecDepth 100000 in
theorem kV_weighsOf : chkM mV_weighsOf = true := by decide +kernel
set_option maxRecDepth 100000 in
theorem kP_weighing : chkM mP_weighing = true := by decide +kernel
set_option maxRecDepth 100000 in
theorem kC_hears : chkM mC_hears = true := by decide +kernel
set_option maxRecDepth 100000 in
theorem kV_hearsOf : chkM mV_hearsOf = true := by decide +kernel
set_option maxRecDepth 100000 in
theorem kP_hearing : chkM mP_hearing = true := by decide +kernel
set_option maxRecDepth 100000 in
theorem kC_feed : chkM mC_feed = true := by decide +kernel
set_option maxRecDepth 100000 in
theorem kC_text : chkM mC_text = true := by decide +kernel
set_option maxRecDepth 100000 in
theorem kC_force : chkM mC_force = true := by decide +kernel
set_option maxRecDepth 100000 in
theorem kC_tell : chkM mC_tell = true := by decide +kernel
set_option maxRecDepth 100000 in
theorem kV_areTwo : chkM mV_areTwo = true := by decide +kernel
set_option maxRecDepth 100000 in
theorem kV_tellTo : chkM mV_tellTo = true := by decide +kernel
set_option maxRecDepth 100000 in
theorem kC_day : chkM mC_day = true := by decide +kernel
set_option maxRecDepth 100000 in
theorem kV_passDay : chkM mV_passDay = true := by decide +kernel
set_option maxRecDepth 100000 in
theorem kV_sleepOrWake : chkM mV_sleepOrWake = true := by decide +kernel
set_option maxRecDepth 100000 in
theorem kC_run : chkM mC_run = true := by decide +kernel
set_option maxRecDepth 100000 in
theorem kV_become : chkM mV_become = true := by decide +kernel
set_option maxRecDepth 100000 in
theorem kP_become : chkM mP_become = true := by decide +kernel
set_option maxRecDepth 100000 in
theorem kV_passDays : chkM mV_passDays = true := by decide +kernel
set_option maxRecDepth 100000 in
theorem kV_tiredTogether : chkM mV_tiredTogether = true := by decide +kernel
set_option maxRecDepth 100000 in
theorem kC_sleeps : chkM mC_sleeps = true := by decide +kernel
set_option maxRecDepth 100000 in
theorem kC_round : chkM mC_round = true := by decide +kernel
set_option maxRecDepth 100000 in
theorem kV_tiredAndAsleep : chkM mV_tiredAndAsleep = true := by decide +kernel
set_option maxRecDepth 100000 in
theorem kV_stories : chkM mV_stories = true := by decide +kernel
set_option maxRecDepth 100000 in
theorem kC_wasBefore : chkM mC_wasBefore = true := by decide +kernel
set_option maxRecDepth 100000 in
theorem kC_ears : chkM mC_ears = true := by decide +kernel
set_option maxRecDepth 100000 in
theorem kC_waysOfEars : chkM mC_waysOfEars = true := by decide +kernel
set_option maxRecDepth 100000 in
theorem kC_lendEars : chkM mC_lendEars = true := by decide +kernel
set_option maxRecDepth 100000 in
theorem kC_spread : chkM mC_spread = true := by decide +kernel
set_option maxRecDepth 100000 in
theorem kC_leastSetOf : chkM mC_leastSetOf = true := by decide +kernel
set_option maxRecDepth 100000 in
theorem kV_tiredBy : chkM mV_tiredBy = true := by decide +kernel
set_option maxRecDepth 100000 in
theorem kC_aunt : chkM mC_aunt = true := by decide +kernel
set_option maxRecDepth 100000 in
theorem kC_mostTiredIfTold : chkM mC_mostTiredIfTold = true := by decide +kernel
set_option maxRecDepth 100000 in
theorem kC_bears : chkM mC_bears = true := by decide +kernel
set_option maxRecDepth 100000 in
theorem kC_mean : chkM mC_mean = true := by decide +kernel
set_option maxRecDepth 100000 in
theorem kC_inLowestTerms : chkM mC_inLowestTerms = true := by decide +kernel
set_option maxRecDepth 100000 in
theorem kC_commonDivisor : chkM mC_commonDivisor = true := by decide +kernel
set_option maxRecDepth 100000 in
theorem kC_tells : chkM mC_tells = true := by decide +kernel
set_option maxRecDepth 100000 in
theorem kC_isSheet : chkM mC_isSheet = true := by decide +kernel
set_option maxRecDepth 100000 in
theorem kS_isMissing : chkM mS_isMissing = true := by decide +kernel
set_option maxRecDepth 100000 in
theorem kC_bitsByWhich : chkM mC_bitsByWhich = true := by decide +kernel
set_option maxRecDepth 100000 in
theorem kC_canSuppose : chkM mC_canSuppose = true := by decide +kernel
set_option maxRecDepth 100000 in
theorem kC_firstOtherwise : chkM mC_firstOtherwise = true := by decide +kernel
set_option maxRecDepth 100000 in
theorem kC_storiesByWhich : chkM mC_storiesByWhich = true := by decide +kernel
set_option maxRecDepth 100000 in
theorem kC_peopleOfWhom : chkM mC_peopleOfWhom = true := by decide +kernel
set_option maxRecDepth 100000 in
theorem kC_film : chkM mC_film = true := by decide +kernel
set_option maxRecDepth 100000 in
theorem kS_lay : chkM mS_lay = true := by decide +kernel
set_option maxRecDepth 100000 in
theorem kS_put : chkM mS_put = true := by decide +kernel
set_option maxRecDepth 100000 in
theorem kS_has : chkM mS_has = true := by decide +kernel
set_option maxRecDepth 100000 in
theorem kC_drawn : chkM mC_drawn = true := by decide +kernel
set_option maxRecDepth 100000 in
theorem kC_tiredAsDrawn : chkM mC_tiredAsDrawn = true := by decide +kernel
set_option maxRecDepth 100000 in
theorem kC_drawNext : chkM mC_drawNext = true := by decide +kernel
set_option maxRecDepth 100000 in
theorem kC_chance : chkM mC_chance = true := by decide +kernel
set_option maxRecDepth 100000 in
theorem kC_image : chkM mC_image = true := by decide +kernel
set_option maxRecDepth 100000 in
theorem kC_back : chkM mC_back = true := by decide +kernel
set_option maxRecDepth 100000 in
theorem kC_count : chkM mC_count = true := by decide +kernel
set_option maxRecDepth 100000 in
theorem kC_sheet : chkM mC_sheet = true := by decide +kernel
set_option maxRecDepth 100000 in
theorem kC_isSort : chkM mC_isSort = true := by decide +kernel
set_option maxRecDepth 100000 in
theorem kC_cell : chkM mC_cell = true := by decide +kernel
set_option maxRecDepth 100000 in
theorem kC_copy : chkM mC_copy = true := by decide +kernel
set_option maxRecDepth 100000 in
theorem kS_hasRoom : chkM mS_hasRoom = true := by decide +kernel
set_option maxRecDepth 100000 in
theorem kC_valley : chkM mC_valley = true := by decide +kernel
set_option maxRecDepth 100000 in
theorem kC_taken : chkM mC_taken = true := by decide +kernel
set_option maxRecDepth 100000 in
theorem kC_isOrIsUnder : chkM mC_isOrIsUnder = true := by decide +kernel
set_option maxRecDepth 100000 in
theorem kM_init : chkM mM_init = true := by decide +kernel
set_option maxRecDepth 100000 in
theorem kM_spell : chkM mM_spell = true := by decide +kernel
set_option maxRecDepth 100000 in
theorem kM_set : chkM mM_set = true := by decide +kernel
set_option maxRecDepth 100000 in
theorem kM_in : chkM mM_in = true := by decide +kernel
set_option maxRecDepth 100000 in
theorem kM_isOne : chkM mM_isOne = true := by decide +kernel
set_option maxRecDepth 100000 in
theorem kM_mayBe : chkM mM_mayBe = true := by decide +kernel
set_option maxRecDepth 100000 in
theorem kM_told : chkM mM_told = true := by decide +kernel
set_option maxRecDepth 100000 in
theorem kM_its : chkM mM_its = true := by decide +kernel
set_option maxRecDepth 100000 in
theorem kM_doesOf : chkM mM_doesOf = true := by decide +kernel
set_option maxRecDepth 100000 in
theorem kM_asks : chkM mM_asks = true := by decide +kernel
set_option maxRecDepth 100000 in
theorem kM_asleepMany : chkM mM_asleepMany = true := by decide +kernel
set_option maxRecDepth 100000 in
theorem kM_keptRead : chkM mM_keptRead = true := by decide +kernel
set_option maxRecDepth 100000 in
theorem kM_read : chkM mM_read = true := by decide +kernel
set_option maxRecDepth 100000 in
theorem kM_next : chkM mM_next = true := by decide +kernel
set_option maxRecDepth 100000 in
theorem kM_byteAt : chkM mM_byteAt = true := by decide +kernel
set_option maxRecDepth 100000 in
theorem kM_isWord : chkM mM_isWord = true := by decide +kernel
set_option maxRecDepth 100000 in
theorem kM_isLetter : chkM mM_isLetter = true := by decide +kernel
set_option maxRecDepth 100000 in
theorem kM_part : chkM mM_part = true := by decide +kernel
set_option maxRecDepth 100000 in
theorem kM_fail : chkM mM_fail = true := by decide +kernel
set_option maxRecDepth 100000 in
theorem kM_either : chkM mM_either = true := by decide +kernel
set_option maxRecDepth 100000 in
theorem kM_both : chkM mM_both = true := by decide +kernel
set_option maxRecDepth 100000 in
theorem kM_not : chkM mM_not = true := by decide +kernel
set_option maxRecDepth 100000 in
theorem kM_opens : chkM mM_opens = true := by decide +kernel
set_option maxRecDepth 100000 in
theorem kM_added : chkM mM_added = true := by decide +kernel
set_option maxRecDepth 100000 in
theorem kM_term : chkM mM_term = true := by decide +kernel
set_option maxRecDepth 100000 in
theorem kM_atom : chkM mM_atom = true := by decide +kernel
set_option maxRecDepth 100000 in
theorem kM_isSign : chkM mM_isSign = true := by decide +kernel
set_option maxRecDepth 100000 in
theorem kM_name : chkM mM_name = true := by decide +kernel
set_option maxRecDepth 100000 in
theorem kM_within : chkM mM_within = true := by decide +kernel
set_option maxRecDepth 100000 in
theorem kM_weighsOf : chkM mM_weighsOf = true := by decide +kernel
set_option maxRecDepth 100000 in
theorem kM_lays : chkM mM_lays = true := by decide +kernel
set_option maxRecDepth 100000 in
theorem kM_person : chkM mM_person = true := by decide +kernel
set_option maxRecDepth 100000 in
theorem kM_hears : chkM mM_hears = true := by decide +kernel
set_option maxRecDepth 100000 in
theorem kM_hearsOf : chkM mM_hearsOf = true := by decide +kernel
set_option maxRecDepth 100000 in
theorem kM_feed : chkM mM_feed = true := by decide +kernel
set_option maxRecDepth 100000 in
theorem kM_text : chkM mM_text = true := by decide +kernel
set_option maxRecDepth 100000 in
theorem kM_force : chkM mM_force = true := by decide +kernel
set_option maxRecDepth 100000 in
theorem kM_taken : chkM mM_taken = true := by decide +kernel
set_option maxRecDepth 100000 in
theorem kM_over : chkM mM_over = true := by decide +kernel
set_option maxRecDepth 100000 in
theorem kM_tell : chkM mM_tell = true := by decide +kernel
set_option maxRecDepth 100000 in
theorem kM_goes : chkM mM_goes = true := by decide +kernel
set_option maxRecDepth 100000 in
theorem kM_day : chkM mM_day = true := by decide +kernel
set_option maxRecDepth 100000 in
theorem kM_passes : chkM mM_passes = true := by decide +kernel
set_option maxRecDepth 100000 in
theorem kM_asleepSet : chkM mM_asleepSet = true := by decide +kernel
set_option maxRecDepth 100000 in
theorem kM_run : chkM mM_run = true := by decide +kernel
set_option maxRecDepth 100000 in
theorem kM_keeps : chkM mM_keeps = true := by decide +kernel
set_option maxRecDepth 100000 in
theorem kM_tiredAll : chkM mM_tiredAll = true := by decide +kernel
set_option maxRecDepth 100000 in
theorem kM_laysBack : chkM mM_laysBack = true := by decide +kernel
set_option maxRecDepth 100000 in
theorem kM_sleeps : chkM mM_sleeps = true := by decide +kernel
set_option maxRecDepth 100000 in
theorem kM_round : chkM mM_round = true := by decide +kernel
set_option maxRecDepth 100000 in
theorem kM_isAlike : chkM mM_isAlike = true := by decide +kernel
set_option maxRecDepth 100000 in
theorem kM_ears : chkM mM_ears = true := by decide +kernel
set_option maxRecDepth 100000 in
theorem kM_tries : chkM mM_tries = true := by decide +kernel
set_option maxRecDepth 100000 in
theorem kM_spread : chkM mM_spread = true := by decide +kernel
set_option maxRecDepth 100000 in
theorem kM_bitsOf : chkM mM_bitsOf = true := by decide +kernel
set_option maxRecDepth 100000 in
theorem kM_isBorne : chkM mM_isBorne = true := by decide +kernel
set_option maxRecDepth 100000 in
theorem kM_aunt : chkM mM_aunt = true := by decide +kernel
set_option maxRecDepth 100000 in
theorem kM_bears : chkM mM_bears = true := by decide +kernel
set_option maxRecDepth 100000 in
theorem kM_mean : chkM mM_mean = true := by decide +kernel
set_option maxRecDepth 100000 in
theorem kM_lowest : chkM mM_lowest = true := by decide +kernel
set_option maxRecDepth 100000 in
theorem kM_tells : chkM mM_tells = true := by decide +kernel
set_option maxRecDepth 100000 in
theorem kM_isSheet : chkM mM_isSheet = true := by decide +kernel
set_option maxRecDepth 100000 in
theorem kM_firstOther : chkM mM_firstOther = true := by decide +kernel
set_option maxRecDepth 100000 in
theorem kM_film : chkM mM_film = true := by decide +kernel
set_option maxRecDepth 100000 in
theorem kM_sheet : chkM mM_sheet = true := by decide +kernel
set_option maxRecDepth 100000 in
theorem kM_drawn : chkM mM_drawn = true := by decide +kernel
set_option maxRecDepth 100000 in
theorem kM_chance : chkM mM_chance = true := by decide +kernel
set_option maxRecDepth 100000 in
theorem kM_image : chkM mM_image = true := by decide +kernel
set_option maxRecDepth 100000 in
theorem kM_back : chkM mM_back = true := by decide +kernel
set_option maxRecDepth 100000 in
theorem kM_count : chkM mM_count = true := by decide +kernel
set_option maxRecDepth 100000 in
theorem kM_cell : chkM mM_cell = true := by decide +kernel
set_option maxRecDepth 100000 in
theorem kM_copy : chkM mM_copy = true := by decide +kernel
set_option maxRecDepth 100000 in
theorem kM_valley : chkM mM_valley = true := by decide +kernel
