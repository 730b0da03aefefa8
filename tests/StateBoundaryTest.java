/**
 * The boundary cases of what follows from EVENTS (parts 2 and 3 of the document's terms): LIFTED, CAUSES,
 * STATES, SNAPSHOTS, AT, KNOWN, COST, TALLIES, DRAWS. A method for each sentence.
 */
public final class StateBoundaryTest {
    private static final int OPEN = 0;
    private static final int PUT = 1;
    private static final int TAKE = 2;
    private static final int LOCK = 3;
    private static final int FREE = 4;
    private static final int CLOSE = 5;
    private static final int MOVE = 6;

    private StateBoundaryTest() {
    }

    private static void due(String call, long got, long want) {
        Check.due(call, got, want);
    }

    private static void lifted(EventLedger x, int event, int one, int two, int three) {
        due("LIFTED 1 of " + event, x.field(event, 1, true), one);
        due("LIFTED 2 of " + event, x.field(event, 2, true), two);
        due("LIFTED 3 of " + event, x.field(event, 3, true), three);
    }

    /** An EVENT by call, of the latest TIME, with the CAUSE that is due. */
    private static void comes(EventLedger x, int kind, int account, int one, int two, int cause) {
        int event = x.event(kind, account, 1 - account, Math.max(0, x.count(6)), one, two);
        due("CAUSE of " + event + ", of KIND " + kind, Check.of(x, event, 5), cause);
    }

    private static void has(EventLedger x, int account, int balance, int locked, int limit, int open) {
        due("BALANCE of " + account, x.account(account, 0), balance);
        due("LOCKED of " + account, x.account(account, 1), locked);
        due("LIMIT of " + account, x.account(account, 2), limit);
        due("OPEN of " + account, x.account(account, 3), open);
    }

    private static void shots(EventLedger x, int... places) {
        due("how many SNAPSHOTS", x.count(3), places.length);
        for (int k = 0; k < places.length; k++) {
            due("SNAPSHOT " + k, x.snapshot(k), places[k]);
        }
        due("SNAPSHOT " + places.length, x.snapshot(places.length), -2);
    }

    /** "an EVENT has FIELDS 1 .. 3 (0 where its SHAPE has none)" */
    private static void fieldsOfShapes() {
        EventLedger x = Check.told("account a;put a 0 3 7 8 9;put a 0 1 4;put a 0 2 5 6;");
        lifted(x, 0, 7, 8, 9);
        lifted(x, 1, 4, 0, 0);
        lifted(x, 2, 5, 6, 0);
        x.old(PUT, 0, 0, 0, 3);
        x.event(PUT, 0, 0, 0, 1, 2);
        lifted(x, 3, 3, 0, 0);
        lifted(x, 4, 1, 2, 0);
    }

    /** "from its SHAPE up to 3, SHAPE by SHAPE, the STEPS told of its KIND, one by one (all STEPS of the TEXT, wherever they stand in it)" */
    private static void stepsOfShapes() {
        EventLedger x = Check.told("account a;lift put 2 add 1 5;put a 0 1 1;put a 0 2 1 0;put a 0 3 1 0 0;take a 0 1 1;lift put 1 mul 1 10;lift put 1 add 1 2;lift put 2 mul 1 3;lift take 1 set 3 6;");
        lifted(x, 0, (1 * 10 + 2 + 5) * 3, 0, 0);
        lifted(x, 1, (1 + 5) * 3, 0, 0);
        lifted(x, 2, 1, 0, 0);
        lifted(x, 3, 1, 0, 6);
        x.old(PUT, 0, 0, 0, 2);
        lifted(x, 4, (2 * 10 + 2 + 5) * 3, 0, 0);
        x.event(PUT, 0, 0, 0, 2, 0);
        lifted(x, 5, 2, 0, 0);
    }

    /** "set: the FIELD becomes the number, mul: times it, add: more by it, copy: what the other FIELD is." */
    private static void ops() {
        EventLedger x = Check.told("account a;lift put 2 set 2 0;lift put 2 mul 1 0;lift put 2 add 3 999;lift put 2 copy 1 3;"
                + "lift take 2 copy 2 2;lift take 2 copy 3 2;lift take 2 copy 2 1;lift take 2 mul 3 999;put a 0 2 5 6;take a 0 2 5 6;");
        lifted(x, 0, 999, 0, 999);
        lifted(x, 1, 5, 5, 5994);
    }

    /** "If any FIELD is above 1000000 behind a STEP, it is BROKEN.", field(): "as it was behind the STEP that broke it" */
    private static void broken() {
        for (int field = 1; field <= 3; field++) {
            // 1000 times 999 and 1000 more: 1000000 is not above
            String ahead = "account a;open a 0 3 0 0 0;put a 0 1 0;lift put 1 set " + field + " 999;lift put 1 add " + field + " 1;lift put 1 mul " + field + " 999;lift put 1 add " + field + " 999;";
            EventLedger x = Check.told(ahead + "lift put 2 add " + field + " 1;lift put 2 add 1 0;");
            due("1000000 in FIELD " + field, x.field(1, field, true), 1000000);
            due("is not BROKEN", Check.of(x, 1, 5), 0);
            EventLedger y = Check.told(ahead + "lift put 2 add " + field + " 2;lift put 2 set " + field + " 5;lift put 2 set 1 7;");
            due("1000001 in FIELD " + field, y.field(1, field, true), 1000001);
            due("is BROKEN, whatever would come behind", Check.of(y, 1, 5), 1);
        }
        EventLedger z = Check.told("account a;open a 0 3 0 0 0;lift put 1 mul 1 1;lift put 1 mul 1 100;lift put 1 mul 1 999;lift put 1 mul 1 999;lift put 2 set 1 0;put a 0 1 10000;");
        due("1000000 times 999", z.field(1, 1, true), 999000000);
        due("by the third STEP", Check.of(z, 1, 5), 1);
        due("from SHAPE 3 on nothing breaks", z.event(PUT, 0, 0, 0, 99999, 99999), 2);
        due("so it is fine", Check.of(z, 2, 5), 0);
        z.old(PUT, 0, 0, 0, 0);
        due("nor does 0", Check.of(z, 3, 5), 0);
        z.old(PUT, 0, 0, 0, 10001);
        due("a FIELD by call is BROKEN, too", z.field(4, 1, true), 1000100);
        due("its CAUSE", Check.of(z, 4, 5), 1);
    }

    /** "WEIGHT: 1, and 3 less SHAPE (a VOID: 1)." */
    private static void weights() {
        EventLedger x = Check.told("account a;put a 0 1 1;put a 0 2 1 1;put a 0 3 1 1 1;void 0 0;");
        int[] due = {3, 2, 1, 1};
        for (int e = 0; e < due.length; e++) {
            due("WEIGHT of " + e, Check.of(x, e, 7), due[e]);
        }
        due("all WEIGHTS", x.count(8), 7);
    }

    /** "A STATE has of each ACCOUNT: OPEN or not (at first), BALANCE, LOCKED, LIMIT (0 each)." */
    private static void atFirst() {
        EventLedger x = Check.told("account a;account b;");
        has(x, 0, 0, 0, 0, 0);
        has(x, 1, 0, 0, 0, 0);
        due("none is OPEN", x.count(7), 0);
    }

    /** "the first of these CAUSES that holds": 1 ahead of 2 ahead of 3; the STATE stays. */
    private static void firstCause() {
        EventLedger x = Check.told("account a;account b;lift put 1 mul 1 999;lift put 1 mul 1 999;lift take 2 mul 1 999;lift open 2 mul 1 999;lift move 1 mul 1 999;open b 0 3 0 0 0;"
                + "put a 0 1 9;take a 0 2 99999 0;open b 0 2 99999 0;take a 0 3 1 0 0;move a b 0 3 1 0 0;move b a 0 3 1 0 0;move b a 0 1 99999;take b 0 3 1 0 0;free a 0 3 1 0 0;");
        int[] causes = {0, 1, 1, 1, 2, 2, 2, 1, 3, 2};
        for (int e = 0; e < causes.length; e++) {
            due("CAUSE of " + e, Check.of(x, e, 5), causes[e]);
        }
        has(x, 0, 0, 0, 0, 0);
        has(x, 1, 0, 0, 0, 1);
    }

    /** "2 its ACCOUNT (one of both) isn't OPEN (open: it is)" */
    private static void notOpen() {
        EventLedger x = Check.told("account a;account b;");
        for (int kind = PUT; kind <= MOVE; kind++) {
            comes(x, kind, 0, 0, 0, 2);
        }
        comes(x, OPEN, 0, 7, 0, 0);
        comes(x, OPEN, 0, 9, 0, 2);
        has(x, 0, 0, 0, 7, 1);
        comes(x, MOVE, 0, 0, 0, 2);
        comes(x, MOVE, 1, 0, 0, 2);
        comes(x, OPEN, 1, 0, 0, 0);
        comes(x, MOVE, 0, 0, 0, 0);
        comes(x, MOVE, 1, 0, 0, 0);
        comes(x, CLOSE, 0, 0, 0, 0);
        comes(x, CLOSE, 0, 0, 0, 2);
        comes(x, PUT, 0, 1, 0, 2);
        comes(x, MOVE, 1, 0, 0, 2);
        comes(x, OPEN, 0, 0, 0, 0);
        has(x, 0, 0, 0, 0, 1);
    }

    /** "take, move: BALANCE less LOCKED would be below 0 less LIMIT" */
    private static void takeAndMove() {
        for (int kind = TAKE; kind <= MOVE; kind += MOVE - TAKE) {
            EventLedger x = Check.told("account a;account b;open a 0 3 10 0 0;open b 0 3 0 0 0;put a 0 3 100 0 0;lock a 0 3 30 0 0;");
            comes(x, kind, 0, 81, 0, 3);
            comes(x, kind, 0, 0, 81, 3);
            comes(x, kind, 0, 80, 1, 3);
            has(x, 0, 100, 30, 10, 1);
            has(x, 1, 0, 0, 0, 1);
            comes(x, kind, 0, 50, 30, 0);
            has(x, 0, 20, 30, 10, 1);
            has(x, 1, kind == MOVE ? 50 : 0, 0, 0, 1);
            comes(x, kind, 0, 1, 0, 3);
            comes(x, kind, 0, 0, 1, 3);
            comes(x, kind, 0, 0, 0, 0);
            comes(x, FREE, 0, 30, 0, 0);
            comes(x, kind, 0, 30, 0, 0);
            has(x, 0, -10, 0, 10, 1);
            comes(x, kind, 0, 1, 0, 3);
            // put brought it below 0 less LIMIT: then even nothing is too much
            comes(x, PUT, 0, 0, 1, 0);
            comes(x, kind, 0, 0, 0, 3);
            has(x, 0, -11, 0, 10, 1);
        }
    }

    /** "lock: LOCKED above BALANCE; free: LOCKED below 0" */
    private static void lockAndFree() {
        EventLedger x = Check.told("account a;account b;open a 0 3 50 0 0;put a 0 3 20 0 0;");
        comes(x, LOCK, 0, 21, 0, 3);
        comes(x, LOCK, 0, 15, 99, 0);
        comes(x, LOCK, 0, 6, 0, 3);
        comes(x, LOCK, 0, 5, 0, 0);
        has(x, 0, 20, 20, 50, 1);
        comes(x, LOCK, 0, 0, 0, 0);
        comes(x, FREE, 0, 21, 0, 3);
        comes(x, FREE, 0, 19, 99, 0);
        has(x, 0, 20, 1, 50, 1);
        comes(x, FREE, 0, 2, 0, 3);
        comes(x, FREE, 0, 1, 0, 0);
        comes(x, FREE, 0, 1, 0, 3);
        comes(x, FREE, 0, 0, 0, 0);
        comes(x, TAKE, 0, 20, 0, 0);
        comes(x, LOCK, 0, 0, 0, 0);
        comes(x, LOCK, 0, 1, 0, 3);
        comes(x, TAKE, 0, 1, 0, 0);
        comes(x, LOCK, 0, 0, 0, 3);
        has(x, 0, -1, 0, 50, 1);
    }

    /** "close: BALANCE or LOCKED isn't 0" */
    private static void closing() {
        EventLedger x = Check.told("account a;account b;open a 0 3 5 0 0;");
        comes(x, PUT, 0, 1, 0, 0);
        comes(x, CLOSE, 0, 0, 0, 3);
        comes(x, LOCK, 0, 1, 0, 0);
        comes(x, TAKE, 0, 1, 0, 0);
        has(x, 0, 0, 1, 5, 1);
        comes(x, CLOSE, 0, 0, 0, 3);
        comes(x, FREE, 0, 1, 0, 0);
        comes(x, TAKE, 0, 1, 0, 0);
        comes(x, CLOSE, 0, 0, 0, 3);
        comes(x, PUT, 0, 1, 0, 0);
        has(x, 0, 0, 0, 5, 1);
        comes(x, CLOSE, 0, 77, 88, 0);
        has(x, 0, 0, 0, 5, 0);
        comes(x, OPEN, 0, 3, 99, 0);
        has(x, 0, 0, 0, 3, 1);
    }

    /** "put: BALANCE is FIELD 1 more, less FIELD 2.", "(put: whatever BALANCE is then.)" */
    private static void putting() {
        EventLedger x = Check.told("account a;account b;open a 0 3 0 0 0;");
        comes(x, PUT, 0, 7, 2, 0);
        has(x, 0, 5, 0, 0, 1);
        comes(x, LOCK, 0, 5, 0, 0);
        comes(x, PUT, 0, 0, 99999, 0);
        has(x, 0, -99994, 5, 0, 1);
        comes(x, PUT, 0, 99999, 0, 0);
        has(x, 0, 5, 5, 0, 1);
    }

    /** "move: from: FIELD 1 and FIELD 2 less, to: FIELD 1 more." The other one may be what it likes: below 0, LOCKED. */
    private static void moving() {
        EventLedger x = Check.told("account a;account b;open a 0 3 0 0 0;open b 0 3 0 0 0;put a 0 3 50 0 0;put b 0 3 0 9 0;");
        comes(x, MOVE, 0, 4, 3, 0);
        has(x, 0, 43, 0, 0, 1);
        has(x, 1, -5, 0, 0, 1);
        comes(x, MOVE, 1, 0, 0, 3);
        comes(x, MOVE, 0, 44, 0, 3);
        comes(x, MOVE, 0, 43, 1, 3);
        comes(x, MOVE, 0, 43, 0, 0);
        has(x, 0, 0, 0, 0, 1);
        has(x, 1, 38, 0, 0, 1);
    }

    /** "An EVENT that is VOIDED, a VOID are passed over (CAUSE 0).", "all is as if that had never been" */
    private static void voided() {
        EventLedger x = Check.told("account a;account b;open a 0 3 0 0 0;take a 0 3 1 0 0;put a 0 3 5 0 0;take a 0 3 5 0 0;");
        due("set aside", Check.of(x, 1, 5), 3);
        due("a VOID of one set aside", x.revoke(1, 0), 4);
        due("it has no CAUSE any more", Check.of(x, 1, 5), 0);
        due("nor has the VOID", Check.of(x, 4, 5), 0);
        due("a VOID of the put", x.revoke(2, 0), 5);
        due("now the take is too much", Check.of(x, 3, 5), 3);
        due("a VOID of the first", x.revoke(0, 0), 6);
        due("now it isn't OPEN", Check.of(x, 3, 5), 2);
        has(x, 0, 0, 0, 0, 0);
        comes(x, OPEN, 0, 8, 0, 0);
        due("what comes later opens nothing earlier", Check.of(x, 3, 5), 2);
        has(x, 0, 0, 0, 8, 1);
    }

    /** "if WEIGHTS of EVENTS since the latest SNAPSHOT (the beginning) are EVERY or more, one is taken there" */
    private static void everyOrMore() {
        shots(Check.told("account a;snap 3 6;put a 0 3 1 1 1;put a 0 3 1 1 1;"));
        shots(Check.told("account a;snap 3 6;put a 0 3 1 1 1;put a 0 3 1 1 1;put a 0 3 1 1 1;"), 3);
        shots(Check.told("account a;snap 3 6;put a 0 2 1 1;"));
        shots(Check.told("account a;snap 3 6;put a 0 2 1 1;put a 0 2 1 1;put a 0 2 1 1;"), 2);
        shots(Check.told("account a;snap 3 6;put a 0 1 1;put a 0 1 1;put a 0 2 1 1;put a 0 3 1 1 1;"), 1, 2, 4);
        EventLedger x = Check.told("account a;");
        for (int i = 0; i < 19; i++) {
            x.event(PUT, 0, 0, 0, 1, 0);
        }
        shots(x);
        x.event(PUT, 0, 0, 0, 1, 0);
        shots(x, 20);
        for (int i = 0; i < 6; i++) {
            x.old(PUT, 0, 0, 0, 1);
        }
        shots(x, 20);
        x.old(PUT, 0, 0, 0, 1);
        shots(x, 20, 27);
        EventLedger all = Check.told("account a;snap 360 6;");
        EventLedger none = Check.told("account a;snap 361 6;");
        for (int i = 0; i < 120; i++) {
            shots(all);
            all.old(PUT, 0, 0, 0, 1);
            none.old(PUT, 0, 0, 0, 1);
        }
        shots(all, 120);
        shots(none);
    }

    /** "if there are more than KEEP then, one goes: ... the one whose GAP is least, the first" */
    private static void moreThanKeep() {
        int[][] kept = {{}, {9}, {2, 9}, {4, 7, 9}, {2, 4, 6, 9}, {2, 4, 6, 8, 9}, {2, 4, 6, 7, 8, 9}};
        for (int keep = 0; keep <= 6; keep++) {
            shots(Check.told("account a;snap 1 " + keep + ";" + "put a 0 3 1 1 1;".repeat(9)), kept[keep]);
            EventLedger few = Check.told("account a;snap 1 " + keep + ";" + "put a 0 3 1 1 1;".repeat(keep));
            due("as many as KEEP stay", few.count(3), keep);
        }
        // GAPS are of WEIGHTS, not of EVENTS: 3 and 1 to PLACE 2, 1 and 1 to PLACE 3
        shots(Check.told("account a;snap 1 2;put a 0 1 1;put a 0 3 1 1 1;put a 0 3 1 1 1;"), 1, 3);
        // 1 and 1 from the beginning, 1 and 3 from PLACE 1: the first one is least
        shots(Check.told("account a;snap 1 2;put a 0 3 1 1 1;put a 0 3 1 1 1;put a 0 1 1;"), 2, 3);
        // the latest has no GAP, however little lies ahead of it
        shots(Check.told("account a;snap 1 1;put a 0 1 1;put a 0 1 1;put a 0 3 1 1 1;"), 3);
    }

    /** "(with KEEP 0: that)": the latest goes at once, so WEIGHTS are counted from the beginning and one is taken again and again. */
    private static void keepNothing() {
        EventLedger x = Check.told("account a;snap 3 0;put a 0 3 1 1 1;");
        shots(x);
        due("none is taken at 2", x.chance(1, 1, 2), 0);
        due("one is taken at 3", x.chance(1, 2, 2), 1);
        due("and at 4, 5", x.chance(1, 4, 2), 3);
        due("at 3 .. 61", x.chance(1, 60, 2), 59);
        x.resnap(3, 1);
        due("with KEEP 1 at 3, 6 .. 60", x.chance(1, 60, 2), 20);
    }

    /** "Ahead of that, when a VOID comes, all SNAPSHOTS whose PLACE is above the number of the VOIDED EVENT go." */
    private static void voidLetsGo() {
        String four = "account a;snap 1 6;" + "put a 0 3 1 1 1;".repeat(4);
        shots(Check.told(four), 1, 2, 3, 4);
        shots(Check.told(four + "void 3 0;"), 1, 2, 3, 5);
        shots(Check.told(four + "void 2 0;"), 1, 2, 5);
        shots(Check.told(four + "void 1 0;"), 1, 5);
        shots(Check.told(four + "void 0 0;"), 5);
        shots(Check.told(four + "void 3 0;void 2 0;"), 1, 2, 6);
        EventLedger x = Check.told(four);
        x.revoke(2, 0);
        shots(x, 1, 2, 5);
        x.undo();
        shots(x, 1, 2, 3, 4);
        // one that none lies above lets go none, and its own WEIGHT counts
        shots(Check.told("account a;snap 3 6;put a 0 3 1 1 1;put a 0 3 1 1 1;void 1 0;"), 3);
        shots(Check.told("account a;snap 3 6;put a 0 1 1;put a 0 3 1 1 1;void 1 0;"), 1);
        shots(Check.told("account a;snap 3 6;put a 0 1 1;put a 0 3 1 1 1;put a 0 3 1 1 1;void 1 0;"), 1, 4);
        // ahead of that: what goes makes room, so that none goes for KEEP
        shots(Check.told("account a;snap 2 2;" + "put a 0 3 1 1 1;".repeat(4) + "void 2 0;"), 2, 5);
    }

    /** "AT a TIME: the STATE by all EVENTS up to that TIME, VOIDED ones passed over, whenever their VOIDS came." */
    private static void at() {
        EventLedger x = Check.told("account a;open a 0 3 0 0 0;put a 5 3 1 0 0;put a 5 3 2 0 0;put a 6 3 4 0 0;put a 9999 3 8 0 0;");
        int[] times = {0, 4, 5, 6, 7, 9998, 9999};
        int[] balances = {0, 0, 3, 7, 7, 7, 15};
        for (int i = 0; i < times.length; i++) {
            due("at " + times[i], x.at(times[i], 0, 0), balances[i]);
            due("known at " + times[i], x.known(times[i], 0, 0), balances[i]);
        }
        x.revoke(2, 9999);
        for (int i = 0; i < times.length; i++) {
            due("at " + times[i] + " without one", x.at(times[i], 0, 0), balances[i] - (times[i] >= 5 ? 2 : 0));
            due("known at " + times[i] + " with it", x.known(times[i], 0, 0), balances[i] - (times[i] >= 9999 ? 2 : 0));
        }
    }

    /** "KNOWN at a TIME: by all EVENTS up to that TIME, those passed over alone whose VOIDS came up to it." */
    private static void known() {
        String text = "account a;open a 0 3 0 0 0;put a 1 3 10 0 0;take a 2 3 10 0 0;put a 3 3 1 0 0;void 1 3;put a 4 3 5 0 0;void 3 5;";
        EventLedger x = Check.told(text);
        int[] at = {0, 0, 0, 0, 5, 5, 5};
        int[] known = {0, 10, 0, 1, 6, 5, 5};
        for (int time = 0; time <= 6; time++) {
            due("at " + time, x.at(time, 0, 0), at[time]);
            due("known at " + time, x.known(time, 0, 0), known[time]);
        }
        x.revoke(5, 6);
        known[6] = 0;
        for (int time = 0; time <= 6; time++) {
            due("at " + time + " with one VOID more", x.at(time, 0, 0), 0);
            due("known at " + time + " with one VOID more", x.known(time, 0, 0), known[time]);
        }
        // a CAUSE that the VOID takes away is there as long as it isn't known
        EventLedger z = Check.told("account a;open a 0 3 0 0 0;put a 1 3 5 0 0;take a 1 3 4 0 0;take a 1 3 2 0 0;void 2 9;");
        due("now the second take is fine", Check.of(z, 3, 5), 0);
        due("at 8 the second take is done", z.at(8, 0, 0), 3);
        due("known at 8 the first one is", z.known(8, 0, 0), 1);
        due("known at 9 it is the second", z.known(9, 0, 0), 3);
    }

    /** "COST of a PLACE: WEIGHTS of EVENTS from the latest SNAPSHOT at or ahead of it to it." */
    private static void cost() {
        EventLedger x = Check.told("account a;snap 4 6;put a 0 1 1;put a 1 2 1 1;put a 1 3 1 1 1;put a 3 1 1;void 2 3;put a 9999 2 1 1;");
        // WEIGHTS 3 2 1 3 1 2: SNAPSHOTS at 2, 4; the VOID lets 4 go, 1 3 1 are enough at 5
        shots(x, 2, 5);
        int[] costs = {0, 3, 0, 1, 4, 0, 2};
        for (int p = 0; p < costs.length; p++) {
            due("COST of " + p, x.cost(p), costs[p]);
        }
        int[] times = {0, 1, 2, 3, 9998, 9999};
        int[] due = {3, 1, 1, 0, 0, 2};
        for (int i = 0; i < times.length; i++) {
            due("COST at " + times[i], x.costAt(times[i]), due[i]);
        }
    }

    /** "it counts FIELD (LIFTED) for the ACCOUNT (move: the first one), if that is of its KIND, has CAUSE 0 as it is now, is not VOIDED" */
    private static void counting() {
        EventLedger x = Check.told("account a;account b;tally t put 1;tally u put 2;tally v put 3;tally w move 2;lift put 1 mul 1 3;lift put 2 set 3 9;"
                + "open a 0 3 0 0 0;open b 0 3 0 0 0;put a 0 1 5;put b 0 2 6 1;put a 0 3 7 2 4;move a b 0 3 1 2 3;move b a 0 3 2 1 0;move b a 0 3 99 0 0;put a 0 3 50 0 0;void 8 0;");
        int[][] sums = {{15 + 7, 6}, {0 + 2, 1}, {9 + 4, 9}, {2, 1}};
        int[] counts = {3, 3, 3, 2};
        for (int t = 0; t < 4; t++) {
            due("all at once", x.see(t, 120), 10);
            due("of the first " + t, x.sum(t, 0), sums[t][0]);
            due("of the second " + t, x.sum(t, 1), sums[t][1]);
            due("both " + t, x.tally(t, 5), sums[t][0] + sums[t][1]);
            due("how many " + t, x.tally(t, 2), counts[t]);
            due("nothing is missing " + t, x.tally(t, 6), 0);
        }
        // open, take, lock, free, close: a TALLY of each KIND
        String[] kinds = {"open", "take", "lock", "free", "close"};
        for (int k = 0; k < kinds.length; k++) {
            EventLedger y = Check.told("account a;tally t " + kinds[k] + " 1;open a 0 3 1 0 0;put a 0 3 70 0 0;lock a 0 3 4 0 0;free a 0 3 4 0 0;take a 0 3 70 0 0;close a 0 3 8 0 0;");
            int[] due = {1, 70, 4, 4, 8};
            due("how much " + kinds[k] + " lacks", y.tally(0, 6), due[k]);
            y.see(0, 6);
            due("how much " + kinds[k] + " lacks then", y.tally(0, 6), 0);
            due("SUM of " + kinds[k], y.sum(0, 0), due[k]);
            due("one " + kinds[k], y.tally(0, 2), 1);
            due("rewound", y.rewind(0), 6);
            due("no " + kinds[k], y.tally(0, 2), 0);
            due("no SUM", y.sum(0, 0), 0);
        }
    }

    /** "of a VOID it takes off what it counted of its EVENT, if it did" */
    private static void takingOff() {
        EventLedger x = Check.told("account a;tally t put 1;open a 0 3 0 0 0;put a 0 3 5 0 0;put a 0 3 7 0 0;");
        x.see(0, 2);
        x.revoke(1, 0);
        x.revoke(2, 0);
        x.revoke(0, 0);
        due("as long as the VOID isn't SEEN it counts", x.sum(0, 0), 5);
        due("one", x.tally(0, 2), 1);
        due("how much more anew", x.tally(0, 6), -5);
        due("the VOIDED one", x.see(0, 1), 1);
        due("isn't counted", x.sum(0, 0), 5);
        due("the VOID", x.see(0, 1), 1);
        due("takes off", x.sum(0, 0), 0);
        due("none", x.tally(0, 2), 0);
        due("the VOID of what isn't counted", x.see(0, 1), 1);
        due("takes off nothing", x.sum(0, 0), 0);
        due("the VOID of another KIND", x.see(0, 1), 1);
        due("takes off nothing, too", x.sum(0, 0), 0);
        due("none is left", x.see(0, 1), -2);
        // SET ASIDE as it was SEEN, and fine since: it isn't counted, and its VOID takes off nothing
        EventLedger y = Check.told("account a;tally t take 1;open a 0 3 0 0 0;put a 0 3 5 0 0;take a 0 3 4 0 0;take a 0 3 3 0 0;");
        y.see(0, 4);
        due("one take", y.sum(0, 0), 4);
        y.revoke(2, 0);
        due("now the other one is fine", Check.of(y, 3, 5), 0);
        due("anew it were 3", y.tally(0, 6), -1);
        y.see(0, 1);
        due("none is counted", y.sum(0, 0), 0);
        due("anew still 3", y.tally(0, 6), 3);
        y.revoke(3, 0);
        y.see(0, 1);
        due("still none", y.sum(0, 0), 0);
        due("nor anew", y.tally(0, 6), 0);
    }

    /** "DRAW: the last number (at first the seed) times 1103515245, and 12345 more, without what is above 31 bits ...; this by 65536, rounded down, modulo what is said" */
    private static int[] draws(long seed, int n, int accounts) {
        java.math.BigInteger number = java.math.BigInteger.valueOf(seed);
        int[] modulo = {5, accounts, 1000};
        int[] drawn = new int[3 * n];
        for (int i = 0; i < drawn.length; i++) {
            number = number.multiply(java.math.BigInteger.valueOf(1103515245)).add(java.math.BigInteger.valueOf(12345)).mod(java.math.BigInteger.ONE.shiftLeft(31));
            drawn[i] = number.shiftRight(16).mod(java.math.BigInteger.valueOf(modulo[i % 3])).intValue();
        }
        return drawn;
    }

    /** "BY CHANCE: n times: a KIND, ..., an ACCOUNT, a FIELD: ...: an EVENT of these, of the latest TIME, SHAPE 3 (other FIELDS 0), as if it came." */
    private static void byChance(String text, int seed, int n) {
        EventLedger x = Check.told(text);
        EventLedger twin = Check.told(text);
        int[] drawn = draws(seed, n, x.count(0));
        int aside = -x.count(4);
        int taken = 0;
        for (int i = 0; i < n; i++) {
            int event = twin.event(drawn[3 * i], drawn[3 * i + 1], 0, Math.max(0, twin.count(6)), drawn[3 * i + 2], 0);
            taken += twin.count(3) > 0 && twin.snapshot(twin.count(3) - 1) == event + 1 ? 1 : 0;
        }
        int all = 0;
        for (int a = 0; a < x.count(0); a++) {
            all += twin.account(a, 0);
        }
        String ahead = Check.picture(x);
        String call = "chance(" + seed + ", " + n + ", ";
        due(call + "0)", x.chance(seed, n, 0), aside + twin.count(4));
        due(call + "1)", x.chance(seed, n, 1), all);
        due(call + "2)", x.chance(seed, n, 2), taken);
        Check.isTrue(call + "..) only asks", ahead.equals(Check.picture(x)));
    }

    private static void chances() {
        int[] seeds = {0, 1, 2, 99999, 100000, 65535, 65536, 1073741824, 2147483646, 2147483647};
        for (int seed : seeds) {
            byChance("account a;snap 3 2;lift put 2 mul 1 9;", seed, 60);
            byChance("account a;account b;account c;snap 1 6;open b 7 1 500;open a 7 1 0;put a 8 1 9;take a 9 1 10;void 2 9;", seed, 1);
            byChance("account a;lift put 1 mul 1 999;lift put 1 mul 1 999;open a 0 1 0;put a 0 1 9;put a 0 1 1;", seed, 30);
            byChance("account a;account b;account c;snap 7 1;open b 7 1 500;open a 7 1 0;put a 8 1 9;take a 9 1 10;void 2 9;", seed, 59);
        }
        EventLedger x = Check.told("account a;seed 777;");
        for (int what = 0; what < 3; what++) {
            due("from that of the TEXT on " + what, x.chance(-1, 60, what), x.chance(777, 60, what));
        }
    }

    public static void main(String[] args) {
        fieldsOfShapes();
        stepsOfShapes();
        ops();
        broken();
        weights();
        atFirst();
        firstCause();
        notOpen();
        takeAndMove();
        lockAndFree();
        closing();
        putting();
        moving();
        voided();
        everyOrMore();
        moreThanKeep();
        keepNothing();
        voidLetsGo();
        at();
        known();
        cost();
        counting();
        takingOff();
        chances();
        Check.end();
    }
}
