/**
 * The boundary cases of the calls (part 4 of the document's terms, promises 1 and 6 to 35): a method for
 * each promise or sentence.
 */
public final class CallBoundaryTest {
    private static final int NO = Check.NO;
    private static final int MIN = Integer.MIN_VALUE;
    private static final int MAX = Integer.MAX_VALUE;
    private static final int PUT = 1;
    private static final int MOVE = 6;

    private CallBoundaryTest() {
    }

    private static void due(String call, long got, long want) {
        Check.due(call, got, want);
    }

    private static void same(String what, String ahead, EventLedger x) {
        Check.isTrue(what, ahead.equals(Check.picture(x)));
    }

    /** The picture without how many can be undone. */
    private static String bare(EventLedger x) {
        return Check.picture(x).replaceFirst("^((\\S+ ){9})\\S+ ", "$1");
    }

    /** Two ACCOUNTS that are OPEN, two TALLIES, an EVENT of each SHAPE, one VOIDED, one SET ASIDE, TIMES up to 5. */
    private static EventLedger ledger() {
        return Check.told("account a;account b;tally t put 1;tally u move 2;snap 3 2;seed 5;lift put 1 mul 1 10;lift put 2 add 2 1;"
                + "open a 1 3 50 0 0;open b 1 3 0 0 0;put a 2 1 9;put b 3 2 40 4;move a b 3 3 20 5 0;take a 4 3 999 0 0;put a 4 3 1 0 0;void 6 5;");
    }

    /** An object full of 120 EVENTS, 50 of them of the TEXT, the latest of TIME 3. */
    private static EventLedger full() {
        EventLedger x = Check.told("account a;account b;" + "put a 3 1 1;".repeat(50));
        for (int i = 50; i < 120; i++) {
            due("EVENT " + i, i % 3 == 0 ? x.event(PUT, 0, 0, 3, 1, 0) : i % 3 == 1 ? x.old(PUT, 0, 0, 3, 1) : x.revoke(i - 1, 3), i);
        }
        return x;
    }

    /** Promise 1: "No ACCOUNTS; an empty TAPE." */
    private static void newObject() {
        due("NONE", EventLedger.NONE, -1);
        EventLedger x = new EventLedger();
        int[] counts = {0, 0, 0, 0, 0, 0, -2, 0, 0, 0, 0, 20, 3, -1};
        for (int what = 0; what < counts.length; what++) {
            due("count(" + what + ")", x.count(what), counts[what]);
        }
        due("COST of PLACE 0", x.cost(0), 0);
        due("COST of PLACE 1", x.cost(1), -1);
        due("costAt(0)", x.costAt(0), 0);
        due("costAt(9999)", x.costAt(9999), 0);
        due("snapshot(0)", x.snapshot(0), -2);
        due("aside(0)", x.aside(0), -2);
        due("bestPlace(0)", x.bestPlace(0), 0);
        due("bestPlace(1)", x.bestPlace(1), 0);
        due("ifPlain(0, 1)", x.ifPlain(0, 1), 0);
        due("ifPlain(6, 2)", x.ifPlain(6, 2), 0);
        due("back()", x.back(), -1);
        due("undo()", x.undo(), -1);
        due("resnap(1, 0)", x.resnap(1, 0), 0);
        due("undo() of it", x.undo(), 0);
        due("keep()", x.keep(), 0);
        due("back() to it", x.back(), 0);
        // another object has nothing of it
        EventLedger y = new EventLedger();
        Check.tell(x, "account a;snap 9 1;");
        due("another object's ACCOUNTS", y.count(0), 0);
        due("another object's EVERY", y.count(11), 20);
    }

    private static void refusedEvent(EventLedger x, int kind, int account, int other, int time, int one, int two, int want) {
        String ahead = Check.picture(x);
        String call = "(" + kind + ", " + account + ", " + other + ", " + time + ", " + one;
        due("event" + call + ", " + two + ")", x.event(kind, account, other, time, one, two), want);
        if (two == 0) {
            due("old" + call + ")", x.old(kind, account, other, time, one), want);
        }
        same("nothing changes by " + call, ahead, x);
    }

    /** Promises 6 and 7: "NONE: no such ones" */
    private static void noSuchEvents() {
        EventLedger x = ledger();
        int[] kinds = {-1, 7, 8, MIN, MAX};
        for (int kind : kinds) {
            refusedEvent(x, kind, 0, 1, 5, 1, 0, -1);
        }
        int[] accounts = {-1, 2, 8, MIN, MAX};
        for (int account : accounts) {
            for (int kind = 0; kind <= MOVE; kind++) {
                refusedEvent(x, kind, account, 1, 5, 1, 0, -1);
            }
            refusedEvent(x, MOVE, 0, account, 5, 1, 0, -1);
        }
        refusedEvent(x, MOVE, 0, 0, 5, 1, 0, -1);
        refusedEvent(x, MOVE, 1, 1, 5, 1, 0, -1);
        int[] times = {-1, 10000, MIN, MAX};
        for (int time : times) {
            refusedEvent(x, PUT, 0, 0, time, 1, 0, -1);
        }
        int[] numbers = {-1, 100000, MIN, MAX};
        for (int number : numbers) {
            refusedEvent(x, PUT, 0, 0, 5, number, 0, -1);
            refusedEvent(x, PUT, 0, 0, 5, 0, number, -1);
        }
    }

    /** Promises 6 and 7: what just can come, "the other one (of a move; else whatever)" */
    private static void suchEvents() {
        EventLedger x = ledger();
        due("the least", x.event(0, 0, MIN, 5, 0, 0), 8);
        due("old, the least", x.old(0, 0, MAX, 5, 0), 9);
        due("the greatest", x.event(6, 1, 0, 5, 99999, 99999), 10);
        due("old, the greatest", x.old(6, 0, 1, 5, 99999), 11);
        due("TIME 9999", x.event(5, 1, 1, 9999, 0, 0), 12);
        due("old, TIME 9999", x.old(5, 1, 1, 9999, 0), 13);
        due("nothing but a move has another one", Check.of(x, 8, 2), -2);
        due("nor of SHAPE 1", Check.of(x, 9, 2), -2);
        due("nor if that were an ACCOUNT", Check.of(x, 12, 2), -2);
        int[][] told = {{0, 0, 0}, {0, 0, 0}, {99999, 99999, 0}, {99999, 0, 0}};
        for (int i = 0; i < 4; i++) {
            for (int field = 1; field <= 3; field++) {
                due("FIELD " + field + " of " + (8 + i), x.field(8 + i, field, false), told[i][field - 1]);
            }
            due("SHAPE of " + (8 + i), Check.of(x, 8 + i, 4), i % 2 == 0 ? 3 : 1);
            due("WEIGHT of " + (8 + i), Check.of(x, 8 + i, 7), i % 2 == 0 ? 1 : 3);
        }
        EventLedger y = Check.told("account a;");
        due("TIME 0", y.event(PUT, 0, 0, 0, 0, 0), 0);
        due("TIME 0 again", y.old(PUT, 0, 0, 0, 0), 1);
    }

    /** "-2: a TIME that is less than the latest EVENT's; -3: there are 120.", "NONE goes first, then -2, then -3" */
    private static void tooEarlyOrFull() {
        EventLedger x = ledger();
        refusedEvent(x, PUT, 0, 0, 4, 1, 0, -2);
        refusedEvent(x, PUT, 0, 0, 0, 1, 0, -2);
        refusedEvent(x, PUT, 2, 0, 4, 1, 0, -1);
        refusedEvent(x, MOVE, 0, 0, 4, 1, 0, -1);
        refusedEvent(x, PUT, 0, 0, 4, 100000, 0, -1);
        due("the latest EVENT's TIME itself", x.event(PUT, 0, 0, 5, 1, 0), 8);
        due("a later one", x.old(PUT, 0, 0, 7, 1), 9);
        refusedEvent(x, PUT, 0, 0, 6, 1, 0, -2);
        x.undo();
        due("when that is undone", x.old(PUT, 0, 0, 6, 1), 9);
        EventLedger f = full();
        due("120", f.count(1), 120);
        refusedEvent(f, PUT, 0, 0, 3, 1, 0, -3);
        refusedEvent(f, PUT, 0, 0, 9999, 1, 0, -3);
        refusedEvent(f, PUT, 0, 0, 2, 1, 0, -2);
        refusedEvent(f, PUT, 2, 0, 3, 1, 0, -1);
        refusedEvent(f, PUT, 0, 0, -1, 1, 0, -1);
        f.undo();
        due("one undone", f.event(PUT, 0, 0, 3, 1, 0), 119);
    }

    private static void refusedVoid(EventLedger x, int event, int time, int want) {
        String ahead = Check.picture(x);
        due("revoke(" + event + ", " + time + ")", x.revoke(event, time), want);
        same("nothing changes by revoke(" + event + ", " + time + ")", ahead, x);
    }

    /** Promise 8: "NONE: no such EVENT, TIME, it is a VOID, VOIDED; -2, -3: as of event()." */
    private static void revoking() {
        EventLedger x = ledger();
        int[] events = {-1, 8, 120, MIN, MAX};
        for (int event : events) {
            refusedVoid(x, event, 5, -1);
            refusedVoid(x, event, 4, -1);
        }
        int[] times = {-1, 10000, MIN, MAX};
        for (int time : times) {
            refusedVoid(x, 2, time, -1);
        }
        refusedVoid(x, 7, 5, -1);
        refusedVoid(x, 6, 5, -1);
        refusedVoid(x, 7, 4, -1);
        refusedVoid(x, 6, 4, -1);
        refusedVoid(x, 2, 4, -2);
        due("the first, of the latest TIME", x.revoke(0, 5), 8);
        due("one SET ASIDE", x.revoke(5, 5), 9);
        due("the latest EVENT", x.event(PUT, 0, 0, 9999, 1, 0), 10);
        due("of TIME 9999", x.revoke(10, 9999), 11);
        refusedVoid(x, 11, 9999, -1);
        EventLedger f = full();
        refusedVoid(f, 0, 3, -3);
        refusedVoid(f, 0, 2, -2);
        refusedVoid(f, 50, 3, -1);
        refusedVoid(f, 120, 3, -1);
        due("the last is a VOID", Check.of(f, 119, 0), 7);
        refusedVoid(f, 119, 3, -1);
        due("it isn't VOIDED", Check.of(f, 0, 6), 0);
        EventLedger y = Check.told("account a;put a 0 1 1;");
        due("TIME 0", y.revoke(0, 0), 1);
    }

    /** Promise 9: which of() throws, "IndexOutOfBoundsException ahead of NoSuchElementException, both ahead of numbers" */
    private static void of() {
        EventLedger x = ledger();
        int[] noEvents = {-1, 8, 120, MIN, MAX};
        int[] noWhats = {-1, 8, MIN, MAX};
        String ahead = Check.picture(x);
        for (int event : noEvents) {
            for (int what = 0; what < 8; what++) {
                due("of(" + event + ", " + what + ")", Check.of(x, event, what), 1000001);
            }
            for (int what : noWhats) {
                due("of(" + event + ", " + what + ")", Check.of(x, event, what), 1000001);
            }
        }
        for (int event = 0; event < 8; event++) {
            for (int what : noWhats) {
                due("of(" + event + ", " + what + ")", Check.of(x, event, what), 1000002);
            }
        }
        same("nothing changes", ahead, x);
        long[][] all = {{0, 0, -2, 1, 3, 0, 0, 1}, {0, 1, -2, 1, 3, 0, 0, 1}, {1, 0, -2, 2, 1, 0, 0, 3}, {1, 1, -2, 3, 2, 0, 0, 2},
            {6, 0, 1, 3, 3, 0, 0, 1}, {2, 0, -2, 4, 3, 3, 0, 1}, {1, 0, -2, 4, 3, 0, 1, 1}, {7, -2, 6, 5, 0, 0, 0, 1}};
        for (int event = 0; event < 8; event++) {
            for (int what = 0; what < 8; what++) {
                due("of(" + event + ", " + what + ")", Check.of(x, event, what), all[event][what]);
            }
        }
        due("of a new object", Check.of(new EventLedger(), 0, 0), 1000001);
        EventLedger y = Check.told("account a;put a 0 1 1;void 0 0;");
        due("a VOID of EVENT 0", Check.of(y, 1, 2), 0);
        EventLedger f = full();
        due("the 120th", Check.of(f, 119, 2), 118);
        due("a 121st", Check.of(f, 120, 2), 1000001);
    }

    /** Promise 10: "NONE: no such ones, a VOID." */
    private static void field() {
        EventLedger x = ledger();
        int[] noEvents = {-1, 7, 8, 120, MIN, MAX};
        int[] noFields = {-1, 0, 4, MIN, MAX};
        for (int i = 0; i < 2; i++) {
            for (int event : noEvents) {
                due("field(" + event + ", 1)", x.field(event, 1, i == 0), -1);
                due("field(" + event + ", 3)", x.field(event, 3, i == 0), -1);
                due("field(" + event + ", 0)", x.field(event, 0, i == 0), -1);
            }
            for (int field : noFields) {
                due("field(0, " + field + ")", x.field(0, field, i == 0), -1);
                due("field(6, " + field + ")", x.field(6, field, i == 0), -1);
            }
        }
        due("as it came", x.field(2, 1, false), 9);
        due("LIFTED", x.field(2, 1, true), 90);
        due("of a VOIDED one, too", x.field(6, 1, true), 1);
    }

    /** Promises 11, 12, 13, 17: "NO: no such ones." */
    private static void looking() {
        EventLedger x = ledger();
        int[] noAccounts = {-1, 2, 8, MIN, MAX};
        int[] noWhats = {-1, 4, MIN, MAX};
        int[] noTimes = {-1, 10000, MIN, MAX};
        for (int account : noAccounts) {
            for (int what = 0; what < 4; what++) {
                due("account(" + account + ")", x.account(account, what), NO);
                due("at(5, " + account + ")", x.at(5, account, what), NO);
                due("known(5, " + account + ")", x.known(5, account, what), NO);
                due("inSnapshot(0, " + account + ")", x.inSnapshot(0, account, what), NO);
            }
        }
        for (int what : noWhats) {
            due("account(0, " + what + ")", x.account(0, what), NO);
            due("at(5, 0, " + what + ")", x.at(5, 0, what), NO);
            due("known(5, 0, " + what + ")", x.known(5, 0, what), NO);
            due("inSnapshot(0, 0, " + what + ")", x.inSnapshot(0, 0, what), NO);
        }
        for (int time : noTimes) {
            due("at(" + time + ")", x.at(time, 0, 0), NO);
            due("known(" + time + ")", x.known(time, 0, 0), NO);
        }
        int[][] now = {{90 - 1 - 25, 0, 50, 1}, {40 - 5 + 20, 0, 0, 1}};
        for (int account = 0; account < 2; account++) {
            for (int what = 0; what < 4; what++) {
                due("account(" + account + ", " + what + ")", x.account(account, what), now[account][what]);
                due("at(9999, " + account + ", " + what + ")", x.at(9999, account, what), now[account][what]);
                due("known(9999, " + account + ", " + what + ")", x.known(9999, account, what), now[account][what]);
                due("at(0, " + account + ", " + what + ")", x.at(0, account, what), 0);
                due("known(0, " + account + ", " + what + ")", x.known(0, account, what), 0);
            }
        }
        due("at 4, the VOIDED one passed over", x.at(4, 0, 0), 64);
        due("known at 4, with it", x.known(4, 0, 0), 65);
    }

    /** Promises 14 and 15: "a PLACE 0 .. how many EVENTS there are", "a TIME 0 .. 9999" */
    private static void costs() {
        EventLedger x = ledger();
        due("the PLACE behind the last EVENT", x.cost(8) >= 0 ? 1 : 0, 1);
        int[] noPlaces = {-1, 9, 120, MIN, MAX};
        for (int place : noPlaces) {
            due("cost(" + place + ")", x.cost(place), -1);
        }
        int[] noTimes = {-1, 10000, MIN, MAX};
        for (int time : noTimes) {
            due("costAt(" + time + ")", x.costAt(time), -1);
        }
        due("costAt(0)", x.costAt(0), 0);
        due("costAt(9999)", x.costAt(9999), x.cost(8));
        EventLedger f = full();
        f.resnap(999, 0);
        due("all of 120", f.cost(120), f.count(8));
        due("a 121st PLACE", f.cost(121), -1);
    }

    /** Promises 16, 17, 19: "-2: there are not so many; NONE: k is below 0." */
    private static void kth() {
        EventLedger x = ledger();
        int[] below = {-1, -2, MIN};
        for (int k : below) {
            due("snapshot(" + k + ")", x.snapshot(k), -1);
            due("aside(" + k + ")", x.aside(k), -1);
            due("inSnapshot(" + k + ")", x.inSnapshot(k, 0, 0), NO);
        }
        // WEIGHTS 1 1 3 2 1 1 1 1: at 3, 5 and 8 (3 of these then); GAPS 8 of 3 and 5 of 5: that goes
        due("SNAPSHOTS", x.count(3), 2);
        due("the first SNAPSHOT", x.snapshot(0), 3);
        due("the last SNAPSHOT", x.snapshot(1), 8);
        int[] beyond = {2, 3, 7, 120, MAX};
        for (int k : beyond) {
            due("snapshot(" + k + ")", x.snapshot(k), -2);
            due("inSnapshot(" + k + ")", x.inSnapshot(k, 0, 0), NO);
        }
        due("in the first", x.inSnapshot(0, 0, 0), 89);
        due("in the last", x.inSnapshot(1, 0, 0), 64);
        due("the one SET ASIDE", x.aside(0), 5);
        due("no other", x.aside(1), -2);
        due("far from it", x.aside(MAX), -2);
        EventLedger f = full();
        // 0 .. 48, then 51, 54 .. 117: the others are VOIDED or VOIDS
        int[] ks = {0, 48, 49, 50, 71, 72};
        int[] aside = {0, 48, 51, 54, 117, -2};
        for (int i = 0; i < ks.length; i++) {
            due("of many that of " + ks[i], f.aside(ks[i]), aside[i]);
        }
        EventLedger y = Check.told("account a;open a 0 3 0 0 0;take a 0 3 1 0 0;");
        due("the last EVENT", y.aside(0), 1);
        due("is the last", y.aside(1), -2);
    }

    /** Promise 18: "least, the first (0 would change nothing: if none makes them less); what 1 ...; NONE for another what than 0, 1." */
    private static void bestPlace() {
        EventLedger x = Check.told("account a;put a 0 3 1 1 1;");
        due("the last PLACE", x.bestPlace(0), 1);
        due("COSTS then", x.bestPlace(1), 0);
        EventLedger one = Check.told("account a;snap 1 1;put a 0 1 1;");
        due("none makes them less", one.bestPlace(0), 0);
        due("the COSTS as they are", one.bestPlace(1), 0);
        // WEIGHTS 3 3 1 1 1 1: SNAPSHOTS none: COSTS 0 3 6 7 8 9 10; at 1 it saves 18, at 2 30, at 3 28
        EventLedger none = Check.told("account a;put a 0 1 1;put a 0 1 1;" + "put a 0 3 1 1 1;".repeat(4));
        due("without SNAPSHOTS", none.bestPlace(0), 2);
        due("of 43 together", none.bestPlace(1), 43 - 30);
        // SNAPSHOTS at 3, 6 of WEIGHTS 1: COSTS 0 1 2 0 1 2 0 1: one more saves 2 at 1, 2, 4, 5
        EventLedger even = Check.told("account a;snap 3 6;" + "put a 0 3 1 1 1;".repeat(7));
        due("the first of several", even.bestPlace(0), 1);
        due("of 7 together", even.bestPlace(1), 5);
        // KEEP is full: one more is one more
        EventLedger kept = Check.told("account a;snap 3 1;" + "put a 0 3 1 1 1;".repeat(3));
        due("behind KEEP", kept.bestPlace(0), 1);
        due("of 3 together", kept.bestPlace(1), 1);
        int[] noWhats = {-1, 2, MIN, MAX};
        for (int what : noWhats) {
            due("bestPlace(" + what + ")", x.bestPlace(what), -1);
        }
    }

    /** Promise 20: "The first EVENT that isn't VOIDED, and is no VOID, ...; -2: none; NONE: no such EVENT, not SET ASIDE. (Not itself.)" */
    private static void blame() {
        EventLedger x = ledger();
        int[] noEvents = {-1, 8, 120, MIN, MAX};
        for (int event : noEvents) {
            due("blame(" + event + ")", x.blame(event), -1);
        }
        for (int event = 0; event < 8; event++) {
            due("blame(" + event + ")", x.blame(event), event == 5 ? -2 : -1);
        }
        // the last take lacks 1: the first take that spares so much, SET ASIDE, VOIDED ones and VOIDS left out
        EventLedger y = Check.told("account a;open a 0 3 0 0 0;put a 0 3 10 0 0;take a 0 3 4 0 0;take a 0 3 1 0 0;take a 0 3 90 0 0;take a 0 3 2 0 0;void 2 0;take a 0 3 8 0 0;take a 0 3 2 0 0;");
        due("it lacks 1", Check.of(y, 7, 5), 3);
        due("not the VOIDED one of 4, the first of 1", y.blame(7), 3);
        due("the one of 90 has none", y.blame(4), -2);
        due("the last one is fine", y.blame(8), -1);
        // the first EVENT of all is to blame
        EventLedger z = Check.told("account a;open a 0 3 5 0 0;open a 0 3 0 0 0;take a 0 3 6 0 0;");
        due("without the first the second opens", z.blame(1), 0);
        due("EVENT 0 isn't to blame, nor what is SET ASIDE", z.blame(2), -2);
        // the EVENT right ahead is to blame
        EventLedger r = Check.told("account a;open a 0 3 0 0 0;put a 0 3 6 0 0;lock a 0 3 1 0 0;take a 0 3 6 0 0;");
        due("the one right ahead", r.blame(3), 2);
        // what comes behind isn't
        EventLedger b = Check.told("account a;open a 0 3 0 0 0;take a 0 3 6 0 0;take a 0 3 0 0 0;put a 0 3 6 0 0;");
        due("none behind", b.blame(1), -2);
        // one without which it would be SET ASIDE by another CAUSE isn't to blame
        EventLedger c = Check.told("account a;open a 0 3 0 0 0;take a 0 3 6 0 0;");
        due("another CAUSE is no help", c.blame(1), -2);
        // BROKEN stays BROKEN
        EventLedger d = Check.told("account a;lift put 2 mul 1 999;open a 0 3 0 0 0;put a 0 2 99999 0;");
        due("none is to blame for a BROKEN one", d.blame(1), -2);
    }

    /** Promises 21 and 24: "if an EVENT were VOIDED", "NO (NONE): no such ones, it is a VOID." */
    private static void withoutOne() {
        EventLedger x = ledger();
        int[] noEvents = {-1, 7, 8, 120, MIN, MAX};
        for (int event : noEvents) {
            due("without(" + event + ", 0)", x.without(event, 0), NO);
            due("touches(" + event + ")", x.touches(event), -1);
        }
        int[] noAccounts = {-1, 2, 8, MIN, MAX};
        for (int account : noAccounts) {
            due("without(0, " + account + ")", x.without(0, account), NO);
            due("without(7, " + account + ")", x.without(7, account), NO);
        }
        int[][] without = {{0, 35}, {89, 0}, {-25, 55}, {64, 20}, {89, 35}, {64, 55}, {64, 55}};
        int[] touches = {3, 2, 0, 0, 0, 0, 0};
        for (int event = 0; event < 7; event++) {
            due("without(" + event + ", 0)", x.without(event, 0), without[event][0]);
            due("without(" + event + ", 1)", x.without(event, 1), without[event][1]);
            due("touches(" + event + ")", x.touches(event), touches[event]);
        }
        // from CAUSE 3 to CAUSE 2 is another one; itself, a SET ASIDE one, isn't counted
        EventLedger y = Check.told("account a;open a 0 3 0 0 0;take a 0 3 1 0 0;take a 0 3 0 0 0;");
        due("3 to 2, 0 to 2", y.touches(0), 2);
        due("not itself", y.touches(1), 0);
        // the first is touched by none behind; the last one by the first
        due("the last", y.touches(2), 0);
        EventLedger z = Check.told("account a;open a 0 3 0 0 0;open a 0 3 0 0 0;open a 0 3 0 0 0;");
        due("the second opens then", z.touches(0), 1);
    }

    /** Promise 22: "The first EVENT behind which BALANCE ... was below 0; -2: none; NONE: no such ACCOUNT." */
    private static void firstBelow() {
        EventLedger x = ledger();
        int[] noAccounts = {-1, 2, 8, MIN, MAX};
        for (int account : noAccounts) {
            due("firstBelow(" + account + ")", x.firstBelow(account), -1);
        }
        due("never", x.firstBelow(0), -2);
        EventLedger y = Check.told("account a;account b;open a 0 3 1 0 0;open b 0 3 0 0 0;put a 0 3 1 0 0;move a b 0 3 1 0 0;take a 0 3 1 0 0;put a 0 3 9 0 0;take a 0 3 10 0 0;put b 0 3 0 2 0;");
        due("0 isn't below, -1 is", y.firstBelow(0), 4);
        due("the last EVENT", y.firstBelow(1), 7);
        y.revoke(4, 0);
        due("without that take the last one isn't too much", y.firstBelow(0), 6);
        due("the other one as ahead", y.firstBelow(1), 7);
        y.revoke(2, 0);
        due("without the put the move goes below", y.firstBelow(0), 3);
        y.revoke(0, 0);
        due("never OPEN", y.firstBelow(0), -2);
    }

    /** Promise 23: "(what 0; the beginning counts: 0), the first EVENT behind which it was that (1; -2: the beginning); NO: no such ones." */
    private static void peak() {
        EventLedger x = ledger();
        int[] noAccounts = {-1, 2, 8, MIN, MAX};
        for (int account : noAccounts) {
            due("peak(" + account + ", 0)", x.peak(account, 0), NO);
            due("peak(" + account + ", 1)", x.peak(account, 1), NO);
        }
        int[] noWhats = {-1, 2, MIN, MAX};
        for (int what : noWhats) {
            due("peak(0, " + what + ")", x.peak(0, what), NO);
        }
        due("the greatest", x.peak(0, 0), 89);
        due("the first", x.peak(0, 1), 2);
        due("of the second", x.peak(1, 0), 55);
        due("the first of it", x.peak(1, 1), 4);
        EventLedger y = Check.told("account a;account b;open a 0 3 9 0 0;put a 0 3 0 1 0;put a 0 3 1 0 0;put a 0 3 1 0 0;take a 0 3 1 0 0;put a 0 3 1 0 0;open b 0 3 0 0 0;put b 0 3 0 5 0;");
        due("1 is above the beginning", y.peak(0, 0), 1);
        due("where first", y.peak(0, 1), 3);
        due("the beginning", y.peak(1, 0), 0);
        due("is none", y.peak(1, 1), -2);
        y.revoke(3, 0);
        due("less by 1", y.peak(0, 0), 0);
        due("0 was at the beginning", y.peak(0, 1), -2);
        EventLedger z = Check.told("account a;open a 0 3 0 0 0;put a 0 3 1 0 0;put a 0 3 1 0 0;");
        due("the last EVENT", z.peak(0, 1), 2);
    }

    /** Promise 25: "a KIND 0 .. 6 ...; from a SHAPE 1, 2 (those from the other one stay); NONE: no such ones." */
    private static void ifPlain() {
        EventLedger x = ledger();
        int[] noKinds = {-1, 7, 8, MIN, MAX};
        int[] noShapes = {-1, 0, 3, MIN, MAX};
        for (int kind : noKinds) {
            due("ifPlain(" + kind + ", 1)", x.ifPlain(kind, 1), -1);
            due("ifPlain(" + kind + ", 2)", x.ifPlain(kind, 2), -1);
        }
        for (int shape : noShapes) {
            due("ifPlain(1, " + shape + ")", x.ifPlain(1, shape), -1);
        }
        for (int kind = 0; kind <= 6; kind++) {
            due("ifPlain(" + kind + ", 1)", x.ifPlain(kind, 1), 1);
            due("ifPlain(" + kind + ", 2)", x.ifPlain(kind, 2), 1);
        }
        // open has a LIMIT of 5 by its STEP; the first put is 998002, the second one BROKEN; the second take is 0
        EventLedger y = Check.told("account a;lift open 1 set 1 5;lift put 1 mul 1 999;lift put 1 mul 1 999;lift put 2 add 1 1;lift take 2 set 1 0;"
                + "open a 0 1 0;take a 0 3 5 0 0;put a 0 1 1;take a 0 2 6 0;put a 0 1 2;");
        int[][] due = {{2, 1}, {0, 1}, {1, 1}, {1, 1}, {1, 1}, {1, 1}, {1, 1}};
        for (int kind = 0; kind <= 6; kind++) {
            due("none of " + kind + " from 1", y.ifPlain(kind, 1), due[kind][0]);
            due("none of " + kind + " from 2", y.ifPlain(kind, 2), due[kind][1]);
        }
        due("all is as it was", y.count(4), 1);
        due("and LIFTED", y.field(0, 1, true), 5);
        // a VOIDED one is never SET ASIDE, a first EVENT may be
        EventLedger z = Check.told("account a;account b;lift put 2 set 1 9;lift open 2 mul 1 999;open a 0 2 99999 0;open b 0 3 0 0 0;put b 0 2 0 0;take b 0 3 9 0 0;take b 0 3 1 0 0;void 4 0;");
        due("the first is BROKEN", z.aside(0), 0);
        due("alone", z.count(4), 1);
        due("plain, it opens", z.ifPlain(0, 2), 0);
        due("the take lacks 9, the VOIDED one isn't SET ASIDE", z.ifPlain(PUT, 2), 2);
    }

    private static void refusedResnap(EventLedger x, int every, int keep) {
        String ahead = Check.picture(x);
        due("resnap(" + every + ", " + keep + ")", x.resnap(every, keep), -1);
        same("nothing changes by resnap(" + every + ", " + keep + ")", ahead, x);
    }

    /** Promise 26: "EVERY 1 .. 999, KEEP 0 .. 6", "SNAPSHOTS are as they would be, had these been told (VOIDS let go what they did when they came)" */
    private static void resnap() {
        EventLedger x = ledger();
        int[] noEvery = {0, -1, 1000, MIN, MAX};
        int[] noKeep = {-1, 7, MIN, MAX};
        for (int every : noEvery) {
            refusedResnap(x, every, 3);
        }
        for (int keep : noKeep) {
            refusedResnap(x, 3, keep);
        }
        String head = "account a;account b;lift put 1 mul 1 10;";
        String events = "open a 1 3 50 0 0;put a 2 1 9;put b 3 2 40 4;put a 3 3 20 5 0;take a 4 3 9 0 0;void 3 5;put a 5 3 1 0 0;put a 6 3 1 0 0;void 1 7;put a 7 1 1;put a 7 1 1;";
        for (int every = 1; every <= 20; every++) {
            for (int keep = 0; keep <= 6; keep++) {
                EventLedger told = Check.told(head + "snap " + every + " " + keep + ";" + events);
                EventLedger anew = Check.told(head + "snap 7 2;" + events);
                due("resnap(" + every + ", " + keep + ")", anew.resnap(every, keep), told.count(3));
                Check.isTrue("as had it been told", bare(told).equals(bare(anew)));
                for (int k = 0; k <= 6; k++) {
                    due("SNAPSHOT " + k, anew.snapshot(k), told.snapshot(k));
                    due("in it", anew.inSnapshot(k, 0, 0), told.inSnapshot(k, 0, 0));
                }
                due("EVERY", anew.count(11), every);
                due("KEEP", anew.count(12), keep);
            }
        }
        due("the least", x.resnap(1, 0), 0);
        due("the greatest EVERY", x.resnap(999, 0), 0);
        due("the greatest KEEP", x.resnap(1, 6), 6);
        due("WEIGHTS are 11", x.resnap(11, 6), 1);
        due("12 are not", x.resnap(12, 6), 0);
        due("that of now can be undone, too", x.resnap(12, 6), 0);
        due("six of them", x.count(9), 6);
    }

    private static void refusedSee(EventLedger x, int tally, int n, int want) {
        String ahead = Check.picture(x);
        due("see(" + tally + ", " + n + ")", x.see(tally, n), want);
        same("nothing changes by see(" + tally + ", " + n + ")", ahead, x);
    }

    /** Promise 27: "the next n 1 .. 120 EVENTS (as many as there are): how many; NONE: no such ones; -2: none is left." */
    private static void see() {
        EventLedger x = ledger();
        int[] noTallies = {-1, 2, 4, MIN, MAX};
        int[] noNumbers = {0, -1, 121, MIN, MAX};
        for (int tally : noTallies) {
            refusedSee(x, tally, 1, -1);
        }
        for (int n : noNumbers) {
            refusedSee(x, 0, n, -1);
        }
        due("one", x.see(0, 1), 1);
        due("PLACE 1", x.tally(0, 0), 1);
        due("six", x.see(0, 6), 6);
        due("the last one of 120", x.see(0, 120), 1);
        refusedSee(x, 0, 1, -2);
        refusedSee(x, 0, 120, -2);
        refusedSee(x, 0, 0, -1);
        refusedSee(x, 0, 121, -1);
        due("the other one hasn't SEEN any", x.see(1, 8), 8);
        x.event(PUT, 0, 0, 5, 3, 0);
        due("one has come", x.see(0, 2), 1);
        due("it is counted", x.sum(0, 0), 93);
        EventLedger f = Check.told("account a;tally t put 1;open a 0 1 0;");
        for (int i = 1; i < 120; i++) {
            f.event(PUT, 0, 0, 0, 1, 0);
        }
        due("all 120 at once", f.see(0, 120), 120);
        due("the last one is counted", f.sum(0, 0), 119);
        due("none is left", f.see(0, 1), -2);
        due("rewound", f.rewind(0), 120);
        due("119 of them", f.see(0, 119), 119);
        due("118 counted", f.tally(0, 2), 118);
        due("how much is missing", f.tally(0, 6), 1);
    }

    /** Promise 28: "its PLACE as it was; NONE: no such TALLY." */
    private static void rewind() {
        EventLedger x = ledger();
        int[] noTallies = {-1, 2, 4, MIN, MAX};
        String ahead = Check.picture(x);
        for (int tally : noTallies) {
            due("rewind(" + tally + ")", x.rewind(tally), -1);
        }
        same("nothing changes", ahead, x);
        due("unseen", x.rewind(1), 0);
        x.see(0, 4);
        x.see(1, 5);
        due("the first one", x.rewind(0), 4);
        due("its PLACE", x.tally(0, 0), 0);
        due("its SUM of the first", x.sum(0, 0), 0);
        due("its SUM of the second", x.sum(0, 1), 0);
        due("it counts none", x.tally(0, 2), 0);
        due("the other one stays", x.tally(1, 5), 5);
        due("anew", x.see(0, 120), 8);
        due("each EVENT once", x.tally(0, 5), 130);
    }

    /** Promises 29 and 30: "NO: no such ones." */
    private static void tallies() {
        EventLedger x = ledger();
        int[] noTallies = {-1, 2, 4, MIN, MAX};
        int[] noWhats = {-1, 7, MIN, MAX};
        int[] noAccounts = {-1, 2, 8, MIN, MAX};
        for (int tally : noTallies) {
            for (int what = 0; what < 7; what++) {
                due("tally(" + tally + ", " + what + ")", x.tally(tally, what), NO);
            }
            due("sum(" + tally + ", 0)", x.sum(tally, 0), NO);
        }
        for (int what : noWhats) {
            due("tally(1, " + what + ")", x.tally(1, what), NO);
        }
        for (int account : noAccounts) {
            due("sum(1, " + account + ")", x.sum(1, account), NO);
        }
        int[][] unseen = {{0, 8, 0, 1, 1, 0, 130}, {0, 8, 0, 6, 2, 0, 5}};
        int[][] seen = {{4, 4, 2, 1, 1, 130, 0}, {5, 3, 1, 6, 2, 5, 0}};
        for (int tally = 0; tally < 2; tally++) {
            for (int what = 0; what < 7; what++) {
                due("tally(" + tally + ", " + what + ")", x.tally(tally, what), unseen[tally][what]);
            }
            x.see(tally, 4 + tally);
            for (int what = 0; what < 7; what++) {
                due("tally(" + tally + ", " + what + ") then", x.tally(tally, what), seen[tally][what]);
            }
        }
        due("no TALLIES at all", Check.told("account a;").sum(0, 0), NO);
        due("no ACCOUNTS at all", Check.told("tally t put 1;").sum(0, 0), NO);
        due("a TALLY without ACCOUNTS", Check.told("tally t put 1;").tally(0, 5), 0);
        due("and nothing to see", Check.told("tally t put 1;").see(0, 1), -2);
    }

    private static void refusedChance(EventLedger x, int seed, int n) {
        due("chance(" + seed + ", " + n + ", 0)", x.chance(seed, n, 0), -1);
        due("chance(" + seed + ", " + n + ", 1)", x.chance(seed, n, 1), NO);
        due("chance(" + seed + ", " + n + ", 2)", x.chance(seed, n, 2), -1);
    }

    /** Promise 31: "n 1 .. 60 from a seed 0 .. 2147483647 on (-1: that of the TEXT)", "NONE (what 1: NO): no such ones, no ACCOUNTS, EVENTS would be more than 120." */
    private static void chance() {
        EventLedger x = ledger();
        String ahead = Check.picture(x);
        refusedChance(x, -2, 1);
        refusedChance(x, MIN, 1);
        refusedChance(x, 0, 0);
        refusedChance(x, 0, -1);
        refusedChance(x, 0, 61);
        refusedChance(x, 0, MIN);
        refusedChance(x, 0, MAX);
        int[] noWhats = {-1, 3, MIN, MAX};
        for (int what : noWhats) {
            due("chance(0, 1, " + what + ")", x.chance(0, 1, what), -1);
            due("chance(-2, 0, " + what + ")", x.chance(-2, 0, what), -1);
        }
        int[] seeds = {-1, 0, MAX};
        int[] numbers = {1, 60};
        for (int seed : seeds) {
            for (int n : numbers) {
                due("chance(" + seed + ", " + n + ", 0) can be", x.chance(seed, n, 0) >= 0 ? 1 : 0, 1);
                due("chance(" + seed + ", " + n + ", 1) can be", x.chance(seed, n, 1) != NO ? 1 : 0, 1);
                due("chance(" + seed + ", " + n + ", 2) can be", x.chance(seed, n, 2) >= 0 ? 1 : 0, 1);
            }
        }
        same("it only asks", ahead, x);
        refusedChance(new EventLedger(), 0, 1);
        refusedChance(Check.told("seed 1;tally t put 1;"), -1, 1);
        EventLedger f = Check.told("account a;open a 0 3 9 0 0;");
        for (int i = 1; i < 60; i++) {
            f.event(PUT, 0, 0, 0, 0, 0);
        }
        f.resnap(1, 6);
        due("60 and 60", f.chance(0, 60, 2), 60);
        f.event(PUT, 0, 0, 0, 0, 0);
        refusedChance(f, 0, 60);
        due("61 and 59", f.chance(0, 59, 2), 59);
        for (int i = 61; i < 119; i++) {
            f.event(PUT, 0, 0, 0, 0, 0);
        }
        due("119 and 1", f.chance(0, 1, 2), 1);
        f.event(PUT, 0, 0, 0, 0, 0);
        refusedChance(f, 0, 1);
    }

    /** "EVENTS by call, see(), rewind(), resnap() that aren't refused can be undone, the latest first" */
    private static void undoEach() {
        EventLedger x = ledger();
        x.see(0, 5);
        x.undo();
        String[] pictures = new String[9];
        pictures[0] = Check.picture(x);
        due("event()", x.event(PUT, 0, 0, 6, 4, 1), 8);
        pictures[1] = Check.picture(x);
        due("old()", x.old(PUT, 1, 0, 6, 4), 9);
        pictures[2] = Check.picture(x);
        due("see()", x.see(0, 7), 7);
        pictures[3] = Check.picture(x);
        due("revoke()", x.revoke(2, 7), 10);
        pictures[4] = Check.picture(x);
        due("resnap()", x.resnap(2, 6), 2);
        pictures[5] = Check.picture(x);
        due("see() of the other one", x.see(1, 120), 11);
        pictures[6] = Check.picture(x);
        due("rewind()", x.rewind(0), 7);
        pictures[7] = Check.picture(x);
        due("revoke() of what came by call", x.revoke(8, 9), 11);
        pictures[8] = Check.picture(x);
        due("eight", x.count(9), 8);
        for (int left = 7; left >= 0; left--) {
            for (int k = left + 2; k < pictures.length; k++) {
                Check.isTrue("pictures differ", !pictures[k].equals(pictures[left]));
            }
            due("undo()", x.undo(), left);
            same("as it was with " + left, pictures[left], x);
        }
        due("none left", x.undo(), -1);
        same("nothing changes", pictures[0], x);
    }

    /** "(20 at most)": of 21 the first can't be undone any more. */
    private static void undoTwenty() {
        EventLedger x = Check.told("account a;tally t put 1;open a 0 3 0 0 0;");
        String[] pictures = new String[31];
        for (int i = 0; i <= 30; i++) {
            pictures[i] = bare(x);
            due("how many can be undone", x.count(9), Math.min(20, i));
            if (i < 30) {
                int done = i % 3 == 0 ? x.event(PUT, 0, 0, i, i, 0) : i % 3 == 1 ? x.see(0, 2) : x.resnap(1 + i, i % 7);
                due("it is done", done >= 0 ? 1 : 0, 1);
            }
        }
        for (int left = 19; left >= 0; left--) {
            due("undo()", x.undo(), left);
            Check.isTrue("as it was with " + left, pictures[10 + left].equals(bare(x)));
        }
        due("the 21st", x.undo(), -1);
        due("the TAPE, asking, keep() and texts can't be undone", x.count(9), 0);
        Check.feed(x, "account b;");
        x.keep();
        x.chance(0, 1, 0);
        x.back();
        due("still none", x.count(9), 0);
        due("and none is undone", x.undo(), -1);
    }

    /** What is undone is as if it had never come: nothing of it is left in any answer. */
    private static void nothingLeft() {
        EventLedger x = Check.told("account a;account b;tally t open 1;snap 2 6;open a 1 3 500 0 0;put a 2 3 100 0 0;");
        x.event(PUT, 0, 0, 3, 900, 0);
        x.event(2, 0, 0, 3, 1500, 0);
        x.event(2, 0, 0, 3, 1, 0);
        due("below 0", x.firstBelow(0), 3);
        due("the peak", x.peak(0, 1), 2);
        due("touched", x.touches(0), 4);
        due("set aside", x.aside(0), 4);
        due("lacking", x.tally(0, 6), 500);
        for (int i = 0; i < 3; i++) {
            x.undo();
        }
        due("never below 0", x.firstBelow(0), -2);
        due("the peak then", x.peak(0, 1), 1);
        due("touched then", x.touches(0), 1);
        due("none set aside", x.aside(0), -2);
        due("a take below 0 alone", x.event(2, 0, 0, 3, 101, 0), 2);
        due("is below 0", x.firstBelow(0), 2);
        due("and undone", x.undo(), 0);
        due("is not", x.firstBelow(0), -2);
        due("none to be asked for", Check.of(x, 2, 0), 1000001);
        due("no FIELD", x.field(2, 1, false), -1);
        due("the best PLACE", x.bestPlace(0), 1);
        due("its COSTS", x.bestPlace(1), 0);
        due("a VOID in place of it", x.revoke(1, 5), 2);
        due("its SHAPE", Check.of(x, 2, 4), 0);
        due("its WEIGHT", Check.of(x, 2, 7), 1);
        due("its ACCOUNT", Check.of(x, 2, 1), -2);
        due("an EVENT behind it", x.old(PUT, 0, 0, 5, 3), 3);
        due("isn't VOIDED", Check.of(x, 3, 6), 0);
        x.undo();
        x.undo();
        due("one that was VOIDED, in place of one that was not", x.old(PUT, 1, 0, 5, 3), 2);
        due("is not", Check.of(x, 2, 6), 0);
        due("the VOID is gone", Check.of(x, 1, 6), 0);
        // the very first EVENT of all by call, and its VOID
        EventLedger y = Check.told("account a;tally t open 1;");
        due("the first", y.event(0, 0, 0, 7, 50, 0), 0);
        due("it is seen", y.see(0, 1), 1);
        due("its VOID", y.revoke(0, 8), 1);
        due("its VOID is undone", y.undo(), 2);
        due("it isn't VOIDED", Check.of(y, 0, 6), 0);
        due("it is counted", y.sum(0, 0), 50);
        due("see() is undone", y.undo(), 1);
        due("it isn't counted", y.sum(0, 0), 0);
        due("the first is undone", y.undo(), 0);
        due("no EVENTS", y.count(1), 0);
        due("no TIME", y.count(6), -2);
        due("no WEIGHTS", y.count(8), 0);
        due("not OPEN", y.account(0, 3), 0);
        due("an earlier TIME can be", y.event(PUT, 0, 0, 0, 1, 0), 0);
        // one SNAPSHOT that was let go at once serves no PLACE
        EventLedger k = Check.told("account a;snap 1 0;" + "put a 0 3 1 1 1;".repeat(4));
        // COSTS 0 1 2 3 4: one more at 2 saves 2 three times, at 3 saves 3 twice
        due("with KEEP 0 the best PLACE", k.bestPlace(0), 2);
        due("with KEEP 0 the COSTS", k.bestPlace(1), 4);
        EventLedger s = Check.told("account a;snap 1 6;");
        for (int i = 0; i < 6; i++) {
            s.event(PUT, 0, 0, 0, 1, 0);
        }
        s.resnap(999, 6);
        due("without SNAPSHOTS of 21 it saves 12 at 3", s.bestPlace(0), 3);
        due("9 are left", s.bestPlace(1), 9);
    }

    /** What is asked for "at", "known", "if" leaves nothing behind for the next one that asks. */
    private static void askingLeavesNothing() {
        EventLedger x = Check.told("account a;account b;lift put 1 mul 1 3;open a 5 3 9 0 0;put a 5 1 20;lock a 5 3 6 0 0;open b 5 3 8 0 0;put b 5 3 7 0 0;lock b 5 3 5 0 0;close b 9 3 0 0 0;");
        int[][] now = {{60, 6, 9, 1}, {7, 5, 8, 1}};
        for (int a = 0; a < 2; a++) {
            for (int what = 0; what < 4; what++) {
                due("at 9", x.at(9, a, what), now[a][what]);
                due("at 4", x.at(4, a, what), 0);
                due("known at 9", x.known(9, a, what), now[a][what]);
                due("known at 4", x.known(4, a, what), 0);
                x.ifPlain(PUT, 1);
                due("known at 4, behind ifPlain()", x.known(4, a, what), 0);
                x.without(0, 1);
                due("at 4, behind without()", x.at(4, a, what), 0);
                x.chance(1, 60, 1);
                due("at 0, behind chance()", x.at(0, a, what), 0);
                x.peak(1, 0);
                due("at 0, behind peak()", x.at(0, a, what), 0);
                due("account()", x.account(a, what), now[a][what]);
            }
        }
        due("LIFTED still", x.field(1, 1, true), 60);
    }

    /** Promises 33 and 34: "in place of one ahead", "nothing to undo then; it stays", "NONE: there is none." */
    private static void images() {
        EventLedger x = ledger();
        String ahead = Check.picture(x);
        due("none", x.back(), -1);
        same("nothing changes", ahead, x);
        x.see(0, 3);
        x.event(PUT, 1, 0, 8, 100, 0);
        x.revoke(2, 9);
        x.resnap(2, 5);
        String kept = Check.picture(x);
        due("keep()", x.keep(), 10);
        same("it changes nothing", kept, x);
        String bare = bare(x);
        // others of other KINDS, ACCOUNTS, SHAPES come in place of the last ones, and the VOID is taken back
        for (int i = 0; i < 3; i++) {
            x.undo();
        }
        x.old(MOVE, 1, 0, 6, 7);
        x.old(2, 1, 0, 7, 9999);
        x.revoke(3, 7);
        x.rewind(0);
        x.see(1, 120);
        x.resnap(9, 1);
        due("back()", x.back(), 10);
        Check.isTrue("all is as it was", bare.equals(bare(x)));
        due("but nothing can be undone", x.count(9), 0);
        due("nothing to undo", x.undo(), -1);
        due("it stays", x.back(), 10);
        x.event(PUT, 0, 0, 9, 5, 0);
        x.see(0, 120);
        due("a second time", x.back(), 10);
        Check.isTrue("all is as it was again", bare.equals(bare(x)));
        x.event(PUT, 0, 0, 9, 5, 0);
        String second = bare(x);
        due("in place of one ahead", x.keep(), 11);
        x.chance(1, 60, 1);
        x.ifPlain(PUT, 1);
        x.undo();
        x.rewind(0);
        due("to the later one", x.back(), 11);
        Check.isTrue("as it was then", second.equals(bare(x)));
        // a BROKEN one stays BROKEN in the IMAGE, whatever has stood in its place since
        EventLedger b = Check.told("account a;lift put 1 mul 1 999;lift put 1 mul 1 999;open a 0 3 0 0 0;");
        b.old(PUT, 0, 0, 0, 9);
        due("an IMAGE with a BROKEN one", b.keep(), 2);
        b.undo();
        b.event(PUT, 0, 0, 0, 9, 0);
        due("one that isn't", Check.of(b, 1, 5), 0);
        due("back to it", b.back(), 2);
        due("is BROKEN", Check.of(b, 1, 5), 1);
        due("it has put nothing", b.account(0, 0), 0);
        EventLedger f = full();
        String all = bare(f);
        due("120", f.keep(), 120);
        for (int i = 0; i < 20; i++) {
            f.undo();
        }
        due("100 are left", f.count(1), 100);
        due("back to 120", f.back(), 120);
        Check.isTrue("all of them", all.equals(bare(f)));
        due("and full", f.event(PUT, 0, 0, 3, 1, 0), -3);
    }

    /** "A call that is refused changes nothing.": what it refused can't be undone, what was done ahead can. */
    private static void refusalsAndUndo() {
        EventLedger x = ledger();
        x.event(PUT, 0, 0, 6, 4, 1);
        x.see(0, 9);
        String done = Check.picture(x);
        x.event(PUT, 0, 0, 5, 4, 1);
        x.event(7, 0, 0, 6, 4, 1);
        x.old(PUT, 0, 0, 5, 1);
        x.old(PUT, 9, 0, 6, 1);
        x.revoke(6, 6);
        x.revoke(2, 5);
        x.see(0, 1);
        x.see(0, 121);
        x.rewind(2);
        x.resnap(0, 0);
        x.back();
        x.text(1);
        Check.of(x, 9, 9);
        same("nothing changes", done, x);
        due("see() is the latest still", x.undo(), 1);
        due("none SEEN", x.tally(0, 0), 0);
        due("then event()", x.undo(), 0);
        due("as many as ahead", x.count(1), 8);
    }

    /** Promise 35: each of 0 .. 12, "NONE for another what." */
    private static void count() {
        EventLedger x = ledger();
        Check.feed(x, "account a;");
        x.see(0, 1);
        int[] due = {2, 8, 2, 2, 1, 1, 5, 2, 11, 1, 20, 3, 2};
        for (int what = 0; what < due.length; what++) {
            due("count(" + what + ")", x.count(what), due[what]);
        }
        int[] noWhats = {-1, 13, MIN, MAX};
        for (int what : noWhats) {
            due("count(" + what + ")", x.count(what), -1);
        }
        x.revoke(0, 7);
        due("VOIDED ones", x.count(5), 2);
        due("the latest TIME is that of a VOID", x.count(6), 7);
        due("OPEN ones", x.count(7), 1);
        due("SET ASIDE ones: what was of the first", x.count(4), 3);
        due("all WEIGHTS, of the VOIDED ones, too", x.count(8), 12);
        EventLedger y = Check.told("account a;open a 0 3 0 0 0;");
        due("TIME 0", y.count(6), 0);
        due("none SET ASIDE", y.count(4), 0);
        y.revoke(0, 0);
        due("the first is VOIDED", y.count(5), 1);
        EventLedger z = Check.told("account a;put a 0 1 1;");
        due("the first is SET ASIDE", z.count(4), 1);
        EventLedger eight = Check.told("account a;account b;account c;account d;account e;account f;account g;account h;open a 0 3 0 0 0;open h 0 3 0 0 0;");
        due("the first and the last ACCOUNT are OPEN", eight.count(7), 2);
    }

    public static void main(String[] args) {
        newObject();
        noSuchEvents();
        suchEvents();
        tooEarlyOrFull();
        revoking();
        of();
        field();
        looking();
        costs();
        kth();
        bestPlace();
        blame();
        withoutOne();
        firstBelow();
        peak();
        ifPlain();
        resnap();
        see();
        rewind();
        tallies();
        chance();
        undoEach();
        undoTwenty();
        nothingLeft();
        askingLeavesNothing();
        images();
        refusalsAndUndo();
        count();
        Check.end();
    }
}
