/** One method for each promise of the document: ordinary inputs, edges that it names, wrong inputs. */
public final class PromiseTest {
    private static final int NO = Check.NO;

    private PromiseTest() {
    }

    private static void due(String call, long got, long want) {
        Check.due(call, got, want);
    }

    private static void faulty(String text, int fault, int place) {
        EventLedger x = new EventLedger();
        due("text of " + text, Check.tell(x, text), -1);
        due("fault(0) of " + text, x.fault(0), fault);
        due("fault(1) of " + text, x.fault(1), place);
        due("count(0) behind " + text, x.count(0), 0);
    }

    private static String times(int n, String text) {
        return text.repeat(n);
    }

    private static void newObject1() {
        EventLedger x = new EventLedger();
        due("1 NONE", EventLedger.NONE, -1);
        int[] counts = {0, 0, 0, 0, 0, 0, -2, 0, 0, 0, 0, 20, 3};
        for (int i = 0; i < counts.length; i++) {
            due("1 count " + i, x.count(i), counts[i]);
        }
        due("1 fault", x.fault(0), 0);
        due("1 place", x.fault(1), -1);
        due("1 event", x.event(0, 0, 0, 0, 0, 0), -1);
        due("1 text", x.text(0), 0);
    }

    private static void feed2() {
        EventLedger x = new EventLedger();
        // account a;  open a 1\n3 5 0 0;
        due("2 feed", x.feed(0x6163636f, 0x756e7420, 0x613b6f70, 0x656e2061, 0x20310a33), 20);
        due("2 feed again", x.feed(0x20352030, 0x20303b20, 0x20202020, 0x20202020, 0x20202020), 40);
        due("2 text", x.text(40), 2);
        due("2 limit", x.account(0, 2), 5);
        for (int i = 1; i <= 45; i++) {
            due("2 feed " + i, x.feed(0x20202020, -1, -1, -1, 0x20202020), 20 * i);
        }
        due("2 a 46th", x.feed(0, 0, 0, 0, 0), -1);
        due("2 none came", x.count(10), 900);
        due("2 high bytes", x.text(900), -1);
        due("2 high byte's fault", x.fault(0), 1);
        due("2 high byte's place", x.fault(1), 4);
        due("2 room again", x.feed(0, 0, 0, 0, 0), 20);
    }

    private static void text3() {
        EventLedger x = new EventLedger();
        due("3 lines", Check.tell(x, "account a;account b;tally s put 1;tally t open 3;open a 1 1 5;put a 1 3 7 0 0;"), 6);
        due("3 tape", x.count(10), 0);
        due("3 nothing to undo", x.count(9), 0);
        x.see(0, 2);
        x.keep();
        due("3 changed", x.event(1, 0, 0, 2, 9, 0), 2);
        Check.feed(x, "account q;account a;");
        due("3 too many", x.text(21), -2);
        due("3 below 0", x.text(-1), -2);
        due("3 tape stays", x.count(10), 20);
        due("3 all stays", x.count(1), 3);
        due("3 fault of the latest told", x.fault(0), 0);
        due("3 a fault", x.text(19), -1);
        due("3 tape is empty", x.count(10), 0);
        due("3 accounts stay", x.count(0), 2);
        due("3 events stay", x.count(1), 3);
        due("3 undo stays", x.count(9), 2);
        due("3 tally stays", x.tally(0, 0), 2);
        due("3 image stays", x.back(), 2);
        x.see(0, 1);
        x.event(1, 0, 0, 2, 9, 0);
        due("3 anew", Check.tell(x, "tally s put 1;account b; open b 3 2 4 4;\n"), 3);
        due("3 accounts anew", x.count(0), 1);
        due("3 events anew", x.count(1), 1);
        due("3 tally as at first", x.tally(0, 0), 0);
        due("3 every as at first", x.count(11), 20);
        due("3 no image", x.back(), -1);
        due("3 nothing to undo", x.undo(), -1);
        due("3 one tally", x.count(2), 1);
        Check.feed(x, "account a;account b;x");
        due("3 first bytes alone", x.text(10), 1);
        due("3 the others are gone", x.count(10), 0);
        due("3 an empty text", x.text(0), 0);
        due("3 no accounts", x.count(0), 0);
        due("3 no events", x.count(1), 0);
        EventLedger y = Check.told("snap 999 6;seed 99999;" + "lift move 2 copy 3 1;");
        due("3 every", y.count(11), 999);
        due("3 keep", y.count(12), 6);
        y.resnap(3, 2);
        due("3 snap as told if not told", Check.tell(y, "seed 0;"), 1);
        due("3 every 20", y.count(11), 20);
        due("3 keep 3", y.count(12), 3);
        // snap is told behind the EVENTS, and holds for all of them
        EventLedger z = Check.told("account a;open a 0 3 0 0 0;put a 0 3 1 0 0;snap 1 6;");
        due("3 snap behind", z.count(3), 2);
        EventLedger fifty = Check.told("account a;" + times(50, "put a 0 1 1;"));
        due("3 fifty", fifty.count(1), 50);
    }

    private static void fault4() {
        faulty("open a 1 3 1 1 1;", 4, 5);
        faulty("ac", 1, 0);
        faulty("account", 1, 7);
        faulty("account  \n", 1, 10);
        faulty("account a", 1, 9);
        faulty("account abcdefg;", 1, 8);
        faulty("accounts a;", 1, 0);
        faulty("account account;", 1, 8);
        faulty("account open;", 1, 8);
        faulty("account 5;", 1, 8);
        faulty("account a1;", 1, 9);
        faulty("account A;", 1, 8);
        faulty("account a,", 1, 9);
        faulty("account a\t;", 1, 9);
        faulty(";", 1, 0);
        faulty("q;", 1, 0);
        faulty("7;", 1, 0);
        faulty("copy;", 1, 0);
        faulty("lift snap 1 set 1 1;", 1, 5);
        faulty("lift put 1 put 1 1;", 1, 11);
        faulty("lift put x set 1 1;", 1, 9);
        faulty("lift put 0 set 1 1;", 2, 9);
        faulty("lift put 3 set 1 1;", 2, 9);
        faulty("lift put 1 set 0 1;", 2, 15);
        faulty("lift put 1 set 4 1;", 2, 15);
        faulty("lift put 1 set 1 1000;", 2, 17);
        faulty("lift put 1 copy 1 0;", 2, 18);
        faulty("lift put 1 copy 1 4;", 2, 18);
        faulty("lift put 1 set 1 99999999999999999999;", 2, 17);
        faulty(times(4, "lift put 2 add 1 1;") + "lift put 1 add 1 1;lift put 2 no", 2, 4 * 19 + 19 + 9);
        faulty("tally a void 1;", 1, 8);
        faulty("tally a put 0;", 2, 12);
        faulty("tally a put 4;", 2, 12);
        faulty("tally a put 1;tally a put 1;", 3, 20);
        // a fifth tally is too much at the word of its LINE, whatever comes behind that
        String tallies = "tally a put 1;tally b put 1;tally c put 1;tally d put 1;";
        faulty(tallies + "tally e put 1;", 2, 56);
        faulty(tallies + "tally a put 1;", 2, 56);
        faulty(tallies + " \ntally e set 1;", 2, 58);
        faulty(tallies + "tally", 2, 56);
        faulty(tallies + "tall", 1, 56);
        faulty("account a;account a;", 3, 18);
        // a ninth account likewise
        String accounts = "account a;account b;account c;account d;account e;account f;account g;account h;";
        faulty(accounts + "account i;", 2, 80);
        faulty(accounts + "account a;", 2, 80);
        faulty(accounts + "account ,", 2, 80);
        faulty(accounts + "account", 2, 80);
        faulty(accounts + "\n account", 2, 82);
        faulty(accounts + "put i 1 1 1;account i;", 4, 84);
        faulty("snap 0 1;", 2, 5);
        faulty("snap 1000 1;", 2, 5);
        faulty("snap 1 7;", 2, 7);
        faulty("snap 1 1;snap 1 1;", 3, 9);
        faulty("seed 100000;", 2, 5);
        faulty("seed 1;seed 1;", 3, 7);
        faulty("account a;put a 10000 1 1;", 2, 16);
        faulty("account a;put a 5 1 1;put a 4 1 1;", 2, 28);
        faulty("account a;put a 5 1 1;void 0 4;", 2, 29);
        faulty("account a;put a 5 0 1;", 2, 18);
        faulty("account a;put a 5 4 1;", 2, 18);
        faulty("account a;put a 5 1 100000;", 2, 20);
        faulty("account a;put a 5 1 1 1;", 1, 22);
        faulty("account a;put a 5 3 1 1;", 1, 23);
        faulty("account a;put a 5 3 1 1", 1, 23);
        faulty("account a;put b 5 1 1;", 4, 14);
        faulty("account a;put a a 5 1 1;", 1, 16);
        faulty("account a;move a a 5 1 1;", 3, 17);
        faulty("account a;move a b 5 1 1;", 4, 17);
        faulty("account a;move b a 5 1 1;", 4, 15);
        faulty("account a;move a 5 1 1;", 1, 17);
        faulty("void 0 1;", 4, 5);
        faulty("account a;put a 5 1 1;void 1 5;", 4, 27);
        faulty("account a;put a 5 1 1;void 4294967296 5;", 4, 27);
        faulty("account a;put a 5 1 1;void a 5;", 1, 27);
        faulty("account a;put a 5 1 1;void 0 5;void 0 5;", 3, 36);
        faulty("account a;put a 5 1 1;void 0 5;void 1 5;", 4, 36);
        faulty("account a;" + times(50, "put a 0 1 1;") + "seed 3; put q;", 2, 10 + 600 + 8);
        faulty("account a;" + times(50, "put a 0 1 1;") + "void 0 0;", 2, 10 + 600);
        EventLedger x = new EventLedger();
        Check.tell(x, "snap 0 1;");
        due("4 another what", x.fault(2), -1);
        due("4 below", x.fault(-1), -1);
        due("4 -2 is passed over", x.text(9), -2);
        due("4 of the latest", x.fault(0), 2);
        Check.tell(x, "seed 1;");
        due("4 none", x.fault(0), 0);
        due("4 no place", x.fault(1), -1);
        due("4 eight and four are not too much", Check.tell(x, accounts + tallies), 12);
        due("4 names of two kinds", Check.tell(x, "account a;tally a put 1;put a0 1 0009;"), 3);
    }

    private static void named5() {
        EventLedger x = Check.told("account b;account abc;account zzzzzz;tally abc put 1;tally q put 1;");
        due("5 b", x.named(0, 2 << 25), 0);
        due("5 abc", x.named(0, 1 << 25 | 2 << 20 | 3 << 15), 1);
        due("5 zzzzzz", x.named(0, Check.letters("zzzzzz")), 2);
        due("5 tally abc", x.named(1, 1 << 25 | 2 << 20 | 3 << 15), 0);
        due("5 tally q", x.named(1, 17 << 25), 1);
        due("5 not a tally", x.named(1, 2 << 25), -1);
        due("5 not an account", x.named(0, 17 << 25), -1);
        due("5 another kind", x.named(2, 2 << 25), -1);
        due("5 kind below", x.named(-1, 2 << 25), -1);
        due("5 no letters", x.named(0, 0), -1);
        due("5 shifted", x.named(0, 2), -1);
        due("5 beyond", x.named(0, -1), -1);
    }

    private static void event6() {
        EventLedger x = Check.told("account a;account b;lift put 2 mul 1 2;");
        due("6 open", x.event(0, 0, 77, 5, 10, 0), 0);
        due("6 put", x.event(1, 0, -5, 5, 100, 30), 1);
        due("6 is not lifted", x.account(0, 0), 70);
        due("6 shape", Check.of(x, 1, 4), 3);
        due("6 kind 7", x.event(7, 0, 0, 5, 0, 0), -1);
        due("6 kind -1", x.event(-1, 0, 0, 5, 0, 0), -1);
        due("6 account", x.event(0, 2, 0, 5, 0, 0), -1);
        due("6 account below", x.event(0, -1, 0, 5, 0, 0), -1);
        due("6 move to itself", x.event(6, 0, 0, 5, 0, 0), -1);
        due("6 move to none", x.event(6, 0, 2, 5, 0, 0), -1);
        due("6 move to below", x.event(6, 0, -1, 5, 0, 0), -1);
        due("6 time below 0", x.event(1, 0, 0, -1, 0, 0), -1);
        due("6 time beyond", x.event(1, 0, 0, 10000, 0, 0), -1);
        due("6 one beyond", x.event(1, 0, 0, 5, 100000, 0), -1);
        due("6 one below", x.event(1, 0, 0, 5, -1, 0), -1);
        due("6 two beyond", x.event(1, 0, 0, 5, 0, 100000), -1);
        due("6 two below", x.event(1, 0, 0, 5, 0, -1), -1);
        due("6 too early", x.event(1, 0, 0, 4, 0, 0), -2);
        due("6 none goes first", x.event(1, 5, 0, 4, 0, 0), -1);
        due("6 nothing changed", x.count(9), 2);
        due("6 move", x.event(6, 0, 1, 9999, 99999, 99999), 2);
        for (int i = 3; i < 120; i++) {
            due("6 event " + i, x.event(1, 0, 0, 9999, 1, 0), i);
        }
        due("6 full", x.event(1, 0, 0, 9999, 1, 0), -3);
        due("6 early goes before full", x.event(1, 0, 0, 5, 1, 0), -2);
        due("6 none before full", x.event(1, 0, 0, 9999, -1, 0), -1);
    }

    private static void old7() {
        EventLedger x = Check.told("account a;account b;lift put 1 mul 1 2;lift put 2 add 1 5;lift put 2 copy 2 1;");
        due("7 open", x.old(0, 0, 0, 1, 0), 0);
        due("7 put", x.old(1, 0, 0, 1, 10), 1);
        due("7 field 1", x.field(1, 1, true), 25);
        due("7 field 2", x.field(1, 2, true), 25);
        due("7 shape", Check.of(x, 1, 4), 1);
        due("7 weight", Check.of(x, 1, 7), 3);
        due("7 kind", x.old(7, 0, 0, 1, 10), -1);
        due("7 account", x.old(1, 2, 0, 1, 10), -1);
        due("7 move to itself", x.old(6, 1, 1, 1, 10), -1);
        due("7 time", x.old(1, 0, 0, 10000, 10), -1);
        due("7 field", x.old(1, 0, 0, 1, 100000), -1);
        due("7 field below", x.old(1, 0, 0, 1, -1), -1);
        due("7 early", x.old(1, 0, 0, 0, 1), -2);
        due("7 move", x.old(6, 1, 0, 1, 99999), 2);
        for (int i = 3; i < 120; i++) {
            x.old(1, 0, 0, 2, 0);
        }
        due("7 full", x.old(1, 0, 0, 2, 0), -3);
    }

    private static void revoke8() {
        EventLedger x = Check.told("account a;open a 1 1 0;put a 2 1 10;put a 3 1 5;");
        due("8 no event", x.revoke(3, 3), -1);
        due("8 below", x.revoke(-1, 3), -1);
        due("8 time", x.revoke(1, 10000), -1);
        due("8 time below", x.revoke(1, -1), -1);
        due("8 early", x.revoke(1, 2), -2);
        due("8 revoke", x.revoke(1, 3), 3);
        due("8 balance", x.account(0, 0), 5);
        due("8 voided", x.revoke(1, 3), -1);
        due("8 voided goes before early", x.revoke(1, 0), -1);
        due("8 a void", x.revoke(3, 3), -1);
        due("8 the first", x.revoke(0, 9999), 4);
        due("8 as if never", Check.of(x, 2, 5), 2);
        due("8 not open", x.account(0, 3), 0);
        for (int i = 5; i < 120; i++) {
            x.event(1, 0, 0, 9999, 0, 0);
        }
        due("8 full", x.revoke(2, 9999), -3);
        due("8 early before full", x.revoke(2, 9998), -2);
        due("8 not voided then", Check.of(x, 2, 6), 0);
    }

    private static void of9() {
        EventLedger x = Check.told("account a;account b;open a 1 1 0;open b 1 2 5 0;move b a 2 3 6 0 0;put a 3 3 7 0 0;void 3 4;");
        long[][] due = {{0, 0, -2, 1, 1, 0, 0, 3}, {0, 1, -2, 1, 2, 0, 0, 2}, {6, 1, 0, 2, 3, 3, 0, 1}, {1, 0, -2, 3, 3, 0, 1, 1}, {7, -2, 3, 4, 0, 0, 0, 1}};
        for (int e = 0; e < 5; e++) {
            for (int w = 0; w < 8; w++) {
                due("9 of " + e + " " + w, Check.of(x, e, w), due[e][w]);
            }
            due("9 no what", Check.of(x, e, 8), 1000002);
            due("9 what below", Check.of(x, e, -1), 1000002);
        }
        due("9 no event", Check.of(x, 5, 0), 1000001);
        due("9 below", Check.of(x, -1, 0), 1000001);
        due("9 both", Check.of(x, 5, 8), 1000001);
        due("9 the other of open by call", x.event(0, 0, 1, 4, 0, 0), 5);
        due("9 is none", Check.of(x, 5, 2), -2);
    }

    private static void field10() {
        EventLedger x = Check.told("account a;put a 0 1 7;put a 0 2 8 9;put a 0 3 1 2 3;void 0 0;put a 0 2 9999 99999;"
                + "lift put 1 add 3 40;lift put 2 mul 1 100;lift put 1 copy 2 1;lift put 2 add 2 1;lift put 2 mul 1 2;lift put 2 set 3 999;");
        int[][] told = {{7, 0, 0}, {8, 9, 0}, {1, 2, 3}};
        int[][] lifted = {{1400, 8, 999}, {1600, 10, 999}, {1, 2, 3}};
        for (int e = 0; e < 3; e++) {
            for (int f = 0; f < 3; f++) {
                due("10 told " + e + " " + f, x.field(e, f + 1, false), told[e][f]);
                due("10 lifted " + e + " " + f, x.field(e, f + 1, true), lifted[e][f]);
            }
        }
        due("10 broken by the third", x.field(4, 1, true), 1999800);
        due("10 the second was done", x.field(4, 2, true), 100000);
        due("10 the fourth was not", x.field(4, 3, true), 0);
        due("10 cause", Check.of(x, 4, 5), 1);
        due("10 void", x.field(3, 1, true), -1);
        due("10 void told", x.field(3, 1, false), -1);
        due("10 no event", x.field(5, 1, false), -1);
        due("10 event below", x.field(-1, 1, false), -1);
        due("10 field 0", x.field(0, 0, false), -1);
        due("10 field 4", x.field(0, 4, true), -1);
        // 1000000 is not above
        EventLedger y = Check.told("account a;lift put 2 mul 1 10;open a 0 3 0 0 0;put a 0 2 99999 0;lift put 2 add 1 10;");
        due("10 edge", y.field(1, 1, true), 1000000);
        due("10 edge is not broken", Check.of(y, 1, 5), 0);
        EventLedger z = Check.told("account a;lift put 2 mul 1 10;open a 0 3 0 0 0;put a 0 2 99999 0;lift put 2 add 1 11;");
        due("10 beyond the edge", Check.of(z, 1, 5), 1);
    }

    private static void account11() {
        EventLedger x = Check.told("account a;account b;open a 0 3 9 0 0;put a 1 3 100 30 0;lock a 1 3 20 0 0;take a 2 3 50 9 0;");
        int[] due = {11, 20, 9, 1};
        for (int w = 0; w < 4; w++) {
            due("11 account 0 " + w, x.account(0, w), due[w]);
            due("11 account 1 " + w, x.account(1, w), 0);
        }
        due("11 what 4", x.account(0, 4), NO);
        due("11 what below", x.account(0, -1), NO);
        due("11 no account", x.account(2, 0), NO);
        due("11 below", x.account(-1, 0), NO);
        due("11 free", x.event(4, 0, 0, 2, 20, 0), 4);
        due("11 below the limit", x.event(2, 0, 0, 2, 20, 1), 5);
        due("11 is set aside", Check.of(x, 5, 5), 3);
        due("11 to the limit", x.event(2, 0, 0, 2, 19, 1), 6);
        due("11 balance", x.account(0, 0), -9);
        due("11 locking nothing below 0", x.event(3, 0, 0, 2, 0, 0), 7);
        due("11 is too much", Check.of(x, 7, 5), 3);
        due("11 put", x.event(1, 0, 0, 2, 9, 0), 8);
        due("11 close", x.event(5, 0, 0, 2, 0, 0), 9);
        due("11 limit stays", x.account(0, 2), 9);
        due("11 closed", x.account(0, 3), 0);
        due("11 put to a closed one", x.event(1, 0, 0, 2, 5, 0), 10);
        due("11 is aside", Check.of(x, 10, 5), 2);
        due("11 open again", x.event(0, 0, 0, 2, 4, 0), 11);
        due("11 another limit", x.account(0, 2), 4);
        due("11 open twice", x.event(0, 0, 0, 2, 7, 0), 12);
        due("11 the limit stays", x.account(0, 2), 4);
        due("11 put below", x.event(1, 0, 0, 2, 1, 100), 13);
        due("11 whatever it is then", x.account(0, 0), -99);
        due("11 free too much", x.event(4, 0, 0, 2, 1, 0), 14);
        due("11 is aside too", Check.of(x, 14, 5), 3);
        due("11 move to a closed one", x.event(6, 0, 1, 2, 0, 0), 15);
        due("11 is not open", Check.of(x, 15, 5), 2);
        due("11 second opens", x.event(0, 1, 0, 2, 0, 0), 16);
        due("11 second gets", x.event(1, 1, 0, 2, 50, 0), 17);
        due("11 moves", x.event(6, 1, 0, 2, 40, 10), 18);
        due("11 from", x.account(1, 0), 0);
        due("11 to", x.account(0, 0), -59);
    }

    private static void at12() {
        EventLedger x = Check.told("account a;open a 1 3 0 0 0;put a 3 3 10 0 0;put a 3 3 5 0 0;void 1 6;");
        due("12 ahead", x.at(0, 0, 3), 0);
        due("12 open", x.at(1, 0, 3), 1);
        due("12 between", x.at(2, 0, 0), 0);
        due("12 voided later", x.at(3, 0, 0), 5);
        due("12 end", x.at(9999, 0, 0), 5);
        due("12 time beyond", x.at(10000, 0, 0), NO);
        due("12 time below", x.at(-1, 0, 0), NO);
        due("12 account", x.at(1, 1, 0), NO);
        due("12 what", x.at(1, 0, 4), NO);
        due("12 now stays", x.account(0, 0), 5);
    }

    private static void known13() {
        EventLedger x = Check.told("account a;open a 1 3 2 0 0;put a 3 3 10 0 0;take a 4 3 8 0 0;void 1 6;put a 7 3 1 0 0;");
        due("13 ahead of the void", x.known(5, 0, 0), 2);
        due("13 put alone", x.known(3, 0, 0), 10);
        due("13 at the void", x.known(6, 0, 0), 0);
        due("13 behind it", x.known(7, 0, 0), 1);
        due("13 at differs", x.at(5, 0, 0), 0);
        due("13 limit", x.known(1, 0, 2), 2);
        due("13 ahead of all", x.known(0, 0, 3), 0);
        due("13 time beyond", x.known(10000, 0, 0), NO);
        due("13 time below", x.known(-1, 0, 0), NO);
        due("13 account", x.known(1, 1, 0), NO);
        due("13 what", x.known(1, 0, -1), NO);
    }

    /** Weights 3 1 2 1 3 1, with SNAPSHOTS at 2 and 5. */
    private static EventLedger weighed() {
        return Check.told("account a;snap 4 6;open a 1 1 9;put a 2 3 1 0 0;put a 2 2 7 0;put a 4 3 2 0 0;put a 5 1 2;put a 6 3 2 0 0;");
    }

    private static void cost14() {
        EventLedger x = weighed();
        due("14 snapshots", x.count(3), 2);
        int[] due = {0, 3, 0, 2, 3, 0, 1};
        due("14 first place", x.snapshot(0), 2);
        due("14 second place", x.snapshot(1), 5);
        for (int p = 0; p < due.length; p++) {
            due("14 cost " + p, x.cost(p), due[p]);
        }
        due("14 beyond", x.cost(7), -1);
        due("14 below", x.cost(-1), -1);
    }

    private static void costAt15() {
        EventLedger x = weighed();
        int[] due = {0, 3, 2, 2, 3, 0, 1, 1};
        for (int t = 0; t < due.length; t++) {
            due("15 at " + t, x.costAt(t), due[t]);
        }
        due("15 end", x.costAt(9999), 1);
        due("15 beyond", x.costAt(10000), -1);
        due("15 below", x.costAt(-1), -1);
    }

    private static void snapshot16() {
        EventLedger x = Check.told("account a;snap 2 2;open a 0 3 0 0 0;" + times(5, "put a 0 3 1 0 0;"));
        // taken at 2, 4, 6; gaps 4 and 4: the first goes
        due("16 first", x.snapshot(0), 4);
        due("16 second", x.snapshot(1), 6);
        due("16 third", x.snapshot(2), -2);
        due("16 below", x.snapshot(-1), -1);
        x.old(1, 0, 0, 0, 1);
        // 4 6 7: gap of 4 is 6, of 6 is 2 and 3
        due("16 kept", x.snapshot(0), 4);
        due("16 latest", x.snapshot(1), 7);
        due("16 void", x.revoke(5, 0), 7);
        // 7 is above 5: it goes, and at 8 weights from 4 on are 1 1 3 1
        due("16 stays", x.snapshot(0), 4);
        due("16 taken behind the void", x.snapshot(1), 8);
        due("16 void of one behind", x.revoke(4, 0), 8);
        due("16 place equal to the number stays", x.snapshot(0), 4);
        due("16 taken again", x.snapshot(1), 9);
        due("16 void of one ahead", x.revoke(3, 0), 9);
        due("16 all go", x.snapshot(0), 10);
        due("16 one is left", x.count(3), 1);
        EventLedger none = Check.told("account a;snap 1 0;open a 0 3 0 0 0;put a 0 3 1 0 0;");
        due("16 keep 0", none.count(3), 0);
        due("16 keep 0 places", none.snapshot(0), -2);
        EventLedger one = Check.told("account a;snap 1 1;open a 0 3 0 0 0;put a 0 3 1 0 0;");
        due("16 keep 1", one.snapshot(0), 2);
        due("16 keep 1 places", one.snapshot(1), -2);
        EventLedger worth = Check.told("account a;snap 1 3;open a 0 1 0;put a 0 1 1;put a 0 3 1 0 0;put a 0 3 1 0 0;");
        // 1 2 3 4: gaps 6, 4, 2
        due("16 least worth 0", worth.snapshot(0), 1);
        due("16 least worth 1", worth.snapshot(1), 2);
        due("16 least worth 2", worth.snapshot(2), 4);
    }

    private static void inSnapshot17() {
        EventLedger x = Check.told("account a;snap 2 3;open a 0 3 4 0 0;put a 0 3 10 0 0;lock a 0 3 3 0 0;put a 0 3 5 0 0;take a 0 3 1 0 0;");
        due("17 balance", x.inSnapshot(0, 0, 0), 10);
        due("17 locked then", x.inSnapshot(0, 0, 1), 0);
        due("17 limit", x.inSnapshot(0, 0, 2), 4);
        due("17 open", x.inSnapshot(0, 0, 3), 1);
        due("17 second", x.inSnapshot(1, 0, 0), 15);
        due("17 second locked", x.inSnapshot(1, 0, 1), 3);
        due("17 no third", x.inSnapshot(2, 0, 0), NO);
        due("17 below", x.inSnapshot(-1, 0, 0), NO);
        due("17 account", x.inSnapshot(0, 1, 0), NO);
        due("17 what", x.inSnapshot(0, 0, 4), NO);
        x.revoke(3, 0);
        due("17 void", x.snapshot(1), 6);
        due("17 without it", x.inSnapshot(1, 0, 0), 9);
    }

    private static void bestPlace18() {
        EventLedger x = weighed();
        // costs 0 3 0 2 3 0 1, 9 together; one more at 1 saves 3, at 3 saves 2 twice, at 4 saves 3, at 6 saves 1
        due("18 place", x.bestPlace(0), 3);
        due("18 costs", x.bestPlace(1), 5);
        due("18 what", x.bestPlace(2), -1);
        due("18 what below", x.bestPlace(-1), -1);
        EventLedger y = Check.told("account a;snap 1 6;open a 0 1 0;put a 0 1 1;");
        due("18 nothing to save", y.bestPlace(0), 0);
        due("18 no costs", y.bestPlace(1), 0);
        EventLedger z = Check.told("account a;open a 0 3 0 0 0;put a 0 3 1 0 0;");
        // costs 0 1 2: at 1 saves 2, at 2 saves 2: the first
        due("18 the first", z.bestPlace(0), 1);
        due("18 costs left", z.bestPlace(1), 1);
    }

    private static void aside19() {
        EventLedger x = Check.told("account a;put a 0 1 1;open a 0 1 0;take a 0 1 1;put a 0 1 1;open a 0 1 1;");
        due("19 first", x.aside(0), 0);
        due("19 second", x.aside(1), 2);
        due("19 third", x.aside(2), 4);
        due("19 no fourth", x.aside(3), -2);
        due("19 below", x.aside(-1), -1);
        x.revoke(2, 0);
        due("19 a voided one isn't", x.aside(1), 4);
    }

    private static void blame20() {
        EventLedger x = Check.told("account a;account b;open a 0 1 0;put a 0 1 10;take a 0 1 4;take a 0 1 5;take a 0 1 2;put b 0 1 1;take a 0 1 1;");
        // the second take of 2 is aside: without the first take (or the second) there were enough
        due("20 set aside", Check.of(x, 4, 5), 3);
        due("20 blame", x.blame(4), 2);
        due("20 nothing to blame", x.blame(5), -2);
        due("20 not set aside", x.blame(3), -1);
        due("20 no event", x.blame(7), -1);
        due("20 below", x.blame(-1), -1);
        x.revoke(2, 0);
        due("20 no longer aside", x.blame(4), -1);
        x.event(2, 0, 0, 0, 4, 0);
        // 10 less 5 2 1: 2 are there, 4 are asked for; the voided one isn't to blame, nor is the void
        due("20 aside now", Check.of(x, 8, 5), 3);
        due("20 the first that isn't voided", x.blame(8), 3);
        EventLedger y = Check.told("account a;open a 0 1 0;open a 0 1 0;close a 0 1 0;put a 0 1 1;");
        due("20 open is to blame", y.blame(1), 0);
        due("20 close is to blame", y.blame(3), 2);
    }

    private static void without21() {
        EventLedger x = Check.told("account a;account b;open a 0 1 0;open b 0 1 0;put a 0 1 10;move a b 0 1 7;take b 0 1 2;void 4 1;");
        due("21 put", x.without(2, 0), 0);
        due("21 follows", x.without(2, 1), 0);
        due("21 move", x.without(3, 0), 10);
        due("21 open", x.without(0, 1), 0);
        due("21 voided already", x.without(4, 1), 7);
        due("21 void", x.without(5, 0), NO);
        due("21 no event", x.without(6, 0), NO);
        due("21 event below", x.without(-1, 0), NO);
        due("21 account", x.without(2, 2), NO);
        due("21 account below", x.without(2, -1), NO);
        due("21 now stays", x.account(1, 0), 7);
    }

    private static void firstBelow22() {
        EventLedger x = Check.told("account a;account b;open a 0 1 9;take a 0 1 3;put a 0 1 8;take a 0 1 6;");
        due("22 first", x.firstBelow(0), 1);
        due("22 none", x.firstBelow(1), -2);
        due("22 no account", x.firstBelow(2), -1);
        due("22 below", x.firstBelow(-1), -1);
        x.revoke(1, 0);
        due("22 never", x.firstBelow(0), -2);
        x.revoke(2, 0);
        due("22 later", x.firstBelow(0), 3);
    }

    private static void peak23() {
        EventLedger x = Check.told("account a;account b;open a 0 1 9;take a 0 1 3;put a 0 1 8;take a 0 1 1;put a 0 1 1;open b 0 1 9;take b 0 1 1;put b 0 1 1;");
        due("23 most", x.peak(0, 0), 5);
        due("23 first", x.peak(0, 1), 2);
        due("23 never above 0", x.peak(1, 0), 0);
        due("23 the beginning", x.peak(1, 1), -2);
        due("23 what", x.peak(0, 2), NO);
        due("23 what below", x.peak(0, -1), NO);
        due("23 account", x.peak(2, 0), NO);
        due("23 account below", x.peak(-1, 1), NO);
        x.revoke(3, 0);
        due("23 later", x.peak(0, 1), 4);
        due("23 more", x.peak(0, 0), 6);
    }

    private static void touches24() {
        EventLedger x = Check.told("account a;account b;open a 0 1 0;put a 0 1 5;take a 0 1 3;take a 0 1 3;close a 0 1 0;void 2 1;");
        // now: put 5, the second take leaves 2, close is aside
        due("24 open", x.touches(0), 3);
        due("24 put", x.touches(1), 2);
        due("24 take", x.touches(3), 0);
        due("24 voided already", x.touches(2), 0);
        due("24 void", x.touches(5), -1);
        due("24 no event", x.touches(6), -1);
        due("24 below", x.touches(-1), -1);
    }

    private static void ifPlain25() {
        EventLedger x = Check.told("account a;lift put 1 mul 1 10;lift put 2 add 1 1;lift take 2 add 1 900;open a 0 1 0;put a 0 1 1;take a 0 3 11 0 0;put a 0 2 1 0;take a 0 3 2 0 0;take a 0 1 0;");
        due("25 as it is", x.count(4), 1);
        due("25 without the first", x.ifPlain(1, 1), 2);
        due("25 without the second", x.ifPlain(1, 2), 2);
        due("25 take", x.ifPlain(2, 2), 0);
        due("25 none told", x.ifPlain(2, 1), 1);
        due("25 nothing changed", x.count(4), 1);
        due("25 kind 6", x.ifPlain(6, 1), 1);
        due("25 kind 7", x.ifPlain(7, 1), -1);
        due("25 kind below", x.ifPlain(-1, 1), -1);
        due("25 shape 0", x.ifPlain(1, 0), -1);
        due("25 shape 3", x.ifPlain(1, 3), -1);
    }

    private static void resnap26() {
        EventLedger x = Check.told("account a;snap 3 3;open a 0 3 0 0 0;" + times(5, "put a 0 3 1 0 0;") + "void 3 0;put a 0 3 1 0 0;");
        // 3, 6; the void of 3 lets 6 go; 7, then behind 8 none
        due("26 first", x.snapshot(0), 3);
        due("26 second", x.snapshot(1), 7);
        due("26 resnap", x.resnap(1, 6), 5);
        int[] due = {1, 2, 3, 7, 8, -2};
        for (int k = 0; k < due.length; k++) {
            due("26 place " + k, x.snapshot(k), due[k]);
        }
        due("26 every", x.count(11), 1);
        due("26 keep", x.count(12), 6);
        due("26 keep 0", x.resnap(1, 0), 0);
        due("26 widest", x.resnap(999, 6), 0);
        due("26 every 0", x.resnap(0, 1), -1);
        due("26 every 1000", x.resnap(1000, 1), -1);
        due("26 keep below", x.resnap(1, -1), -1);
        due("26 keep 7", x.resnap(1, 7), -1);
        due("26 counts", x.count(9), 3);
        due("26 undone", x.undo(), 2);
        x.undo();
        due("26 back at 1 6", x.count(3), 5);
        x.event(1, 0, 0, 0, 1, 0);
        due("26 goes on", x.count(3), 6);
    }

    private static void see27() {
        EventLedger x = Check.told("account a;account b;tally t put 1;tally m move 1;lift put 2 add 1 100;open a 0 1 0;put a 0 2 50 1;put b 0 2 50 1;put a 0 1 7;move a b 0 3 1 0 0;open b 0 1 0;move a b 0 3 4 0 0;");
        due("27 three", x.see(0, 3), 3);
        due("27 one is counted", x.sum(0, 0), 150);
        due("27 one set aside is not", x.sum(0, 1), 0);
        x.revoke(1, 0);
        due("27 lags", x.sum(0, 0), 150);
        due("27 as many as there are", x.see(0, 120), 5);
        due("27 taken off", x.sum(0, 0), 107);
        due("27 none left", x.see(0, 1), -2);
        due("27 no tally", x.see(2, 1), -1);
        due("27 below", x.see(-1, 1), -1);
        due("27 n 0", x.see(0, 0), -1);
        due("27 n 121", x.see(0, 121), -1);
        due("27 move", x.see(1, 120), 8);
        due("27 the first account", x.sum(1, 0), 4);
        due("27 not the other", x.sum(1, 1), 0);
        x.rewind(0);
        due("27 a voided one", x.see(0, 2), 2);
        due("27 is not counted", x.tally(0, 2), 0);
        // one whose cause changes behind its being seen stays counted
        EventLedger y = Check.told("account a;tally t put 1;open a 0 1 0;put a 0 1 5;");
        y.see(0, 2);
        y.revoke(0, 0);
        due("27 set aside now", Check.of(y, 1, 5), 2);
        due("27 stays counted", y.sum(0, 0), 5);
        y.see(0, 1);
        due("27 a void of another", y.sum(0, 0), 5);
        due("27 anew it would not", y.tally(0, 6), -5);
    }

    private static void rewind28() {
        EventLedger x = Check.told("account a;tally s put 1;tally t put 1;open a 0 1 0;put a 0 1 5;");
        x.see(0, 2);
        x.see(1, 2);
        due("28 rewind", x.rewind(0), 2);
        due("28 place", x.tally(0, 0), 0);
        due("28 sum", x.tally(0, 5), 0);
        due("28 the other stays", x.tally(1, 5), 5);
        due("28 again", x.rewind(0), 0);
        due("28 can be undone", x.count(9), 4);
        due("28 no tally", x.rewind(2), -1);
        due("28 below", x.rewind(-1), -1);
        due("28 changes nothing", x.count(9), 4);
        x.undo();
        due("28 undone", x.undo(), 2);
        due("28 sum again", x.tally(0, 5), 5);
    }

    private static void tally29() {
        EventLedger x = Check.told("account a;account b;tally t put 1;tally c close 3;open a 0 1 0;put a 0 1 5;open b 0 1 0;put b 0 1 6;put a 0 1 7;void 1 0;");
        due("29 place", x.tally(0, 0), 0);
        due("29 left", x.tally(0, 1), 6);
        due("29 anew", x.tally(0, 6), 13);
        x.see(0, 4);
        int[] due = {4, 2, 1, 1, 1, 6, 7, NO};
        for (int w = 0; w < due.length; w++) {
            due("29 what " + w, x.tally(0, w), due[w]);
        }
        due("29 kind", x.tally(1, 3), 5);
        due("29 field", x.tally(1, 4), 3);
        due("29 what below", x.tally(0, -1), NO);
        due("29 no tally", x.tally(2, 0), NO);
        due("29 below", x.tally(-1, 0), NO);
    }

    private static void sum30() {
        EventLedger x = Check.told("account a;account b;tally t put 1;open a 0 1 0;put a 0 1 5;open b 0 1 0;put b 0 1 6;put a 0 1 7;");
        due("30 unseen", x.sum(0, 0), 0);
        x.see(0, 5);
        due("30 first", x.sum(0, 0), 12);
        due("30 second", x.sum(0, 1), 6);
        due("30 no account", x.sum(0, 2), NO);
        due("30 account below", x.sum(0, -1), NO);
        due("30 no tally", x.sum(1, 0), NO);
        due("30 tally below", x.sum(-1, 0), NO);
    }

    private static void chance31() {
        EventLedger x = Check.told("account a;account b;snap 2 1;seed 1;lift put 1 mul 1 2;open a 4 3 0 0 0;");
        // from 1 on: 1103527590 -> 16838, 377401575 -> 5758, 662824084 -> 10113, 1147902781 -> 17515, 2035015474 -> 31051, 368800899 -> 5627:
        // lock (3) of a by 113: aside; open (0) of b by 627
        due("31 set aside", x.chance(1, 1, 0), 1);
        due("31 of the text", x.chance(-1, 1, 0), 1);
        due("31 of two", x.chance(1, 2, 0), 1);
        due("31 balances", x.chance(1, 2, 1), 0);
        due("31 snapshots", x.chance(1, 1, 2), 1);
        due("31 snapshots of two", x.chance(1, 2, 2), 1);
        due("31 snapshots of sixty", x.chance(1, 60, 2), 30);
        x.resnap(1, 0);
        due("31 taken and let go", x.chance(1, 60, 2), 60);
        due("31 nothing comes", x.count(1), 1);
        due("31 nothing to undo of it", x.count(9), 1);
        due("31 seed below", x.chance(-2, 1, 0), -1);
        due("31 seed below, balances", x.chance(-2, 1, 1), NO);
        due("31 greatest seed", x.chance(Integer.MAX_VALUE, 1, 2), 1);
        due("31 n 0", x.chance(1, 0, 0), -1);
        due("31 n 61", x.chance(1, 61, 2), -1);
        due("31 n 61, balances", x.chance(1, 61, 1), NO);
        due("31 what", x.chance(1, 1, 3), -1);
        due("31 what below", x.chance(1, 1, -1), -1);
        // seed 5: next is 1222621274 -> 18655 % 5: 0 open
        due("31 opens", x.chance(5, 1, 0), chanceOf5());
        for (int i = 1; i < 61; i++) {
            x.event(1, 0, 0, 4, 1, 0);
        }
        due("31 119 + 1", x.chance(1, 59, 2), 59);
        due("31 121", x.chance(1, 60, 2), -1);
        due("31 121, balances", x.chance(1, 60, 1), NO);
        EventLedger none = Check.told("seed 1;");
        due("31 no accounts", none.chance(1, 1, 0), -1);
        due("31 no accounts, balances", none.chance(1, 1, 1), NO);
    }

    /** Whether the first EVENT by chance from 5 on is SET ASIDE, when account 0 of 2 is open and empty. */
    private static int chanceOf5() {
        long n = 5;
        int[] drawn = new int[3];
        int[] modulo = {5, 2, 1000};
        for (int i = 0; i < 3; i++) {
            n = (n * 1103515245L + 12345L) & 0x7fffffffL;
            drawn[i] = (int) ((n >> 16) % modulo[i]);
        }
        boolean open = drawn[1] == 0;
        boolean fine = drawn[0] == 0 ? !open : open && (drawn[0] == 1 || drawn[2] == 0);
        return fine ? 0 : 1;
    }

    private static void undo32() {
        EventLedger x = Check.told("account a;tally t put 1;snap 2 2;open a 0 3 0 0 0;put a 0 3 5 0 0;");
        due("32 none", x.undo(), -1);
        x.event(1, 0, 0, 1, 7, 0);
        x.see(0, 3);
        x.revoke(1, 1);
        x.resnap(1, 6);
        x.rewind(0);
        due("32 five", x.count(9), 5);
        due("32 rewind", x.undo(), 4);
        due("32 seen again", x.tally(0, 5), 12);
        due("32 resnap", x.undo(), 3);
        due("32 every", x.count(11), 2);
        due("32 snapshots", x.snapshot(0), 4);
        due("32 void", x.undo(), 2);
        due("32 not voided", Check.of(x, 1, 6), 0);
        due("32 balance", x.account(0, 0), 12);
        due("32 events", x.count(1), 3);
        due("32 snapshot is there again", x.snapshot(0), 2);
        due("32 see", x.undo(), 1);
        due("32 unseen", x.tally(0, 0), 0);
        due("32 event", x.undo(), 0);
        due("32 balance ahead", x.account(0, 0), 5);
        due("32 time ahead", x.count(6), 0);
        due("32 none left", x.undo(), -1);
        for (int i = 0; i < 25; i++) {
            x.event(1, 0, 0, 1, 1, 0);
        }
        due("32 twenty at most", x.count(9), 20);
        for (int i = 19; i >= 0; i--) {
            due("32 left", x.undo(), i);
        }
        due("32 no more", x.undo(), -1);
        due("32 five stay", x.count(1), 7);
        due("32 and their balance", x.account(0, 0), 10);
    }

    private static void keep33() {
        EventLedger x = Check.told("account a;open a 0 3 0 0 0;put a 0 3 5 0 0;");
        due("33 keep", x.keep(), 2);
        due("33 nothing to undo", x.count(9), 0);
        x.event(1, 0, 0, 1, 1, 0);
        due("33 another", x.keep(), 3);
        due("33 undo stays", x.count(9), 1);
        x.event(1, 0, 0, 1, 1, 0);
        due("33 back to the latter", x.back(), 3);
        due("33 of an empty one", new EventLedger().keep(), 0);
    }

    private static void back34() {
        EventLedger x = Check.told("account a;tally t put 1;snap 2 2;open a 0 3 0 0 0;put a 0 3 5 0 0;put a 0 3 6 0 0;");
        due("34 none", x.back(), -1);
        x.see(0, 2);
        x.event(1, 0, 0, 3, 9, 0);
        x.keep();
        x.undo();
        x.event(2, 0, 0, 2, 1, 0);
        x.revoke(1, 5);
        x.resnap(7, 1);
        x.see(0, 9);
        due("34 back", x.back(), 4);
        due("34 stays", x.back(), 4);
        due("34 balance", x.account(0, 0), 20);
        due("34 kind", Check.of(x, 3, 0), 1);
        due("34 not voided", Check.of(x, 1, 6), 0);
        due("34 every", x.count(11), 2);
        due("34 keep", x.count(12), 2);
        due("34 snapshots", x.snapshot(1), 4);
        due("34 tally", x.tally(0, 0), 2);
        due("34 tally's sum", x.tally(0, 5), 5);
        due("34 nothing to undo", x.undo(), -1);
        x.event(2, 0, 0, 9, 1, 0);
        due("34 is not the image itself", x.back(), 4);
        due("34 latest time", x.count(6), 3);
        Check.tell(x, "x");
        due("34 a fault lets it be", x.back(), 4);
        Check.tell(x, "account b;");
        due("34 a text does not", x.back(), -1);
    }

    private static void count35() {
        EventLedger x = Check.told("account a;account b;account c;tally t put 1;snap 2 2;open a 0 3 0 0 0;open b 0 1 0;put a 4 3 5 0 0;put c 4 2 5 0;void 2 6;");
        x.event(1, 1, 0, 7, 1, 0);
        x.feed(0, 0, 0, 0, 0);
        int[] due = {3, 6, 1, 2, 1, 1, 7, 2, 1 + 3 + 1 + 2 + 1 + 1, 1, 20, 2, 2, -1};
        for (int w = 0; w < due.length; w++) {
            due("35 count " + w, x.count(w), due[w]);
        }
        due("35 below", x.count(-1), -1);
        due("35 far", x.count(Integer.MAX_VALUE), -1);
    }

    public static void main(String[] args) {
        newObject1();
        feed2();
        text3();
        fault4();
        named5();
        event6();
        old7();
        revoke8();
        of9();
        field10();
        account11();
        at12();
        known13();
        cost14();
        costAt15();
        snapshot16();
        inSnapshot17();
        bestPlace18();
        aside19();
        blame20();
        without21();
        firstBelow22();
        peak23();
        touches24();
        ifPlain25();
        resnap26();
        see27();
        rewind28();
        tally29();
        sum30();
        chance31();
        undo32();
        keep33();
        back34();
        count35();
        Check.end();
    }
}
