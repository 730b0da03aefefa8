/**
 * The boundary cases of a TEXT (part 1 of the document's terms, promises 2 to 5): a method for each
 * sentence. In a text with a FAULT the sign ^ stands ahead of its place.
 */
public final class TextBoundaryTest {
    private static final String[] KINDS = {"open", "put", "take", "lock", "free", "close", "move"};
    private static final String[] OPS = {"set", "mul", "add", "copy"};
    private static final String[] OTHERS = {"account", "lift", "tally", "snap", "seed", "void"};
    private static final String EIGHT = "account a;account b;account c;account d;account e;account f;account g;account h;";
    private static final String FOUR = "tally a put 1;tally b take 2;tally c open 3;tally d move 1;";

    private TextBoundaryTest() {
    }

    private static void due(String call, long got, long want) {
        Check.due(call, got, want);
    }

    /** "A TEXT: { LINE ';' }." */
    private static void lines() {
        Check.fits("", 0);
        Check.fits(" \n \n", 0);
        Check.fits("account a;", 1);
        Check.fits("account a;account b;", 2);
        Check.faulty("^;", 1);
        Check.faulty("account a;^;", 1);
        Check.faulty("account a^", 1);
        Check.faulty("account a ^account b;", 1);
        Check.faulty("account a;account b^", 1);
    }

    /** "Words: small letters in a row", "N: digits." Any other sign but ';' and the blanks is no TOKEN. */
    private static void signs() {
        for (int sign = 0; sign < 256; sign++) {
            boolean letter = sign >= 'a' && sign <= 'z';
            boolean digit = sign >= '0' && sign <= '9';
            boolean blank = sign == 10 || sign == 32;
            String s = String.valueOf((char) sign);
            if (letter) {
                Check.fits("account " + s + ";", 1);
            } else if (blank) {
                Check.fits(s + "account" + s + "q" + s + s + ";" + s, 1);
            } else if (!digit && sign != ';' && sign != '^') {
                Check.faulty("account ^" + s + ";", 1);
                Check.faulty("account q^" + s + ";", 1);
                Check.faulty("seed ^" + s + "1;", 1);
                Check.faulty("seed 1^" + s + ";", 1);
                Check.faulty("account q;^" + s, 1);
            }
            if (digit) {
                due("seed " + s, Check.told("account a;seed " + s + ";").chance(-1, 1, 2), 0);
                Check.faulty("account ^" + s + ";", 1);
            }
        }
        // no blank must stand between a word and a number
        EventLedger x = Check.fits("account a;put a0 1 00000000000000000000099999;put\na9999\n\n1 0;", 3);
        due("digits behind letters", Check.of(x, 0, 3), 0);
        due("noughts ahead", x.field(0, 1, false), 99999);
        due("a line's end is a blank", Check.of(x, 1, 3), 9999);
        // letters behind digits are a word
        Check.faulty("account a;put a 5^a 1;", 1);
    }

    /** "W: one of 1 .. 6 letters, none of those of the language", "a word of more than 6 letters that isn't of the language, too". */
    private static void names() {
        Check.fits("account z;account abcdef;account zzzzzz;tally abcdef put 1;put abcdef 1 1 1;", 5);
        Check.faulty("account ^abcdefg;", 1);
        Check.faulty("tally ^abcdefg put 1;", 1);
        Check.faulty("account abcdef;put ^abcdefg 1 1 1;", 1);
        Check.faulty("account a;account abcdef;move a ^abcdefg 1 1 1;", 1);
        Check.faulty("account ^accounts;", 1);
        Check.faulty("account ^" + "z".repeat(300) + ";", 1);
        Check.faulty("^accounta a;", 1);
        Check.faulty("lift ^putputput 1 set 1 1;", 1);
        Check.faulty("lift put 1 ^setsetset 1 1;", 1);
        for (String[] words : new String[][] {KINDS, OPS, OTHERS}) {
            for (String word : words) {
                Check.faulty("account ^" + word + ";", 1);
                Check.faulty("tally ^" + word + " put 1;", 1);
                Check.faulty("account a;put ^" + word + " 1 1 1;", 1);
                Check.faulty("account a;move a ^" + word + " 1 1 1;", 1);
                if (word.length() < 6) {
                    Check.fits("account " + word + "s;tally x" + word + " put 1;", 2);
                }
                Check.fits("account " + word.substring(1) + ";", 1);
            }
        }
    }

    /** Which word begins a LINE, which one names a KIND, which one an OP; else it can't stand there. */
    private static void places() {
        for (String op : OPS) {
            Check.faulty("^" + op + " 1;", 1);
            Check.faulty("lift ^" + op + " 1 set 1 1;", 1);
            Check.faulty("tally t ^" + op + " 1;", 1);
            Check.fits("lift put 1 " + op + " 1 1;", 1);
        }
        for (String other : OTHERS) {
            Check.faulty("lift ^" + other + " 1 set 1 1;", 1);
            Check.faulty("tally t ^" + other + " 1;", 1);
            Check.faulty("lift put 1 ^" + other + " 1 1;", 1);
        }
        for (int k = 0; k < KINDS.length; k++) {
            Check.faulty("lift put 1 ^" + KINDS[k] + " 1 1;", 1);
            EventLedger x = Check.fits("account a;account b;tally t " + KINDS[k] + " 1;" + KINDS[k] + (k == 6 ? " a b" : " a") + " 0 1 4;lift " + KINDS[k] + " 2 set 2 7;", 5);
            due(KINDS[k] + " of an EVENT", Check.of(x, 0, 0), k);
            due(KINDS[k] + " of a TALLY", x.tally(0, 3), k);
            due(KINDS[k] + " of a STEP", x.field(0, 2, true), 7);
        }
        Check.faulty("^a;", 1);
        Check.faulty("^1;", 1);
        Check.faulty("lift ^1;", 1);
        Check.faulty("lift ^a 1 set 1 1;", 1);
        Check.faulty("lift ^;", 1);
        Check.faulty("lift put ^a set 1 1;", 1);
        Check.faulty("lift put 1 ^a 1 1;", 1);
        Check.faulty("lift put 1 ^1 1 1;", 1);
        Check.faulty("lift put 1 set ^set 1;", 1);
        Check.faulty("lift put 1 set 1 ^;", 1);
        Check.faulty("lift put 1 set 1 1 ^1;", 1);
        Check.faulty("tally ^1 put 1;", 1);
        Check.faulty("tally t ^t 1;", 1);
        Check.faulty("tally t put ^put;", 1);
        Check.faulty("tally t put 1 ^1;", 1);
        Check.faulty("snap ^a 1;", 1);
        Check.faulty("snap 1 ^;", 1);
        Check.faulty("snap 1 1 ^1;", 1);
        Check.faulty("seed ^;", 1);
        Check.faulty("seed 1 ^1;", 1);
        Check.faulty("account a;put ^1 1 1 1;", 1);
        Check.faulty("account a;put a ^a 1 1;", 1);
        Check.faulty("account a;put a 1 ^;", 1);
        Check.faulty("account a;put a 1 1 ^a;", 1);
        Check.faulty("account a;put a 1 1 1;void ^a 1;", 1);
        Check.faulty("account a;put a 1 1 1;void 0 ^;", 1);
        Check.faulty("account a;put a 1 1 1;void 0 1 ^1;", 1);
        Check.faulty("account a;account b;move a ^1 1 1;", 1);
        Check.faulty("account a;account b;move a b ^;", 1);
        Check.faulty("account a ^a;", 1);
    }

    /** "1 ... (the length, if more must come)" */
    private static void length() {
        String[][] texts = {{"account", " a"}, {"tally", " t", " put", " 1"}, {"lift", " put", " 1", " set", " 1", " 1"}, {"lift", " put", " 2", " copy", " 1", " 3"},
            {"snap", " 1", " 1"}, {"seed", " 1"}, {"put", " q", " 7", " 3", " 1", " 1", " 1"}, {"move", " q", " r", " 7", " 1", " 1"}, {"void", " 0", " 7"}};
        for (String[] text : texts) {
            StringBuilder s = new StringBuilder("account q;account r;put q 1 1 1;");
            for (String token : text) {
                s.append(token);
                Check.faulty(s + "^", 1);
                Check.faulty(s + "  \n^", 1);
            }
            Check.fits(s + ";", 4);
        }
        EventLedger x = new EventLedger();
        Check.feed(x, "account a;account b;");
        due("a text that ends ahead of the TAPE", x.text(17), -1);
        due("its fault", x.fault(0), 1);
        due("its length, not the TAPE's", x.fault(1), 17);
    }

    /** "account, at most 8: name, numbered from 0 on as they come.", "a ninth account ... (at the word of the LINE)" */
    private static void accounts() {
        EventLedger x = Check.fits(EIGHT, 8);
        due("eight", x.count(0), 8);
        for (int i = 0; i < 8; i++) {
            due("the one of number " + i, x.named(0, i + 1 << 25), i);
        }
        due("the eighth opens", x.event(0, 7, 0, 0, 5, 0), 0);
        due("its limit", x.account(7, 2), 5);
        due("there is no ninth", x.account(8, 2), Check.NO);
        for (String rest : new String[] {" i;", " a;", " put;", " 1;", ";", "", " i"}) {
            Check.faulty(EIGHT + "^account" + rest, 2);
        }
        Check.faulty(EIGHT + "\n ^account i;", 2);
        Check.faulty(EIGHT + "^accounts i;", 1);
    }

    /** "lift: of a KIND from a SHAPE 1, 2 ...: OP, a FIELD 1 .. 3, 0 .. 999 (copy: a FIELD 1 .. 3)." */
    private static void lifts() {
        Check.fits("lift put 1 set 1 0;lift put 2 set 3 999;lift move 1 mul 1 0;lift close 2 add 3 999;lift free 1 copy 1 3;lift lock 2 copy 3 1;", 6);
        Check.faulty("lift put ^0 set 1 1;", 2);
        Check.faulty("lift put ^3 set 1 1;", 2);
        for (String op : OPS) {
            Check.faulty("lift put 1 " + op + " ^0 1;", 2);
            Check.faulty("lift put 1 " + op + " ^4 1;", 2);
        }
        for (String op : new String[] {"set", "mul", "add"}) {
            Check.fits("lift put 1 " + op + " 1 0;lift put 1 " + op + " 3 999;", 2);
            Check.faulty("lift put 1 " + op + " 1 ^1000;", 2);
        }
        Check.fits("lift put 1 copy 1 1;lift put 1 copy 3 3;", 2);
        Check.faulty("lift put 1 copy 1 ^0;", 2);
        Check.faulty("lift put 1 copy 1 ^4;", 2);
    }

    /** "a STEP more, at most 4 of one KIND and SHAPE", "a fifth STEP (at the SHAPE)" */
    private static void steps() {
        String four = "lift put 1 add 1 1;".repeat(4);
        EventLedger x = Check.fits("account a;put a 0 1 0;put a 0 2 0 0;" + four + "lift put 2 add 1 9;lift take 1 add 1 9;".repeat(4), 15);
        due("four and four lift", x.field(0, 1, true), 40);
        due("four lift", x.field(1, 1, true), 36);
        for (String rest : new String[] {" add 1 1;", " put", " set 4 1;", ";", ""}) {
            Check.faulty(four + "lift put ^1" + rest, 2);
        }
        Check.faulty(four + four.replace('1', '2') + "lift put ^2 set 1 1;", 2);
        Check.faulty(four + "lift put ^3 set 1 1;", 2);
        Check.faulty(four + "lift put ^;", 1);
        // the last of all KINDS, from both SHAPES
        Check.faulty(four.replace("put 1", "move 2") + "lift move 1 set 1 1;lift move ^2 set 1 1;", 2);
    }

    /** "tally, at most 4: name, a KIND, a FIELD 1 .. 3; numbered likewise.", "a fifth tally ... (at the word of the LINE)" */
    private static void tallies() {
        EventLedger x = Check.fits(FOUR, 4);
        due("four", x.count(2), 4);
        int[] kinds = {1, 2, 0, 6};
        int[] fields = {1, 2, 3, 1};
        for (int i = 0; i < 4; i++) {
            due("the one of number " + i, x.named(1, i + 1 << 25), i);
            due("its KIND " + i, x.tally(i, 3), kinds[i]);
            due("its FIELD " + i, x.tally(i, 4), fields[i]);
        }
        due("there is no fifth", x.tally(4, 0), Check.NO);
        for (String rest : new String[] {" e put 1;", " a put 1;", " put put 1;", " e put 4;", ";", ""}) {
            Check.faulty(FOUR + "^tally" + rest, 2);
        }
        Check.faulty("tally t put ^0;", 2);
        Check.faulty("tally t put ^4;", 2);
    }

    /** "snap: EVERY 1 .. 999 (20), KEEP 0 .. 6 (3).", "seed: 0 .. 99999 (0)." */
    private static void snapAndSeed() {
        EventLedger x = Check.fits("snap 1 0;seed 0;", 2);
        due("EVERY 1", x.count(11), 1);
        due("KEEP 0", x.count(12), 0);
        due("told anew", Check.tell(x, "snap 999 6;seed 99999;account a;"), 3);
        due("EVERY 999", x.count(11), 999);
        due("KEEP 6", x.count(12), 6);
        due("seed 99999", x.chance(-1, 60, 0), x.chance(99999, 60, 0));
        due("seed 99999, balances", x.chance(-1, 60, 1), x.chance(99999, 60, 1));
        due("neither told", Check.tell(x, "account a;"), 1);
        due("EVERY 20", x.count(11), 20);
        due("KEEP 3", x.count(12), 3);
        due("seed 0", x.chance(-1, 60, 0), x.chance(0, 60, 0));
        due("seed 0, balances", x.chance(-1, 60, 1), x.chance(0, 60, 1));
        Check.faulty("snap ^0 1;", 2);
        Check.faulty("snap ^1000 1;", 2);
        Check.faulty("snap 1 ^7;", 2);
        Check.faulty("seed ^100000;", 2);
        Check.faulty("seed ^4294967296;", 2);
    }

    /** "EVENTS, at most 50 by a TEXT", "a 51st EVENT (at the word of the LINE)"; EVENTS by call are no part of these. */
    private static void fiftyEvents() {
        String head = "account a;";
        String fifty = head + "put a 0 1 1;".repeat(48) + "void 0 0;put a 0 1 1;";
        EventLedger x = Check.fits(fifty, 51);
        due("fifty with a VOID", x.count(1), 50);
        due("a 51st by call", x.event(1, 0, 0, 0, 1, 0), 50);
        for (String line : new String[] {"put a 0 1 1;", "void 1 0;", "void 99 0;", "move", "close b;", "open;", "free 1", "lock lock", "take a 0 4"}) {
            Check.faulty(fifty + "^" + line, 2);
        }
        Check.fits(fifty + "account b;tally t put 1;snap 1 1;seed 1;lift put 1 set 1 1;", 56);
        Check.faulty(fifty + "^set", 1);
    }

    /** "a TIME 0 .. 9999, not less than that of the EVENT ahead", "void: ... a TIME likewise." */
    private static void times() {
        EventLedger x = Check.fits("account a;put a 0 1 1;put a 0 1 1;put a 9999 1 1;void 0 9999;put a 9999 1 1;", 6);
        due("TIME 0", Check.of(x, 0, 3), 0);
        due("TIME 9999", Check.of(x, 2, 3), 9999);
        due("TIME of a VOID", Check.of(x, 3, 3), 9999);
        Check.faulty("account a;put a ^10000 1 1;", 2);
        Check.faulty("account a;put a ^4294967296 1 1;", 2);
        Check.faulty("account a;put a 6 1 1;put a ^5 1 1;", 2);
        Check.faulty("account a;put a 6 1 1;void 0 ^5;", 2);
        Check.faulty("account a;put a 6 1 1;void 0 ^10000;", 2);
        Check.faulty("account a;put a 6 1 1;void 0 8;put a ^7 1 1;", 2);
        Check.faulty("account a;put a 6 1 1;put a 7 1 1;put a ^6 1 1;", 2);
        Check.faulty("account a;account b;move a b 6 1 1;move b a ^5 1 1;", 2);
    }

    /** "a SHAPE 1 .. 3, so many FIELDS as the SHAPE tells, 0 .. 99999 each" */
    private static void shapes() {
        for (int shape = 1; shape <= 3; shape++) {
            String ahead = "account a;put a 0 " + shape;
            EventLedger x = Check.fits(ahead + " 0".repeat(shape) + ";put a 0 " + shape + " 99999".repeat(shape) + ";", 3);
            for (int field = 1; field <= 3; field++) {
                due("greatest FIELD " + field + " of SHAPE " + shape, x.field(1, field, false), field <= shape ? 99999 : 0);
                due("FIELD 0 " + field + " of SHAPE " + shape, x.field(0, field, false), 0);
                if (field <= shape) {
                    Check.faulty(ahead + " 1".repeat(field - 1) + " ^100000;", 2);
                    Check.faulty(ahead + " 1".repeat(field - 1) + " ^;", 1);
                    Check.faulty(ahead + " 1".repeat(field - 1) + "^", 1);
                }
            }
            Check.faulty(ahead + " 1".repeat(shape) + " ^1;", 1);
        }
        Check.faulty("account a;put a 0 ^0;", 2);
        Check.faulty("account a;put a 0 ^4 1 1 1 1;", 2);
        EventLedger y = Check.fits("account a;put a 0 3 7 8 9;put a 0 1 1;", 3);
        due("what an EVENT ahead had isn't left", y.field(1, 2, false) + y.field(1, 3, false), 0);
    }

    /** "void: the number of an EVENT told ahead that is no VOID and not VOIDED", "EVENTS are numbered from 0 on." */
    private static void voids() {
        EventLedger x = Check.fits("account a;put a 0 1 1;put a 0 1 1;void 1 0;void 00 0;put a 0 1 1;void 4 0;", 7);
        int[] voided = {1, 1, 0, 0, 1, 0};
        for (int i = 0; i < 6; i++) {
            due("whether " + i + " is VOIDED", Check.of(x, i, 6), voided[i]);
        }
        Check.faulty("void ^0 0;", 4);
        Check.faulty("account a;put a 0 1 1;void ^1 0;", 4);
        Check.faulty("account a;put a 0 1 1;void ^1 0;put a 0 1 1;", 4);
        Check.faulty("account a;put a 0 1 1;void ^2147483647 0;", 4);
        Check.faulty("account a;put a 0 1 1;void ^2147483648 0;", 4);
        Check.faulty("account a;put a 0 1 1;void ^4294967296 0;", 4);
        Check.faulty("account a;put a 0 1 1;void ^18446744073709551616 0;", 4);
        Check.faulty("account a;put a 0 1 1;void 0 0;void ^1 0;", 4);
        Check.faulty("account a;put a 0 1 1;void 0 0;void ^0 0;", 3);
        Check.faulty("account a;put a 0 1 1;void 0 0;put a 0 1 1;void ^0 0;", 3);
    }

    /** "3 told already: a name of its kind (at W), snap, seed (at the word), the same ACCOUNT (at the second W)" */
    private static void toldAlready() {
        Check.faulty("account a;account ^a;", 3);
        Check.faulty("account a;account b;account ^b", 3);
        Check.faulty("account abcdef;account ^abcdef;", 3);
        Check.fits("account abcdef;account abcde;account bcdef;", 3);
        Check.faulty("tally t put 1;tally ^t take 2;", 3);
        Check.faulty("tally t put 1;tally ^t", 3);
        Check.fits("account a;tally a put 1;account t;tally t put 1;", 4);
        Check.faulty("snap 1 1;^snap 1 1;", 3);
        Check.faulty("snap 1 1;seed 1;^snap a", 3);
        Check.faulty("seed 1;^seed 1;", 3);
        Check.faulty("seed 1;snap 1 1;^seed", 3);
        Check.faulty("account a;account b;move a ^a 0 1 1;", 3);
        Check.faulty("account a;account b;move b ^b", 3);
        Check.fits("account a;account b;move a b 0 1 1;move b a 0 1 1;", 4);
    }

    /** "4 an ACCOUNT that isn't told ahead (at W)" */
    private static void notTold() {
        for (String kind : KINDS) {
            Check.faulty(kind + " ^a 0 1 1;account a;", 4);
            Check.faulty("tally a put 1;account b;" + kind + " ^a 0 1 1;", 4);
        }
        Check.faulty("account a;move a ^b 0 1 1;account b;", 4);
        Check.faulty("account b;move ^a b 0 1 1;", 4);
        Check.faulty("move ^a a 0 1 1;", 4);
    }

    /** "FAULTS, the first along the text" */
    private static void firstAlong() {
        Check.faulty("account a;put ^b 10000 4 1;", 4);
        Check.faulty("account a;put a ^10000 4 ;", 2);
        Check.faulty("account a;put a 0 ^4 ,", 2);
        Check.faulty("account a;put a 0 1 ^, 100000;", 1);
        Check.faulty("account a;put a 0 1 1;void ^7 10000", 4);
        Check.faulty("account a;put a 6 1 1;void 0 6;void ^0 5", 3);
        Check.faulty("account a;move a ^a 10000 1 1", 3);
        Check.faulty("account ^abcdefg;account a;account a;", 1);
        Check.faulty("account a;account ^a;account abcdefg;", 3);
        Check.faulty("account a;account ^a,", 3);
        Check.faulty("lift put ^3 put 9 1", 2);
        Check.faulty("lift put 1 ^put 9 1000", 1);
        Check.faulty("lift put 1 set ^9 1000", 2);
        Check.faulty("snap ^0 7", 2);
        Check.faulty("seed ^100000,", 2);
        Check.faulty("tally t ^set 4", 1);
    }

    /** Promise 2: "Twenty bytes ..., four of each number, the highest first", "NONE, and none come, if it would have more than 900." */
    private static void feeding() {
        EventLedger x = new EventLedger();
        for (int i = 0; i < 20; i++) {
            // one sign at place i, blanks elsewhere: the place of the FAULT tells where it came
            int[] n = {0x20202020, 0x20202020, 0x20202020, 0x20202020, 0x20202020};
            n[i / 4] ^= (0x20 ^ 0xff) << 24 - 8 * (i % 4);
            due("twenty", x.feed(n[0], n[1], n[2], n[3], n[4]), 20);
            due("a FAULT", x.text(20), -1);
            due("at byte " + i, x.fault(1), i);
        }
        for (int i = 1; i <= 44; i++) {
            due("feed " + i, x.feed(0x20202020, 0x20202020, 0x20202020, 0x20202020, 0x20202020), 20 * i);
        }
        due("the 45th", x.feed(0x20202020, 0x20202020, 0x73656564, 0x20202020, 0x2020373b), 900);
        String full = Check.picture(x);
        due("a 46th", x.feed(-1, -1, -1, -1, -1), -1);
        due("and again", x.feed(Integer.MIN_VALUE, 0, 0, 0, Integer.MAX_VALUE), -1);
        Check.isTrue("none come", full.equals(Check.picture(x)));
        due("all 900", x.text(900), 1);
        due("room again", x.feed(0, 0, 0, 0, 0), 20);
    }

    /** Promise 3: which n are refused, what is lost and what stays. */
    private static void textOfBytes() {
        EventLedger x = new EventLedger();
        due("no bytes", x.text(0), 0);
        due("one of none", x.text(1), -2);
        Check.feed(x, "account a;account b;");
        String ahead = Check.picture(x);
        int[] refused = {-1, 21, Integer.MIN_VALUE, Integer.MAX_VALUE};
        for (int n : refused) {
            due("text(" + n + ")", x.text(n), -2);
            Check.isTrue("nothing changes by text(" + n + ")", ahead.equals(Check.picture(x)));
        }
        due("all bytes", x.text(20), 2);
        due("the TAPE is empty then", x.count(10), 0);
        Check.feed(x, "account a;account b;account c;          ");
        due("some of them", x.text(20), 2);
        due("the others go, too", x.count(10), 0);
        due("and aren't a text behind it", x.text(10), -2);
        // a text that ends within a word, a number: what lies behind its end is none of it
        String[] cut = {"account ab", "account abc;", "seed 12;", "account", "seed 1;"};
        int[] ends = {9, 9, 6, 3, 6};
        int[] places = {9, 9, 6, 0, 6};
        for (int i = 0; i < cut.length; i++) {
            Check.feed(x, cut[i]);
            due("a text that is cut: " + cut[i], x.text(ends[i]), -1);
            due("its FAULT", x.fault(0), 1);
            due("its place", x.fault(1), places[i]);
        }
        Check.feed(x, "account a;account b;");
        due("none of them", x.text(0), 0);
        due("no ACCOUNTS then", x.count(0), 0);
        due("the TAPE is empty behind 0, too", x.count(10), 0);
        Check.feed(x, "account a;account b;");
        due("with a FAULT", x.text(15), -1);
        due("the TAPE is empty behind a FAULT, too", x.count(10), 0);
    }

    /** Promise 3: "TALLIES as at first, no IMAGE, nothing to undo", all of it staying with a FAULT. */
    private static void textAnew() {
        String text = "account a;tally t put 1;snap 2 2;seed 9;lift put 1 mul 1 2;open a 0 3 0 0 0;put a 1 1 5;";
        EventLedger x = Check.told(text);
        x.see(0, 2);
        x.keep();
        x.event(1, 0, 0, 2, 7, 0);
        String ahead = Check.picture(x);
        due("a FAULT", Check.tell(x, text + "put"), -1);
        Check.isTrue("all else stays", ahead.equals(Check.picture(x)));
        due("the STEPS stay", x.old(1, 0, 0, 2, 4), 3);
        due("and lift", x.field(3, 1, true), 8);
        due("what can be undone stays", x.undo(), 2);
        due("the IMAGE stays", x.back(), 2);
        x.event(1, 0, 0, 2, 7, 0);
        due("the same text again", Check.tell(x, text), 7);
        due("its EVENTS alone", x.count(1), 2);
        due("a TALLY as at first", x.tally(0, 0), 0);
        due("its SUM as at first", x.sum(0, 0), 0);
        due("no IMAGE", x.back(), -1);
        due("nothing to undo", x.count(9), 0);
        due("and no undo()", x.undo(), -1);
        due("a text without STEPS", Check.tell(x, "account b;put b 0 1 5;"), 2);
        due("lifts no more", x.field(0, 1, true), 5);
        due("the name of old is gone", x.named(0, Check.letters("a")), -1);
        due("and that of the TALLY", x.named(1, Check.letters("t")), -1);
    }

    /** What a text with a FAULT, or a text ahead of the latest, told is nothing to the next one. */
    private static void leftovers() {
        for (int k = 0; k < KINDS.length; k++) {
            String lift = "lift " + KINDS[k] + " 1 set 1 7;lift " + KINDS[k] + " 2 set 2 7;";
            String told = "account a;tally t " + KINDS[k] + " 1;snap 1 6;seed 5;open a 0 3 1 1 1;put a 9 3 5 5 5;" + lift;
            String plain = "account q;account r;" + KINDS[k] + (k == 6 ? " q r" : " q") + " 0 1 3;";
            String ahead = Check.picture(Check.told(plain));
            EventLedger x = new EventLedger();
            due("with a FAULT", Check.tell(x, told + "x"), -1);
            due("a plain one", Check.tell(x, plain), 3);
            Check.isTrue("is as alone", ahead.equals(Check.picture(x)));
            due("told", Check.tell(x, told), 8);
            x.see(0, 2);
            due("a plain one behind", Check.tell(x, plain), 3);
            Check.isTrue("is as alone then", ahead.equals(Check.picture(x)));
            due("once more", Check.tell(x, plain), 3);
            Check.isTrue("is as alone again", ahead.equals(Check.picture(x)));
            due("plain FIELD 1 of " + KINDS[k], x.field(0, 1, true), 3);
            due("plain FIELD 2 of " + KINDS[k], x.field(0, 2, true), 0);
        }
        EventLedger x = new EventLedger();
        due("names with a FAULT", Check.tell(x, "account a;tally t put 1;x"), -1);
        due("may be told then", Check.tell(x, "account a;tally t put 1;"), 2);
        due("snap with a FAULT", Check.tell(x, "snap 1 1;seed 1;x"), -1);
        due("snap and seed may be told then", Check.tell(x, "snap 1 1;seed 1;"), 2);
        due("steps with a FAULT", Check.tell(x, "lift put 1 add 1 1;".repeat(4) + "x"), -1);
        due("four of them then", Check.tell(x, "lift put 1 add 1 1;".repeat(4)), 4);
        due("a VOID with a FAULT", Check.tell(x, "account a;put a 5 1 1;void 0 5;x"), -1);
        due("its number and its TIME then", Check.tell(x, "account a;put a 4 1 1;void 0 4;"), 3);
        EventLedger seeded = new EventLedger();
        due("a seed with a FAULT", Check.tell(seeded, "seed 4711;x"), -1);
        due("no seed", Check.tell(seeded, "account a;"), 1);
        int[] ns = {1, 7, 60};
        for (int n : ns) {
            for (int what = 0; what < 3; what++) {
                due("seed is 0, chance(-1, " + n + ", " + what + ")", seeded.chance(-1, n, what), seeded.chance(0, n, what));
            }
        }
    }

    /** Promise 4: "Of the latest text() that was not -2, what 0: its FAULT (0), 1: its place (NONE without). NONE for another what." */
    private static void faultOf() {
        EventLedger x = new EventLedger();
        due("no text yet", x.fault(0), 0);
        due("no place yet", x.fault(1), -1);
        Check.tell(x, "account a;account a;");
        int[] others = {-1, 2, 3, Integer.MIN_VALUE, Integer.MAX_VALUE};
        for (int what : others) {
            due("fault(" + what + ")", x.fault(what), -1);
        }
        due("-2", x.text(1), -2);
        due("is passed over", x.fault(0), 3);
        due("its place, too", x.fault(1), 18);
        x.keep();
        x.resnap(1, 1);
        x.undo();
        x.back();
        due("nothing else changes it", x.fault(0), 3);
        due("nor its place", x.fault(1), 18);
        due("a text without one", x.text(0), 0);
        due("0 then", x.fault(0), 0);
        due("NONE then", x.fault(1), -1);
    }

    /** Promise 5: "5 bits each (a is 1; the first one highest of six, 0 behind the last one)", "NONE: there is none such, for another kind." */
    private static void named() {
        EventLedger x = Check.told("account a;account zzzzzz;account ab;account aa;tally a put 1;tally zzzzzz put 1;tally q put 1;");
        int z = 26 << 25 | 26 << 20 | 26 << 15 | 26 << 10 | 26 << 5 | 26;
        due("one letter", x.named(0, 1 << 25), 0);
        due("six", x.named(0, z), 1);
        due("two", x.named(0, 1 << 25 | 2 << 20), 2);
        due("the same one twice", x.named(0, 1 << 25 | 1 << 20), 3);
        due("a TALLY of the same name", x.named(1, 1 << 25), 0);
        due("a TALLY of six", x.named(1, z), 1);
        due("a TALLY alone", x.named(1, 17 << 25), 2);
        due("is no ACCOUNT", x.named(0, 17 << 25), -1);
        due("an ACCOUNT alone is no TALLY", x.named(1, 1 << 25 | 2 << 20), -1);
        int[] none = {0, 1, 1 << 20, 27 << 25, z - 1, z + 1, -1, Integer.MIN_VALUE, Integer.MIN_VALUE | 1 << 25, 1 << 30 | 1 << 25, Integer.MAX_VALUE};
        for (int letters : none) {
            due("none of " + letters, x.named(0, letters), -1);
            due("no TALLY of " + letters, x.named(1, letters), -1);
        }
        int[] kinds = {-1, 2, 3, Integer.MIN_VALUE, Integer.MAX_VALUE};
        for (int kind : kinds) {
            due("kind " + kind, x.named(kind, 1 << 25), -1);
        }
    }

    public static void main(String[] args) {
        lines();
        signs();
        names();
        places();
        length();
        accounts();
        lifts();
        steps();
        tallies();
        snapAndSeed();
        fiftyEvents();
        times();
        shapes();
        voids();
        toldAlready();
        notTold();
        firstAlong();
        feeding();
        textOfBytes();
        textAnew();
        leftovers();
        faultOf();
        named();
        Check.end();
    }
}
