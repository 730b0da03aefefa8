import java.util.ArrayList;
import java.util.HashMap;
import java.util.List;
import java.util.Map;
import java.util.Random;

/**
 * Random calls on EventLedger and on a second, plainest form of the document, written apart from it:
 * all answers must be alike. The model holds what it is asked for as it comes (states inside the
 * snapshots, whole copies of itself for undo() and back()), and works out nothing from elsewhere.
 */
public final class ModelTest {
    static final int NO = Integer.MIN_VALUE;
    static final String[] KINDS = {"open", "put", "take", "lock", "free", "close", "move"};
    static final String[] OPS = {"set", "mul", "add", "copy"};
    static final List<String> LANGUAGE = List.of("account", "lift", "tally", "snap", "void", "seed", "open", "put",
            "take", "lock", "free", "close", "move", "set", "mul", "add", "copy");

    static final class Fault extends RuntimeException {
        private static final long serialVersionUID = 1;
        final int number;
        final int place;

        Fault(int number, int place) {
            this.number = number;
            this.place = place;
        }
    }

    record Token(String text, int place) {
    }

    record Step(int kind, int shape, int op, int field, int number) {
    }

    record TallyTerm(String name, int kind, int field) {
    }

    record Event(int kind, int account, int other, int time, int shape, int[] fields, int target) {
        boolean isVoid() {
            return kind == 7;
        }

        int weight() {
            return isVoid() ? 1 : 1 + 3 - shape;
        }
    }

    static final class Account {
        boolean open;
        int balance;
        int locked;
        int limit;

        Account copy() {
            Account a = new Account();
            a.open = open;
            a.balance = balance;
            a.locked = locked;
            a.limit = limit;
            return a;
        }

        int look(int what) {
            return what == 0 ? balance : what == 1 ? locked : what == 2 ? limit : what == 3 ? (open ? 1 : 0) : NO;
        }
    }

    record Snapshot(int place, List<Account> accounts) {
    }

    static final class Tally {
        int place;
        Map<Integer, Integer> counted = new HashMap<>();

        Tally copy() {
            Tally t = new Tally();
            t.place = place;
            t.counted = new HashMap<>(counted);
            return t;
        }
    }

    /** All that an IMAGE or undo() goes back to. */
    static final class Held {
        List<Event> events = new ArrayList<>();
        List<Snapshot> snapshots = new ArrayList<>();
        int every = 20;
        int keep = 3;
        int taken;
        List<Tally> tallies = new ArrayList<>();

        Held copy() {
            Held h = new Held();
            h.events = new ArrayList<>(events);
            h.snapshots = new ArrayList<>(snapshots);
            h.every = every;
            h.keep = keep;
            for (Tally t : tallies) {
                h.tallies.add(t.copy());
            }
            return h;
        }
    }

    static final class Model {
        StringBuilder tape = new StringBuilder();
        List<String> accounts = new ArrayList<>();
        List<Step> steps = new ArrayList<>();
        List<TallyTerm> terms = new ArrayList<>();
        int seed;
        Held held = new Held();
        List<Held> past = new ArrayList<>();
        Held image;
        int fault;
        int place = -1;

        int feed(int[] numbers) {
            if (tape.length() + 20 > 900) {
                return -1;
            }
            for (int n : numbers) {
                for (int s = 24; s >= 0; s -= 8) {
                    tape.append((char) (n >>> s & 255));
                }
            }
            return tape.length();
        }

        static List<Token> tokens(String text) {
            List<Token> all = new ArrayList<>();
            java.util.regex.Matcher m = java.util.regex.Pattern.compile("[a-z]+|[0-9]+|[^ \n]", java.util.regex.Pattern.DOTALL).matcher(text);
            while (m.find()) {
                all.add(new Token(m.group(), m.start()));
            }
            all.add(new Token("", text.length()));
            return all;
        }

        static final class Draft {
            List<String> accounts = new ArrayList<>();
            List<Step> steps = new ArrayList<>();
            List<TallyTerm> terms = new ArrayList<>();
            List<Event> events = new ArrayList<>();
            int seed;
            int every = 20;
            int keep = 3;
            boolean snap;
            boolean seeded;
            int lines;
            List<Token> tokens;
            int at;

            Token take() {
                return tokens.get(at++);
            }

            static boolean isName(String s) {
                return s.matches("[a-z]{1,6}") && !LANGUAGE.contains(s);
            }

            Token name() {
                Token t = take();
                if (!isName(t.text)) {
                    throw new Fault(1, t.place);
                }
                return t;
            }

            int oneOf(String[] words) {
                Token t = take();
                for (int i = 0; i < words.length; i++) {
                    if (words[i].equals(t.text)) {
                        return i;
                    }
                }
                throw new Fault(1, t.place);
            }

            int number(long least, long most) {
                Token t = take();
                if (!t.text.matches("[0-9]+")) {
                    throw new Fault(1, t.place);
                }
                java.math.BigInteger n = new java.math.BigInteger(t.text);
                if (n.compareTo(java.math.BigInteger.valueOf(least)) < 0 || n.compareTo(java.math.BigInteger.valueOf(most)) > 0) {
                    throw new Fault(2, t.place);
                }
                return n.intValue();
            }

            int time() {
                return number(events.isEmpty() ? 0 : events.get(events.size() - 1).time, 9999);
            }

            Token peek() {
                return tokens.get(at);
            }

            int account() {
                Token t = name();
                int a = accounts.indexOf(t.text);
                if (a < 0) {
                    throw new Fault(4, t.place);
                }
                return a;
            }

            void stop() {
                Token t = take();
                if (!t.text.equals(";")) {
                    throw new Fault(1, t.place);
                }
                lines++;
            }

            void line() {
                Token w = take();
                if (!LANGUAGE.contains(w.text) || List.of(OPS).contains(w.text)) {
                    throw new Fault(1, w.place);
                }
                if (w.text.equals("account")) {
                    if (accounts.size() == 8) {
                        throw new Fault(2, w.place);
                    }
                    Token n = name();
                    if (accounts.contains(n.text)) {
                        throw new Fault(3, n.place);
                    }
                    stop();
                    accounts.add(n.text);
                } else if (w.text.equals("lift")) {
                    int kind = oneOf(KINDS);
                    Token s = peek();
                    int shape = number(1, 2);
                    if (steps.stream().filter(x -> x.kind == kind && x.shape == shape).count() == 4) {
                        throw new Fault(2, s.place);
                    }
                    int op = oneOf(OPS);
                    int field = number(1, 3);
                    int n = op == 3 ? number(1, 3) : number(0, 999);
                    stop();
                    steps.add(new Step(kind, shape, op, field, n));
                } else if (w.text.equals("tally")) {
                    if (terms.size() == 4) {
                        throw new Fault(2, w.place);
                    }
                    Token n = name();
                    if (terms.stream().anyMatch(x -> x.name.equals(n.text))) {
                        throw new Fault(3, n.place);
                    }
                    int kind = oneOf(KINDS);
                    int field = number(1, 3);
                    stop();
                    terms.add(new TallyTerm(n.text, kind, field));
                } else if (w.text.equals("snap")) {
                    if (snap) {
                        throw new Fault(3, w.place);
                    }
                    snap = true;
                    every = number(1, 999);
                    keep = number(0, 6);
                    stop();
                } else if (w.text.equals("seed")) {
                    if (seeded) {
                        throw new Fault(3, w.place);
                    }
                    seeded = true;
                    seed = number(0, 99999);
                    stop();
                } else {
                    eventLine(w);
                }
            }

            void eventLine(Token w) {
                if (events.size() == 50) {
                    throw new Fault(2, w.place);
                }
                if (w.text.equals("void")) {
                    Token e = take();
                    if (!e.text.matches("[0-9]+")) {
                        throw new Fault(1, e.place);
                    }
                    java.math.BigInteger n = new java.math.BigInteger(e.text);
                    if (n.compareTo(java.math.BigInteger.valueOf(events.size())) >= 0 || events.get(n.intValue()).isVoid()) {
                        throw new Fault(4, e.place);
                    }
                    int target = n.intValue();
                    if (events.stream().anyMatch(x -> x.isVoid() && x.target == target)) {
                        throw new Fault(3, e.place);
                    }
                    int time = time();
                    stop();
                    events.add(new Event(7, -2, target, time, 0, new int[3], target));
                    return;
                }
                int kind = List.of(KINDS).indexOf(w.text);
                int account = account();
                int other = -2;
                if (kind == 6) {
                    Token o = peek();
                    other = account();
                    if (other == account) {
                        throw new Fault(3, o.place);
                    }
                }
                int time = time();
                int shape = number(1, 3);
                int[] fields = new int[3];
                for (int i = 0; i < shape; i++) {
                    fields[i] = number(0, 99999);
                }
                stop();
                events.add(new Event(kind, account, other, time, shape, fields, -1));
            }
        }

        int text(int n) {
            if (n < 0 || n > tape.length()) {
                return -2;
            }
            String text = tape.substring(0, n);
            tape.setLength(0);
            Draft d = new Draft();
            d.tokens = tokens(text);
            fault = 0;
            place = -1;
            try {
                while (!d.peek().text.isEmpty()) {
                    d.line();
                }
            } catch (Fault f) {
                fault = f.number;
                place = f.place;
                return -1;
            }
            accounts = d.accounts;
            steps = d.steps;
            terms = d.terms;
            seed = d.seed;
            held = new Held();
            held.every = d.every;
            held.keep = d.keep;
            for (int i = 0; i < terms.size(); i++) {
                held.tallies.add(new Tally());
            }
            past.clear();
            image = null;
            for (Event e : d.events) {
                come(held, e);
            }
            return d.lines;
        }

        // what LIFTED is: {f1, f2, f3, broken}
        int[] lift(Event e, int bareKind, int bareShape) {
            int[] f = {e.fields[0], e.fields[1], e.fields[2], 0};
            for (int shape = e.shape; shape < 3 && !e.isVoid(); shape++) {
                for (Step s : steps) {
                    if (s.kind != e.kind || s.shape != shape || s.kind == bareKind && s.shape == bareShape) {
                        continue;
                    }
                    int i = s.field - 1;
                    f[i] = s.op == 0 ? s.number : s.op == 1 ? f[i] * s.number : s.op == 2 ? f[i] + s.number : f[s.number - 1];
                    if (f[0] > 1000000 || f[1] > 1000000 || f[2] > 1000000) {
                        f[3] = 1;
                        return f;
                    }
                }
            }
            return f;
        }

        /** The states behind 0 .. upTo EVENTS, causes into the list. */
        List<List<Account>> states(List<Event> events, int upTo, List<Integer> gone, List<Integer> causes, int bareKind, int bareShape) {
            List<List<Account>> all = new ArrayList<>();
            List<Account> now = new ArrayList<>();
            for (int i = 0; i < accounts.size(); i++) {
                now.add(new Account());
            }
            all.add(now);
            for (int i = 0; i < upTo; i++) {
                List<Account> next = new ArrayList<>();
                for (Account a : now) {
                    next.add(a.copy());
                }
                Event e = events.get(i);
                int cause = e.isVoid() || gone.contains(i) ? 0 : apply(e, lift(e, bareKind, bareShape), next);
                if (causes != null) {
                    causes.add(cause);
                }
                now = cause == 0 ? next : now;
                all.add(now);
            }
            return all;
        }

        static int apply(Event e, int[] f, List<Account> state) {
            if (f[3] == 1) {
                return 1;
            }
            Account a = state.get(e.account);
            if (e.kind == 0) {
                if (a.open) {
                    return 2;
                }
                a.open = true;
                a.limit = f[0];
                a.balance = 0;
                a.locked = 0;
                return 0;
            }
            if (!a.open) {
                return 2;
            }
            if (e.kind == 1) {
                a.balance = a.balance + f[0] - f[1];
            } else if (e.kind == 2) {
                a.balance = a.balance - f[0] - f[1];
                return a.balance - a.locked < 0 - a.limit ? 3 : 0;
            } else if (e.kind == 3) {
                a.locked += f[0];
                return a.locked > a.balance ? 3 : 0;
            } else if (e.kind == 4) {
                a.locked -= f[0];
                return a.locked < 0 ? 3 : 0;
            } else if (e.kind == 5) {
                a.open = false;
                return a.balance != 0 || a.locked != 0 ? 3 : 0;
            } else {
                Account b = state.get(e.other);
                if (!b.open) {
                    return 2;
                }
                a.balance = a.balance - f[0] - f[1];
                b.balance += f[0];
                return a.balance - a.locked < 0 - a.limit ? 3 : 0;
            }
            return 0;
        }

        static List<Integer> voided(List<Event> events, int upTo) {
            List<Integer> all = new ArrayList<>();
            for (int i = 0; i < upTo; i++) {
                if (events.get(i).isVoid()) {
                    all.add(events.get(i).target);
                }
            }
            return all;
        }

        static int weights(List<Event> events, int from, int to) {
            int sum = 0;
            for (int i = from; i < to; i++) {
                sum += events.get(i).weight();
            }
            return sum;
        }

        void come(Held h, Event e) {
            h.events.add(e);
            if (e.isVoid()) {
                h.snapshots.removeIf(s -> s.place > e.target);
            }
            int n = h.events.size();
            int latest = h.snapshots.isEmpty() ? 0 : h.snapshots.get(h.snapshots.size() - 1).place;
            if (weights(h.events, latest, n) < h.every) {
                return;
            }
            h.taken++;
            h.snapshots.add(new Snapshot(n, states(h.events, n, voided(h.events, n), null, -1, -1).get(n)));
            if (h.snapshots.size() <= h.keep) {
                return;
            }
            if (h.keep == 0) {
                h.snapshots.remove(h.snapshots.size() - 1);
                return;
            }
            int worst = -1;
            int least = 0;
            for (int i = 0; i + 1 < h.snapshots.size(); i++) {
                int gap = weights(h.events, i == 0 ? 0 : h.snapshots.get(i - 1).place, h.snapshots.get(i + 1).place);
                if (worst < 0 || gap < least) {
                    worst = i;
                    least = gap;
                }
            }
            h.snapshots.remove(worst);
        }

        int size() {
            return held.events.size();
        }

        List<Integer> gone() {
            return voided(held.events, size());
        }

        List<Integer> causes() {
            List<Integer> causes = new ArrayList<>();
            states(held.events, size(), gone(), causes, -1, -1);
            return causes;
        }

        List<Integer> causesWithout(int event) {
            List<Integer> gone = gone();
            gone.add(event);
            List<Integer> causes = new ArrayList<>();
            states(held.events, size(), gone, causes, -1, -1);
            return causes;
        }

        boolean isEvent(int e) {
            return e >= 0 && e < size();
        }

        boolean isPlain(int e) {
            return isEvent(e) && !held.events.get(e).isVoid();
        }

        boolean isAccount(int a) {
            return a >= 0 && a < accounts.size();
        }

        boolean isTally(int t) {
            return t >= 0 && t < terms.size();
        }

        int latest() {
            return size() == 0 ? -2 : held.events.get(size() - 1).time;
        }

        void remember() {
            past.add(held.copy());
            if (past.size() > 20) {
                past.remove(0);
            }
        }

        int arrive(Event e) {
            if (e.time < latest()) {
                return -2;
            }
            if (size() >= 120) {
                return -3;
            }
            remember();
            come(held, e);
            return size() - 1;
        }

        int event(int kind, int account, int other, int time, int shape, int one, int two) {
            boolean ok = kind >= 0 && kind <= 6 && isAccount(account) && time >= 0 && time <= 9999
                    && one >= 0 && one <= 99999 && two >= 0 && two <= 99999;
            if (!ok || kind == 6 && (!isAccount(other) || other == account)) {
                return -1;
            }
            return arrive(new Event(kind, account, kind == 6 ? other : -2, time, shape, new int[] {one, two, 0}, -1));
        }

        int revoke(int event, int time) {
            if (!isPlain(event) || time < 0 || time > 9999 || gone().contains(event)) {
                return -1;
            }
            return arrive(new Event(7, -2, event, time, 0, new int[3], event));
        }

        long of(int event, int what) {
            if (!isEvent(event)) {
                return 1000001;
            }
            Event e = held.events.get(event);
            switch (what) {
                case 0: return e.kind;
                case 1: return e.account;
                case 2: return e.other;
                case 3: return e.time;
                case 4: return e.shape;
                case 5: return causes().get(event);
                case 6: return gone().contains(event) ? 1 : 0;
                case 7: return e.weight();
                default: return 1000002;
            }
        }

        int field(int event, int field, boolean lifted) {
            if (!isPlain(event) || field < 1 || field > 3) {
                return -1;
            }
            Event e = held.events.get(event);
            return lifted ? lift(e, -1, -1)[field - 1] : e.fields[field - 1];
        }

        int account(int account, int what) {
            return isAccount(account) ? states(held.events, size(), gone(), null, -1, -1).get(size()).get(account).look(what) : NO;
        }

        int placeAt(int time) {
            return (int) held.events.stream().filter(e -> e.time <= time).count();
        }

        int at(int time, int account, int what) {
            if (time < 0 || time > 9999 || !isAccount(account)) {
                return NO;
            }
            int p = placeAt(time);
            return states(held.events, p, gone(), null, -1, -1).get(p).get(account).look(what);
        }

        int known(int time, int account, int what) {
            if (time < 0 || time > 9999 || !isAccount(account)) {
                return NO;
            }
            int p = placeAt(time);
            return states(held.events, p, voided(held.events, p), null, -1, -1).get(p).get(account).look(what);
        }

        int costWith(int place, int extra) {
            int from = extra <= place ? extra : 0;
            for (Snapshot s : held.snapshots) {
                if (s.place <= place && s.place > from) {
                    from = s.place;
                }
            }
            return weights(held.events, from, place);
        }

        int cost(int place) {
            return place < 0 || place > size() ? -1 : costWith(place, 0);
        }

        int costAt(int time) {
            return time < 0 || time > 9999 ? -1 : cost(placeAt(time));
        }

        int snapshot(int k) {
            return k < 0 ? -1 : k < held.snapshots.size() ? held.snapshots.get(k).place : -2;
        }

        int inSnapshot(int k, int account, int what) {
            if (k < 0 || k >= held.snapshots.size() || !isAccount(account)) {
                return NO;
            }
            return held.snapshots.get(k).accounts.get(account).look(what);
        }

        int bestPlace(int what) {
            int best = 0;
            int least = Integer.MAX_VALUE;
            for (int p = 0; p <= size(); p++) {
                int all = 0;
                for (int q = 0; q <= size(); q++) {
                    all += costWith(q, p);
                }
                if (all < least) {
                    least = all;
                    best = p;
                }
            }
            return what == 0 ? best : what == 1 ? least : -1;
        }

        int aside(int k) {
            if (k < 0) {
                return -1;
            }
            List<Integer> found = new ArrayList<>();
            List<Integer> causes = causes();
            for (int i = 0; i < size(); i++) {
                if (causes.get(i) != 0) {
                    found.add(i);
                }
            }
            return k < found.size() ? found.get(k) : -2;
        }

        int blame(int event) {
            if (!isEvent(event) || causes().get(event) == 0) {
                return -1;
            }
            for (int i = 0; i < size(); i++) {
                if (i != event && isPlain(i) && !gone().contains(i) && causesWithout(i).get(event) == 0) {
                    return i;
                }
            }
            return -2;
        }

        int without(int event, int account) {
            if (!isPlain(event) || !isAccount(account)) {
                return NO;
            }
            List<Integer> gone = gone();
            gone.add(event);
            return states(held.events, size(), gone, null, -1, -1).get(size()).get(account).balance;
        }

        int firstBelow(int account) {
            if (!isAccount(account)) {
                return -1;
            }
            List<List<Account>> all = states(held.events, size(), gone(), null, -1, -1);
            for (int i = 1; i < all.size(); i++) {
                if (all.get(i).get(account).balance < 0) {
                    return i - 1;
                }
            }
            return -2;
        }

        int peak(int account, int what) {
            if (!isAccount(account) || what != 0 && what != 1) {
                return NO;
            }
            List<List<Account>> all = states(held.events, size(), gone(), null, -1, -1);
            int most = 0;
            for (List<Account> s : all) {
                most = Math.max(most, s.get(account).balance);
            }
            if (what == 0) {
                return most;
            }
            for (int i = 0; i < all.size(); i++) {
                if (all.get(i).get(account).balance == most) {
                    return i == 0 ? -2 : i - 1;
                }
            }
            return -2;
        }

        int touches(int event) {
            if (!isPlain(event)) {
                return -1;
            }
            int n = 0;
            List<Integer> now = causes();
            List<Integer> then = causesWithout(event);
            for (int i = 0; i < size(); i++) {
                if (i != event && !now.get(i).equals(then.get(i))) {
                    n++;
                }
            }
            return n;
        }

        int ifPlain(int kind, int shape) {
            if (kind < 0 || kind > 6 || shape < 1 || shape > 2) {
                return -1;
            }
            List<Integer> causes = new ArrayList<>();
            states(held.events, size(), gone(), causes, kind, shape);
            return (int) causes.stream().filter(c -> c != 0).count();
        }

        int resnap(int every, int keep) {
            if (every < 1 || every > 999 || keep < 0 || keep > 6) {
                return -1;
            }
            remember();
            List<Event> events = held.events;
            held.events = new ArrayList<>();
            held.snapshots = new ArrayList<>();
            held.every = every;
            held.keep = keep;
            for (Event e : events) {
                come(held, e);
            }
            return held.snapshots.size();
        }

        void seeNext(Tally t, TallyTerm term) {
            Event e = held.events.get(t.place);
            if (e.isVoid()) {
                t.counted.remove(e.target);
            } else if (e.kind == term.kind && causes().get(t.place) == 0 && !gone().contains(t.place)) {
                t.counted.put(t.place, lift(e, -1, -1)[term.field - 1]);
            }
            t.place++;
        }

        int see(int tally, int n) {
            if (!isTally(tally) || n < 1 || n > 120) {
                return -1;
            }
            if (held.tallies.get(tally).place >= size()) {
                return -2;
            }
            remember();
            int seen = 0;
            while (seen < n && held.tallies.get(tally).place < size()) {
                seeNext(held.tallies.get(tally), terms.get(tally));
                seen++;
            }
            return seen;
        }

        int rewind(int tally) {
            if (!isTally(tally)) {
                return -1;
            }
            remember();
            int was = held.tallies.get(tally).place;
            held.tallies.set(tally, new Tally());
            return was;
        }

        int tally(int tally, int what) {
            if (!isTally(tally)) {
                return NO;
            }
            Tally t = held.tallies.get(tally);
            int sum = t.counted.values().stream().mapToInt(Integer::intValue).sum();
            switch (what) {
                case 0: return t.place;
                case 1: return size() - t.place;
                case 2: return t.counted.size();
                case 3: return terms.get(tally).kind;
                case 4: return terms.get(tally).field;
                case 5: return sum;
                case 6:
                    Tally anew = new Tally();
                    while (anew.place < size()) {
                        seeNext(anew, terms.get(tally));
                    }
                    return anew.counted.values().stream().mapToInt(Integer::intValue).sum() - sum;
                default: return NO;
            }
        }

        int sum(int tally, int account) {
            if (!isTally(tally) || !isAccount(account)) {
                return NO;
            }
            int sum = 0;
            for (Map.Entry<Integer, Integer> c : held.tallies.get(tally).counted.entrySet()) {
                sum += held.events.get(c.getKey()).account == account ? c.getValue() : 0;
            }
            return sum;
        }

        int chance(int seed, int n, int what) {
            int refused = what == 1 ? NO : -1;
            if (seed < -1 || n < 1 || n > 60 || what < 0 || what > 2 || accounts.isEmpty() || size() + n > 120) {
                return refused;
            }
            Held h = held.copy();
            long last = seed == -1 ? this.seed : seed;
            long[] modulo = {5, accounts.size(), 1000};
            for (int i = 0; i < n; i++) {
                int[] drawn = new int[3];
                for (int d = 0; d < 3; d++) {
                    last = (last * 1103515245L + 12345L) % (1L << 31);
                    drawn[d] = (int) (last / 65536 % modulo[d]);
                }
                come(h, new Event(drawn[0], drawn[1], -2, latest(), 3, new int[] {drawn[2], 0, 0}, -1));
            }
            if (what == 2) {
                return h.taken;
            }
            List<Integer> causes = new ArrayList<>();
            List<Account> end = states(h.events, h.events.size(), gone(), causes, -1, -1).get(h.events.size());
            if (what == 1) {
                return end.stream().mapToInt(a -> a.balance).sum();
            }
            return (int) causes.subList(size(), causes.size()).stream().filter(c -> c != 0).count();
        }

        int undo() {
            if (past.isEmpty()) {
                return -1;
            }
            held = past.remove(past.size() - 1);
            return past.size();
        }

        int keep() {
            image = held.copy();
            return size();
        }

        int back() {
            if (image == null) {
                return -1;
            }
            held = image.copy();
            past.clear();
            return size();
        }

        int count(int what) {
            switch (what) {
                case 0: return accounts.size();
                case 1: return size();
                case 2: return terms.size();
                case 3: return held.snapshots.size();
                case 4: return (int) causes().stream().filter(c -> c != 0).count();
                case 5: return gone().size();
                case 6: return latest();
                case 7: return (int) states(held.events, size(), gone(), null, -1, -1).get(size()).stream().filter(a -> a.open).count();
                case 8: return weights(held.events, 0, size());
                case 9: return past.size();
                case 10: return tape.length();
                case 11: return held.every;
                case 12: return held.keep;
                default: return -1;
            }
        }
    }

    // ---- random texts

    static int small(Random r) {
        int[] some = {0, 1, 2, 3, 5, 10, 50, 100, 300, 999, 1000, 1001, 5000, 50000, 99999};
        return r.nextInt(3) == 0 ? r.nextInt(100) : some[r.nextInt(some.length)];
    }

    static final String[] NAMES = {"a", "b", "c", "dd", "abcdef", "z", "x", "y", "zzzzzz", "tt", "u", "opens"};

    static String text(Random r) {
        StringBuilder s = new StringBuilder();
        int accounts = 1 + r.nextInt(r.nextInt(6) == 0 ? 9 : 3);
        for (int i = 0; i < accounts; i++) {
            s.append("account ").append(NAMES[i]).append(";");
        }
        int tallies = r.nextInt(r.nextInt(6) == 0 ? 6 : 3);
        for (int i = 0; i < tallies; i++) {
            s.append("tally ").append(NAMES[i]).append(" ").append(KINDS[r.nextInt(7)]).append(" ").append(1 + r.nextInt(3)).append(";");
        }
        if (r.nextInt(4) > 0) {
            s.append("snap ").append(1 + r.nextInt(9)).append(" ").append(r.nextInt(7)).append(";");
        }
        if (r.nextBoolean()) {
            s.append("seed ").append(r.nextInt(100000)).append(";");
        }
        int time = 0;
        List<Integer> plain = new ArrayList<>();
        int events = 0;
        int lines = r.nextInt(30);
        boolean dense = r.nextInt(8) == 0;
        for (int i = 0; i < accounts && r.nextInt(5) > 0; i++) {
            s.append("open ").append(NAMES[i]).append(" 0 1 ").append(small(r)).append(";");
            plain.add(events++);
        }
        for (int i = 0; i < (dense ? 60 : lines); i++) {
            time += r.nextInt(3);
            int what = r.nextInt(12);
            if (what < 2 && !dense) {
                int op = r.nextInt(4);
                s.append("lift ").append(KINDS[r.nextInt(7)]).append(" ").append(1 + r.nextInt(2)).append(" ").append(OPS[op]).append(" ")
                        .append(1 + r.nextInt(3)).append(" ").append(op == 3 ? 1 + r.nextInt(3) : r.nextInt(1000)).append(";");
            } else if (what == 3 && !plain.isEmpty()) {
                s.append("void ").append(plain.remove(r.nextInt(plain.size()))).append(" ").append(time).append(";");
                events++;
            } else {
                int kind = r.nextInt(3) > 0 ? 1 + r.nextInt(2) : r.nextInt(7);
                int a = r.nextInt(accounts);
                s.append(KINDS[kind]).append(" ").append(NAMES[a]).append(" ");
                if (kind == 6) {
                    s.append(NAMES[r.nextInt(accounts)]).append(" ");
                }
                int shape = dense ? 1 : 1 + r.nextInt(3);
                s.append(time).append(" ").append(shape);
                for (int f = 0; f < shape; f++) {
                    s.append(r.nextInt(9) == 0 ? "\n" : " ").append(dense ? r.nextInt(10) : small(r));
                }
                s.append(";");
                plain.add(events++);
            }
        }
        return s.length() > 900 ? s.substring(0, 900) : s.toString();
    }

    static String spoiled(Random r, String text) {
        StringBuilder s = new StringBuilder(text);
        String signs = "abz019; ;  \n-A\t_;\u00e9{`:/";
        String[] parts = {"account a;", "account q;", "account;", "tally a put 1;", "snap 3 3;", "seed 5;", "void 0 9999;", "void 1 3;", "void 2 9999;",
            "void 99 1;", "void 4294967296 1;", "move a a 9 3 1 1 1;", "move a b 9 1 1;", "lift put 3 set 1 1;", "lift put 1 copy 1 4;", "lift put 1 copy 1 0;",
            "lift put 1 set 1 1000;", "lift void 1 set 1 1;", "lift put 1 set 0 1;", "put a 9999 4;", "put a 10000 1 1;", "put a 9999 1 100000;",
            "put a 9999 0 1;", "accounts x;", "account abcdefg;", "account account;", "set 1;", "lift put 2 add 1 1;", "tally q void 1;", "tally q put 0;", ";", "q;", "1;"};
        int changes = 1 + r.nextInt(3);
        for (int i = 0; i < changes; i++) {
            int p = s.length() == 0 ? 0 : r.nextInt(s.length());
            switch (r.nextInt(5)) {
                case 0:
                    s.insert(p, signs.charAt(r.nextInt(signs.length())));
                    break;
                case 1:
                    if (s.length() > 0) {
                        s.setCharAt(p, signs.charAt(r.nextInt(signs.length())));
                    }
                    break;
                case 2:
                    if (s.length() > 0) {
                        s.deleteCharAt(p);
                    }
                    break;
                case 3:
                    s.setLength(p);
                    break;
                default:
                    int semi = s.indexOf(";", p);
                    s.insert(semi < 0 ? s.length() : semi + 1, parts[r.nextInt(parts.length)]);
                    break;
            }
        }
        return s.length() > 900 ? s.substring(0, 900) : s.toString();
    }

    // ---- random calls

    static int loose(Random r, int below) {
        return r.nextInt(12) == 0 ? r.nextInt(below + 6) - 3 : r.nextInt(Math.max(1, below));
    }

    static int wild(Random r) {
        int[] some = {Integer.MIN_VALUE, -2, -1, 0, 1, Integer.MAX_VALUE, 10000, 9999, 100000, 99999, 120, 121, 60, 61, 1000, 999};
        return some[r.nextInt(some.length)];
    }

    static void tellBoth(int run, Random r, EventLedger x, Model m, String text) {
        byte[] bytes = new byte[(text.length() + 19) / 20 * 20];
        for (int i = 0; i < bytes.length; i++) {
            bytes[i] = (byte) (i < text.length() ? text.charAt(i) : 32);
        }
        for (int i = 0; i < bytes.length; i += 20) {
            int[] n = new int[5];
            for (int j = 0; j < 5; j++) {
                n[j] = Check.four(bytes, i + 4 * j);
            }
            Check.due("run " + run + ": feed", x.feed(n[0], n[1], n[2], n[3], n[4]), m.feed(n));
        }
        int n = r.nextInt(20) == 0 ? wild(r) : text.length();
        Check.due("run " + run + ": text(" + n + ") of " + text, x.text(n), m.text(n));
        Check.due("run " + run + ": fault(0) of " + text, x.fault(0), m.fault);
        Check.due("run " + run + ": fault(1) of " + text, x.fault(1), m.place);
    }

    static void call(int run, Random r, EventLedger x, Model m) {
        String at = "run " + run + ": ";
        int e = loose(r, m.size());
        int a = loose(r, m.accounts.size());
        int b = loose(r, m.accounts.size());
        int t = loose(r, m.terms.size());
        int w = loose(r, 4);
        int time = r.nextInt(15) == 0 ? wild(r) : Math.max(0, m.latest()) + r.nextInt(4) - (r.nextInt(10) == 0 ? 2 : 0);
        int past = r.nextInt(20) == 0 ? wild(r) : r.nextInt(Math.max(1, m.latest() + 3));
        int one = r.nextInt(20) == 0 ? wild(r) : small(r);
        int two = r.nextInt(20) == 0 ? wild(r) : r.nextInt(2) * small(r);
        int kind = r.nextInt(30) == 0 ? wild(r) : r.nextInt(3) == 0 ? r.nextInt(7) : 1 + r.nextInt(2);
        switch (r.nextInt(36)) {
            case 0: case 1: case 2: case 3:
                Check.due(at + "event", x.event(kind, a, b, time, one, two), m.event(kind, a, b, time, 3, one, two));
                break;
            case 4: case 5: case 6:
                Check.due(at + "old", x.old(kind, a, b, time, one), m.event(kind, a, b, time, 1, one, 0));
                break;
            case 7:
                Check.due(at + "revoke", x.revoke(e, time), m.revoke(e, time));
                break;
            case 8:
                int every = r.nextInt(20) == 0 ? wild(r) : 1 + r.nextInt(12);
                int keep = r.nextInt(20) == 0 ? wild(r) : r.nextInt(7);
                Check.due(at + "resnap", x.resnap(every, keep), m.resnap(every, keep));
                break;
            case 9: case 10:
                int n = r.nextInt(15) == 0 ? wild(r) : 1 + r.nextInt(20);
                Check.due(at + "see", x.see(t, n), m.see(t, n));
                break;
            case 11:
                if (r.nextInt(3) == 0) {
                    Check.due(at + "rewind", x.rewind(t), m.rewind(t));
                }
                break;
            case 12: case 13:
                Check.due(at + "undo", x.undo(), m.undo());
                break;
            case 14:
                if (r.nextInt(3) == 0) {
                    Check.due(at + "keep", x.keep(), m.keep());
                }
                break;
            case 15:
                if (r.nextInt(6) == 0) {
                    Check.due(at + "back", x.back(), m.back());
                }
                break;
            case 16:
                int seed = r.nextBoolean() ? -1 : r.nextInt(10) == 0 ? wild(r) : r.nextInt(Integer.MAX_VALUE);
                int times = r.nextInt(10) == 0 ? wild(r) : 1 + r.nextInt(60);
                for (int what = 0; what < 3; what++) {
                    Check.due(at + "chance " + what, x.chance(seed, times, what), m.chance(seed, times, what));
                }
                break;
            default:
                ask(at, r, x, m, e, a, t, w, past);
                break;
        }
    }

    static void ask(String at, Random r, EventLedger x, Model m, int e, int a, int t, int w, int past) {
        int what = r.nextInt(20) == 0 ? wild(r) : r.nextInt(9);
        boolean lifted = r.nextBoolean();
        int k = loose(r, 5);
        switch (r.nextInt(19)) {
            case 0:
                Check.due(at + "of " + what, Check.of(x, e, what), m.of(e, what));
                break;
            case 1:
                Check.due(at + "field", x.field(e, w, lifted), m.field(e, w, lifted));
                break;
            case 2:
                Check.due(at + "account", x.account(a, w), m.account(a, w));
                break;
            case 3:
                Check.due(at + "at", x.at(past, a, w), m.at(past, a, w));
                break;
            case 4:
                Check.due(at + "known", x.known(past, a, w), m.known(past, a, w));
                break;
            case 5:
                Check.due(at + "cost", x.cost(e), m.cost(e));
                break;
            case 6:
                Check.due(at + "costAt", x.costAt(past), m.costAt(past));
                break;
            case 7:
                Check.due(at + "snapshot", x.snapshot(k), m.snapshot(k));
                break;
            case 8:
                Check.due(at + "inSnapshot", x.inSnapshot(k, a, w), m.inSnapshot(k, a, w));
                break;
            case 9:
                Check.due(at + "bestPlace", x.bestPlace(k), m.bestPlace(k));
                break;
            case 10:
                Check.due(at + "aside", x.aside(k), m.aside(k));
                break;
            case 11:
                int aside = m.aside(Math.max(0, k));
                int blamed = aside >= 0 && r.nextInt(5) > 0 ? aside : e;
                Check.due(at + "blame", x.blame(blamed), m.blame(blamed));
                break;
            case 12:
                Check.due(at + "without", x.without(e, a), m.without(e, a));
                break;
            case 13:
                Check.due(at + "firstBelow", x.firstBelow(a), m.firstBelow(a));
                break;
            case 14:
                Check.due(at + "peak", x.peak(a, w), m.peak(a, w));
                break;
            case 15:
                Check.due(at + "touches", x.touches(e), m.touches(e));
                break;
            case 16:
                int kind = loose(r, 7);
                int shape = loose(r, 3);
                Check.due(at + "ifPlain", x.ifPlain(kind, shape), m.ifPlain(kind, shape));
                break;
            case 17:
                Check.due(at + "tally " + what, x.tally(t, what), m.tally(t, what));
                break;
            default:
                Check.due(at + "sum", x.sum(t, a), m.sum(t, a));
                break;
        }
    }

    static void all(int run, EventLedger x, Model m) {
        String at = "run " + run + " at its end: ";
        for (int i = -1; i <= 13; i++) {
            Check.due(at + "count " + i, x.count(i), m.count(i));
        }
        for (int e = 0; e < m.size(); e++) {
            Check.due(at + "cause of " + e, Check.of(x, e, 5), m.of(e, 5));
            Check.due(at + "voided " + e, Check.of(x, e, 6), m.of(e, 6));
        }
        for (int a = 0; a < m.accounts.size(); a++) {
            for (int w = 0; w < 4; w++) {
                Check.due(at + "account", x.account(a, w), m.account(a, w));
            }
        }
        for (int k = 0; k < 7; k++) {
            Check.due(at + "snapshot", x.snapshot(k), m.snapshot(k));
        }
        for (int i = 0; i < m.accounts.size(); i++) {
            Check.due(at + "named", x.named(0, Check.letters(m.accounts.get(i))), i);
        }
        for (int i = 0; i < m.terms.size(); i++) {
            Check.due(at + "named", x.named(1, Check.letters(m.terms.get(i).name)), i);
        }
    }

    public static void main(String[] args) {
        for (int run = 0; run < 1500 && Check.failed() < 20; run++) {
            Random r = new Random(run);
            EventLedger x = new EventLedger();
            Model m = new Model();
            int calls = 100 + r.nextInt(300);
            for (int i = 0; i < calls; i++) {
                if (i == 0 || r.nextInt(150) == 0) {
                    String text = text(r);
                    tellBoth(run, r, x, m, i > 0 && r.nextBoolean() ? spoiled(r, text) : text);
                }
                call(run, r, x, m);
            }
            all(run, x, m);
        }
        for (int run = 0; run < 20000 && Check.failed() < 20; run++) {
            Random r = new Random(-run - 1);
            EventLedger x = new EventLedger();
            Model m = new Model();
            tellBoth(-run - 1, r, x, m, spoiled(r, text(r)));
            if (run % 20 == 0) {
                all(-run - 1, x, m);
            }
        }
        Check.end();
    }
}
