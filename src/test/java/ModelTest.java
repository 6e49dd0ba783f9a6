import java.util.ArrayList;
import java.util.Arrays;
import java.util.HashMap;
import java.util.HashSet;
import java.util.List;
import java.util.Map;
import java.util.Random;
import java.util.Set;
import java.util.TreeSet;

/** Random runs of calls, each answer held against a slow model that does what the document's words say, one by one. */
public final class ModelTest {
    private static final int RUNS = 1000;
    private static final int CALLS = 330;
    private static int wrong = 0;

    public static void main(String[] args) {
        Map<String, Set<Long>> seen = new HashMap<>();
        for (int run = 0; run < RUNS && wrong < 20; run++) {
            new Run(run, seen).play();
        }
        new HashSet<>(seen.keySet()).forEach(name -> {
            if (seen.get(name).size() < 2 && !name.equals("sheet")) {
                wrong++;
                System.out.println(name + " answered always alike: " + seen.get(name));
            }
        });
        System.out.println(wrong == 0 ? "the model agrees" : wrong + " answers are not the model's");
        if (wrong != 0) {
            System.exit(1);
        }
    }

    /** One run of calls on one object. */
    private static final class Run {
        final int number;
        final Random random;
        final LockedToAnothers real = new LockedToAnothers();
        final Model model = new Model();
        final Map<String, Set<Long>> seen;
        final List<String> told = new ArrayList<>();
        final int most;

        Run(int number, Map<String, Set<Long>> seen) {
            this.number = number;
            this.random = new Random(77777L + number);
            this.seen = seen;
            this.most = number % 7 == 0 ? 8 : 1 + random.nextInt(6);
        }

        void play() {
            setUp();
            for (int i = told.size(); i < CALLS; i++) {
                oneCall();
            }
        }

        void check(String name, String call, long got, long want) {
            told.add(call);
            seen.computeIfAbsent(name, k -> new TreeSet<>()).add(got);
            if (got != want) {
                wrong++;
                System.out.println("run " + number + ": " + call + " answered " + got + ", the model " + want);
                if (wrong < 3) {
                    System.out.println("  after " + told);
                }
            }
        }

        int below(int n) {
            return random.nextInt(n);
        }

        /** Mostly 0 .. n - 1, at times just outside or far off. */
        int about(int n) {
            int dice = below(40);
            if (dice == 0) {
                return -1;
            }
            if (dice == 1) {
                return n;
            }
            if (dice == 2) {
                return random.nextInt();
            }
            return n <= 0 ? below(3) : below(n);
        }

        int aThing() {
            return about(model.things.size());
        }

        int aLock() {
            return about(model.locks.size());
        }

        int aSet() {
            if (below(30) == 0) {
                return below(700) - 60;
            }
            int n = Math.max(1, model.things.size());
            int set = 1 << below(n) | 1 << below(n);
            if (below(3) == 0) {
                set |= 1 << below(n);
            }
            if (below(4) == 0) {
                set |= 256;
            }
            return below(12) == 0 ? 1 << below(n) : set;
        }

        void aNewThing() {
            int k = below(3) == 0 ? 0 : about(6);
            int m = about(10);
            int h = about(24);
            check("thing", "thing(" + k + ", " + m + ", " + h + ")", real.thing(k, m, h), model.thing(k, m, h));
        }

        void aNewLock() {
            int o = aThing();
            int sort = about(3);
            int set = aSet();
            check("lock", "lock(" + o + ", " + sort + ", " + set + ")", real.lock(o, sort, set), model.lock(o, sort, set));
        }

        void aText() {
            String text = new Texts(random).text();
            for (int i = 0; i < text.length(); i += 5) {
                int n = Math.min(5, text.length() - i);
                int[] b = new int[5];
                for (int j = 0; j < 5; j++) {
                    b[j] = j < n ? text.charAt(i + j) : below(256);
                }
                feed(n, b);
            }
            check("text", "text()", real.text(), model.text());
        }

        void feed(int n, int[] b) {
            String call = "feed(" + n + Arrays.toString(b) + ")";
            check("feed", call, real.feed(n, b[0], b[1], b[2], b[3], b[4]), model.feed(n, b));
        }

        void setUp() {
            for (int i = 0; i < most; i++) {
                aNewThing();
            }
            int locks = below(11);
            for (int i = 0; i < locks; i++) {
                aNewLock();
            }
            int texts = below(9) == 0 ? 9 : below(3);
            for (int i = 0; i < texts; i++) {
                aText();
            }
            if (texts > 0) {
                int t = below(model.texts.size() + 1);
                check("force", "force(" + t + ")", real.force(t), model.force(t));
            }
        }

        void oneCall() {
            int dice = below(100);
            if (dice < 12) {
                change();
            } else if (dice < 22) {
                host();
            } else if (dice < 30) {
                tell();
            } else {
                ask();
            }
        }

        void change() {
            int t = aThing();
            int l = aLock();
            int h = about(24);
            switch (below(16)) {
                case 0: if (model.things.size() < most || below(10) == 0) aNewThing(); break;
                case 1: case 2: aNewLock(); break;
                case 3: check("come", "come(" + t + ", " + h + ")", real.come(t, h), model.come(t, h)); break;
                case 4: case 5: case 6: relock(l); break;
                case 7: if (below(2) == 0) check("go", "go(" + t + ")", real.go(t), model.go(t)); break;
                case 8: check("saw", "saw(" + l + ")", real.saw(l), model.saw(l)); break;
                case 9: { int p = below(3) == 0 ? about(25) : below(9); check("pass", "pass(" + p + ")", real.pass(p), model.pass(p)); break; }
                case 10: check("image", "image()", real.image(), model.image()); break;
                case 11: case 12: case 13: check("back", "back()", real.back(), model.back()); break;
                case 14: if (below(3) == 0) aText(); break;
                default: { int x = about(model.texts.size()); check("force", "force(" + x + ")", real.force(x), model.force(x)); }
            }
        }

        void relock(int l) {
            int what = about(3);
            int v = what == 0 ? aThing() : what == 1 ? about(3) : aSet();
            check("relock", "relock(" + l + ", " + what + ", " + v + ")", real.relock(l, what, v), model.relock(l, what, v));
        }

        void host() {
            int s = about(4);
            int o = about(4);
            int sort = about(3);
            switch (below(9)) {
                case 0: { int n = below(3) == 0 ? about(41) : below(8); int so = below(15) == 0 ? -1 : sort;
                    check("sheet", "sheet(" + s + ", " + so + ", " + n + ")", real.sheet(s, so, n), model.sheet(s, so, n)); break; }
                case 1: case 2: case 3: { int i = about(8); int v = below(4) == 0 ? random.nextInt() : below(3) == 0 ? aSet() : below(9) - 1;
                    check("cell", "cell(" + s + ", " + i + ", " + v + ")", real.cell(s, i, v), model.cell(s, i, v)); break; }
                case 4: { int i = about(8); int j = about(8); int n = about(6);
                    check("copy", "copy(" + s + "," + i + "," + o + "," + j + "," + n + ")", real.copy(s, i, o, j, n), model.copy(s, i, o, j, n)); break; }
                case 5: { int at = about(8); int n = about(4);
                    check("locksBy", "locksBy(" + s + "," + sort + "," + at + "," + n + ")", real.locksBy(s, sort, at, n), model.locksBy(s, sort, at, n)); break; }
                case 6: check("film", "film(" + s + ")", real.film(s), model.film(s)); break;
                default: { int i = about(18); int k = about(7);
                    check("taken", "taken(" + i + ", " + k + ")", real.taken(i, k), model.taken(i, k)); }
            }
        }

        /** Writes a sheet that is near to what it is asked for, and asks. */
        void tell() {
            int s = below(4);
            int form = below(3);
            int[] row;
            switch (form) {
                case 0: row = model.someGoings(random); break;
                case 1: row = model.someSaws(random); break;
                default: row = model.dayHours(model.comings());
            }
            int sort = below(3);
            check("sheet", "sheet(" + s + ", " + sort + ", " + row.length + ")", real.sheet(s, sort, row.length), model.sheet(s, sort, row.length));
            for (int i = 0; i < row.length; i++) {
                int v = below(25) == 0 ? row[i] + below(3) - 1 : row[i];
                check("cell", "cell(" + s + ", " + i + ", " + v + ")", real.cell(s, i, v), model.cell(s, i, v));
            }
            askOfSheet(s, form);
        }

        void askOfSheet(int s, int form) {
            int l = aLock();
            int t = aThing();
            int what = about(2);
            if (form == 0) {
                check("judge", "judge(" + s + ")", real.judge(s), model.judge(s));
                check("whose", "whose(" + s + ", " + l + ", " + what + ")", real.whose(s, l, what), model.whose(s, l, what));
                check("kinds", "kinds(" + s + ", " + t + ")", real.kinds(s, t), model.kinds(s, t));
            } else if (form == 1) {
                check("laws", "laws(" + s + ")", real.laws(s), model.laws(s));
            } else {
                check("seen", "seen(" + s + ")", real.seen(s), model.seen(s));
            }
        }

        void ask() {
            int t = aThing();
            int l = aLock();
            int w = about(2);
            String tw = "(" + t + ", " + w + ")";
            switch (below(30)) {
                case 0: { int c = about(7); check("count", "count(" + c + ")", real.count(c), model.count(c)); break; }
                case 1: { int p = about(3); int lo = below(4) == 0 ? -1 : l; int h = about(24);
                    check("asks", "asks(" + p + "," + t + "," + lo + "," + h + ")", real.asks(p, t, lo, h), model.asks(p, t, lo, h)); break; }
                case 2: { int c = about(4); check("told", "told(" + t + "," + c + ")", real.told(t, c), model.told(t, c)); break; }
                case 3: { int c = about(5); check("lockTold", "lockTold(" + l + "," + c + ")", real.lockTold(l, c), model.lockTold(l, c)); break; }
                case 4: check("holds", "holds(" + t + ")", real.holds(t), model.holds(t)); break;
                case 5: check("free", "free()", real.free(), model.free()); break;
                case 6: check("waits", "waits(" + t + ")", real.waits(t), model.waits(t)); break;
                case 7: check("never", "never()", real.never(), model.never()); break;
                case 8: check("first", "first" + tw, real.first(t, w), model.first(t, w)); break;
                case 9: check("ring", "ring" + tw, real.ring(t, w), model.ring(t, w)); break;
                case 10: { int set = below(4) == 0 ? about(256) : model.goneBits() | below(1 << model.things.size());
                    check("rows", "rows(" + set + ")", real.rows(set), model.rows(set)); break; }
                case 11: check("ways", "ways()", real.ways(), model.ways()); break;
                case 12: check("row", "row()", real.row(), model.row()); break;
                case 13: check("hour", "hour(" + t + ")", real.hour(t), model.hour(t)); break;
                case 14: { int c = about(3); check("day", "day(" + c + ")", real.day(c), model.day(c)); break; }
                case 15: check("sawFor", "sawFor" + tw, real.sawFor(t, w), model.sawFor(t, w)); break;
                case 16: check("sawAll", "sawAll(" + w + ")", real.sawAll(w), model.sawAll(w)); break;
                case 17: check("keys", "keys(" + t + ")", real.keys(t), model.keys(t)); break;
                case 18: check("note", "note" + tw, real.note(t, w), model.note(t, w)); break;
                case 19: check("out", "out(" + t + ")", real.out(t), model.out(t)); break;
                case 20: check("steals", "steals()", real.steals(), model.steals()); break;
                case 21: check("theft", "theft(" + t + ")", real.theft(t), model.theft(t)); break;
                case 22: check("loot", "loot(" + w + ")", real.loot(w), model.loot(w)); break;
                case 23: case 24: { int so = about(3); check("guard", "guard(" + t + "," + so + "," + w + ")", real.guard(t, so, w), model.guard(t, so, w)); break; }
                case 25: { int seed = about(100000); check("drawn", "drawn(" + seed + "," + t + ")", real.drawn(seed, t), model.drawn(seed, t)); break; }
                case 26: { int seed = below(5) == 0 ? 99999 : about(100000); int n = about(41); int th = below(15) == 0 ? random.nextInt() : t * 100 + about(24);
                    check("odds", "odds(" + seed + "," + n + "," + th + "," + w + ")", real.odds(seed, n, th, w), model.odds(seed, n, th, w)); break; }
                default: askOfSheet(about(4), below(3));
            }
        }
    }

    /** Texts, mostly good ones, at times with something put wrong. */
    private static final class Texts {
        final Random random;

        Texts(Random random) {
            this.random = random;
        }

        String text() {
            String text = space() + "takes" + space(1) + e(0) + space() + ";" + space() + "saws" + space(1) + e(0) + space() + ";"
                + space() + "minds" + space(1) + e(0) + space() + ";" + space();
            int dice = random.nextInt(4);
            if (dice == 0) {
                text = spoiled(text);
            }
            return text.length() > 175 ? text.substring(0, 175) : text;
        }

        String spoiled(String text) {
            String[] odd = {"not ", "- ", "(", ")", "12345", "mores", "A", ";", "or ", "\t", "9", "<", "=", "and ", "x", "\u00e9", "takes", ""};
            int at = random.nextInt(text.length());
            String piece = odd[random.nextInt(odd.length)];
            int cut = random.nextInt(3);
            return text.substring(0, at) + piece + (piece.isEmpty() ? "" : text.substring(Math.min(text.length(), at + cut)));
        }

        String space() {
            int dice = random.nextInt(6);
            return dice == 0 ? "\n" : dice < 3 ? " " : "";
        }

        String space(int least) {
            return random.nextInt(3) == 0 ? "\n " : " ";
        }

        String e(int depth) {
            StringBuilder b = new StringBuilder(and(depth));
            while (random.nextInt(8) == 0) {
                b.append(" or ").append(and(depth));
            }
            return b.toString();
        }

        String and(int depth) {
            StringBuilder b = new StringBuilder(not(depth));
            while (random.nextInt(8) == 0) {
                b.append(" and ").append(not(depth));
            }
            return b.toString();
        }

        String not(int depth) {
            if (random.nextInt(7) == 0 && depth < 7) {
                return "not " + not(depth + 1);
            }
            int dice = random.nextInt(9);
            return sum(depth) + (dice == 0 ? space() + "<" + space() + sum(depth) : dice == 1 ? "=" + sum(depth) : "");
        }

        String sum(int depth) {
            StringBuilder b = new StringBuilder(term(depth));
            while (random.nextInt(3) == 0) {
                b.append(space()).append(random.nextInt(2) == 0 ? "+" : "-").append(term(depth));
            }
            return b.toString();
        }

        String term(int depth) {
            StringBuilder b = new StringBuilder(one(depth));
            while (random.nextInt(4) == 0) {
                b.append("*").append(space()).append(one(depth));
            }
            return b.toString();
        }

        String one(int depth) {
            String[] names = {"more", "sort", "hour", "thing", "many", "kind"};
            int dice = random.nextInt(10);
            if (dice == 0 && depth < 7) {
                return "-" + space() + one(depth + 1);
            }
            if (dice == 1 && depth < 7) {
                return "(" + space() + e(depth + 1) + ")";
            }
            if (dice < 6) {
                return names[random.nextInt(names.length)];
            }
            int digits = random.nextInt(30) == 0 ? 5 : random.nextInt(25) == 0 ? 4 : 1 + random.nextInt(2);
            StringBuilder b = new StringBuilder();
            for (int i = 0; i < digits; i++) {
                b.append((char) ('0' + random.nextInt(10)));
            }
            return b.toString();
        }
    }

    /** The fault of a text. */
    private static final class Fault extends RuntimeException {
        private static final long serialVersionUID = 1L;
        final int place;

        Fault(int place) {
            this.place = place;
        }
    }

    /** Reads a text each time anew and works it out on the way. */
    private static final class Script {
        final String text;
        final Map<String, Integer> names;
        int at = 0;
        int open = 0;

        Script(String text, Map<String, Integer> names) {
            this.text = text;
            this.names = names;
        }

        int[] parts() {
            int[] worth = new int[3];
            String[] keys = {"takes", "saws", "minds"};
            for (int i = 0; i < 3; i++) {
                need(keys[i]);
                worth[i] = e();
                need(";");
            }
            if (!peek().isEmpty()) {
                throw new Fault(at);
            }
            return worth;
        }

        /** The token at hand; empty: the end. */
        String peek() {
            while (at < text.length() && (text.charAt(at) == ' ' || text.charAt(at) == '\n')) {
                at++;
            }
            if (at == text.length()) {
                return "";
            }
            int end = at;
            while (end < text.length() && text.charAt(end) >= 'a' && text.charAt(end) <= 'z') {
                end++;
            }
            if (end == at) {
                while (end < text.length() && text.charAt(end) >= '0' && text.charAt(end) <= '9') {
                    end++;
                }
            }
            return text.substring(at, Math.max(end, at + 1));
        }

        void need(String token) {
            if (!peek().equals(token)) {
                throw new Fault(at);
            }
            at += token.length();
        }

        boolean took(String token) {
            if (peek().equals(token)) {
                at += token.length();
                return true;
            }
            return false;
        }

        void opens() {
            if (open == 5) {
                throw new Fault(at);
            }
            open++;
        }

        int e() {
            int worth = and();
            while (took("or")) {
                int other = and();
                worth = worth != 0 || other != 0 ? 1 : 0;
            }
            return worth;
        }

        int and() {
            int worth = not();
            while (took("and")) {
                int other = not();
                worth = worth != 0 && other != 0 ? 1 : 0;
            }
            return worth;
        }

        int not() {
            if (peek().equals("not")) {
                opens();
                need("not");
                int worth = not() == 0 ? 1 : 0;
                open--;
                return worth;
            }
            int worth = sum();
            if (took("<")) {
                return worth < sum() ? 1 : 0;
            }
            return took("=") ? worth == sum() ? 1 : 0 : worth;
        }

        int sum() {
            int worth = term();
            while (true) {
                if (took("+")) {
                    worth += term();
                } else if (took("-")) {
                    worth -= term();
                } else {
                    return worth;
                }
            }
        }

        int term() {
            int worth = one();
            while (took("*")) {
                worth *= one();
            }
            return worth;
        }

        int one() {
            String token = peek();
            if (token.equals("-")) {
                opens();
                need("-");
                int worth = -one();
                open--;
                return worth;
            }
            if (token.equals("(")) {
                opens();
                need("(");
                int worth = e();
                need(")");
                open--;
                return worth;
            }
            if (names.containsKey(token)) {
                need(token);
                return names.get(token);
            }
            if (token.matches("[0-9]{1,4}")) {
                need(token);
                return Integer.parseInt(token);
            }
            throw new Fault(at);
        }
    }

    private static final class Thing {
        int kind;
        int more;
        int hour;
        boolean gone;

        Thing(int kind, int more, int hour, boolean gone) {
            this.kind = kind;
            this.more = more;
            this.hour = hour;
            this.gone = gone;
        }
    }

    private static final class Lock {
        int owner;
        int sort;
        int set;
        boolean sawn;

        Lock(int owner, int sort, int set, boolean sawn) {
            this.owner = owner;
            this.sort = sort;
            this.set = set;
            this.sawn = sawn;
        }
    }

    private static final class Model {
        static final int BAD = -2, STATE = -3, FULL = -4;
        List<Thing> things = new ArrayList<>();
        List<Lock> locks = new ArrayList<>();
        List<Thing> imageThings = null;
        List<Lock> imageLocks = null;
        int imageLaw = 0;
        List<String> texts = new ArrayList<>(List.of("takes 0 ; saws 10 + sort * 5 ; minds 1 ;"));
        int law = 0;
        String tape = "";
        int[] sheetSort = {-1, -1, -1, -1};
        int[][] sheets = new int[4][];

        // -- law

        int count(int what) {
            int sawn = 0;
            for (int l = 0; l < locks.size(); l++) {
                sawn |= locks.get(l).sawn ? 1 << l : 0;
            }
            int[] all = {things.size(), locks.size(), goneBits(), sawn, texts.size(), law, tape.length()};
            return what < 0 || what > 6 ? BAD : all[what];
        }

        int feed(int n, int[] b) {
            if (n < 1 || n > 5) {
                return BAD;
            }
            for (int v : b) {
                if (v < 0 || v > 255) {
                    return BAD;
                }
            }
            if (tape.length() + n > 160) {
                return FULL;
            }
            for (int i = 0; i < n; i++) {
                tape += (char) b[i];
            }
            return tape.length();
        }

        int text() {
            if (texts.size() == 6) {
                return FULL;
            }
            String read = tape;
            tape = "";
            try {
                new Script(read, names(0, 0, 0, 0, 0, 0)).parts();
            } catch (Fault fault) {
                return -100 - fault.place;
            }
            texts.add(read);
            return texts.size() - 1;
        }

        int force(int t) {
            if (t < 0 || t >= texts.size()) {
                return BAD;
            }
            int was = law;
            law = t;
            return was;
        }

        static Map<String, Integer> names(int more, int sort, int hour, int thing, int many, int kind) {
            Map<String, Integer> names = new HashMap<>();
            names.put("more", more);
            names.put("sort", sort);
            names.put("hour", hour);
            names.put("thing", thing);
            names.put("many", many);
            names.put("kind", kind);
            return names;
        }

        int says(int text, int part, int t, int l, int hour) {
            Thing thing = things.get(t);
            int sort = l < 0 ? 0 : locks.get(l).sort;
            int many = l < 0 ? 0 : Integer.bitCount(locks.get(l).set);
            int worth = new Script(texts.get(text), names(thing.more, sort, hour, t, many, thing.kind)).parts()[part];
            return worth < 0 ? 0 : worth > 99 ? 99 : worth;
        }

        int asks(int part, int t, int l, int hour) {
            if (part < 0 || part > 2 || !isThing(t) || l < -1 || l >= locks.size() || hour < 0 || hour > 23) {
                return BAD;
            }
            return says(law, part, t, l, hour);
        }

        int sawing(int l) {
            return says(law, 1, locks.get(l).owner, l, 0);
        }

        int off(int t, int l) {
            Thing thing = things.get(t);
            int says = says(law, 0, t, l, 0);
            int[] off = {says, 2 * says, says, says == 0 ? 0 : 2 * says + thing.more, 1, says};
            return off[thing.kind];
        }

        // -- things, locks

        boolean isThing(int t) {
            return t >= 0 && t < things.size();
        }

        boolean isLock(int l) {
            return l >= 0 && l < locks.size();
        }

        int thing(int kind, int more, int hour) {
            if (kind < 0 || kind > 5 || more < 0 || more > 9 || hour < 0 || hour > 23) {
                return BAD;
            }
            if (things.size() == 8) {
                return FULL;
            }
            things.add(new Thing(kind, more, hour, false));
            return things.size() - 1;
        }

        int come(int t, int hour) {
            if (!isThing(t)) {
                return -5;
            }
            if (hour < 0 || hour > 23) {
                return -7;
            }
            int was = things.get(t).hour;
            things.get(t).hour = hour;
            return was;
        }

        int told(int t, int what) {
            if (!isThing(t)) {
                return -5;
            }
            Thing x = things.get(t);
            int[] all = {x.kind, x.more, x.hour, x.gone ? 1 : 0};
            return what < 0 || what > 3 ? -7 : all[what];
        }

        boolean isSet(int set) {
            if (set < 1 || set > 511) {
                return false;
            }
            for (int t = things.size(); t < 8; t++) {
                if ((set >> t & 1) != 0) {
                    return false;
                }
            }
            return true;
        }

        int lock(int owner, int sort, int set) {
            if (!isThing(owner) || sort < 0 || sort > 2 || !isSet(set)) {
                return BAD;
            }
            for (int t = 0; t < things.size(); t++) {
                if (things.get(t).gone && (t == owner || (set >> t & 1) != 0)) {
                    return STATE;
                }
            }
            if (locks.size() == 10) {
                return FULL;
            }
            locks.add(new Lock(owner, sort, set, false));
            return locks.size() - 1;
        }

        int relock(int l, int what, int v) {
            if (!isLock(l)) {
                return -5;
            }
            Lock x = locks.get(l);
            int was;
            if (what == 0 && isThing(v)) {
                was = x.owner;
                x.owner = v;
            } else if (what == 1 && v >= 0 && v <= 2) {
                was = x.sort;
                x.sort = v;
            } else if (what == 2 && isSet(v)) {
                was = x.set;
                x.set = v;
            } else {
                was = -7;
            }
            return was;
        }

        boolean isShut(Lock x) {
            return !x.sawn && !things.get(x.owner).gone;
        }

        int lockTold(int l, int what) {
            if (!isLock(l)) {
                return -5;
            }
            Lock x = locks.get(l);
            int[] all = {x.owner, x.sort, x.set, x.sawn ? 1 : 0, isShut(x) ? 1 : 0};
            return what < 0 || what > 4 ? -7 : all[what];
        }

        // -- who can go

        boolean sortHolds(Lock x, int t) {
            Thing thing = things.get(t);
            boolean scooter = x.sort != 0;
            boolean[] holds = {true, true, scooter, true, scooter && 3 * x.sort > thing.more, true};
            return holds[thing.kind];
        }

        boolean fixes(Lock x, int t) {
            if (!isShut(x) || (x.set >> t & 1) == 0 || !sortHolds(x, t)) {
                return false;
            }
            for (int u = 0; u < things.size(); u++) {
                if (u != t && (x.set >> u & 1) != 0 && !things.get(u).gone) {
                    return true;
                }
            }
            return (x.set & 256) != 0;
        }

        boolean lockHolds(Lock x, int t) {
            return fixes(x, t) && x.owner != t;
        }

        boolean canGo(int t) {
            if (things.get(t).gone) {
                return false;
            }
            for (Lock x : locks) {
                if (lockHolds(x, t)) {
                    return false;
                }
            }
            return true;
        }

        boolean goesIn(int t, int h) {
            Thing thing = things.get(t);
            return thing.kind == 5 ? false : thing.kind != 3 || h >= 6 && h <= 6 + 2 * thing.more;
        }

        boolean everGoes(int t) {
            for (int h = 0; h < 24; h++) {
                if (goesIn(t, h)) {
                    return true;
                }
            }
            return false;
        }

        int goneBits() {
            int bits = 0;
            for (int t = 0; t < things.size(); t++) {
                bits |= things.get(t).gone ? 1 << t : 0;
            }
            return bits;
        }

        void putGone(int bits) {
            for (int t = 0; t < things.size(); t++) {
                things.get(t).gone = (bits >> t & 1) != 0;
            }
        }

        int holds(int t) {
            if (!isThing(t)) {
                return -5;
            }
            int bits = 0;
            for (int l = 0; l < locks.size(); l++) {
                bits |= lockHolds(locks.get(l), t) ? 1 << l : 0;
            }
            return bits;
        }

        int free() {
            int bits = 0;
            for (int t = 0; t < things.size(); t++) {
                bits |= canGo(t) ? 1 << t : 0;
            }
            return bits;
        }

        int go(int t) {
            if (!isThing(t)) {
                return -5;
            }
            if (!canGo(t)) {
                return STATE;
            }
            things.get(t).gone = true;
            return things.size() - Integer.bitCount(goneBits());
        }

        int saw(int l) {
            if (!isLock(l)) {
                return -5;
            }
            if (!isShut(locks.get(l))) {
                return STATE;
            }
            locks.get(l).sawn = true;
            return sawing(l);
        }

        int waits(int t) {
            if (!isThing(t)) {
                return -5;
            }
            int bits = 0;
            for (Lock x : locks) {
                bits |= lockHolds(x, t) ? 1 << x.owner : 0;
            }
            return bits;
        }

        int atLast() {
            int kept = goneBits();
            boolean any = true;
            while (any) {
                any = false;
                for (int t = 0; t < things.size(); t++) {
                    if (everGoes(t) && canGo(t)) {
                        things.get(t).gone = true;
                        any = true;
                    }
                }
            }
            int last = goneBits();
            putGone(kept);
            return last;
        }

        int never() {
            return (1 << things.size()) - 1 & ~atLast();
        }

        /** Walks through all orders; of each moment at which a thing comes to be able to go, who is gone. */
        void moments(int t, Set<Integer> found) {
            if (canGo(t)) {
                found.add(goneBits());
                return;
            }
            for (int u = 0; u < things.size(); u++) {
                if (everGoes(u) && canGo(u)) {
                    things.get(u).gone = true;
                    moments(t, found);
                    things.get(u).gone = false;
                }
            }
        }

        int first(int t, int what) {
            if (!isThing(t)) {
                return -5;
            }
            if (what != 0 && what != 1) {
                return -7;
            }
            if (things.get(t).gone) {
                return STATE;
            }
            Set<Integer> found = new HashSet<>();
            moments(t, found);
            if (found.isEmpty()) {
                return -1;
            }
            int common = 255;
            int least = 9;
            for (int bits : found) {
                common &= bits & ~goneBits();
                least = Math.min(least, Integer.bitCount(bits & ~goneBits()));
            }
            return what == 0 ? common : least;
        }

        void rings(int start, int at, int set, Set<Integer> found) {
            int next = waits(at);
            for (int u = 0; u < things.size(); u++) {
                if ((next >> u & 1) == 0 || things.get(u).gone) {
                    continue;
                }
                if (u == start && Integer.bitCount(set) > 1) {
                    found.add(set);
                } else if ((set >> u & 1) == 0) {
                    rings(start, u, set | 1 << u, found);
                }
            }
        }

        int ring(int t, int what) {
            if (!isThing(t)) {
                return -5;
            }
            if (what != 0 && what != 1) {
                return -7;
            }
            Set<Integer> found = new HashSet<>();
            if (!things.get(t).gone) {
                rings(t, t, 1 << t, found);
            }
            int best = -1;
            for (int set : found) {
                int size = Integer.bitCount(set);
                if (best < 0 || size < Integer.bitCount(best) || size == Integer.bitCount(best) && set < best) {
                    best = set;
                }
            }
            return best < 0 ? -1 : what == 0 ? Integer.bitCount(best) : best;
        }

        // -- orders

        long leadingTo(int set) {
            if (goneBits() == set) {
                return 1;
            }
            long sum = 0;
            for (int t = 0; t < things.size(); t++) {
                if ((set >> t & 1) != 0 && everGoes(t) && canGo(t)) {
                    things.get(t).gone = true;
                    sum += leadingTo(set);
                    things.get(t).gone = false;
                }
            }
            return sum;
        }

        long rows(int set) {
            if (set < 0 || set >= 1 << things.size()) {
                return -4611686018427387904L;
            }
            return (goneBits() & ~set) != 0 ? 0 : leadingTo(set);
        }

        long ways() {
            return leadingTo(atLast());
        }

        int row() {
            int kept = goneBits();
            String digits = "0";
            for (int t = 0; t < things.size(); t++) {
                if (everGoes(t) && canGo(t)) {
                    digits += t + 1;
                    things.get(t).gone = true;
                    t = -1;
                }
            }
            putGone(kept);
            return Integer.parseInt(digits);
        }

        // -- hours

        int[] comings() {
            int[] hours = new int[things.size()];
            for (int t = 0; t < hours.length; t++) {
                hours[t] = things.get(t).hour;
            }
            return hours;
        }

        int[] dayHours(int[] comings) {
            int kept = goneBits();
            int[] at = new int[things.size()];
            Arrays.fill(at, -1);
            for (int h = 0; h < 24; h++) {
                boolean any = true;
                while (any) {
                    any = false;
                    for (int t = 0; t < at.length; t++) {
                        if (comings[t] <= h && goesIn(t, h) && canGo(t)) {
                            things.get(t).gone = true;
                            at[t] = h;
                            any = true;
                        }
                    }
                }
            }
            putGone(kept);
            return at;
        }

        int hour(int t) {
            if (!isThing(t)) {
                return -5;
            }
            return things.get(t).gone ? STATE : dayHours(comings())[t];
        }

        int day(int what) {
            if (what < 0 || what > 2) {
                return BAD;
            }
            int[] at = dayHours(comings());
            int[] all = new int[3];
            for (int t = 0; t < at.length; t++) {
                Thing thing = things.get(t);
                if (thing.gone) {
                    continue;
                }
                int last = at[t] == -1 ? 23 : at[t] - 1;
                for (int h = thing.hour; h <= last; h++) {
                    all[0] += says(law, 2, t, -1, h);
                }
                all[1] |= at[t] != thing.hour ? 1 << t : 0;
                all[2] |= at[t] == -1 ? 1 << t : 0;
            }
            return all[what];
        }

        int pass(int hour) {
            if (hour < 0 || hour > 24) {
                return BAD;
            }
            int[] at = dayHours(comings());
            int went = 0;
            for (int t = 0; t < at.length; t++) {
                if (at[t] != -1 && at[t] < hour) {
                    things.get(t).gone = true;
                    went++;
                }
            }
            return went;
        }

        // -- saws, notes

        int cheapest(int wanted, int what) {
            int best = -1;
            int least = -1;
            List<Integer> shut = new ArrayList<>();
            for (int l = 0; l < locks.size(); l++) {
                if (isShut(locks.get(l))) {
                    shut.add(l);
                }
            }
            for (int pick = 0; pick < 1 << shut.size(); pick++) {
                int set = 0;
                int price = 0;
                for (int i = 0; i < shut.size(); i++) {
                    if ((pick >> i & 1) != 0) {
                        set |= 1 << shut.get(i);
                    }
                }
                for (int l : shut) {
                    if ((set >> l & 1) != 0) {
                        locks.get(l).sawn = true;
                    }
                }
                boolean will = (wanted & ~atLast()) == 0;
                for (int l : shut) {
                    locks.get(l).sawn = false;
                }
                for (int l : shut) {
                    price += will && (set >> l & 1) != 0 ? sawing(l) : 0;
                }
                if (will && (best < 0 || price < least || price == least && set < best)) {
                    best = set;
                    least = price;
                }
            }
            return what == 0 ? best : least;
        }

        int sawFor(int t, int what) {
            if (!isThing(t)) {
                return -5;
            }
            return what != 0 && what != 1 ? -7 : cheapest(1 << t, what);
        }

        int sawAll(int what) {
            int wanted = 0;
            for (int t = 0; t < things.size(); t++) {
                wanted |= everGoes(t) ? 1 << t : 0;
            }
            return what != 0 && what != 1 ? BAD : cheapest(wanted, what);
        }

        int keys(int t) {
            if (!isThing(t)) {
                return -5;
            }
            int found = 0;
            if ((atLast() >> t & 1) != 0) {
                return 0;
            }
            for (int l = 0; l < locks.size(); l++) {
                Lock x = locks.get(l);
                boolean was = x.sawn;
                x.sawn = true;
                found |= (atLast() >> t & 1) != 0 ? 1 << l : 0;
                x.sawn = was;
            }
            return found;
        }

        int note(int t, int what) {
            if (!isThing(t)) {
                return -5;
            }
            if (what != 0 && what != 1) {
                return -7;
            }
            if (things.get(t).gone) {
                return STATE;
            }
            int best = -1;
            int now = dayHours(comings())[t];
            int earliest = now == -1 ? 99 : now;
            for (int u = 0; u < things.size(); u++) {
                int[] comings = comings();
                comings[u] = 0;
                int then = dayHours(comings)[t];
                if (then != -1 && then < earliest) {
                    earliest = then;
                    best = u;
                }
            }
            return what == 0 ? best : earliest == 99 ? -1 : earliest;
        }

        int out(int t) {
            if (!isThing(t)) {
                return -5;
            }
            int sum = 0;
            for (int l = 0; l < locks.size(); l++) {
                if (lockHolds(locks.get(l), t)) {
                    int off = off(t, l);
                    if (off == 0) {
                        return -1;
                    }
                    sum += off;
                }
            }
            return sum;
        }

        // -- a thief

        int steals() {
            int bits = 0;
            for (int t = 0; t < things.size(); t++) {
                boolean fixed = things.get(t).gone;
                for (Lock x : locks) {
                    fixed |= fixes(x, t);
                }
                bits |= fixed ? 0 : 1 << t;
            }
            return bits;
        }

        int theft(int t) {
            if (!isThing(t)) {
                return -5;
            }
            if (things.get(t).gone) {
                return STATE;
            }
            int sum = 0;
            for (int l = 0; l < locks.size(); l++) {
                if (fixes(locks.get(l), t)) {
                    int saws = says(law, 1, t, l, 0);
                    int off = off(t, l);
                    sum += off == 0 || saws < off ? saws : off;
                }
            }
            return sum;
        }

        int loot(int what) {
            if (what != 0 && what != 1) {
                return BAD;
            }
            int best = -1;
            for (int t = 0; t < things.size(); t++) {
                if (!things.get(t).gone && (best < 0 || theft(t) < theft(best))) {
                    best = t;
                }
            }
            return what == 0 || best < 0 ? best : theft(best);
        }

        int guard(int t, int sort, int what) {
            if (!isThing(t)) {
                return -5;
            }
            if (sort < 0 || sort > 2 || what != 0 && what != 1) {
                return -7;
            }
            if (things.get(t).gone) {
                return STATE;
            }
            if (locks.size() == 10) {
                return FULL;
            }
            int best = -1;
            int least = -1;
            for (int other = 0; other <= 8; other++) {
                if (other == t || other < 8 && (!isThing(other) || things.get(other).gone)) {
                    continue;
                }
                locks.add(new Lock(t, sort, 1 << t | 1 << other, false));
                int bad = day(0);
                locks.remove(locks.size() - 1);
                if (best < 0 || bad < least) {
                    best = other;
                    least = bad;
                }
            }
            return what == 0 ? best : least;
        }

        // -- told

        int refusal(int s) {
            return s < 0 || s > 3 ? BAD : sheetSort[s] == -1 ? -11 : 0;
        }

        int wrongAt(int s) {
            int kept = goneBits();
            int at = -1;
            for (int i = 0; i < sheets[s].length && at < 0; i++) {
                int t = sheets[s][i];
                if (!isThing(t) || !canGo(t)) {
                    at = i;
                } else {
                    things.get(t).gone = true;
                }
            }
            putGone(kept);
            return at;
        }

        int judge(int s) {
            return refusal(s) != 0 ? refusal(s) : wrongAt(s);
        }

        int whose(int s, int l, int sort) {
            if (refusal(s) != 0) {
                return refusal(s);
            }
            if (!isLock(l)) {
                return -5;
            }
            if (sort != 0 && sort != 1) {
                return -7;
            }
            int bits = 0;
            int n = sort == 0 ? things.size() : 3;
            for (int v = 0; v < n; v++) {
                int was = relock(l, sort, v);
                bits |= wrongAt(s) == -1 ? 1 << v : 0;
                relock(l, sort, was);
            }
            return bits;
        }

        int kinds(int s, int t) {
            if (refusal(s) != 0) {
                return refusal(s);
            }
            if (!isThing(t)) {
                return -5;
            }
            int bits = 0;
            int was = things.get(t).kind;
            for (int k = 0; k < 6; k++) {
                things.get(t).kind = k;
                bits |= wrongAt(s) == -1 ? 1 << k : 0;
            }
            things.get(t).kind = was;
            return bits;
        }

        int laws(int s) {
            if (refusal(s) != 0) {
                return refusal(s);
            }
            if (sheets[s].length != locks.size()) {
                return BAD;
            }
            int bits = 0;
            for (int x = 0; x < texts.size(); x++) {
                boolean so = true;
                for (int l = 0; l < locks.size(); l++) {
                    so &= says(x, 1, locks.get(l).owner, l, 0) == sheets[s][l];
                }
                bits |= so ? 1 << x : 0;
            }
            return bits;
        }

        int film(int s) {
            if (s < 0 || s > 3) {
                return BAD;
            }
            sheetSort[s] = 2;
            sheets[s] = dayHours(comings());
            return things.size();
        }

        int seen(int s) {
            if (refusal(s) != 0) {
                return refusal(s);
            }
            if (sheets[s].length != things.size()) {
                return BAD;
            }
            int[] at = dayHours(comings());
            for (int t = 0; t < at.length; t++) {
                if (at[t] != sheets[s][t]) {
                    return t;
                }
            }
            return -1;
        }

        int[] someGoings(Random random) {
            int kept = goneBits();
            List<Integer> row = new ArrayList<>();
            int steps = random.nextInt(9);
            for (int i = 0; i < steps && free() != 0; i++) {
                int t = random.nextInt(things.size());
                while (!canGo(t)) {
                    t = random.nextInt(things.size());
                }
                things.get(t).gone = true;
                row.add(t);
            }
            putGone(kept);
            return row.stream().mapToInt(i -> i).toArray();
        }

        int[] someSaws(Random random) {
            int text = random.nextInt(texts.size());
            int[] row = new int[locks.size()];
            for (int l = 0; l < row.length; l++) {
                row[l] = says(text, 1, locks.get(l).owner, l, 0);
            }
            return row;
        }

        // -- days by lot

        int[] lots(int seed) {
            int[] hours = new int[things.size()];
            long lot = 0;
            for (int t = 0; t < hours.length; t++) {
                lot = (t == 0 ? seed + 1L : lot) * 48271L % 2147483647L;
                hours[t] = (int) (lot % 24);
            }
            return hours;
        }

        int drawn(int seed, int t) {
            if (!isThing(t)) {
                return -5;
            }
            if (seed < 0 || seed > 99999) {
                return -7;
            }
            return things.get(t).gone ? STATE : dayHours(lots(seed))[t];
        }

        long odds(int seed, int seeds, int thingHour, int part) {
            int t = thingHour / 100;
            int by = thingHour % 100;
            if (seed < 0 || seed > 99999 || seeds < 1 || seeds > 40 || thingHour < 0 || !isThing(t) || by > 23 || part != 0 && part != 1) {
                return -4611686018427387904L;
            }
            int hits = 0;
            for (int i = 0; i < seeds; i++) {
                int at = dayHours(lots(seed + i))[t];
                hits += at != -1 && at <= by ? 1 : 0;
            }
            int shared = java.math.BigInteger.valueOf(hits).gcd(java.math.BigInteger.valueOf(seeds)).intValue();
            return part == 0 ? hits / shared : seeds / shared;
        }

        static List<Thing> copyOfThings(List<Thing> of) {
            List<Thing> copy = new ArrayList<>();
            for (Thing x : of) {
                copy.add(new Thing(x.kind, x.more, x.hour, x.gone));
            }
            return copy;
        }

        static List<Lock> copyOfLocks(List<Lock> of) {
            List<Lock> copy = new ArrayList<>();
            for (Lock x : of) {
                copy.add(new Lock(x.owner, x.sort, x.set, x.sawn));
            }
            return copy;
        }

        int image() {
            imageThings = copyOfThings(things);
            imageLocks = copyOfLocks(locks);
            imageLaw = law;
            return things.size();
        }

        int back() {
            if (imageThings == null) {
                return STATE;
            }
            things = copyOfThings(imageThings);
            locks = copyOfLocks(imageLocks);
            law = imageLaw;
            return things.size();
        }

        // -- the host

        int narrowed(int sort, int v) {
            return sort == 0 ? (byte) v : sort == 1 ? (short) v : v;
        }

        int sheet(int s, int sort, int n) {
            if (s < 0 || s > 3 || sort < -1 || sort > 2 || sort != -1 && n > 40) {
                return BAD;
            }
            if (sort != -1 && n < 0) {
                return -14;
            }
            sheetSort[s] = sort;
            sheets[s] = sort == -1 ? null : new int[n];
            return 1;
        }

        int cell(int s, int i, int v) {
            if (refusal(s) != 0) {
                return refusal(s);
            }
            if (i < 0 || i >= sheets[s].length) {
                return -12;
            }
            sheets[s][i] = narrowed(sheetSort[s], v);
            return 1;
        }

        int copy(int s, int i, int o, int j, int n) {
            if (s < 0 || s > 3 || o < 0 || o > 3) {
                return BAD;
            }
            if (sheets[s] == null || sheets[o] == null) {
                return -11;
            }
            if (sheetSort[s] != sheetSort[o]) {
                return -13;
            }
            if (i < 0 || j < 0 || n < 0 || (long) i + n > sheets[s].length || (long) j + n > sheets[o].length) {
                return -12;
            }
            int[] from = sheets[s].clone();
            for (int k = 0; k < n; k++) {
                sheets[o][j + k] = from[i + k];
            }
            return n;
        }

        int locksBy(int s, int sort, int at, int n) {
            if (s < 0 || s > 3 || sort < 0 || sort > 2 || n < 0 || n > 10) {
                return BAD;
            }
            if (sheets[s] == null) {
                return -11;
            }
            if (sheetSort[s] != sort) {
                return -13;
            }
            int came = 0;
            for (int k = 0; k < n; k++) {
                int[] three = new int[3];
                for (int m = 0; m < 3; m++) {
                    long place = (long) at + 3 * k + m;
                    if (place < 0 || place >= sheets[s].length) {
                        return -12;
                    }
                    three[m] = sheets[s][(int) place];
                }
                came += lock(three[0], three[1], three[2]) >= 0 ? 1 : 0;
            }
            return came;
        }

        int taken(int i, int kind) {
            if (kind < 0 || kind > 6) {
                return BAD;
            }
            if (i < 0 || i > 17) {
                return -12;
            }
            if (i < 10) {
                if (!isLock(i) || !isShut(locks.get(i))) {
                    return -11;
                }
                return kind == 6 ? locks.get(i).set : -13;
            }
            if (!isThing(i - 10) || things.get(i - 10).gone) {
                return -11;
            }
            List<List<Integer>> isOne = List.of(List.of(0), List.of(0, 1), List.of(0, 2), List.of(0, 1, 3), List.of(0, 2, 4), List.of(0, 5));
            return isOne.get(things.get(i - 10).kind).contains(kind) ? i - 10 : -13;
        }
    }
}
