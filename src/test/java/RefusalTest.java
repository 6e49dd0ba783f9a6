import java.util.ArrayList;
import java.util.List;

/**
 * "REFUSALS, of several the first one told .. They change nothing, but where it is told. What is asked changes
 * nothing, but where it is told." Each call is made on a rail where much stands, and all that can be asked of the
 * rail afterwards must be as on one of which it was not called.
 */
public final class RefusalTest {
    private static final int BAD = -2, STATE = -3, FULL = -4, NO_SUCH = -5, NOT_AS_TOLD = -7;
    private static final int MISSING = -11, OUTSIDE = -12, UNLIKE = -13, BELOW = -14;
    private static final long NO = -4611686018427387904L;
    private static final int POST = 256, MOST_CALLS = 512;
    private static int wrong = 0;
    private static int calls = 0;

    /** A call of the face. */
    private interface Call {
        long on(LockedToAnothers x);
    }

    /** A call of the face that takes one number. */
    private interface CallOf {
        long on(LockedToAnothers x, int n);
    }

    private static final List<Long> BUSY_AS_IS = portrait(busy());
    private static final List<Long> FULL_AS_IS = portrait(full());

    public static void main(String[] args) {
        portraitsTellChanges();
        law();
        thingsAndLocks();
        goings();
        saws();
        thief();
        toldGoings();
        lotsAndImages();
        sheets();
        copiesAndLocks();
        fullRail();
        asked();
        lastCall();
        System.out.println(wrong == 0 ? "refused and asked calls change nothing" : wrong + " calls are not as due");
        if (wrong != 0) {
            System.exit(1);
        }
    }

    private static void say(String words) {
        wrong++;
        System.out.println(words);
    }

    // ---- two rails

    private static void feed(LockedToAnothers x, String text) {
        for (int i = 0; i < text.length(); i += 5) {
            int[] b = new int[5];
            int n = Math.min(5, text.length() - i);
            for (int j = 0; j < n; j++) {
                b[j] = text.charAt(i + j);
            }
            x.feed(n, b[0], b[1], b[2], b[3], b[4]);
        }
    }

    private static void put(LockedToAnothers x, int s, int sort, int... numbers) {
        x.sheet(s, sort, numbers.length);
        for (int i = 0; i < numbers.length; i++) {
            x.cell(s, i, numbers[i]);
        }
    }

    /** Seven things, six locks, three texts, an image unlike what is; sheet 0 goings, 1 saws, 2 hours, 3 missing. */
    private static LockedToAnothers busy() {
        LockedToAnothers x = new LockedToAnothers();
        int[][] things = {{0, 3, 9}, {1, 2, 12}, {2, 4, 8}, {3, 3, 7}, {4, 2, 10}, {5, 6, 0}, {0, 1, 5}};
        for (int[] t : things) {
            x.thing(t[0], t[1], t[2]);
        }
        int[][] locks = {{1, 1, 3}, {2, 1, 6}, {2, 2, 4 | POST}, {3, 0, 13}, {4, 1, 48}, {6, 1, 72}};
        for (int[] l : locks) {
            x.lock(l[0], l[1], l[2]);
        }
        feed(x, "takes sort*3;saws 20+thing+sort;minds hour+more;");
        x.text();
        feed(x, "takes 2;saws 11;minds 50-hour*2;");
        x.text();
        x.force(2);
        x.image();
        x.force(1);
        x.go(6);
        x.saw(4);
        x.come(1, 13);
        feed(x, "takes 1");
        put(x, 0, 0, 4, 5, 3, 2, 1, 0);
        put(x, 1, 1, 22, 23, 24, 23, 25, 27);
        x.film(2);
        return x;
    }

    /** All that there is room for. */
    private static LockedToAnothers full() {
        LockedToAnothers x = new LockedToAnothers();
        for (int t = 0; t < 8; t++) {
            x.thing(t % 5, t, t);
        }
        for (int l = 0; l < 10; l++) {
            x.lock(l % 8, l % 3, 1 << l % 8 | 1 << (l + 1) % 8 | (l == 9 ? POST : 0));
        }
        for (int text = 1; text < 6; text++) {
            feed(x, "takes 1;saws " + text + ";minds 1;");
            x.text();
        }
        for (int i = 0; i < 32; i++) {
            feed(x, "(1+1)");
        }
        put(x, 0, 2, 0, 0, 1, 0, 0, 1);
        x.film(2);
        x.saw(8);
        return x;
    }

    /** The answers of all that can be asked, the image's last. */
    private static List<Long> portrait(LockedToAnothers x) {
        List<Long> answers = new ArrayList<>();
        for (int what = 0; what < 7; what++) {
            answers.add((long) x.count(what));
        }
        for (int t = 0; t < 8; t++) {
            for (int what = 0; what < 3; what++) {
                answers.add((long) x.told(t, what));
            }
            answers.add((long) x.holds(t));
            answers.add((long) x.theft(t));
        }
        for (int l = 0; l < 10; l++) {
            for (int what = 0; what < 3; what++) {
                answers.add((long) x.lockTold(l, what));
            }
            answers.add((long) x.asks(1, 0, l, 0));
        }
        answers.add((long) x.free());
        answers.add((long) x.never());
        answers.add((long) x.row());
        answers.add(x.ways());
        for (int what = 0; what < 3; what++) {
            answers.add((long) x.day(what));
        }
        for (int s = 0; s < 4; s++) {
            answers.add((long) x.judge(s));
            answers.add((long) x.laws(s));
            answers.add((long) x.seen(s));
            for (int sort = 0; sort < 3; sort++) {
                answers.add((long) x.locksBy(s, sort, 0, 0));
            }
            for (int i = 0; i < 9; i++) {
                answers.add((long) x.copy(s, i, s, i, 1));
            }
        }
        whatComesNext(x, answers);
        return answers;
    }

    /** What changes the rail, last of all: the tape read, the image brought back. */
    private static void whatComesNext(LockedToAnothers x, List<Long> answers) {
        answers.add((long) x.feed(5, ';', '$', 0, 0, 0));
        answers.add((long) x.text());
        answers.add((long) x.back());
        for (int what = 0; what < 6; what++) {
            answers.add((long) x.count(what));
        }
        answers.add((long) x.day(0));
        answers.add((long) x.thing(5, 9, 23));
        answers.add((long) x.lock(0, 2, 1));
    }

    private static void due(String call, long want, Call made, LockedToAnothers x, List<Long> asIs) {
        calls++;
        long got = made.on(x);
        if (got != want) {
            say(call + " answered " + got + ", due is " + want);
        }
        List<Long> then = portrait(x);
        for (int i = 0; i < asIs.size(); i++) {
            if (!then.get(i).equals(asIs.get(i))) {
                say(call + " changed answer " + i + " of the portrait from " + asIs.get(i) + " to " + then.get(i));
                break;
            }
        }
    }

    private static void due(String call, long want, Call made) {
        due(call, want, made, busy(), BUSY_AS_IS);
    }

    private static void dueFull(String call, long want, Call made) {
        due(call + " on a full rail", want, made, full(), FULL_AS_IS);
    }

    /** A number that is none of a kind of thing, lock or sheet is refused alike, whichever it is. */
    private static void dueOfAll(String call, long want, CallOf made, int... numbers) {
        for (int n : numbers) {
            due(call + " of " + n, want, x -> made.on(x, n));
        }
    }

    /** The portraits are of use only if they tell what changes. */
    private static void portraitsTellChanges() {
        List<Call> changes = List.of(x -> x.feed(1, 32, 0, 0, 0, 0), x -> x.text(), x -> x.force(0), x -> x.thing(0, 0, 0), x -> x.come(0, 0),
            x -> x.lock(0, 0, 1), x -> x.relock(0, 0, 0), x -> x.relock(0, 1, 0), x -> x.relock(0, 2, 1), x -> x.go(4), x -> x.saw(0), x -> x.pass(24),
            x -> x.film(0), x -> x.film(3), x -> x.image(), x -> x.back(), x -> x.sheet(0, 0, 6), x -> x.sheet(3, 0, 0), x -> x.sheet(0, -1, 0),
            x -> x.cell(0, 0, 1), x -> x.cell(1, 0, 1), x -> x.cell(2, 6, 1), x -> x.copy(0, 1, 0, 0, 5), x -> x.locksBy(1, 1, 0, 0) + x.lock(0, 0, 1));
        for (int i = 0; i < changes.size(); i++) {
            LockedToAnothers x = busy();
            changes.get(i).on(x);
            if (portrait(x).equals(BUSY_AS_IS)) {
                say("change " + i + " is not seen");
            }
        }
        if (!portrait(busy()).equals(BUSY_AS_IS) || !portrait(full()).equals(FULL_AS_IS)) {
            say("the same calls give other answers");
        }
        // The busy rail as it is told above: 6 can't be left out of what goes AT LAST, 5 never goes.
        if (busy().judge(0) != -1 || busy().laws(1) != 2 || busy().seen(2) != -1 || busy().never() != 32 || busy().count(2) != 64) {
            say("the busy rail is not as told");
        }
    }

    // ---- refusals, in the order in which they are told

    private static void law() {
        dueOfAll("2 count", BAD, (x, n) -> x.count(n), -1, 7, Integer.MAX_VALUE, Integer.MIN_VALUE);
        dueOfAll("3 feed n", BAD, (x, n) -> x.feed(n, 65, 65, 65, 65, 65), -1, 0, 6);
        dueOfAll("3 feed a", BAD, (x, n) -> x.feed(1, n, 65, 65, 65, 65), -1, 256);
        dueOfAll("3 feed b", BAD, (x, n) -> x.feed(1, 65, n, 65, 65, 65), -1, 256);
        dueOfAll("3 feed c", BAD, (x, n) -> x.feed(1, 65, 65, n, 65, 65), -1, 256);
        dueOfAll("3 feed d", BAD, (x, n) -> x.feed(1, 65, 65, 65, n, 65), -1, 256);
        dueOfAll("3 feed e", BAD, (x, n) -> x.feed(5, 65, 65, 65, 65, n), -1, 256);
        dueOfAll("5 force", BAD, (x, n) -> x.force(n), -1, 3);
        dueOfAll("6 asks part", BAD, (x, n) -> x.asks(n, 0, 0, 0), -1, 3);
        dueOfAll("6 asks t", BAD, (x, n) -> x.asks(0, n, 0, 0), -1, 7);
        dueOfAll("6 asks lock", BAD, (x, n) -> x.asks(0, 0, n, 0), -2, 6);
        dueOfAll("6 asks hour", BAD, (x, n) -> x.asks(0, 0, 0, n), -1, 24);
    }

    private static void thingsAndLocks() {
        dueOfAll("7 thing kind", BAD, (x, n) -> x.thing(n, 0, 0), -1, 6);
        dueOfAll("7 thing more", BAD, (x, n) -> x.thing(0, n, 0), -1, 10);
        dueOfAll("7 thing hour", BAD, (x, n) -> x.thing(0, 0, n), -1, 24);
        dueOfAll("8 come: no such THING ahead of HOUR", NO_SUCH, (x, n) -> x.come(n, 24), -1, 7, 8);
        dueOfAll("8 come hour", NOT_AS_TOLD, (x, n) -> x.come(0, n), -1, 24);
        dueOfAll("9 told: no such THING ahead of what", NO_SUCH, (x, n) -> x.told(n, 4), -1, 7);
        dueOfAll("9 told what", NOT_AS_TOLD, (x, n) -> x.told(0, n), -1, 4);
        dueOfAll("10 lock owner, ahead of STATE", BAD, (x, n) -> x.lock(n, 0, 64), -1, 7);
        dueOfAll("10 lock sort, ahead of STATE", BAD, (x, n) -> x.lock(6, n, 1), -1, 3);
        dueOfAll("10 lock set, ahead of STATE", BAD, (x, n) -> x.lock(6, 0, n), -1, 0, 128, 64 | 128, 512, 513);
        dueOfAll("10 lock of a GONE owner", STATE, (x, n) -> x.lock(6, 0, n), 1, POST, 64);
        dueOfAll("10 lock through a GONE one", STATE, (x, n) -> x.lock(0, 0, n), 64, 65, 64 | POST, 127);
        dueOfAll("11 relock: no such LOCK ahead of what, v", NO_SUCH, (x, n) -> x.relock(n, 3, -1), -1, 6);
        dueOfAll("11 relock what", NOT_AS_TOLD, (x, n) -> x.relock(0, n, 1), -1, 3);
        dueOfAll("11 relock owner", NOT_AS_TOLD, (x, n) -> x.relock(0, 0, n), -1, 7, 8);
        dueOfAll("11 relock sort", NOT_AS_TOLD, (x, n) -> x.relock(0, 1, n), -1, 3);
        dueOfAll("11 relock set", NOT_AS_TOLD, (x, n) -> x.relock(0, 2, n), -1, 0, 128, 512);
        dueOfAll("12 lockTold: no such LOCK ahead of what", NO_SUCH, (x, n) -> x.lockTold(n, 5), -1, 6);
        dueOfAll("12 lockTold what", NOT_AS_TOLD, (x, n) -> x.lockTold(0, n), -1, 5);
    }

    private static void goings() {
        dueOfAll("13 holds", NO_SUCH, (x, n) -> x.holds(n), -1, 7);
        dueOfAll("15 go", NO_SUCH, (x, n) -> x.go(n), -1, 7);
        dueOfAll("15 go, held or GONE", STATE, (x, n) -> x.go(n), 0, 1, 6);
        dueOfAll("16 saw", NO_SUCH, (x, n) -> x.saw(n), -1, 6);
        dueOfAll("16 saw, SAWN or its owner GONE", STATE, (x, n) -> x.saw(n), 4, 5);
        dueOfAll("17 waits", NO_SUCH, (x, n) -> x.waits(n), -1, 7);
        dueOfAll("19 first: no such THING ahead of what", NO_SUCH, (x, n) -> x.first(n, 2), -1, 7);
        dueOfAll("19 first: what ahead of STATE", NOT_AS_TOLD, (x, n) -> x.first(6, n), -1, 2);
        dueOfAll("19 first, GONE", STATE, (x, n) -> x.first(6, n), 0, 1);
        dueOfAll("20 ring: no such THING ahead of what", NO_SUCH, (x, n) -> x.ring(n, 2), -1, 7);
        dueOfAll("20 ring what", NOT_AS_TOLD, (x, n) -> x.ring(6, n), -1, 2);
        dueOfAll("21 rows", NO, (x, n) -> x.rows(n), -1, 128, 128 | 64, 256, Integer.MIN_VALUE);
        dueOfAll("21 rows without a GONE one", 0, (x, n) -> x.rows(n), 0, 1, 63);
        dueOfAll("24 hour", NO_SUCH, (x, n) -> x.hour(n), -1, 7);
        due("24 hour, GONE", STATE, x -> x.hour(6));
        dueOfAll("25 day", BAD, (x, n) -> x.day(n), -1, 3);
        dueOfAll("26 pass", BAD, (x, n) -> x.pass(n), -1, 25, Integer.MAX_VALUE);
    }

    private static void saws() {
        dueOfAll("27 sawFor: no such THING ahead of what", NO_SUCH, (x, n) -> x.sawFor(n, 2), -1, 7);
        dueOfAll("27 sawFor what", NOT_AS_TOLD, (x, n) -> x.sawFor(0, n), -1, 2);
        dueOfAll("28 sawAll", BAD, (x, n) -> x.sawAll(n), -1, 2);
        dueOfAll("29 keys", NO_SUCH, (x, n) -> x.keys(n), -1, 7);
        dueOfAll("30 note: no such THING ahead of what", NO_SUCH, (x, n) -> x.note(n, 2), -1, 7);
        dueOfAll("30 note: what ahead of STATE", NOT_AS_TOLD, (x, n) -> x.note(6, n), -1, 2);
        dueOfAll("30 note, GONE", STATE, (x, n) -> x.note(6, n), 0, 1);
        dueOfAll("31 out", NO_SUCH, (x, n) -> x.out(n), -1, 7);
    }

    private static void thief() {
        dueOfAll("33 theft", NO_SUCH, (x, n) -> x.theft(n), -1, 7);
        due("33 theft, GONE", STATE, x -> x.theft(6));
        dueOfAll("34 loot", BAD, (x, n) -> x.loot(n), -1, 2);
        dueOfAll("35 guard: no such THING ahead of SORT, what", NO_SUCH, (x, n) -> x.guard(n, 3, 2), -1, 7);
        dueOfAll("35 guard: SORT ahead of STATE", NOT_AS_TOLD, (x, n) -> x.guard(6, n, 0), -1, 3);
        dueOfAll("35 guard: what ahead of STATE", NOT_AS_TOLD, (x, n) -> x.guard(6, 0, n), -1, 2);
        dueOfAll("35 guard, GONE", STATE, (x, n) -> x.guard(6, n, n / 2), 0, 1, 2);
    }

    private static void toldGoings() {
        dueOfAll("36 judge", BAD, (x, n) -> x.judge(n), -1, 4);
        due("36 judge, missing", MISSING, x -> x.judge(3));
        dueOfAll("37 whose: SHEET ahead of all", BAD, (x, n) -> x.whose(n, 6, 2), -1, 4);
        due("37 whose: missing ahead of LOCK, sort", MISSING, x -> x.whose(3, 6, 2));
        dueOfAll("37 whose: no such LOCK ahead of sort", NO_SUCH, (x, n) -> x.whose(0, n, 2), -1, 6);
        dueOfAll("37 whose sort", NOT_AS_TOLD, (x, n) -> x.whose(0, 0, n), -1, 2);
        dueOfAll("38 kinds: SHEET ahead of all", BAD, (x, n) -> x.kinds(n, 7), -1, 4);
        due("38 kinds: missing ahead of THING", MISSING, x -> x.kinds(3, 7));
        dueOfAll("38 kinds", NO_SUCH, (x, n) -> x.kinds(0, n), -1, 7);
        dueOfAll("39 laws", BAD, (x, n) -> x.laws(n), -1, 4, 2);
        due("39 laws, missing, ahead of how many", MISSING, x -> x.laws(3));
        dueOfAll("40 film", BAD, (x, n) -> x.film(n), -1, 4);
        dueOfAll("41 seen", BAD, (x, n) -> x.seen(n), -1, 4, 0, 1);
        due("41 seen, missing, ahead of how many", MISSING, x -> x.seen(3));
    }

    private static void lotsAndImages() {
        dueOfAll("42 drawn: no such THING ahead of SEED", NO_SUCH, (x, n) -> x.drawn(-1, n), -1, 7);
        dueOfAll("42 drawn: SEED ahead of STATE", NOT_AS_TOLD, (x, n) -> x.drawn(n, 6), -1, 100000);
        dueOfAll("42 drawn, GONE", STATE, (x, n) -> x.drawn(n, 6), 0, 99999);
        dueOfAll("43 odds seed", NO, (x, n) -> x.odds(n, 1, 0, 0), -1, 100000);
        dueOfAll("43 odds seeds", NO, (x, n) -> x.odds(0, n, 0, 0), -1, 0, 41);
        dueOfAll("43 odds thingHour", NO, (x, n) -> x.odds(0, 1, n, 0), -1, 24, 99, 700, Integer.MAX_VALUE);
        dueOfAll("43 odds part", NO, (x, n) -> x.odds(0, 1, 0, n), -1, 2);
        LockedToAnothers x = full();
        List<Long> asIs = portrait(full());
        due("45 back, no image", STATE, y -> y.back(), x, asIs);
    }

    private static void sheets() {
        dueOfAll("46 sheet: SHEET ahead of n", BAD, (x, n) -> x.sheet(n, 0, -1), -1, 4);
        dueOfAll("46 sheet: sort ahead of n", BAD, (x, n) -> x.sheet(0, n, -1), -2, 3);
        dueOfAll("46 sheet n", BAD, (x, n) -> x.sheet(0, 0, n), 41, Integer.MAX_VALUE);
        dueOfAll("46 sheet n below 0", BELOW, (x, n) -> x.sheet(0, 0, n), -1, Integer.MIN_VALUE);
        dueOfAll("46 no such sheet becomes missing", BAD, (x, n) -> x.sheet(n, -1, 0), -1, 4);
        dueOfAll("47 cell: SHEET ahead of all", BAD, (x, n) -> x.cell(n, -1, 1), -1, 4);
        dueOfAll("47 cell: missing ahead of the place", MISSING, (x, n) -> x.cell(3, n, 1), -1, 0, 40);
        dueOfAll("47 cell outside", OUTSIDE, (x, n) -> x.cell(0, n, 1), -1, 6, 39, 40);
    }

    private static void copiesAndLocks() {
        dueOfAll("48 copy: SHEETS ahead of missing", BAD, (x, n) -> x.copy(3, 0, n, 0, 1), -1, 4);
        dueOfAll("48 copy: SHEETS ahead of missing", BAD, (x, n) -> x.copy(n, 0, 3, 0, 1), -1, 4);
        dueOfAll("48 copy from a missing one, ahead of places", MISSING, (x, n) -> x.copy(3, n, 0, n, 1), -1, 0, 9);
        dueOfAll("48 copy to a missing one, ahead of places", MISSING, (x, n) -> x.copy(0, n, 3, n, 1), -1, 0, 9);
        dueOfAll("48 copy to another sort, ahead of places", UNLIKE, (x, n) -> x.copy(0, n, 1, n, n), -1, 0, 99);
        dueOfAll("48 copy from too far", OUTSIDE, (x, n) -> x.copy(0, n, 0, 0, 3), -1, 4, 6, 7);
        dueOfAll("48 copy to too far", OUTSIDE, (x, n) -> x.copy(0, 1, 0, n, 3), -1, 4, 6, 7);
        dueOfAll("48 copy of none too far", OUTSIDE, (x, n) -> x.copy(0, n, 0, 0, 0), -1, 7);
        dueOfAll("48 copy of none to too far", OUTSIDE, (x, n) -> x.copy(0, 0, 0, n, 0), -1, 7);
        dueOfAll("48 copy of fewer than none", OUTSIDE, (x, n) -> x.copy(0, 0, 0, 0, n), -1, Integer.MIN_VALUE);
        dueOfAll("48 copy of none", 0, (x, n) -> x.copy(0, n, 0, 6 - n, 0), 0, 3, 6);
        dueOfAll("49 locksBy: SHEET ahead of all", BAD, (x, n) -> x.locksBy(n, 0, -1, 1), -1, 4);
        dueOfAll("49 locksBy: sort ahead of missing", BAD, (x, n) -> x.locksBy(3, n, -1, 1), -1, 3);
        dueOfAll("49 locksBy: n ahead of missing", BAD, (x, n) -> x.locksBy(3, 0, -1, n), -1, 11);
        dueOfAll("49 locksBy: missing ahead of sort, place", MISSING, (x, n) -> x.locksBy(3, n, -1, 1), 0, 1, 2);
        dueOfAll("49 locksBy: sort ahead of place", UNLIKE, (x, n) -> x.locksBy(0, n, -1, 1), 1, 2);
        dueOfAll("49 locksBy outside", OUTSIDE, (x, n) -> x.locksBy(0, 0, n, 1), -1, 4, 5, 6, Integer.MAX_VALUE, Integer.MIN_VALUE);
        due("49 locksBy: left out, then outside", OUTSIDE, x -> x.locksBy(1, 1, 0, 3));
        due("49 locksBy: left out", 0, x -> x.locksBy(1, 1, 0, 2));
        dueOfAll("49 locksBy of none", 0, (x, n) -> x.locksBy(0, 0, n, 0), 0, 6, 9);
        dueOfAll("50 taken: kind ahead of all", BAD, (x, n) -> x.taken(18, n), -1, 7);
        dueOfAll("50 taken outside", OUTSIDE, (x, n) -> x.taken(n, 6), -1, 18);
        dueOfAll("50 taken: nothing there ahead of kind", MISSING, (x, n) -> x.taken(n, 3), 4, 5, 6, 9, 16, 17);
        dueOfAll("50 taken: a LOCK for a THING", UNLIKE, (x, n) -> x.taken(0, n), 0, 1, 5);
        dueOfAll("50 taken: a THING for another", UNLIKE, (x, n) -> x.taken(10, n), 1, 5, 6);
    }

    private static void fullRail() {
        dueFull("3 FULL", FULL, x -> x.feed(1, 32, 32, 32, 32, 32));
        dueFull("3 BAD ahead of FULL", BAD, x -> x.feed(6, 32, 32, 32, 32, 32));
        dueFull("3 BAD ahead of FULL", BAD, x -> x.feed(1, 32, 32, 32, 32, 256));
        dueFull("4 FULL, ahead of the FAULT", FULL, x -> x.text());
        dueFull("7 FULL", FULL, x -> x.thing(0, 0, 0));
        dueFull("7 BAD ahead of FULL", BAD, x -> x.thing(6, 0, 0));
        dueFull("7 BAD ahead of FULL", BAD, x -> x.thing(0, 10, 0));
        dueFull("7 BAD ahead of FULL", BAD, x -> x.thing(0, 0, 24));
        dueFull("10 FULL", FULL, x -> x.lock(0, 0, 1));
        dueFull("10 BAD ahead of FULL", BAD, x -> x.lock(8, 0, 1));
        dueFull("10 BAD ahead of FULL", BAD, x -> x.lock(0, 3, 1));
        dueFull("10 BAD ahead of FULL", BAD, x -> x.lock(0, 0, 512));
        dueFull("35 FULL", FULL, x -> x.guard(0, 0, 0));
        dueFull("35 no such THING ahead of FULL", NO_SUCH, x -> x.guard(8, 0, 0));
        dueFull("35 SORT ahead of FULL", NOT_AS_TOLD, x -> x.guard(0, 3, 0));
        dueFull("35 what ahead of FULL", NOT_AS_TOLD, x -> x.guard(0, 0, 2));
        dueFull("49 left out", 0, x -> x.locksBy(0, 2, 0, 2));
        LockedToAnothers x = new LockedToAnothers();
        x.thing(0, 0, 0);
        x.thing(0, 0, 0);
        x.go(1);
        for (int l = 0; l < 10; l++) {
            x.lock(0, 0, 1);
        }
        if (x.lock(1, 0, 1) != STATE || x.lock(0, 0, 3) != STATE || x.lock(0, 0, 1) != FULL || x.guard(1, 0, 0) != STATE) {
            say("10, 35 STATE is told ahead of FULL");
        }
    }

    // ---- what is asked changes nothing

    private static void asked() {
        due("6 asks", 10, x -> x.asks(2, 2, 0, 6));
        due("13 holds", 9, x -> x.holds(0));
        due("14 free", 4 | 8 | 16 | 32, x -> x.free());
        due("17 waits", 2 | 8, x -> x.waits(0));
        due("18 never", 32, x -> x.never());
        dueOfAll("19 first", 8 | 4 | 2, (x, n) -> x.first(0, n), 0);
        dueOfAll("19 first", 3, (x, n) -> x.first(0, n), 1);
        dueOfAll("20 ring", -1, (x, n) -> x.ring(0, n), 0, 1);
        due("21 rows", 2, x -> x.rows(64 | 16 | 8));
        due("22 ways", 15, x -> x.ways());
        due("23 row", 32415, x -> x.row());
        due("24 hour", 13, x -> x.hour(0));
        due("25 day", 1, x -> x.day(1) & 1);
        due("27 sawFor", 0, x -> x.sawFor(0, 0));
        due("28 sawAll", 0, x -> x.sawAll(0));
        due("29 keys", 0, x -> x.keys(0));
        due("30 note", 1, x -> x.note(0, 0));
        due("31 out", -1, x -> x.out(0));
        due("32 steals", 16 | 32, x -> x.steals());
        due("34 loot", 4, x -> x.loot(0));
        due("35 guard", 1, x -> x.guard(0, 1, 1) >= x.day(0) ? 1 : 0);
        due("36 judge", -1, x -> x.judge(0));
        due("37 whose", 7, x -> x.whose(0, 2, 1));
        due("37 whose", 1, x -> x.whose(0, 0, 0) > 0 ? 1 : 0);
        due("38 kinds", 63, x -> x.kinds(0, 4));
        due("39 laws", 2, x -> x.laws(1));
        due("41 seen", -1, x -> x.seen(2));
        due("42 drawn", -1, x -> x.drawn(7, 5));
        due("43 odds", 1, x -> x.odds(0, 40, 423, 0));
        due("50 taken", 3, x -> x.taken(0, 6));
        for (int t = 0; t < 7; t++) {
            int u = t;
            for (int what = 0; what < 2; what++) {
                int w = what;
                askedOf(u, w);
            }
        }
    }

    /** What is answered is tested elsewhere; here only that it leaves no trace. */
    private static void askedOf(int t, int what) {
        List<Call> asks = List.of(x -> x.first(t, what), x -> x.ring(t, what), x -> x.sawFor(t, what), x -> x.note(t, what), x -> x.guard(t, what, 0),
            x -> x.guard(t, 2, what), x -> x.kinds(0, t), x -> x.whose(0, t, what), x -> x.drawn(99 * what, t));
        for (Call ask : asks) {
            due("asked of " + t + ", " + what, 0, x -> ask.on(x) * 0);
        }
    }

    /** "An object is used for at most 512 calls": the last of these is answered like the first. */
    private static void lastCall() {
        LockedToAnothers x = new LockedToAnothers();
        for (int i = 1; i <= 8; i++) {
            x.thing(0, 0, i);
        }
        for (int i = 9; i < MOST_CALLS; i++) {
            long got = i % 3 == 0 ? x.ways() : i % 3 == 1 ? x.hour(7) : x.sheet(i % 4, i % 3, i % 41);
            if (got != (i % 3 == 0 ? 40320 : i % 3 == 1 ? 8 : 1)) {
                say("call " + i + " answered " + got);
            }
        }
        if (x.pass(24) != 8) {
            say("call 512 did not answer 8");
        }
        if (calls < 400) {
            say("only " + calls + " calls were looked at");
        }
    }
}
