/** Each promise of the document by hand: ordinary calls, the edges that it names, and wrong arguments. */
public final class PromiseTest {
    private static final int BAD = LockedToAnothers.BAD, STATE = LockedToAnothers.STATE, FULL = LockedToAnothers.FULL;
    private static final long NO = LockedToAnothers.NO;
    private static final int BICYCLE = 0, TANDEM = 1, SCOOTER = 2, QUAD = 3, TOY = 4, WRECK = 5;
    private static final int POST = 256;
    private static final int FAR = Integer.MAX_VALUE, DEEP = Integer.MIN_VALUE;
    private static int wrong = 0;

    public static void main(String[] args) {
        aNewObject();
        counts();
        feeds();
        texts();
        faults();
        openSigns();
        forces();
        asksOfTheLaw();
        worths();
        thingsCome();
        hoursOfComing();
        locksCome();
        relocks();
        holdsAndFixes();
        kindsOfHolding();
        goesAndSaws();
        waitsAndNever();
        firsts();
        rings();
        rowsAndWays();
        days();
        badness();
        quads();
        passes();
        saws();
        keysOfLocks();
        notes();
        outs();
        thefts();
        guards();
        judges();
        whoseLock();
        kindsOfThing();
        lawsTold();
        filmsAndSeen();
        lots();
        images();
        sheets();
        copies();
        locksBySheet();
        takens();
        System.out.println(wrong == 0 ? "the promises hold" : wrong + " promises are broken");
        if (wrong != 0) {
            System.exit(1);
        }
    }

    private static void due(String promise, long got, long want) {
        if (got != want) {
            wrong++;
            System.out.println(promise + " answered " + got + ", due is " + want);
        }
    }

    private static void write(LockedToAnothers x, String text) {
        for (int i = 0; i < text.length(); i++) {
            x.feed(1, text.charAt(i), 0, 0, 0, 0);
        }
    }

    private static int read(LockedToAnothers x, String text) {
        write(x, text);
        return x.text();
    }

    private static void put(LockedToAnothers x, int s, int sort, int... numbers) {
        x.sheet(s, sort, numbers.length);
        for (int i = 0; i < numbers.length; i++) {
            x.cell(s, i, numbers[i]);
        }
    }

    /** Bicycles, the hour of coming of each its number. */
    private static LockedToAnothers bicycles(int n) {
        LockedToAnothers x = new LockedToAnothers();
        for (int t = 0; t < n; t++) {
            x.thing(BICYCLE, t, t);
        }
        return x;
    }

    /** 0 is held by 1's lock, 1 by 2's, 2 by 3's, and so on; the last is free. */
    private static LockedToAnothers chain(int n) {
        LockedToAnothers x = bicycles(n);
        for (int t = 1; t < n; t++) {
            x.lock(t, 1, 1 << t - 1 | 1 << t);
        }
        return x;
    }

    private static void aNewObject() {
        LockedToAnothers x = new LockedToAnothers();
        int[] counts = {0, 0, 0, 0, 1, 0, 0};
        for (int what = 0; what < 7; what++) {
            due("1 count " + what, x.count(what), counts[what]);
        }
        due("1 free", x.free(), 0);
        due("1 back", x.back(), STATE);
        due("1 judge", x.judge(3), -11);
        due("1 holds", x.holds(0), -5);
        new LockedToAnothers().thing(0, 0, 0);
        due("1 another object", x.count(0), 0);
    }

    private static void counts() {
        LockedToAnothers x = bicycles(3);
        x.lock(0, 0, 3);
        x.lock(1, 0, 6);
        x.saw(1);
        x.go(2);
        read(x, "takes 1;saws 2;minds 3;");
        x.force(1);
        x.feed(2, 1, 2, 3, 4, 5);
        int[] counts = {3, 2, 4, 2, 2, 1, 2};
        for (int what = 0; what < 7; what++) {
            due("2 count " + what, x.count(what), counts[what]);
        }
        due("2 what", x.count(7), BAD);
        due("2 what", x.count(-1), BAD);
    }

    private static void feeds() {
        LockedToAnothers x = new LockedToAnothers();
        due("3 none", x.feed(0, 1, 1, 1, 1, 1), BAD);
        due("3 six", x.feed(6, 1, 1, 1, 1, 1), BAD);
        due("3 a", x.feed(1, 256, 1, 1, 1, 1), BAD);
        due("3 b", x.feed(1, 1, -1, 1, 1, 1), BAD);
        due("3 c", x.feed(1, 1, 1, 256, 1, 1), BAD);
        due("3 d", x.feed(1, 1, 1, 1, -1, 1), BAD);
        due("3 e", x.feed(1, 1, 1, 1, 1, 256), BAD);
        due("3 two", x.feed(2, 0, 255, 1, 1, 1), 2);
        for (int i = 0; i < 31; i++) {
            x.feed(5, 32, 32, 32, 32, 32);
        }
        due("3 count", x.count(6), 157);
        due("3 no room for all", x.feed(4, 1, 1, 1, 1, 1), FULL);
        due("3 none came", x.count(6), 157);
        due("3 room", x.feed(3, 1, 1, 1, 1, 1), 160);
        due("3 full", x.feed(1, 1, 1, 1, 1, 1), FULL);
        due("3 BAD ahead of FULL", x.feed(1, 1, 1, 1, 1, 256), BAD);
        LockedToAnothers y = new LockedToAnothers();
        y.feed(5, 't', 'a', 'k', 'e', 's');
        y.feed(4, ' ', '7', ' ', '$', 'x');
        due("3 in their order", y.text(), -108);
    }

    private static void texts() {
        LockedToAnothers x = new LockedToAnothers();
        due("4 text", read(x, "takes 1;saws 2;minds 3;"), 1);
        due("4 tape empty", x.count(6), 0);
        due("4 no blanks", read(x, "takes1;saws2;minds3;"), 2);
        due("4 blanks", read(x, " \n takes\n1 ;\nsaws 2 ; minds 0003 ;\n "), 3);
        due("4 fault", read(x, "takes 1;"), -108);
        due("4 tape empty by a fault", x.count(6), 0);
        due("4 texts", x.count(4), 4);
        due("4 text", read(x, "takes more sort;"), -111);
        due("4 text", read(x, "takes more+sort-hour*thing<many=kind;"), -131);
        due("4 all names", read(x, "takes more+sort-hour;saws thing*many;minds kind;"), 4);
        due("4 all signs", read(x, "takes not(1<2)and-1=-1 or 1;saws 1;minds 1;"), 5);
        write(x, "takes 1;saws 2;minds 3;");
        due("4 full", x.text(), FULL);
        due("4 tape stays", x.count(6), 23);
        write(x, "$");
        due("4 FULL ahead of the fault", x.text(), FULL);
        due("4 tape stays", x.count(6), 24);
    }

    private static void fault(String text, int place) {
        due("4 fault of '" + text + "'", read(new LockedToAnothers(), text), -100 - place);
    }

    private static void faults() {
        fault("", 0);
        fault("  ", 2);
        fault("takes", 5);
        fault("saws 1;", 0);
        fault("takes ;", 6);
        fault("takes 1;saws 1;minds 1", 22);
        fault("takes 1;saws 1;minds 1;;", 23);
        fault("takes 1;saws 1;minds 1; takes", 24);
        fault("takes 1;minds 1;", 8);
        fault("takes 12345;", 6);
        fault("takes 1 12345;", 8);
        fault("takes more1;", 10);
        fault("takes mores;", 6);
        fault("takesmore;", 0);
        fault("takes A;", 6);
        fault("takes \t1;", 6);
        fault("takes 1 " + (char) 200, 8);
        fault("takes 1 < 2 < 3;", 12);
        fault("takes 1 = 2 = 3;", 12);
        fault("takes 1 < not 2;", 10);
        fault("takes 1 + not 2;", 10);
        fault("takes 1 or or 2;", 11);
        fault("takes 1 and;", 11);
        fault("takes (1;", 8);
        fault("takes (1));", 9);
        fault("takes ();", 7);
        fault("takes +1;", 6);
        fault("takes 1 * ;", 10);
        fault("takes - ;", 8);
        fault("takes not;", 9);
        fault("takes 1 2;", 8);
        fault("takes 1 2345;", 8);
    }

    private static void openSigns() {
        String rest = ";saws 1;minds 1;";
        due("4 five (", read(new LockedToAnothers(), "takes (((((1)))))" + rest), 1);
        fault("takes ((((((1))))))" + rest, 11);
        due("4 five -", read(new LockedToAnothers(), "takes -----1" + rest), 1);
        fault("takes ------1" + rest, 11);
        due("4 five not", read(new LockedToAnothers(), "takes not not not not not 1" + rest), 1);
        fault("takes not not not not not not 1" + rest, 26);
        fault("takes not not not not not -1" + rest, 26);
        fault("takes not not not not not (1)" + rest, 26);
        fault("takes -(not -(-1", 14);
        fault("takes (not (-(1 + not 1", 18);
        due("4 ends of (", read(new LockedToAnothers(), "takes (((((1)))))+(((((1)))))" + rest), 1);
        due("4 ends of -", read(new LockedToAnothers(), "takes -----1*-----1-1-1-1-1-1-1" + rest), 1);
        due("4 ends of not", read(new LockedToAnothers(), "takes not not not not not 1 and not not not not not 1" + rest), 1);
        due("4 - stands open no longer", read(new LockedToAnothers(), "takes ((((-1+-1))))" + rest), 1);
        fault("takes ((((-(1", 11);
        fault("takes not(1<2+(3*(-(", 19);
    }

    private static void forces() {
        LockedToAnothers x = new LockedToAnothers();
        due("5 none such", x.force(1), BAD);
        due("5 below", x.force(-1), BAD);
        due("5 the first", x.force(0), 0);
        read(x, "takes 1;saws 2;minds 3;");
        due("5 not by itself", x.count(5), 0);
        due("5 force", x.force(1), 0);
        due("5 was", x.force(0), 1);
        due("5 none such", x.force(2), BAD);
        due("5 stays", x.count(5), 0);
    }

    private static void asksOfTheLaw() {
        LockedToAnothers x = new LockedToAnothers();
        x.thing(TANDEM, 9, 3);
        x.thing(QUAD, 4, 5);
        x.lock(0, 2, 3 | POST);
        due("6 takes", x.asks(0, 0, 0, 0), 0);
        due("6 saws", x.asks(1, 1, 0, 7), 20);
        due("6 saws without", x.asks(1, 1, -1, 7), 10);
        due("6 minds", x.asks(2, 1, -1, 7), 1);
        read(x, "takes more*10+kind;saws many*10+sort;minds hour*2+thing+sort+many;");
        x.force(1);
        due("6 takes of 0", x.asks(0, 0, -1, 0), 91);
        due("6 takes of 1", x.asks(0, 1, -1, 0), 43);
        due("6 saws", x.asks(1, 0, 0, 0), 32);
        due("6 saws without", x.asks(1, 0, -1, 0), 0);
        due("6 minds", x.asks(2, 1, -1, 23), 47);
        due("6 minds, a lock too", x.asks(2, 1, 0, 20), 46);
        read(x, "takes hour;saws hour+thing;minds 0-1;");
        x.force(2);
        due("6 takes an hour", x.asks(0, 0, 0, 23), 23);
        due("6 saws of the thing told", x.asks(1, 1, 0, 5), 6);
        due("6 below", x.asks(2, 0, 0, 5), 0);
        int[][] bad = {{-1, 0, 0, 0}, {3, 0, 0, 0}, {0, 2, 0, 0}, {0, -1, 0, 0}, {0, 0, -2, 0}, {0, 0, 1, 0}, {0, 0, 0, -1}, {0, 0, 0, 24}};
        for (int[] b : bad) {
            due("6 bad " + java.util.Arrays.toString(b), x.asks(b[0], b[1], b[2], b[3]), BAD);
        }
    }

    private static void worth(String e, int want) {
        LockedToAnothers x = new LockedToAnothers();
        x.thing(TOY, 7, 0);
        read(x, "takes 0;saws " + e + ";minds 0;");
        due("4 text of " + e, x.force(1), 0);
        due("6 " + e, x.asks(1, 0, -1, 0), want);
    }

    private static void worths() {
        worth("1+2*3", 7);
        worth("(1+2)*3", 9);
        worth("10-3-2", 5);
        worth("-3+5", 2);
        worth("--3", 3);
        worth("-2*-3", 6);
        worth("2-1<2", 1);
        worth("2<1", 0);
        worth("-1<0", 1);
        worth("2=2", 1);
        worth("2=3", 0);
        worth("5 or 0", 1);
        worth("0 or 0", 0);
        worth("5 and 7", 1);
        worth("5 and 0", 0);
        worth("0 and 0 or 1", 1);
        worth("1 or 1 and 0", 1);
        worth("not 5", 0);
        worth("not 0", 1);
        worth("not not 5", 1);
        worth("not 1 < 2", 0);
        worth("not 0 and 0", 0);
        worth("0000+0099", 99);
        worth("100", 99);
        worth("0-1", 0);
        worth("9999*9999*9999", 0);
        worth("9999*9999*99", 99);
        worth("9999*9999*99<0", 0);
        worth("9999*9999*22<0", 1);
        worth("more*10+kind", 74);
        worth("thing+sort+many+hour", 0);
    }

    private static void thingsCome() {
        LockedToAnothers x = new LockedToAnothers();
        due("7 kind", x.thing(-1, 0, 0), BAD);
        due("7 kind", x.thing(6, 0, 0), BAD);
        due("7 more", x.thing(0, -1, 0), BAD);
        due("7 more", x.thing(0, 10, 0), BAD);
        due("7 hour", x.thing(0, 0, -1), BAD);
        due("7 hour", x.thing(0, 0, 24), BAD);
        due("7 none came", x.count(0), 0);
        for (int i = 0; i < 8; i++) {
            due("7 number", x.thing(i % 6, i + 2, 23 - i), i);
        }
        due("7 full", x.thing(0, 0, 0), FULL);
        due("7 BAD ahead of FULL", x.thing(6, 0, 0), BAD);
        due("9 kind", x.told(7, 0), 1);
        due("9 more", x.told(7, 1), 9);
        due("9 hour", x.told(7, 2), 16);
        due("9 there", x.told(7, 3), 0);
        x.go(7);
        due("9 gone", x.told(7, 3), 1);
        due("9 what", x.told(7, 4), -7);
        due("9 what", x.told(0, -1), -7);
        due("9 none", x.told(8, 9), -5);
        due("9 none", x.told(-1, 0), -5);
    }

    private static void hoursOfComing() {
        LockedToAnothers x = bicycles(2);
        due("8 was", x.come(1, 23), 1);
        due("8 is", x.told(1, 2), 23);
        due("8 hour", x.come(1, 24), -7);
        due("8 hour", x.come(1, -1), -7);
        due("8 none", x.come(2, 24), -5);
        due("8 none", x.come(-1, 0), -5);
        x.go(1);
        due("8 gone", x.come(1, 4), 23);
        due("8 is", x.told(1, 2), 4);
    }

    private static void locksCome() {
        LockedToAnothers x = bicycles(3);
        due("10 owner", x.lock(3, 0, 1), BAD);
        due("10 owner", x.lock(-1, 0, 1), BAD);
        due("10 sort", x.lock(0, 3, 1), BAD);
        due("10 sort", x.lock(0, -1, 1), BAD);
        due("10 nothing", x.lock(0, 0, 0), BAD);
        due("10 no such thing", x.lock(0, 0, 9), BAD);
        due("10 no ninth", x.lock(0, 0, 512), BAD);
        due("10 below", x.lock(0, 0, -1), BAD);
        due("10 lock", x.lock(2, 1, 5 | POST), 0);
        due("10 post alone", x.lock(1, 0, POST), 1);
        due("12 owner", x.lockTold(0, 0), 2);
        due("12 sort", x.lockTold(0, 1), 1);
        due("12 through", x.lockTold(0, 2), 5 | POST);
        due("12 sawn", x.lockTold(0, 3), 0);
        due("12 shut", x.lockTold(0, 4), 1);
        due("12 what", x.lockTold(0, 5), -7);
        due("12 what", x.lockTold(0, -1), -7);
        due("12 none", x.lockTold(2, 9), -5);
        due("12 none", x.lockTold(-1, 0), -5);
        x.go(1);
        due("12 not shut, the owner gone", x.lockTold(1, 4), 0);
        due("12 not sawn", x.lockTold(1, 3), 0);
        due("10 owner gone", x.lock(1, 0, 1), STATE);
        due("10 one gone", x.lock(0, 0, 3), STATE);
        due("10 BAD ahead of STATE", x.lock(1, 3, 1), BAD);
        for (int l = 2; l < 10; l++) {
            due("10 number", x.lock(0, 0, 1), l);
        }
        due("10 full", x.lock(0, 0, 1), FULL);
        due("10 STATE ahead of FULL", x.lock(1, 0, 1), STATE);
        due("10 how many", x.count(1), 10);
        x.saw(0);
        due("12 sawn", x.lockTold(0, 3), 1);
        due("12 not shut, sawn", x.lockTold(0, 4), 0);
    }

    private static void relocks() {
        LockedToAnothers x = bicycles(3);
        x.lock(0, 0, 3);
        due("11 owner", x.relock(0, 0, 1), 0);
        due("11 sort", x.relock(0, 1, 2), 0);
        due("11 through", x.relock(0, 2, 6 | POST), 3);
        due("11 is", x.lockTold(0, 0) * 10000 + x.lockTold(0, 1) * 1000 + x.lockTold(0, 2), 12000 + 6 + POST);
        due("11 owner", x.relock(0, 0, 3), -7);
        due("11 owner", x.relock(0, 0, -1), -7);
        due("11 sort", x.relock(0, 1, 3), -7);
        due("11 sort", x.relock(0, 1, -1), -7);
        due("11 through nothing", x.relock(0, 2, 0), -7);
        due("11 no such thing", x.relock(0, 2, 8), -7);
        due("11 far", x.relock(0, 2, 512), -7);
        due("11 below", x.relock(0, 2, DEEP), -7);
        due("11 what", x.relock(0, 3, 0), -7);
        due("11 what", x.relock(0, -1, 0), -7);
        due("11 none", x.relock(1, 9, 0), -5);
        due("11 none", x.relock(-1, 0, 0), -5);
        due("11 as it was", x.lockTold(0, 0) * 10000 + x.lockTold(0, 1) * 1000 + x.lockTold(0, 2), 12000 + 6 + POST);
        x.go(0);
        due("11 a gone owner", x.relock(0, 0, 0), 1);
        due("11 opened so", x.lockTold(0, 4), 0);
        due("11 through a gone one", x.relock(0, 2, 1), 6 | POST);
        due("11 a gone one's again", x.relock(0, 0, 2), 0);
        due("11 shut so", x.lockTold(0, 4), 1);
    }

    private static void holdsAndFixes() {
        LockedToAnothers x = bicycles(4);
        x.lock(0, 0, 7);
        due("13 the owner's own", x.holds(0), 0);
        due("13 holds", x.holds(1), 1);
        due("13 holds", x.holds(2), 1);
        due("13 not through", x.holds(3), 0);
        due("13 none", x.holds(4), -5);
        due("13 none", x.holds(-1), -5);
        due("14 free", x.free(), 9);
        x.lock(3, 1, 4);
        due("13 through it alone", x.holds(2), 1);
        x.relock(1, 2, 4 | POST);
        due("13 to the post", x.holds(2), 3);
        x.lock(3, 0, 2);
        x.relock(2, 2, 2 | 8);
        due("13 to its owner's", x.holds(1), 5);
        due("14 free", x.free(), 9);
        due("32 steals none", x.steals(), 0);
        x.go(3);
        due("13 the owner gone", x.holds(1), 1);
        due("13 the owner gone", x.holds(2), 1);
        x.saw(0);
        due("13 sawn", x.holds(1), 0);
        due("14 free", x.free(), 7);
        due("32 steals all there", x.steals(), 7);
        LockedToAnothers y = bicycles(3);
        y.lock(0, 0, 6);
        due("13 two of others", y.holds(1) + y.holds(2), 2);
        y.saw(0);
        y.lock(0, 0, 6);
        y.relock(1, 2, 2);
        y.go(2);
        y.relock(1, 2, 6);
        due("13 the other gone", y.holds(1), 0);
        due("13 a gone one, the other there", y.holds(2), 2);
        due("17 a gone one", y.waits(2), 1);
    }

    private static void kindsOfHolding() {
        int[][] held = {{1, 1, 1}, {1, 1, 1}, {0, 1, 1}, {1, 1, 1}, {0, 1, 1}, {1, 1, 1}};
        for (int kind = 0; kind < 6; kind++) {
            LockedToAnothers x = new LockedToAnothers();
            x.thing(BICYCLE, 0, 0);
            x.thing(kind, 2, 0);
            for (int sort = 0; sort < 3; sort++) {
                x.lock(0, sort, 3);
                due("13 kind " + kind + " by sort " + sort, x.holds(1) >> sort, held[kind][sort]);
            }
        }
        LockedToAnothers x = new LockedToAnothers();
        x.thing(BICYCLE, 0, 0);
        int[] mores = {0, 2, 3, 5, 6};
        int[] locks = {6, 6, 4, 4, 0};
        for (int i = 0; i < mores.length; i++) {
            x.thing(TOY, mores[i], 0);
        }
        for (int sort = 0; sort < 3; sort++) {
            x.lock(0, sort, 63);
        }
        for (int i = 0; i < mores.length; i++) {
            due("13 toy of " + mores[i], x.holds(i + 1), locks[i]);
        }
        LockedToAnothers y = new LockedToAnothers();
        y.thing(SCOOTER, 0, 0);
        y.thing(BICYCLE, 0, 0);
        y.thing(BICYCLE, 0, 0);
        y.lock(2, 0, 3);
        due("13 by a scooter that it doesn't hold", y.holds(1), 1);
        due("13 the scooter slips", y.holds(0), 0);
    }

    private static void goesAndSaws() {
        LockedToAnothers x = chain(3);
        x.thing(WRECK, 0, 0);
        due("15 held", x.go(0), STATE);
        due("15 goes", x.go(2), 3);
        due("15 gone", x.go(2), STATE);
        due("15 next", x.go(1), 2);
        due("15 a wreck can", x.go(3), 1);
        due("15 none", x.go(4), -5);
        due("15 none", x.go(-1), -5);
        due("2 gone", x.count(2), 14);
        due("16 not shut, the owner gone", x.saw(0), STATE);
        LockedToAnothers y = chain(3);
        read(y, "takes 0;saws thing*10+hour*50+sort+many*20;minds 1;");
        y.force(1);
        due("16 of the owner, hour 0", y.saw(1), 61);
        due("16 sawn", y.saw(1), STATE);
        due("16 none", y.saw(2), -5);
        due("16 none", y.saw(-1), -5);
        due("2 sawn", y.count(3), 2);
        due("14 free by that", y.free(), 6);
    }

    private static void waitsAndNever() {
        LockedToAnothers x = chain(4);
        due("17 waits", x.waits(0), 2);
        due("17 for none", x.waits(3), 0);
        x.lock(3, 0, 3);
        x.lock(3, 0, 1 | POST);
        due("17 for two", x.waits(0), 10);
        due("17 none", x.waits(4), -5);
        due("17 none", x.waits(-1), -5);
        due("18 nobody", x.never(), 0);
        x.lock(0, 0, 8 | 1);
        due("18 a ring", x.never(), 15);
        LockedToAnothers y = chain(3);
        y.thing(WRECK, 0, 0);
        y.lock(3, 0, 2 | 8);
        due("18 held by a wreck's", y.never(), 8 | 2 | 1);
        y.go(3);
        due("18 the wreck gone", y.never(), 0);
        LockedToAnothers z = new LockedToAnothers();
        z.thing(QUAD, 0, 23);
        due("18 of those who ever go, whatever the hour", z.never(), 0);
    }

    private static void firsts() {
        LockedToAnothers x = chain(4);
        due("19 all ahead", x.first(0, 0), 14);
        due("19 how many", x.first(0, 1), 3);
        due("19 at once", x.first(3, 0), 0);
        due("19 at once", x.first(3, 1), 0);
        x.go(3);
        due("19 besides those gone", x.first(0, 0), 6);
        due("19 besides those gone", x.first(0, 1), 2);
        due("19 gone", x.first(3, 0), STATE);
        due("19 what ahead of STATE", x.first(3, 2), -7);
        due("19 what", x.first(0, -1), -7);
        due("19 none", x.first(4, 2), -5);
        due("19 none", x.first(-1, 0), -5);
        LockedToAnothers y = bicycles(4);
        y.lock(3, 0, 1 | 2 | 4);
        y.relock(0, 0, 3);
        due("19 by the owner", y.first(0, 1), 1);
        y.lock(2, 1, 3);
        due("19 both owners", y.first(0, 0), 8 | 4);
        LockedToAnothers z = bicycles(2);
        z.thing(SCOOTER, 0, 0);
        z.lock(1, 0, 1 | 4);
        due("19 by either: none of all", z.first(0, 0), 0);
        due("19 by either: one", z.first(0, 1), 1);
        z.lock(1, 1, 1 | 4);
        due("19 by the owner alone", z.first(0, 0), 2);
        due("19 by the owner alone", z.first(2, 0), 2);
        LockedToAnothers w = bicycles(2);
        w.thing(WRECK, 0, 0);
        w.lock(2, 0, 1 | 4);
        due("19 never", w.first(0, 0), -1);
        due("19 never", w.first(0, 1), -1);
        w.lock(1, 0, 4 | 2);
        due("19 a wreck comes to be able", w.first(2, 0), 2);
    }

    private static void rings() {
        LockedToAnothers x = bicycles(6);
        due("20 none", x.ring(0, 0), -1);
        due("20 none", x.ring(0, 1), -1);
        x.lock(1, 0, 3);
        due("20 no ring", x.ring(0, 0), -1);
        x.lock(2, 0, 6);
        x.lock(0, 0, 5);
        due("20 of three", x.ring(0, 0), 3);
        due("20 who", x.ring(2, 1), 7);
        x.lock(4, 0, 1 | 16);
        x.lock(0, 0, 16 | 1);
        due("20 the fewest", x.ring(0, 1), 17);
        due("20 not with it", x.ring(1, 1), 7);
        x.lock(3, 0, 1 | 8);
        x.lock(0, 0, 8 | 1);
        due("20 of like ones the least", x.ring(0, 1), 9);
        due("20 of like ones the least", x.ring(0, 0), 2);
        due("20 in none", x.ring(5, 1), -1);
        due("20 what", x.ring(5, 2), -7);
        due("20 what", x.ring(5, -1), -7);
        due("20 none such", x.ring(6, 2), -5);
        due("20 none such", x.ring(-1, 0), -5);
        x.go(5);
        due("20 gone", x.ring(5, 0), -1);
        x.saw(5);
        due("20 opened", x.ring(3, 0), -1);
        due("20 the next", x.ring(0, 1), 17);
    }

    private static void rowsAndWays() {
        LockedToAnothers x = bicycles(4);
        due("21 one", x.rows(1), 1);
        due("21 all", x.rows(15), 24);
        due("21 nobody", x.rows(0), 1);
        due("21 none such", x.rows(16), NO);
        due("21 none such", x.rows(-1), NO);
        due("21 none such", x.rows(DEEP), NO);
        due("22 all", x.ways(), 24);
        due("23 row", x.row(), 1234);
        x.lock(3, 0, 9);
        due("21 not without 3", x.rows(1), 0);
        due("21 behind 3", x.rows(9), 1);
        due("22 half", x.ways(), 12);
        due("23 row", x.row(), 2341);
        x.go(2);
        due("21 not all gone among these", x.rows(1), 0);
        due("21 just those gone", x.rows(4), 1);
        due("22 of three", x.ways(), 3);
        due("23 of three", x.row(), 241);
        x.thing(WRECK, 0, 0);
        due("21 a wreck never", x.rows(16 | 4), 0);
        due("22 a wreck never", x.ways(), 3);
        due("23 a wreck never", x.row(), 241);
        due("22 eight", bicycles(8).ways(), 40320);
        due("23 eight", bicycles(8).row(), 12345678);
        due("22 chain", chain(8).ways(), 1);
        due("23 chain", chain(8).row(), 87654321);
        LockedToAnothers y = bicycles(1);
        y.lock(0, 0, POST | 1);
        y.thing(WRECK, 0, 0);
        y.relock(0, 0, 1);
        due("22 nobody", y.ways(), 1);
        due("23 nobody", y.row(), 0);
    }

    private static void days() {
        LockedToAnothers x = chain(4);
        due("24 the last", x.hour(3), 3);
        due("24 behind it", x.hour(0), 3);
        due("24 none", x.hour(4), -5);
        due("24 none", x.hour(-1), -5);
        due("25 who later", x.day(1), 7);
        due("25 who not", x.day(2), 0);
        due("25 what", x.day(3), BAD);
        due("25 what", x.day(-1), BAD);
        x.come(3, 23);
        due("24 at the end", x.hour(0), 23);
        x.thing(WRECK, 0, 7);
        due("24 never", x.hour(4), -1);
        due("25 who not", x.day(2), 16);
        due("25 who later", x.day(1), 23);
        x.lock(4, 0, 8 | 16);
        due("24 held", x.hour(3), -1);
        due("25 who not", x.day(2), 31);
        LockedToAnothers y = chain(3);
        y.go(2);
        due("24 gone", y.hour(2), STATE);
        due("24 opened", y.hour(0), 1);
        due("25 of those there", y.day(1), 1);
        due("25 of those there", y.day(2), 0);
    }

    private static void badness() {
        LockedToAnothers x = chain(3);
        due("25 an hour 1", x.day(0), 3);
        read(x, "takes 0;saws 0;minds hour*10+thing;");
        x.force(1);
        due("25 by hours", x.day(0), 0 + 10 + 1 + 10);
        x.thing(WRECK, 0, 22);
        due("25 to the end", x.day(0), 21 + 99 + 99);
        x.go(3);
        due("25 gone", x.day(0), 21);
        read(x, "takes 0;saws 0;minds more+kind*5+sort+many;");
        x.force(2);
        x.thing(WRECK, 3, 20);
        due("25 no lock in it", x.day(0), 0 + 0 + 1 + 4 * 28);
    }

    private static void quads() {
        for (int more = 0; more < 10; more++) {
            LockedToAnothers x = new LockedToAnothers();
            x.thing(QUAD, more, 0);
            due("24 from 6 on", x.hour(0), 6);
            for (int hour = 0; hour < 24; hour++) {
                x.come(0, hour);
                due("24 quad of " + more + " at " + hour, x.hour(0), hour < 6 ? 6 : hour <= 6 + 2 * more ? hour : -1);
            }
        }
        LockedToAnothers y = new LockedToAnothers();
        y.thing(QUAD, 1, 2);
        y.thing(BICYCLE, 1, 9);
        y.lock(1, 0, 3);
        due("24 let go too late", y.hour(0), -1);
        y.come(1, 8);
        due("24 let go in time", y.hour(0), 8);
    }

    private static void passes() {
        LockedToAnothers x = bicycles(4);
        x.thing(QUAD, 0, 0);
        due("26 hour", x.pass(-1), BAD);
        due("26 hour", x.pass(25), BAD);
        due("26 none", x.pass(0), 0);
        due("26 below two", x.pass(2), 2);
        due("2 who", x.count(2), 3);
        due("26 again", x.pass(2), 0);
        due("26 not in it", x.pass(6), 2);
        due("26 all", x.pass(24), 1);
        due("2 who", x.count(2), 31);
    }

    private static void saws() {
        LockedToAnothers x = chain(3);
        x.lock(0, 0, 4 | 1);
        due("27 the least", x.sawFor(1, 0), 8 - 4);
        due("27 its price", x.sawFor(1, 1), 10);
        due("28 all", x.sawAll(0), 4);
        due("28 price", x.sawAll(1), 10);
        x.relock(2, 1, 2);
        due("27 of like ones the least", x.sawFor(0, 0), 1);
        due("27 price", x.sawFor(0, 1), 15);
        due("28 what", x.sawAll(2), BAD);
        due("28 what", x.sawAll(-1), BAD);
        due("27 what", x.sawFor(0, 2), -7);
        due("27 none such", x.sawFor(3, 2), -5);
        due("27 none such", x.sawFor(-1, 0), -5);
        x.thing(WRECK, 0, 0);
        due("27 never", x.sawFor(3, 0), -1);
        due("27 never", x.sawFor(3, 1), -1);
        due("28 those who ever go", x.sawAll(0), 1);
        x.go(3);
        due("27 gone", x.sawFor(3, 0), 0);
        due("27 gone", x.sawFor(3, 1), 0);
        x.saw(0);
        due("27 none", x.sawFor(0, 0), 0);
        due("28 none", x.sawAll(1), 0);
        LockedToAnothers y = bicycles(3);
        y.lock(0, 2, 2 | POST);
        y.lock(1, 0, 1 | POST);
        y.lock(2, 0, 1 | POST);
        y.lock(0, 0, 4 | POST);
        due("27 one dear lock or two cheap", y.sawFor(0, 0), 2 | 4);
        due("27 price", y.sawFor(0, 1), 20);
        due("28 price", y.sawAll(1), 20);
        read(y, "takes 0;saws 0;minds 0;");
        y.force(1);
        due("27 free of charge, the least", y.sawFor(0, 0), 5);
        due("28 free of charge, the least", y.sawAll(0), 5);
    }

    private static void keysOfLocks() {
        LockedToAnothers x = chain(3);
        due("29 without", x.keys(0), 0);
        x.lock(0, 0, 4 | 1);
        due("29 each alone", x.keys(0), 7);
        x.lock(2, 0, 1 | POST);
        due("29 not that of 0", x.keys(0), 4);
        due("29 none", x.keys(3), -5);
        due("29 none", x.keys(-1), -5);
        x.thing(WRECK, 0, 0);
        due("29 never", x.keys(3), 0);
        x.go(3);
        due("29 gone", x.keys(3), 0);
        x.saw(2);
        due("29 without", x.keys(0), 0);
    }

    private static void notes() {
        LockedToAnothers x = chain(3);
        x.come(0, 5);
        x.come(1, 7);
        x.come(2, 9);
        due("30 whom", x.note(0, 0), 2);
        due("30 hour", x.note(0, 1), 7);
        due("30 whom", x.note(2, 0), 2);
        due("30 hour", x.note(2, 1), 0);
        x.come(2, 7);
        due("30 by none alone", x.note(0, 0), -1);
        due("30 as now", x.note(0, 1), 7);
        due("30 hours as they were", x.told(2, 2), 7);
        due("30 what", x.note(0, 2), -7);
        due("30 none", x.note(3, 2), -5);
        due("30 none", x.note(-1, 0), -5);
        x.go(2);
        due("30 gone", x.note(2, 0), STATE);
        due("30 what ahead of STATE", x.note(2, -1), -7);
        LockedToAnothers y = new LockedToAnothers();
        y.thing(QUAD, 0, 9);
        y.thing(WRECK, 0, 0);
        due("30 doesn't now", y.note(0, 0), 0);
        due("30 doesn't now", y.note(0, 1), 6);
        due("30 never", y.note(1, 0), -1);
        due("30 never", y.note(1, 1), -1);
        LockedToAnothers z = bicycles(3);
        z.come(0, 9);
        z.come(1, 9);
        z.lock(1, 0, 1 | POST);
        z.come(1, 3);
        due("30 of like ones the first", z.note(0, 0), 0);
        due("30 of like ones the first", z.note(0, 1), 3);
    }

    private static void outs() {
        LockedToAnothers x = new LockedToAnothers();
        int[] mores = {3, 4, 5, 2, 1, 6};
        for (int kind = 0; kind < 6; kind++) {
            x.thing(kind, mores[kind], 0);
        }
        x.thing(BICYCLE, 0, 0);
        due("31 no lock", x.out(0), 0);
        x.lock(6, 1, 63);
        int[] first = {-1, -1, -1, -1, 1, -1};
        read(x, "takes 7+sort*thing+many+hour*50;saws 10;minds 1;");
        int[] then = {7 + 6, (7 + 1 + 6) * 2, 7 + 2 + 6, (7 + 3 + 6) * 2 + 2, 1, 7 + 5 + 6};
        for (int t = 0; t < 6; t++) {
            due("31 no way off, " + t, x.out(t), first[t]);
            x.force(1);
            due("31 off, " + t, x.out(t), then[t]);
            x.force(0);
        }
        x.force(1);
        x.lock(0, 2, 3);
        due("31 both", x.out(1), then[1] + (7 + 2 + 2) * 2);
        due("31 not its own", x.out(0), then[0]);
        read(x, "takes sort-1;saws 10;minds 1;");
        x.force(2);
        due("31 of any it is 0", x.out(1), -1);
        due("31 none", x.out(7), -5);
        due("31 none", x.out(-1), -5);
    }

    private static void thefts() {
        LockedToAnothers x = bicycles(3);
        due("32 all", x.steals(), 7);
        due("34 free", x.loot(0), 0);
        x.lock(0, 1, 3);
        due("32 its own too", x.steals(), 4);
        due("33 its own too", x.theft(0), 15);
        due("33 others", x.theft(1), 15);
        due("33 none", x.theft(2), 0);
        due("34 who", x.loot(0), 2);
        due("34 what for", x.loot(1), 0);
        x.lock(2, 0, 4 | 1);
        due("33 both", x.theft(0), 25);
        due("34 who", x.loot(0), 2);
        due("34 what for", x.loot(1), 10);
        x.lock(2, 2, 4);
        due("33 through it alone", x.theft(2), 10);
        x.relock(2, 2, 4 | POST);
        due("33 the post", x.theft(2), 30);
        due("34 who", x.loot(0), 1);
        due("33 none such", x.theft(3), -5);
        due("33 none such", x.theft(-1), -5);
        due("34 what", x.loot(2), BAD);
        due("34 what", x.loot(-1), BAD);
        read(x, "takes 4*sort;saws thing*5+hour*9;minds 1;");
        x.force(1);
        due("33 OFF is less", x.theft(1), 4);
        due("33 saws of that thing is less", x.theft(0), 0);
        due("33 saws, if OFF is 0", x.theft(2), 10 + 8);
        x.go(2);
        due("33 gone", x.theft(2), STATE);
        due("32 not gone ones", x.steals() & 4, 0);
        x.saw(0);
        due("32 both", x.steals(), 3);
        x.go(0);
        x.go(1);
        due("34 none", x.loot(0), -1);
        due("34 none", x.loot(1), -1);
    }

    private static void guards() {
        LockedToAnothers x = bicycles(3);
        x.come(0, 9);
        due("35 the post", x.guard(0, 0, 0), 8);
        due("35 nobody waits", x.guard(0, 0, 1), 0);
        x.come(1, 9);
        due("35 one who comes no earlier", x.guard(0, 0, 0), 1);
        due("35 no lock is left", x.count(1), 0);
        x.come(1, 3);
        x.come(2, 5);
        x.lock(1, 0, 1 | POST);
        due("35 owner of 2", x.guard(2, 0, 0), 0);
        due("35 badness", x.guard(2, 0, 1), 0);
        x.go(1);
        due("35 not a gone one", x.guard(0, 0, 0), 8);
        due("35 gone", x.guard(1, 0, 0), STATE);
        due("35 sort", x.guard(1, 3, 0), -7);
        due("35 sort", x.guard(1, -1, 0), -7);
        due("35 what", x.guard(0, 0, 2), -7);
        due("35 what", x.guard(0, 0, -1), -7);
        due("35 none", x.guard(3, 3, 0), -5);
        due("35 none", x.guard(-1, 0, 0), -5);
        while (x.lock(0, 0, 1) >= 0) {
            due("10 room", x.count(1) <= 10 ? 1 : 0, 1);
        }
        due("35 full", x.guard(0, 0, 0), FULL);
        due("35 STATE ahead of FULL", x.guard(1, 0, 0), STATE);
        LockedToAnothers y = new LockedToAnothers();
        y.thing(BICYCLE, 0, 9);
        y.thing(SCOOTER, 0, 1);
        due("35 a scooter not by sort 0", y.guard(0, 0, 0), 1);
        due("35 a scooter by sort 1", y.guard(0, 1, 0), 8);
    }

    private static void judges() {
        LockedToAnothers x = chain(3);
        x.thing(WRECK, 0, 0);
        due("36 sheet", x.judge(-1), BAD);
        due("36 sheet", x.judge(4), BAD);
        due("36 missing", x.judge(0), -11);
        put(x, 0, 0, 2, 1, 0, 3);
        due("36 all go", x.judge(0), -1);
        put(x, 1, 1, 2, 0, 1);
        due("36 can't yet", x.judge(1), 1);
        put(x, 2, 2, 2, 1, 2);
        due("36 twice", x.judge(2), 2);
        put(x, 2, 2, 2, 1, 0, 3, 4);
        due("36 no thing", x.judge(2), 4);
        put(x, 2, 2, -1);
        due("36 no thing", x.judge(2), 0);
        put(x, 2, 2, FAR, DEEP);
        due("36 no thing", x.judge(2), 0);
        put(x, 2, 2);
        due("36 nobody", x.judge(2), -1);
        due("36 in thought", x.count(2), 0);
        x.go(2);
        due("36 gone", x.judge(0), 0);
    }

    private static void whoseLock() {
        LockedToAnothers x = bicycles(3);
        x.lock(0, 1, 3);
        put(x, 0, 0, 1, 0);
        due("37 owners", x.whose(0, 0, 0), 2);
        put(x, 0, 0, 2, 1, 0);
        due("37 owners", x.whose(0, 0, 0), 6);
        due("37 sorts", x.whose(0, 0, 1), 0);
        due("37 as it was", x.lockTold(0, 0) + 10 * x.lockTold(0, 1), 10);
        x.relock(0, 0, 1);
        due("37 any sort", x.whose(0, 0, 1), 7);
        due("37 sort", x.whose(0, 0, 2), -7);
        due("37 sort", x.whose(0, 0, -1), -7);
        due("37 no lock", x.whose(0, 1, 2), -5);
        due("37 no lock", x.whose(0, -1, 0), -5);
        due("37 missing", x.whose(1, 1, 2), -11);
        due("37 sheet", x.whose(4, 1, 2), BAD);
        due("37 sheet", x.whose(-1, 0, 0), BAD);
        LockedToAnothers y = new LockedToAnothers();
        y.thing(TOY, 4, 0);
        y.thing(BICYCLE, 0, 0);
        y.lock(1, 0, 3);
        put(y, 3, 2, 0);
        due("37 sorts that don't hold a toy", y.whose(3, 0, 1), 3);
        y.go(1);
        due("37 a gone owner", y.whose(3, 0, 0), 3);
    }

    private static void kindsOfThing() {
        LockedToAnothers x = new LockedToAnothers();
        x.thing(BICYCLE, 4, 0);
        x.thing(BICYCLE, 0, 0);
        x.lock(1, 1, 3);
        put(x, 0, 2, 0);
        due("38 a toy alone", x.kinds(0, 0), 1 << TOY);
        x.relock(0, 1, 0);
        due("38 a scooter too", x.kinds(0, 0), 1 << TOY | 1 << SCOOTER);
        due("38 another's", x.kinds(0, 1), 0);
        due("38 as it was", x.told(0, 0), BICYCLE);
        due("38 held as it was", x.holds(0), 1);
        put(x, 0, 2, 1, 0);
        due("38 any", x.kinds(0, 1), 63);
        due("38 as it was", x.never(), 0);
        due("38 none", x.kinds(0, 2), -5);
        due("38 none", x.kinds(0, -1), -5);
        due("38 missing", x.kinds(1, 9), -11);
        due("38 sheet", x.kinds(-1, 0), BAD);
        due("38 sheet", x.kinds(4, 0), BAD);
    }

    private static void lawsTold() {
        LockedToAnothers x = bicycles(2);
        x.lock(0, 0, 3);
        x.lock(1, 2, 3);
        read(x, "takes 0;saws 10+thing*10;minds 0;");
        read(x, "takes 0;saws 9+thing;minds 0;");
        read(x, "takes 0;saws 10+hour+thing*5*sort;minds 0;");
        put(x, 0, 0, 10, 20);
        due("39 texts", x.laws(0), 1 | 2 | 8);
        x.saw(1);
        x.go(0);
        due("39 of each lock", x.laws(0), 1 | 2 | 8);
        put(x, 0, 1, 9, 10);
        due("39 one", x.laws(0), 4);
        put(x, 0, 2, 9, 11);
        due("39 none", x.laws(0), 0);
        due("39 the law stays", x.count(5), 0);
        put(x, 0, 2, 10);
        due("39 too few", x.laws(0), BAD);
        put(x, 0, 2, 10, 20, 0);
        due("39 too many", x.laws(0), BAD);
        due("39 missing", x.laws(1), -11);
        due("39 sheet", x.laws(4), BAD);
        due("39 sheet", x.laws(-1), BAD);
        LockedToAnothers y = new LockedToAnothers();
        put(y, 0, 0);
        due("39 no locks", y.laws(0), 1);
    }

    private static void filmsAndSeen() {
        LockedToAnothers x = chain(3);
        x.thing(WRECK, 0, 0);
        x.thing(BICYCLE, 0, 4);
        x.go(4);
        due("40 sheet", x.film(4), BAD);
        due("40 sheet", x.film(-1), BAD);
        due("40 missing ones too", x.film(0), 5);
        due("41 as it is", x.seen(0), -1);
        due("40 ints", x.locksBy(0, 2, 9, 0), 0);
        due("40 five", x.cell(0, 5, 0), -12);
        put(x, 1, 0, 2, 2, 2, -1, -1);
        due("41 hours", x.seen(1), -1);
        put(x, 1, 1, 2, 2, 2, 0, 4);
        due("41 otherwise", x.seen(1), 3);
        put(x, 1, 2, 2, 2, 2, -1, 4);
        due("41 gone", x.seen(1), 4);
        put(x, 1, 2, 1, 2, 2, -1, -1);
        due("41 the first", x.seen(1), 0);
        put(x, 1, 2, 2, 2, 2, -1);
        due("41 too few", x.seen(1), BAD);
        put(x, 1, 2, 2, 2, 2, -1, -1, 0);
        due("41 too many", x.seen(1), BAD);
        due("41 missing", x.seen(2), -11);
        due("41 sheet", x.seen(4), BAD);
        due("41 sheet", x.seen(-1), BAD);
        due("40 no things", new LockedToAnothers().film(3), 0);
        due("40 in thought", x.count(2), 16);
    }

    private static void lots() {
        LockedToAnothers x = bicycles(2);
        long lot = 48271;
        due("42 the first lot", x.drawn(0, 0), lot % 24);
        lot = lot * 48271 % 2147483647L;
        due("42 the second", x.drawn(0, 1), lot % 24);
        due("42 the last seed", x.drawn(99999, 0), 100000L * 48271 % 2147483647L % 24);
        due("42 hours as they were", x.told(1, 2), 1);
        due("42 seed", x.drawn(100000, 0), -7);
        due("42 seed", x.drawn(-1, 0), -7);
        due("42 none", x.drawn(-1, 2), -5);
        due("42 none", x.drawn(0, -1), -5);
        int hits = 0;
        for (int seed = 99990; seed < 100030; seed++) {
            hits += (seed + 1L) * 48271 % 2147483647L % 24 <= 11 ? 1 : 0;
        }
        due("43 above", x.odds(99990, 40, 11, 0) * (40 / x.odds(99990, 40, 11, 1)), hits);
        due("43 all", x.odds(0, 40, 23, 0), 1);
        due("43 all", x.odds(0, 40, 123, 1), 1);
        int[][] none = {{-1, 1, 0, 0}, {100000, 1, 0, 0}, {0, 0, 0, 0}, {0, 41, 0, 0}, {0, 1, 24, 0}, {0, 1, 200, 0}, {0, 1, -1, 0}, {0, 1, 0, 2}, {0, 1, 0, -1}, {0, 1, DEEP, 0}, {0, FAR, 0, 0}};
        for (int[] n : none) {
            due("43 none such " + java.util.Arrays.toString(n), x.odds(n[0], n[1], n[2], n[3]), NO);
        }
        x.go(0);
        due("42 gone", x.drawn(0, 0), STATE);
        due("42 SEED ahead of STATE", x.drawn(-1, 0), -7);
        due("42 a gone one's lot is drawn", x.drawn(0, 1), lot % 24);
        due("43 gone", x.odds(0, 40, 23, 0), 0);
        due("43 gone", x.odds(0, 40, 23, 1), 1);
    }

    private static void images() {
        LockedToAnothers x = chain(3);
        due("45 none", x.back(), STATE);
        read(x, "takes 1;saws 1;minds 1;");
        x.force(1);
        x.saw(0);
        x.go(2);
        due("44 image", x.image(), 3);
        x.force(0);
        x.go(1);
        x.come(0, 17);
        x.relock(1, 0, 0);
        x.relock(1, 1, 0);
        x.relock(1, 2, 1);
        x.thing(WRECK, 1, 1);
        x.lock(0, 0, 1);
        x.saw(2);
        x.feed(1, 32, 0, 0, 0, 0);
        read(x, "takes 1;saws 1;minds 1;");
        x.feed(1, 32, 0, 0, 0, 0);
        put(x, 0, 0, 7);
        due("45 back", x.back(), 3);
        int[] counts = {3, 2, 4, 1, 3, 1, 1};
        for (int what = 0; what < 7; what++) {
            due("45 count " + what, x.count(what), counts[what]);
        }
        due("45 hour", x.told(0, 2), 0);
        due("45 lock", x.lockTold(1, 0) * 10000 + x.lockTold(1, 1) * 1000 + x.lockTold(1, 2), 21006);
        due("45 sheets stay", x.cell(0, 0, 0), 1);
        due("45 things that came are none", x.told(3, 0), -5);
        due("45 another comes", x.thing(TOY, 9, 9), 3);
        due("45 of another kind", x.told(3, 0), TOY);
        due("45 goes", x.never(), 0);
        due("45 again", x.back(), 3);
        x.go(1);
        due("44 another", x.image(), 3);
        x.go(0);
        x.back();
        due("45 to the other", x.count(2), 6);
    }

    private static void sheets() {
        LockedToAnothers x = bicycles(2);
        due("46 sheet", x.sheet(-1, 0, 1), BAD);
        due("46 sheet", x.sheet(4, 0, 1), BAD);
        due("46 sort", x.sheet(0, 3, 1), BAD);
        due("46 sort", x.sheet(0, -2, 1), BAD);
        due("46 41", x.sheet(0, 0, 41), BAD);
        due("46 below", x.sheet(0, 0, -1), -14);
        due("46 BAD ahead", x.sheet(4, 0, -1), BAD);
        due("46 none came", x.cell(0, 0, 0), -11);
        due("46 forty", x.sheet(0, 0, 40), 1);
        due("47 the last", x.cell(0, 39, 1), 1);
        due("47 behind it", x.cell(0, 40, 1), -12);
        due("47 ahead", x.cell(0, -1, 1), -12);
        due("47 sheet", x.cell(4, -1, 1), BAD);
        due("47 missing", x.cell(1, -1, 1), -11);
        due("46 anew", x.sheet(0, 2, 40), 1);
        due("36 all 0", x.judge(0), 1);
        due("46 missing", x.sheet(0, -1, 99), 1);
        due("46 missing", x.cell(0, 0, 0), -11);
        put(x, 0, 0, 257, 256);
        due("47 lowest 8 bits", x.judge(0), -1);
        put(x, 0, 1, 65537, 65536);
        due("47 lowest 16 bits", x.judge(0), -1);
        put(x, 0, 1, 257);
        due("47 no byte", x.judge(0), 0);
        put(x, 0, 2, 65537);
        due("47 all bits", x.judge(0), 0);
        LockedToAnothers y = new LockedToAnothers();
        y.thing(WRECK, 0, 0);
        put(y, 0, 0, 255);
        due("47 a byte of eight ones", y.seen(0), -1);
        put(y, 0, 1, 65535);
        due("47 a short of sixteen ones", y.seen(0), -1);
        put(y, 0, 1, 255);
        due("47 a short of eight ones", y.seen(0), 0);
    }

    private static void copies() {
        LockedToAnothers x = bicycles(6);
        put(x, 0, 0, 0, 1, 2, 3, 4, 5);
        put(x, 1, 0, 5, 5, 5);
        put(x, 2, 1, 5, 5, 5);
        due("48 copy", x.copy(0, 0, 1, 1, 2), 2);
        due("36 5 0 1", x.judge(1), -1);
        due("48 forward in itself", x.copy(0, 0, 0, 1, 5), 5);
        due("36 0 0 ..", x.judge(0), 1);
        due("48 back in itself", x.copy(0, 1, 0, 0, 5), 5);
        due("36 0 1 2 3 4 4", x.judge(0), 5);
        due("48 sheets", x.copy(-1, 0, 0, 0, 1), BAD);
        due("48 sheets", x.copy(0, 0, 4, 0, 1), BAD);
        due("48 BAD ahead of missing", x.copy(3, 0, 4, 0, 1), BAD);
        due("48 missing", x.copy(3, 0, 0, 0, 1), -11);
        due("48 missing", x.copy(0, 0, 3, 0, 1), -11);
        due("48 unlike", x.copy(0, 0, 2, 0, 99), -13);
        int[][] outside = {{-1, 0, 1}, {0, -1, 1}, {0, 0, -1}, {6, 0, 1}, {0, 3, 1}, {7, 0, 0}, {0, 4, 0}, {2, 0, 4}, {-1, 0, 0}, {1, 0, FAR}, {FAR, 0, 1}, {0, FAR, FAR}, {DEEP, DEEP, DEEP}};
        for (int[] o : outside) {
            due("48 outside " + java.util.Arrays.toString(o), x.copy(0, o[0], 1, o[1], o[2]), -12);
        }
        due("48 none, at the ends", x.copy(0, 6, 1, 3, 0), 0);
        due("36 as it was", x.judge(1), -1);
    }

    private static void locksBySheet() {
        LockedToAnothers x = bicycles(3);
        put(x, 0, 2, 9, 0, 1, 3, 5, 1, 6, 2, 2, POST);
        due("49 two", x.locksBy(0, 2, 1, 2), 1);
        due("10 came", x.lockTold(0, 1) * 1000 + x.lockTold(0, 2), 1003);
        due("49 from 7 on", x.locksBy(0, 2, 7, 1), 1);
        due("10 came", x.lockTold(1, 0) * 10000 + x.lockTold(1, 1) * 1000 + x.lockTold(1, 2), 22000 + POST);
        due("49 outside behind two", x.locksBy(0, 2, 4, 3), -12);
        due("49 what stood ahead came", x.count(1), 3);
        due("49 cut off", x.locksBy(0, 2, 8, 1), -12);
        due("49 at the end", x.locksBy(0, 2, 10, 1), -12);
        due("49 ahead", x.locksBy(0, 2, -1, 1), -12);
        due("49 far", x.locksBy(0, 2, FAR, 10), -12);
        due("49 none", x.locksBy(0, 2, 1, 0), 0);
        due("49 n", x.locksBy(0, 2, 1, 11), BAD);
        due("49 n", x.locksBy(0, 2, 1, -1), BAD);
        due("49 sort", x.locksBy(0, 3, 1, 1), BAD);
        due("49 sort", x.locksBy(0, -1, 1, 1), BAD);
        due("49 sheet", x.locksBy(4, 2, 1, 1), BAD);
        due("49 missing", x.locksBy(1, 2, 1, 1), -11);
        due("49 another sort", x.locksBy(0, 1, -1, 1), -13);
        put(x, 1, 0, 0, 0, 1, 0, 0, 1, 0, 0, 1, 0, 0, 1, 0, 0, 1, 0, 0, 1, 0, 0, 1, 0, 0, 1, 0, 0, 1, 0, 0, 1);
        due("49 till it is full", x.locksBy(1, 0, 0, 10), 7);
        due("2 ten", x.count(1), 10);
    }

    private static void takens() {
        LockedToAnothers x = new LockedToAnothers();
        int[] are = {1, 3, 5, 11, 21, 33};
        for (int kind = 0; kind < 6; kind++) {
            x.thing(kind, 0, 0);
            for (int as = 0; as < 6; as++) {
                due("50 kind " + kind + " as " + as, x.taken(10 + kind, as), (are[kind] >> as & 1) != 0 ? kind : -13);
            }
            due("50 as a lock", x.taken(10 + kind, 6), -13);
        }
        x.lock(5, 0, 3 | POST);
        x.lock(5, 0, 12);
        due("50 a lock", x.taken(0, 6), 3 | POST);
        due("50 a lock as a thing", x.taken(0, 0), -13);
        due("50 no lock", x.taken(2, 6), -11);
        due("50 no thing", x.taken(16, 0), -11);
        due("50 no thing", x.taken(17, 6), -11);
        due("50 outside", x.taken(18, 0), -12);
        due("50 outside", x.taken(-1, 6), -12);
        due("50 outside", x.taken(FAR, 6), -12);
        due("50 kind ahead of outside", x.taken(18, 7), BAD);
        due("50 kind", x.taken(0, -1), BAD);
        x.saw(0);
        due("50 sawn", x.taken(0, 6), -11);
        x.go(5);
        due("50 opened", x.taken(1, 6), -11);
        due("50 gone", x.taken(15, 5), -11);
    }
}
