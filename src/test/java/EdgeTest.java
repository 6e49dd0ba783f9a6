/**
 * Each sentence of the document that names a boundary case, in the document's order, with a test of its own:
 * too small, too large, empty, full, a wrap-around. (Refused calls, and which refusal comes first: RefusalTest.)
 */
public final class EdgeTest {
    private static final int BAD = -2, STATE = -3, FULL = -4, NO_SUCH = -5, NOT_AS_TOLD = -7;
    private static final int MISSING = -11, OUTSIDE = -12, UNLIKE = -13, BELOW = -14;
    private static final long NO = -4611686018427387904L;
    private static final int BICYCLE = 0, TANDEM = 1, SCOOTER = 2, QUAD = 3, TOY = 4, WRECK = 5;
    private static final int POST = 256;
    private static final int FAR = Integer.MAX_VALUE, DEEP = Integer.MIN_VALUE;
    private static final String REST = ";saws 1;minds 1;";
    private static String sentence = "";
    private static int wrong = 0;

    public static void main(String[] args) {
        constants();
        termsOfThings();
        termsOfLocks();
        termsOfKinds();
        termsOfTokens();
        termsOfTexts();
        termsOfFaults();
        termsOfOpenSigns();
        termsOfWorths();
        termsOfNames();
        termsOfHolding();
        termsOfGoing();
        termsOfBadness();
        termsOfLots();
        termsOfImages();
        termsOfSheets();
        promises1To6();
        promises7To12();
        promises13To16();
        promises17To20();
        promises21To23();
        promises24To26();
        promises27To31();
        promises32To35();
        promises36To38();
        promises39To41();
        promises42And43();
        promises44And45();
        promises46And47();
        promises48To50();
        aFullRail();
        numbersFarOff();
        System.out.println(wrong == 0 ? "the edges hold" : wrong + " edges are broken");
        if (wrong != 0) {
            System.exit(1);
        }
    }

    /** The sentence of the document that the answers behind it are due by. */
    private static void says(String words) {
        sentence = words;
    }

    private static void due(long got, long want) {
        if (got != want) {
            wrong++;
            System.out.println(sentence + " | line " + line() + ": answered " + got + ", due is " + want);
        }
    }

    private static int line() {
        for (StackTraceElement at : new Throwable().getStackTrace()) {
            if (!at.getMethodName().equals("line") && !at.getMethodName().equals("due")) {
                return at.getLineNumber();
            }
        }
        return 0;
    }

    private static void write(LockedToAnothers x, String text) {
        for (int i = 0; i < text.length(); i++) {
            due(x.feed(1, text.charAt(i), 0, 0, 0, 0) > 0 ? 1 : 0, 1);
        }
    }

    private static int read(LockedToAnothers x, String text) {
        write(x, text);
        return x.text();
    }

    private static int readAlone(String text) {
        return read(new LockedToAnothers(), text);
    }

    private static void law(LockedToAnothers x, String takes, String saws, String minds) {
        int text = read(x, "takes " + takes + ";saws " + saws + ";minds " + minds + ";");
        due(x.force(text) >= 0 ? 1 : 0, 1);
    }

    /** The fault of a text stands at the place where it is marked by a ^ (which isn't fed). */
    private static void fault(String marked) {
        int place = marked.indexOf('^');
        due(readAlone(marked.substring(0, place) + marked.substring(place + 1)), -100 - place);
    }

    private static void good(String takes) {
        due(readAlone("takes " + takes + REST), 1);
    }

    private static void put(LockedToAnothers x, int s, int sort, int... numbers) {
        due(x.sheet(s, sort, numbers.length), 1);
        for (int i = 0; i < numbers.length; i++) {
            due(x.cell(s, i, numbers[i]), 1);
        }
    }

    private static LockedToAnothers things(int... kindMoreHour) {
        LockedToAnothers x = new LockedToAnothers();
        for (int i = 0; i < kindMoreHour.length; i += 3) {
            due(x.thing(kindMoreHour[i], kindMoreHour[i + 1], kindMoreHour[i + 2]), i / 3);
        }
        return x;
    }

    /** Bicycles without MORE, that come in HOUR 0. */
    private static LockedToAnothers bicycles(int n) {
        return things(new int[3 * n]);
    }

    /** Bicycles of which each but the last is held by the lock (of the same number) of the next. */
    private static LockedToAnothers chain(int n) {
        LockedToAnothers x = bicycles(n);
        for (int t = 0; t + 1 < n; t++) {
            due(x.lock(t + 1, 1, 3 << t), t);
        }
        return x;
    }

    private static void constants() {
        says("public static final int NONE = -1, BAD = -2, STATE = -3, FULL = -4;");
        due(LockedToAnothers.NONE, -1);
        due(LockedToAnothers.BAD, -2);
        due(LockedToAnothers.STATE, -3);
        due(LockedToAnothers.FULL, -4);
        says("public static final long NO = -4611686018427387904L;");
        due(LockedToAnothers.NO, -(1L << 62));
    }

    // ---- Terms, 1

    private static void termsOfThings() {
        says("THINGS are numbered from 0 on, 8 at most");
        LockedToAnothers x = new LockedToAnothers();
        for (int t = 0; t < 8; t++) {
            due(x.thing(BICYCLE, 0, 0), t);
        }
        due(x.thing(BICYCLE, 0, 0), FULL);
        due(x.count(0), 8);
        due(x.told(7, 0), BICYCLE);
        due(x.told(8, 0), NO_SUCH);
        says("of a KIND");
        x = new LockedToAnothers();
        due(x.thing(-1, 0, 0), BAD);
        due(x.thing(6, 0, 0), BAD);
        due(x.thing(0, 0, 0), 0);
        due(x.thing(5, 0, 0), 1);
        says("with MORE (0 .. 9)");
        due(x.thing(0, -1, 0), BAD);
        due(x.thing(0, 10, 0), BAD);
        due(x.thing(0, 0, 0), 2);
        due(x.thing(0, 9, 0), 3);
        due(x.told(2, 1), 0);
        due(x.told(3, 1), 9);
        says("an HOUR (0 .. 23) at which the owner COMES");
        due(x.thing(0, 0, -1), BAD);
        due(x.thing(0, 0, 24), BAD);
        due(x.thing(0, 0, 23), 4);
        due(x.told(4, 2), 23);
        due(x.hour(4), 23);
        due(x.hour(3), 0);
        due(x.count(0), 5);
    }

    private static void termsOfLocks() {
        says("LOCKS are numbered from 0 on, 10 at most");
        LockedToAnothers x = bicycles(1);
        for (int l = 0; l < 10; l++) {
            due(x.lock(0, 0, 1), l);
        }
        due(x.lock(0, 0, 1), FULL);
        due(x.count(1), 10);
        due(x.lockTold(9, 1), 0);
        due(x.lockTold(10, 1), NO_SUCH);
        says("of a SORT (0 .. 2)");
        x = bicycles(8);
        due(x.lock(0, -1, 1), BAD);
        due(x.lock(0, 3, 1), BAD);
        due(x.lock(0, 0, 1), 0);
        due(x.lock(0, 2, 1), 1);
        says("THROUGH some THINGS (bits 0 .. 7) and perhaps a POST (bit 8)");
        due(x.lock(0, 0, 128), 2);
        due(x.lock(0, 0, POST), 3);
        due(x.lock(0, 0, 511), 4);
        due(x.lock(0, 0, 0), BAD);
        due(x.lock(0, 0, 512), BAD);
        due(x.lock(0, 0, 512 + 1), BAD);
        due(x.lock(0, 0, DEEP | 1), BAD);
        due(x.lock(0, 0, -1), BAD);
        due(x.count(1), 5);
        says("It is SHUT, if it isn't SAWN, and the OWNER's THING isn't GONE.");
        x = bicycles(2);
        due(x.lock(0, 0, 3), 0);
        due(x.lock(1, 0, POST), 1);
        due(x.lockTold(0, 4) + x.lockTold(1, 4), 2);
        due(x.saw(0), 10);
        due(x.lockTold(0, 4), 0);
        due(x.lockTold(1, 4), 1);
        due(x.go(1), 1);
        due(x.lockTold(1, 4), 0);
    }

    /** OFF of a thing of a KIND and MORE by one lock of sort 2, the text saying so much. */
    private static int off(int kind, int more, int text) {
        LockedToAnothers x = things(BICYCLE, 0, 0, kind, more, 0);
        due(x.lock(0, 2, 3), 0);
        law(x, String.valueOf(text), "99", "1");
        return x.out(1);
    }

    /** SORTS (bits) of which a lock holds a thing of a KIND and MORE. */
    private static int held(int kind, int more) {
        LockedToAnothers x = things(BICYCLE, 0, 0, kind, more, 0);
        for (int sort = 0; sort < 3; sort++) {
            due(x.lock(0, sort, 3), sort);
        }
        return x.holds(1);
    }

    private static void termsOfKinds() {
        says("2 SCOOTER (a BICYCLE): not by SORT 0.");
        due(held(BICYCLE, 0), 7);
        due(held(TANDEM, 9), 7);
        due(held(SCOOTER, 0), 6);
        due(held(SCOOTER, 9), 6);
        due(held(QUAD, 9), 7);
        due(held(WRECK, 9), 7);
        says("4 TOY (a SCOOTER): only if 3 times SORT is above MORE, too");
        int[] toys = {6, 6, 6, 4, 4, 4, 0, 0, 0, 0};
        for (int more = 0; more < 10; more++) {
            due(held(TOY, more), toys[more]);
        }
        says("1 TANDEM (a BICYCLE): OFF twice as much.");
        due(off(BICYCLE, 9, 99), 99);
        due(off(TANDEM, 9, 99), 198);
        due(off(TANDEM, 9, 1), 2);
        due(off(TANDEM, 9, 0), -1);
        due(off(SCOOTER, 9, 99), 99);
        due(off(WRECK, 9, 1), 1);
        due(off(WRECK, 9, 0), -1);
        says("3 QUAD (a TANDEM): OFF MORE more, but 0, if the text says 0");
        due(off(QUAD, 9, 99), 207);
        due(off(QUAD, 9, 1), 11);
        due(off(QUAD, 0, 1), 2);
        due(off(QUAD, 9, 0), -1);
        due(off(QUAD, 0, 0), -1);
        says("OFF 1.");
        due(off(TOY, 5, 0), 1);
        due(off(TOY, 5, 1), 1);
        due(off(TOY, 5, 99), 1);
        says("GOES in HOURS 6 .. 6 and twice MORE.");
        for (int more = 0; more < 10; more++) {
            for (int hour = 0; hour < 24; hour++) {
                due(things(QUAD, more, hour).hour(0), hour < 6 ? 6 : hour > 6 + 2 * more ? -1 : hour);
            }
        }
        due(things(QUAD, 0, 7).hour(0), -1);
        due(things(QUAD, 8, 23).hour(0), -1);
        due(things(QUAD, 9, 23).hour(0), 23);
        says("5 WRECK (a BICYCLE): never GOES.");
        LockedToAnothers x = things(WRECK, 9, 0);
        due(x.hour(0), -1);
        due(x.never(), 1);
        due(x.row(), 0);
        due(x.free(), 1);
        due(x.rows(1), 0);
    }

    private static void termsOfTokens() {
        says("A TEXT is read from THE TAPE (160 bytes at most).");
        String text = "takes 1" + REST;
        LockedToAnothers x = new LockedToAnothers();
        write(x, text);
        for (int size = text.length(); size < 160; size++) {
            due(x.feed(1, ' ', 0, 0, 0, 0), size + 1);
        }
        due(x.feed(1, ' ', 0, 0, 0, 0), FULL);
        due(x.text(), 1);
        StringBuilder sum = new StringBuilder("1");
        while (sum.length() < 160 - text.length()) {
            sum.append("+1");
        }
        String longest = "takes " + sum + REST + " ".repeat(160 - 6 - sum.length() - REST.length());
        due(longest.length(), 160);
        x = bicycles(1);
        due(read(x, longest), 1);
        due(x.force(1), 0);
        due(x.asks(0, 0, -1, 0), (sum.length() + 1) / 2);
        says("WORDS (as many letters a .. z as stand there)");
        good("1and not 0");
        good("1or 0and(more)");
        good("more\nor\nkind");
        fault("takes 1^andnot0" + REST);
        fault("^takesmore" + REST);
        fault("takes ^moremore" + REST);
        fault("takes ^mor" + REST);
        fault("takes ^mores" + REST);
        fault("takes ^z" + REST);
        fault("takes 1 ^orz 1" + REST);
        fault("takes 1 ^aor 1" + REST);
        fault("takes 1 or^`1" + REST);
        fault("takes 1 or^{1" + REST);
        fault("takes 1 or^O1" + REST);
        fault("takes 1 ^a" + REST);
        says("NUMBERS (as many digits as stand there; more than 4 are too long)");
        good("9999");
        good("0000");
        good("12and 34");
        fault("takes ^10000" + REST);
        fault("takes ^00000" + REST);
        fault("takes 1+^123456789012345678901234567890" + REST);
        fault("takes 1 ^2" + REST);
        fault("takes 12^more" + REST);
        fault("takes 1^/2" + REST);
        fault("takes 9^:1" + REST);
        fault("takes ^/" + REST);
        says("SIGNS ( ) ; + - * < = ;");
        String signs = "();+-*<=";
        for (int b = 33; b < 256; b++) {
            boolean letter = b >= 'a' && b <= 'z' || b >= '0' && b <= '9';
            // Behind a number + - * < = may stand, and what comes next can't then.
            boolean joins = signs.indexOf((char) b) >= 3;
            due(letter ? -107 : readAlone("takes 1" + (char) b + ";"), b == ';' ? -108 : joins ? -108 : -107);
        }
        says("blanks (32, 10) may stand between.");
        good(" \n\n  1\n+ 1 \n");
        due(readAlone(" \n takes 1" + REST + "\n \n"), 1);
        for (int b = 0; b < 32; b++) {
            due(readAlone("takes 1" + (char) b + REST), b == 10 ? 1 : -107);
        }
        fault("takes 1+^\t1" + REST);
        fault("^ta kes 1" + REST);
        fault("takes 1\n ^2" + REST);
    }

    private static void termsOfTexts() {
        says("TEXT: takes E ; saws E ; minds E ;");
        due(readAlone("takes 1;saws 1;minds 1;"), 1);
        fault("^");
        fault(" \n ^");
        fault("^saws 1;takes 1;minds 1;");
        fault("takes 1;^minds 1;saws 1;");
        fault("takes 1;saws 1;^takes 1;");
        fault("takes 1;saws 1;minds 1^");
        fault("takes 1;saws 1;minds 1 ^");
        fault("takes 1;saws 1;minds 1;^;");
        fault("takes 1;saws 1;minds 1;^1");
        fault("takes 1;saws 1;minds 1; ^takes 1;saws 1;minds 1;");
        fault("takes 1^saws 1;minds 1;");
        fault("takes^;saws 1;minds 1;");
        fault("takes^");
        fault("takes 1^");
        fault("takes 1;^");
        fault("takes 1;saws^");
        fault("takes 1;saws 1;minds^");
        fault("^;takes 1;saws 1;minds 1;");
        says("E: AND { or AND }. AND: NOT { and NOT }.");
        good("1 or 1 or 1 or 1");
        good("1 and 1 and 1 and 1");
        good("not 1 or not 1 and not 1");
        fault("takes ^or 1" + REST);
        fault("takes ^and 1" + REST);
        fault("takes 1 or^" + REST);
        fault("takes 1 and^" + REST);
        fault("takes 1 or ^and 1" + REST);
        fault("takes 1 and ^or 1" + REST);
        fault("takes 1 or 1 ^not 1" + REST);
        says("NOT: not NOT, or SUM, perhaps < or = and a SUM.");
        good("1<1");
        good("1=1");
        good("not 1<1 and 1=1");
        good("(1<1)<(1=1)");
        fault("takes 1<1^<1" + REST);
        fault("takes 1<1^=1" + REST);
        fault("takes 1=1^=1" + REST);
        fault("takes 1=1^<1" + REST);
        fault("takes 1<^=1" + REST);
        fault("takes 1=^<1" + REST);
        fault("takes ^<1" + REST);
        fault("takes 1<^" + REST);
        fault("takes 1<^not 1" + REST);
        fault("takes not^" + REST);
        says("SUM: TERM { + or - TERM }. TERM: ONE { * ONE }.");
        good("1+1-1+1-1");
        good("1*1*1*1");
        fault("takes 1+^" + REST);
        fault("takes 1-^" + REST);
        fault("takes 1*^" + REST);
        fault("takes ^+1" + REST);
        fault("takes ^*1" + REST);
        fault("takes 1+^+1" + REST);
        fault("takes 1*^*1" + REST);
        fault("takes 1+^not 1" + REST);
        fault("takes 1*^not 1" + REST);
        says("ONE: a NUMBER, a NAME, - ONE, ( E ).");
        good("--1");
        good("1- -1");
        good("-(1 or 1)");
        good("more+sort+hour+thing+many+kind");
        fault("takes (^)" + REST);
        fault("takes (1^" + REST);
        fault("takes 1^)" + REST);
        fault("takes (1)^)" + REST);
        fault("takes -^" + REST);
        fault("takes -^not 1" + REST);
        fault("takes -^+1" + REST);
        fault("takes 1^(1)" + REST);
        fault("takes (1)^1" + REST);
        fault("takes ^takes" + REST);
        fault("takes ^saws" + REST);
        fault("takes ^minds" + REST);
    }

    private static void termsOfFaults() {
        says("FAULT: the place of the first byte of the first TOKEN that can't stand there");
        fault("takes 1;saws 1 ^more;minds 1;");
        fault("takes 1  \n ^more ; $");
        fault("takes 1;saws 1;minds 1;\n\n^kind");
        says("(the text's size, if it ends too early)");
        fault("takes 1;saws 1;minds 1   ^");
        fault("takes 1;\n^");
        fault("takes (1 ^");
        fault("takes -^");
        fault("takes not \n\n^");
        says("also of a byte that begins none");
        fault("^$");
        fault("takes 1^$" + REST);
        fault("takes ^A" + REST);
        fault("takes 1;saws 1;minds 1;^.");
        fault("takes 1;saws 1;minds 1; ^" + (char) 255);
        fault("takes ^" + (char) 0 + REST);
        says("of a WORD that is neither KEY nor NAME");
        fault("takes 1;saws 1;minds 1;^end");
        fault("takes ^hours" + REST);
        fault("takes ^man" + REST);
        fault("takes 1 ^an 1" + REST);
        fault("takes 1 ^nots 1" + REST);
        says("a NUMBER that is too long");
        fault("takes 1;saws ^12345;minds 1;");
        fault("takes 1;saws 1;minds 1;^12345");
        says("The first of several FAULTS is told");
        fault("takes ^; $ 12345 mores");
        fault("takes ^$ ; 12345");
        fault("takes ^12345 $");
        says("the place may be the last of THE TAPE, or its size");
        String full = "takes 1" + REST + " ".repeat(160 - 7 - REST.length());
        fault(full.substring(0, 159) + "^$");
        fault("takes 1;" + " ".repeat(152) + "^");
        fault("takes 1+" + " ".repeat(151) + "^)");
        fault("takes 1+" + " ".repeat(151) + "9^");
        fault("takes 1+" + " ".repeat(148) + "9999^");
        fault("takes 1+" + " ".repeat(147) + "^99999");
        fault("takes 1+" + " ".repeat(148) + "more^");
        fault("takes 1+" + " ".repeat(149) + "^mor");
        fault("takes 1+" + " ".repeat(151) + "^m");
        fault("takes 1+" + " ".repeat(151) + "-^");
        says("nothing of a text with a FAULT stays behind");
        LockedToAnothers x = bicycles(1);
        due(read(x, "takes 1;saws 1;minds -----not 1;$"), -126);
        due(read(x, "takes 1;saws 1;minds -----1;$"), -128);
        due(read(x, "takes 2;saws 3;minds 4;"), 1);
        due(x.force(1), 0);
        due(x.asks(0, 0, -1, 0) * 100 + x.asks(1, 0, -1, 0) * 10 + x.asks(2, 0, -1, 0), 234);
        due(read(x, "takes 5;saws 6;minds 7;"), 2);
        due(x.asks(0, 0, -1, 0) * 100 + x.asks(1, 0, -1, 0) * 10 + x.asks(2, 0, -1, 0), 234);
    }

    private static void termsOfOpenSigns() {
        says("a ( , a not, a - ahead of a ONE while 5 of these are open");
        good("(((((1)))))");
        good("-----1");
        good("not not not not not 1");
        good("not(-(-1))");
        good("not-(not(1)+(1))");
        fault("takes not-(not(1)+(^-1))" + REST);
        fault("takes (((((^(1))))))" + REST);
        fault("takes -----^-1" + REST);
        fault("takes not not not not not ^not 1" + REST);
        fault("takes not not not not not ^-1" + REST);
        fault("takes not not not not not ^(1)" + REST);
        fault("takes (((((^-1)))))" + REST);
        fault("takes (((((^not 1)))))" + REST);
        fault("takes -----^(1)" + REST);
        fault("takes -(not -(^(1)))" + REST);
        fault("takes (((((1+^(1))))))" + REST);
        fault("takes (((((1<^-1)))))" + REST);
        fault("takes (((((1 and ^not 1)))))" + REST);
        says("(a ( till its ) , not and - till what they belong to ends)");
        good("(((((1)))))+(((((1)))))");
        good("(((((1))))+((((1)))))");
        good("-----1*-----1");
        good("-----1-1-1-1-1-1");
        good("-----1+-----1");
        good("not not not not not 1 and not not not not not 1 or not not not not not 1");
        good("((((-1*-1+-1))))");
        good("not not not not -1<-1");
        good("not not not -(1)<(-1)");
        fault("takes not not not not not 1<^-1" + REST);
        fault("takes not not not not not 1+1*1=^(1)" + REST);
        fault("takes ((((1<-^-1))))" + REST);
        fault("takes not not not not -^((1))" + REST);
        good("not not not not (1) and (((((1)))))");
        fault("takes not not not not (1) and (((((^(1))))))" + REST);
        good("(not not not not 1 and not not not not 1)");
        fault("takes (not not not not 1 and not not not not ^not 1)" + REST);
    }

    private static int worth(String e) {
        LockedToAnothers x = things(TOY, 7, 0);
        law(x, "0", e, "0");
        return x.asks(1, 0, -1, 0);
    }

    private static void termsOfWorths() {
        says("An E is an int (32 bits, wrapping)");
        due(worth("9999*9999*21<0"), 0);
        due(worth("9999*9999*22<0"), 1);
        due(worth("8192*8192*8*8=0"), 1);
        due(worth("8192*8192*8*4<0"), 1);
        due(worth("8192*8192*8*4-1<0"), 0);
        due(worth("-(8192*8192*8*4)<0"), 1);
        due(worth("8192*8192*8*4=-(8192*8192*8*4)"), 1);
        due(worth("(8192*8192*8*4-1)+1<0"), 1);
        due(worth("8192*8192*8*4-1-9999*9999*21<0"), 0);
        due(worth("0-8192*8192*8*4<1"), 1);
        due(worth("8192*8192*8*4<8192*8192*8*4-1"), 1);
        says("of or, and, not, <, = 1 or 0 (what is not 0 is true)");
        due(worth("7 or 0"), 1);
        due(worth("0 or -7"), 1);
        due(worth("0 or 0"), 0);
        due(worth("7 and -7"), 1);
        due(worth("2 and 1"), 1);
        due(worth("4 and 3"), 1);
        due(worth("7 and 0"), 0);
        due(worth("0 and 7"), 0);
        due(worth("not 0"), 1);
        due(worth("not 7"), 0);
        due(worth("not -7"), 0);
        due(worth("not not 7"), 1);
        due(worth("7<7"), 0);
        due(worth("6<7"), 1);
        due(worth("-7<-6"), 1);
        due(worth("7=7"), 1);
        due(worth("7=6"), 0);
        due(worth("(6<7)*50"), 50);
        due(worth("(7=7)+(0 or 9)+(9 and 9)+(not 0)"), 4);
        says("E: AND { or AND }: what binds, from the left");
        due(worth("1 or 1 and 0"), 1);
        due(worth("not 0 or 1"), 1);
        due(worth("not 1 and 0"), 0);
        due(worth("not 0=0"), 0);
        due(worth("not 1+1"), 0);
        due(worth("1+1=2"), 1);
        due(worth("10-3-2"), 5);
        due(worth("10-3+2"), 9);
        due(worth("2+3*4"), 14);
        due(worth("-2+5"), 3);
        due(worth("-2*-3"), 6);
        due(worth("50--1"), 51);
    }

    private static void termsOfNames() {
        says("TEXTS are numbered from 0 on, 6 at most");
        LockedToAnothers x = things(BICYCLE, 0, 0);
        for (int text = 1; text < 6; text++) {
            due(read(x, "takes 0;saws " + text + ";minds 1;"), text);
        }
        due(x.count(4), 6);
        write(x, "takes 1" + REST);
        due(x.text(), FULL);
        due(x.count(4), 6);
        due(x.force(5), 0);
        due(x.asks(1, 0, -1, 0), 5);
        due(x.force(6), BAD);
        says("TEXT 0, at first, and THE LAW: takes 0 ; saws 10 + sort * 5 ; minds 1 ;");
        x = things(TANDEM, 9, 23);
        for (int sort = 0; sort < 3; sort++) {
            due(x.lock(0, sort, 1), sort);
            due(x.asks(0, 0, sort, 23), 0);
            due(x.asks(1, 0, sort, 23), 10 + 5 * sort);
            due(x.asks(2, 0, sort, 23), 1);
        }
        says("(0 .. 99 each, else the bound)");
        due(worth("99"), 99);
        due(worth("100"), 99);
        due(worth("9999"), 99);
        due(worth("0"), 0);
        due(worth("-1"), 0);
        due(worth("0-9999*9999"), 0);
        law(x, "100", "100", "100");
        due(x.asks(0, 0, -1, 0) + x.asks(1, 0, -1, 0) + x.asks(2, 0, -1, 0), 297);
        law(x, "-1", "-1", "-1");
        due(x.asks(0, 0, -1, 0) + x.asks(1, 0, -1, 0) + x.asks(2, 0, -1, 0), 0);
        says("more, thing, kind: a THING's MORE, number, KIND (of saws the OWNER's, but where it is told)");
        x = things(TANDEM, 9, 0, WRECK, 4, 0);
        due(x.lock(1, 0, 3), 0);
        law(x, "more*10+thing*5+kind", "more*10+thing*5+kind", "more*10+thing*5+kind");
        due(x.asks(0, 0, 0, 0), 91);
        due(x.asks(1, 0, 0, 0), 91);
        due(x.asks(2, 1, 0, 0), 50);
        due(x.sawAll(1), 50);
        due(x.theft(0), 91);
        due(x.theft(1), 50);
        due(x.saw(0), 50);
        says("sort, many: of a LOCK SORT, THROUGH how many (the POST counts one; of minds 0)");
        x = bicycles(8);
        law(x, "sort*10+many", "sort*10+many", "sort*10+many");
        due(x.lock(0, 2, POST), 0);
        due(x.lock(0, 2, 511), 1);
        due(x.lock(0, 0, 128), 2);
        due(x.lock(0, 1, 255), 3);
        int[] say = {21, 29, 1, 18};
        for (int l = 0; l < 4; l++) {
            due(x.asks(0, 7, l, 0), say[l]);
            due(x.asks(1, 7, l, 0), say[l]);
            due(x.asks(2, 7, l, 0), say[l]);
        }
        due(x.out(7), 29 + 18);
        x = things(BICYCLE, 0, 20, WRECK, 0, 21);
        due(x.lock(1, 2, 3 | POST), 0);
        law(x, "0", "0", "1+sort+many");
        due(x.day(0), 4 + 3);
        due(x.asks(2, 0, 0, 0), 1 + 2 + 3);
        x = bicycles(8);
        law(x, "sort*10+many", "sort*10+many", "sort*10+many");
        due(x.lock(0, 2, POST), 0);
        due(x.lock(0, 2, 511), 1);
        due(x.lock(0, 0, 128), 2);
        due(x.lock(0, 1, 255), 3);
        says("GONE ones are still of those that a LOCK is THROUGH");
        due(x.saw(3) + x.saw(1), 18 + 29);
        due(x.go(7), 7);
        due(x.asks(1, 0, 3, 0), 18);
        says("hour: of minds the HOUR, of the others 0.");
        x = things(BICYCLE, 0, 20, BICYCLE, 0, 22);
        law(x, "hour+1", "hour+1", "hour+1");
        due(x.lock(1, 0, 3), 0);
        due(x.out(0), 1);
        due(x.theft(0), 1);
        due(x.sawAll(1), 0);
        due(x.day(0), 21 + 22);
        due(x.saw(0), 1);
        x = bicycles(1);
        due(x.lock(0, 0, 1 | POST), 0);
        law(x, "0", "hour*9+8", "0");
        due(x.theft(0), 8);
        due(x.sawFor(0, 1), 0);
        put(x, 0, 0, 8);
        due(x.laws(0), 2);
    }

    // ---- Terms, 2

    private static void termsOfHolding() {
        says("A LOCK HOLDS a THING, if it is SHUT, not its OWNER's own, THROUGH it");
        LockedToAnothers x = bicycles(4);
        due(x.lock(0, 1, 7), 0);
        due(x.holds(0), 0);
        due(x.holds(1), 1);
        due(x.holds(2), 1);
        due(x.holds(3), 0);
        says("and THROUGH another THING that isn't GONE, or the POST");
        due(x.lock(3, 1, 2), 1);
        due(x.holds(1), 1);
        due(x.relock(1, 2, 2 | POST), 2);
        due(x.holds(1), 3);
        due(x.relock(1, 2, POST), 2 | POST);
        due(x.holds(1), 1);
        due(x.relock(1, 2, 3), POST);
        due(x.holds(0), 2);
        due(x.holds(1), 3);
        due(x.go(3), 3);
        due(x.holds(1), 1);
        due(x.relock(1, 0, 0), 3);
        due(x.relock(1, 2, 2 | 8), 3);
        due(x.holds(1), 1);
        due(x.relock(1, 2, 2 | 8 | POST), 2 | 8);
        due(x.holds(1), 3);
        due(x.relock(1, 2, 2 | 4 | 8), 2 | 8 | POST);
        due(x.holds(1), 3);
        says("A THING CAN GO, if it isn't GONE, and no LOCK HOLDS it.");
        due(x.free(), 1);
        due(x.go(3), STATE);
        due(x.go(1), STATE);
        due(x.go(0), 2);
        due(x.free(), 6);
        due(new LockedToAnothers().free(), 0);
        says("It EVER GOES, if there is an HOUR in which its owner GOES.");
        x = things(QUAD, 0, 23, WRECK, 9, 0, BICYCLE, 0, 23);
        due(x.never(), 2);
        due(x.day(2), 3);
        says("A LOCK FIXES a THING, if it is SHUT (its OWNER's own, too), THROUGH it, of a SORT that HOLDS it");
        x = things(BICYCLE, 0, 0, SCOOTER, 0, 0, BICYCLE, 0, 0);
        due(x.lock(0, 0, 3), 0);
        due(x.steals(), 6);
        due(x.theft(0), 10);
        due(x.relock(0, 1, 1), 0);
        due(x.steals(), 4);
        due(x.saw(0), 15);
        due(x.steals(), 7);
        says("and THROUGH another THING that isn't GONE, or the POST (a LOCK FIXES)");
        x = bicycles(2);
        due(x.lock(0, 0, 1), 0);
        due(x.steals(), 3);
        due(x.relock(0, 2, 1 | POST), 1);
        due(x.steals(), 2);
        due(x.relock(0, 2, POST), 1 | POST);
        due(x.steals(), 3);
        due(x.relock(0, 2, 3), POST);
        due(x.steals(), 0);
        due(x.relock(0, 2, 1), 3);
        due(x.go(1), 1);
        due(x.relock(0, 2, 3), 1);
        due(x.steals(), 1);
    }

    private static void termsOfGoing() {
        says("AT LAST: of those who EVER GO each who CAN GO goes, as long as any does.");
        due(new LockedToAnothers().never(), 0);
        due(chain(8).never(), 0);
        LockedToAnothers x = chain(7);
        due(x.thing(WRECK, 0, 0), 7);
        due(x.lock(7, 0, 64 | 128), 6);
        due(x.never(), 255);
        due(x.saw(6), 10);
        due(x.never(), 128);
        says("A DAY, in thought, HOUR by HOUR: again and again, by numbers .. till in one round none does");
        x = chain(8);
        due(x.hour(0), 0);
        due(x.come(7, 23), 0);
        due(x.hour(0), 23);
        due(x.day(1), 127);
        due(x.come(3, 23), 0);
        due(x.day(1), 127 - 8);
        says("each whose owner has COME (in this HOUR or an earlier one)");
        due(things(BICYCLE, 0, 23).hour(0), 23);
        due(things(BICYCLE, 0, 0).hour(0), 0);
        due(things(QUAD, 9, 5).hour(0), 6);
        says("GOES in it, and who CAN GO");
        x = things(QUAD, 1, 0, BICYCLE, 0, 9);
        due(x.lock(1, 0, 3), 0);
        due(x.hour(0), -1);
        due(x.come(1, 8), 9);
        due(x.hour(0), 8);
        x = things(BICYCLE, 0, 3, QUAD, 9, 0, WRECK, 0, 0);
        due(x.lock(1, 0, 3), 0);
        due(x.hour(0), 6);
        due(x.lock(2, 0, 6), 1);
        due(x.hour(0), -1);
    }

    private static void termsOfBadness() {
        says("BADNESS of one: minds of each HOUR from that of its COMING on to the one ahead of that in which it goes");
        LockedToAnothers x = things(BICYCLE, 0, 5, BICYCLE, 0, 7);
        law(x, "0", "0", "hour");
        due(x.day(0), 0);
        due(x.lock(1, 0, 3), 0);
        due(x.day(0), 5 + 6);
        due(x.come(1, 6), 7);
        due(x.day(0), 5);
        due(x.come(1, 5), 6);
        due(x.day(0), 0);
        due(x.come(1, 23), 5);
        due(x.day(0), 253 - 10);
        says("(to HOUR 23, if it doesn't)");
        x = things(WRECK, 0, 0);
        law(x, "0", "0", "hour");
        due(x.day(0), 276);
        due(x.come(0, 22), 0);
        due(x.day(0), 22 + 23);
        due(x.come(0, 23), 22);
        due(x.day(0), 23);
        x = things(QUAD, 0, 7);
        due(x.day(0), 17);
        x = things(5, 0, 0, 5, 0, 0, 5, 0, 0, 5, 0, 0, 5, 0, 0, 5, 0, 0, 5, 0, 0, 5, 0, 0);
        law(x, "0", "0", "9999");
        due(x.day(0), 8 * 24 * 99);
    }

    private static void termsOfLots() {
        int[][] lots = {{0, 7, 18, 6, 13, 1, 11, 17, 17}, {1, 14, 12, 5, 19, 19, 22, 3, 10},
            {44487, 16, 22, 8, 10, 22, 6, 6, 2}, {44488, 16, 9, 7, 23, 16, 10, 23, 19},
            {99998, 19, 5, 16, 3, 1, 13, 16, 7}, {99999, 2, 23, 15, 9, 19, 0, 9, 0}};
        LockedToAnothers x = bicycles(8);
        says("the first is (SEED and 1) times 48271 modulo 2147483647, each further one the last times 48271");
        for (int[] row : lots) {
            for (int t = 0; t < 8; t++) {
                due(x.drawn(row[0], t), row[t + 1]);
            }
        }
        says("DRAWN by a SEED (0 .. 99999)");
        due(x.drawn(-1, 0), NOT_AS_TOLD);
        due(x.drawn(100000, 0), NOT_AS_TOLD);
        says("of each THING, by numbers (GONE ones, too)");
        due(x.go(0), 7);
        due(x.go(3), 6);
        due(x.drawn(99999, 1), 23);
        due(x.drawn(99999, 7), 0);
        due(x.drawn(99999, 4), 19);
    }

    private static void termsOfImages() {
        says("AN IMAGE keeps who is GONE, HOURS of COMING, LOCKS with all of them, which are SAWN, how many THINGS there are, THE LAW.");
        LockedToAnothers x = new LockedToAnothers();
        due(x.image(), 0);
        for (int t = 0; t < 8; t++) {
            due(x.thing(WRECK, 9, 23), t);
        }
        for (int l = 0; l < 10; l++) {
            due(x.lock(0, 0, 1), l);
        }
        due(x.saw(9), 10);
        due(x.go(7), 7);
        due(read(x, "takes 1" + REST), 1);
        due(x.force(1), 0);
        due(x.back(), 0);
        int[] counts = {0, 0, 0, 0, 2, 0, 0};
        for (int what = 0; what < 7; what++) {
            due(x.count(what), counts[what]);
        }
        due(x.told(0, 0), NO_SUCH);
        due(x.lockTold(0, 0), NO_SUCH);
        due(x.thing(BICYCLE, 0, 0), 0);
        due(x.never(), 0);
        due(x.lock(0, 2, 1 | POST), 0);
        due(x.lockTold(0, 3), 0);
        due(x.lockTold(0, 4), 1);
        says("an image of a full rail");
        x = bicycles(8);
        for (int l = 0; l < 10; l++) {
            due(x.lock(7, 2, 511 - l), l);
        }
        due(x.saw(9), 20);
        due(x.go(7), 7);
        due(x.image(), 8);
        due(x.pass(24), 7);
        for (int l = 0; l < 10; l++) {
            due(x.relock(l, 0, 0), 7);
            due(x.relock(l, 1, 0), 2);
            due(x.relock(l, 2, 1), 511 - l);
        }
        due(x.come(7, 23), 0);
        due(x.back(), 8);
        for (int l = 0; l < 10; l++) {
            due(x.lockTold(l, 0), 7);
            due(x.lockTold(l, 1), 2);
            due(x.lockTold(l, 2), 511 - l);
            due(x.lockTold(l, 3), l == 9 ? 1 : 0);
        }
        due(x.told(7, 2), 0);
        due(x.count(2), 128);
        due(x.thing(0, 0, 0), FULL);
        due(x.lock(0, 0, 1), FULL);
        says("what follows from what an image keeps is as it was, too");
        x = things(BICYCLE, 0, 9, SCOOTER, 0, 8, WRECK, 0, 0);
        due(x.lock(0, 1, 3), 0);
        due(x.lock(2, 0, 3 | POST), 1);
        due(x.image(), 3);
        due(x.relock(0, 1, 0), 1);
        due(x.relock(1, 2, 4), 3 | POST);
        due(x.thing(BICYCLE, 0, 0), 3);
        due(x.lock(3, 0, POST | 8), 2);
        due(x.go(3), 3);
        due(x.saw(1), 10);
        due(x.never(), 4);
        due(x.back(), 3);
        due(x.holds(0), 2);
        due(x.holds(1), 1);
        due(x.never(), 7);
        due(x.steals(), 4);
        due(x.sawAll(0), 2);
        due(x.sawFor(1, 0), 2);
        due(x.thing(BICYCLE, 0, 0), 3);
        due(x.back(), 3);
        due(x.sawAll(1), 10);
        due(x.thing(WRECK, 0, 0), 3);
        due(x.never(), 15);
        due(x.sawAll(0), 2);
    }

    private static void termsOfSheets() {
        says("SHEETS 0 .. 3 are rows of numbers, or missing (as all are at first)");
        LockedToAnothers x = new LockedToAnothers();
        for (int s = 0; s < 4; s++) {
            due(x.cell(s, 0, 0), MISSING);
            due(x.judge(s), MISSING);
            due(x.seen(s), MISSING);
        }
        due(x.cell(-1, 0, 0), BAD);
        due(x.cell(4, 0, 0), BAD);
        due(x.sheet(0, 0, 1), 1);
        due(x.sheet(3, 2, 1), 1);
        due(x.cell(1, 0, 0), MISSING);
        due(x.cell(2, 0, 0), MISSING);
        says("of sort 0 bytes, 1 shorts, 2 ints, 40 at most");
        for (int sort = 0; sort < 3; sort++) {
            due(x.sheet(0, sort, 40), 1);
            due(x.cell(0, 39, 1), 1);
            due(x.cell(0, 40, 1), OUTSIDE);
            due(x.sheet(0, sort, 41), BAD);
            due(x.cell(0, 39, 1), 1);
        }
        due(x.sheet(0, 3, 1), BAD);
        due(x.sheet(0, -2, 1), BAD);
    }

    // ---- promises, one by one

    private static void promises1To6() {
        says("1 An empty rail.");
        LockedToAnothers x = new LockedToAnothers();
        int[] counts = {0, 0, 0, 0, 1, 0, 0};
        for (int what = 0; what < 7; what++) {
            due(x.count(what), counts[what]);
        }
        says("2 count .. BAD.");
        due(x.count(-1), BAD);
        due(x.count(7), BAD);
        due(x.count(FAR), BAD);
        due(x.count(DEEP), BAD);
        x = bicycles(8);
        for (int l = 0; l < 10; l++) {
            due(x.lock(l % 8, 0, 1 << l % 8), l);
        }
        for (int l = 0; l < 10; l++) {
            due(x.saw(l), 10);
        }
        due(x.pass(24), 8);
        due(x.count(0) * 10000 + x.count(2), 80255);
        due(x.count(1) * 10000 + x.count(3), 101023);
        says("3 The first n (1 .. 5) of five bytes (0 .. 255 each)");
        x = new LockedToAnothers();
        due(x.feed(0, 1, 1, 1, 1, 1), BAD);
        due(x.feed(-1, 1, 1, 1, 1, 1), BAD);
        due(x.feed(6, 1, 1, 1, 1, 1), BAD);
        due(x.feed(FAR, 1, 1, 1, 1, 1), BAD);
        due(x.feed(DEEP, 1, 1, 1, 1, 1), BAD);
        for (int i = 0; i < 5; i++) {
            for (int odd : new int[] {-1, 256, DEEP, FAR}) {
                int[] b = new int[5];
                b[i] = odd;
                due(x.feed(1, b[0], b[1], b[2], b[3], b[4]), BAD);
                due(x.feed(5, b[0], b[1], b[2], b[3], b[4]), BAD);
            }
        }
        due(x.count(6), 0);
        due(x.feed(1, 0, 255, 255, 255, 255), 1);
        due(x.feed(5, 255, 0, 0, 0, 0), 6);
        says("3 come behind THE TAPE's, one by one: how many it has");
        for (int n = 1; n <= 5; n++) {
            x = new LockedToAnothers();
            write(x, "takes ");
            due(x.feed(n, 'm', 'o', 'r', 'e', '+'), 6 + n);
            int[] places = {6, 6, 6, 10, 11};
            due(x.text(), -100 - places[n - 1]);
        }
        says("3 FULL: they have not all room (none comes)");
        x = new LockedToAnothers();
        for (int i = 1; i <= 31; i++) {
            due(x.feed(5, 32, 32, 32, 32, 32), 5 * i);
        }
        due(x.feed(1, 32, 0, 0, 0, 0), 156);
        due(x.feed(5, 32, 32, 32, 32, 32), FULL);
        due(x.count(6), 156);
        due(x.feed(4, 32, 32, 32, 32, 'x'), 160);
        due(x.feed(1, 32, 32, 32, 32, 32), FULL);
        due(x.count(6), 160);
        due(x.text(), -260);
        due(x.feed(5, 32, 32, 32, 32, 32), 5);
        says("4 THE TAPE, which is empty then (by a FAULT, too), is a TEXT: its number");
        x = new LockedToAnothers();
        due(x.text(), -100);
        due(read(x, "takes 1" + REST), 1);
        due(x.count(6), 0);
        due(x.text(), -100);
        due(read(x, "takes $"), -106);
        due(x.count(6), 0);
        due(x.count(4), 2);
        due(read(x, "takes 1" + REST), 2);
        says("4 FULL (ahead of the FAULT; then THE TAPE stays)");
        for (int text = 3; text < 6; text++) {
            due(read(x, "takes 1" + REST), text);
        }
        due(x.text(), FULL);
        write(x, "$$");
        due(x.text(), FULL);
        due(x.count(6), 2);
        due(x.feed(1, 1, 1, 1, 1, 1), 3);
        says("5 A TEXT is THE LAW: which was. BAD.");
        due(x.force(5), 0);
        due(x.force(5), 5);
        due(x.force(0), 5);
        due(x.force(6), BAD);
        due(x.force(-1), BAD);
        due(x.count(5), 0);
        due(new LockedToAnothers().force(0), 0);
        due(new LockedToAnothers().force(1), BAD);
        says("6 What part 0 takes, 1 saws, 2 minds says of a THING, a LOCK (-1: none, sort, many 0), an hour. BAD.");
        x = things(BICYCLE, 0, 0, QUAD, 9, 0);
        due(x.asks(0, 0, 0, 0), BAD);
        due(x.lock(0, 2, 3 | POST), 0);
        law(x, "sort*10+many+hour", "sort*10+many+hour+1", "sort*10+many+hour+2");
        for (int part = 0; part < 3; part++) {
            due(x.asks(part, 1, -1, 0), part);
            due(x.asks(part, 1, -1, 23), 23 + part);
            due(x.asks(part, 0, 0, 23), 46 + part);
        }
        int[][] bad = {{-1, 0, 0, 0}, {3, 0, 0, 0}, {0, -1, 0, 0}, {0, 2, 0, 0}, {0, 0, -2, 0}, {0, 0, 1, 0}, {0, 0, 0, -1},
            {0, 0, 0, 24}, {0, 0, -1, 24}, {0, 0, DEEP, 0}, {FAR, FAR, FAR, FAR}};
        for (int[] b : bad) {
            due(x.asks(b[0], b[1], b[2], b[3]), BAD);
        }
        due(x.saw(0), 24);
        due(x.go(0), 1);
        due(x.asks(1, 0, 0, 0), 24);
    }

    private static void promises7To12() {
        says("7 A THING (KIND, MORE, HOUR): its number. BAD; FULL.");
        LockedToAnothers x = new LockedToAnothers();
        int[][] bad = {{-1, 0, 0}, {6, 0, 0}, {0, -1, 0}, {0, 10, 0}, {0, 0, -1}, {0, 0, 24}, {FAR, FAR, FAR}, {DEEP, DEEP, DEEP}};
        for (int[] b : bad) {
            due(x.thing(b[0], b[1], b[2]), BAD);
        }
        due(x.thing(WRECK, 9, 23), 0);
        due(x.told(0, 0) * 1000 + x.told(0, 1) * 100 + x.told(0, 2), 5923);
        says("8 The HOUR at which its owner COMES becomes another one: which it was. -5: no such THING; -7: HOUR.");
        due(x.come(0, 0), 23);
        due(x.come(0, 23), 0);
        due(x.come(0, -1), NOT_AS_TOLD);
        due(x.come(0, 24), NOT_AS_TOLD);
        due(x.come(0, 23), 23);
        due(x.come(1, 0), NO_SUCH);
        due(x.come(-1, 0), NO_SUCH);
        says("9 Of a THING what 0 KIND, 1 MORE, 2 HOUR, 3 whether it is GONE (1, 0).");
        due(x.told(0, 3), 0);
        due(x.told(0, 4), NOT_AS_TOLD);
        due(x.told(0, -1), NOT_AS_TOLD);
        due(x.told(1, 0), NO_SUCH);
        due(x.told(-1, 0), NO_SUCH);
        due(x.go(0), 0);
        due(x.told(0, 3), 1);
        due(x.come(0, 1), 23);
        says("10 BAD (no such THING among these, too)");
        x = bicycles(3);
        int[][] none = {{-1, 0, 1}, {3, 0, 1}, {0, -1, 1}, {0, 3, 1}, {0, 0, 0}, {0, 0, 8}, {0, 0, 9}, {0, 0, 128}, {0, 0, 512}, {0, 0, -1},
            {0, 0, POST | 8}, {0, 0, FAR}, {0, 0, DEEP}};
        for (int[] b : none) {
            due(x.lock(b[0], b[1], b[2]), BAD);
        }
        due(x.lock(2, 2, 7 | POST), 0);
        due(x.lock(0, 0, POST), 1);
        due(new LockedToAnothers().lock(0, 0, POST), BAD);
        says("10 STATE: the OWNER's THING, or any of these, is GONE");
        x = bicycles(3);
        due(x.go(1), 2);
        due(x.lock(1, 0, 1), STATE);
        due(x.lock(0, 0, 2), STATE);
        due(x.lock(0, 0, 7 | POST), STATE);
        due(x.lock(0, 0, 5 | POST), 0);
        says("10 FULL");
        for (int l = 1; l < 10; l++) {
            due(x.lock(0, 0, 1), l);
        }
        due(x.lock(0, 0, 1), FULL);
        due(x.count(1), 10);
        says("11 A LOCK's OWNER (what 0), SORT (1), THROUGH what (2) becomes v (GONE ones, too): what it was.");
        due(x.relock(9, 0, 1), 0);
        due(x.lockTold(9, 0), 1);
        due(x.lockTold(9, 4), 0);
        due(x.relock(9, 0, 2), 1);
        due(x.lockTold(9, 4), 1);
        due(x.relock(9, 2, 2), 1);
        due(x.relock(9, 2, 7 | POST), 2);
        due(x.relock(9, 2, POST), 7 | POST);
        due(x.relock(9, 1, 2), 0);
        due(x.relock(9, 1, 0), 2);
        says("11 -5: no such LOCK; -7: what, v.");
        due(x.relock(10, 0, 0), NO_SUCH);
        due(x.relock(-1, 0, 0), NO_SUCH);
        int[][] unlike = {{-1, 0}, {3, 0}, {0, -1}, {0, 3}, {1, -1}, {1, 3}, {2, 0}, {2, 8}, {2, 512}, {2, -1}, {2, DEEP}, {FAR, 1}};
        for (int[] u : unlike) {
            due(x.relock(9, u[0], u[1]), NOT_AS_TOLD);
        }
        due(x.lockTold(9, 0) * 10000 + x.lockTold(9, 1) * 1000 + x.lockTold(9, 2), 20000 + POST);
        says("11 a SAWN one may become another's, and stays SAWN");
        due(x.saw(9), 10);
        due(x.relock(9, 0, 0), 2);
        due(x.lockTold(9, 3), 1);
        due(x.lockTold(9, 4), 0);
        says("12 Of a LOCK what 0 OWNER .. 4 whether it is SHUT (1, 0). -5: no such LOCK; -7: what.");
        due(x.lockTold(9, -1), NOT_AS_TOLD);
        due(x.lockTold(9, 5), NOT_AS_TOLD);
        due(x.lockTold(10, 0), NO_SUCH);
        due(x.lockTold(-1, 0), NO_SUCH);
        due(new LockedToAnothers().lockTold(0, 0), NO_SUCH);
    }

    private static void promises13To16() {
        says("13 LOCKS (bits) that HOLD a THING. -5: no such THING.");
        LockedToAnothers x = bicycles(8);
        for (int l = 0; l < 10; l++) {
            due(x.lock(0, 0, 128 | POST), l);
        }
        due(x.holds(7), 1023);
        due(x.holds(6), 0);
        due(x.holds(8), NO_SUCH);
        due(x.holds(-1), NO_SUCH);
        due(new LockedToAnothers().holds(0), NO_SUCH);
        says("14 THINGS (bits) that CAN GO.");
        due(x.free(), 127);
        due(bicycles(8).free(), 255);
        due(new LockedToAnothers().free(), 0);
        says("15 A THING truly goes: how many aren't GONE then.");
        x = chain(8);
        for (int t = 7; t >= 0; t--) {
            due(x.go(t), t);
        }
        says("15 -5: no such THING; STATE: it can't (GONE, too).");
        due(x.go(8), NO_SUCH);
        due(x.go(-1), NO_SUCH);
        due(x.go(0), STATE);
        x = chain(2);
        due(x.go(0), STATE);
        due(x.count(2), 0);
        says("15 one whose owner never GOES truly goes, too");
        x = things(WRECK, 0, 0);
        due(x.go(0), 0);
        says("16 A LOCK is truly SAWN: what saws says (HOUR 0). -5: no such LOCK; STATE: it isn't SHUT.");
        x = bicycles(2);
        law(x, "0", "200-hour", "0");
        due(x.lock(0, 0, 1), 0);
        due(x.lock(1, 0, 1), 1);
        due(x.saw(2), NO_SUCH);
        due(x.saw(-1), NO_SUCH);
        due(x.saw(0), 99);
        due(x.saw(0), STATE);
        due(x.go(1), 1);
        due(x.saw(1), STATE);
        due(x.count(3), 1);
        law(x, "0", "-1", "0");
        due(x.lock(0, 0, 1), 2);
        due(x.saw(2), 0);
        due(x.count(3), 5);
    }

    private static void promises17To20() {
        says("17 OWNERS (bits) of LOCKS that HOLD a THING. -5: no such THING.");
        LockedToAnothers x = bicycles(8);
        for (int t = 0; t < 8; t++) {
            due(x.lock(t, 0, 8 | POST), t);
        }
        due(x.waits(3), 255 - 8);
        due(x.waits(4), 0);
        due(x.waits(8), NO_SUCH);
        due(x.waits(-1), NO_SUCH);
        says("18 THINGS (bits) that aren't GONE AT LAST.");
        due(x.never(), 0);
        due(x.relock(0, 0, 7), 0);
        due(x.relock(0, 2, 128 | 64), 8 | POST);
        due(x.relock(6, 2, 128 | 64), 8 | POST);
        due(x.never(), 128 | 64 | 8);
        due(new LockedToAnothers().never(), 0);
        says("19 In whichever ORDER it becomes so that a THING CAN GO: what 0 all who are GONE each time by then");
        x = chain(8);
        due(x.first(0, 0), 254);
        due(x.first(0, 1), 7);
        due(x.first(7, 0), 0);
        due(x.first(7, 1), 0);
        says("19 besides those GONE now (bits), 1 how many, besides these, are at least");
        due(x.go(7), 7);
        due(x.first(0, 0), 126);
        due(x.first(0, 1), 6);
        due(x.first(6, 0), 0);
        due(x.first(6, 1), 0);
        x = bicycles(8);
        due(x.first(0, 1), 0);
        due(x.first(7, 0), 0);
        for (int t = 0; t < 7; t++) {
            due(x.lock(t, 0, 3 << t), t);
        }
        due(x.first(7, 0), 127);
        due(x.first(7, 1), 7);
        due(x.first(0, 1), 0);
        due(x.first(1, 0), 1);
        x = things(BICYCLE, 0, 0, BICYCLE, 0, 0, SCOOTER, 0, 0, SCOOTER, 0, 0);
        due(x.lock(1, 0, 1 | 4 | 8), 0);
        due(x.first(0, 0), 0);
        due(x.first(0, 1), 1);
        due(x.lock(2, 1, 1 | 2), 1);
        due(x.first(0, 0), 4);
        due(x.first(0, 1), 2);
        says("19 -1: it never becomes so.");
        x = things(BICYCLE, 0, 0, WRECK, 0, 0);
        due(x.lock(1, 0, 3), 0);
        due(x.first(0, 0), -1);
        due(x.first(0, 1), -1);
        due(x.first(1, 0), 0);
        says("19 -5: no such THING; -7: what; STATE: it is GONE.");
        due(x.first(2, 0), NO_SUCH);
        due(x.first(-1, 0), NO_SUCH);
        due(x.first(0, 2), NOT_AS_TOLD);
        due(x.first(0, -1), NOT_AS_TOLD);
        due(x.go(1), 1);
        due(x.first(1, 0), STATE);
        rings();
    }

    private static void rings() {
        says("20 A RING: two or more THINGS that aren't GONE");
        LockedToAnothers x = bicycles(8);
        due(x.lock(0, 0, 1 | POST), 0);
        due(x.ring(0, 0), -1);
        for (int t = 0; t < 8; t++) {
            due(x.lock((t + 1) % 8, 0, 1 << t | POST), t + 1);
        }
        due(x.ring(0, 0), 8);
        due(x.ring(7, 1), 255);
        due(x.relock(8, 0, 6), 0);
        due(x.ring(0, 0), -1);
        due(x.ring(7, 0), 2);
        due(x.ring(7, 1), 192);
        due(x.ring(6, 1), 192);
        says("20 Of those with a THING in it that of fewest, of like ones the least as bits");
        x = bicycles(6);
        due(x.lock(1, 0, 1 | POST), 0);
        due(x.lock(0, 0, 2 | 4 | 8 | POST), 1);
        due(x.lock(3, 0, 1 | POST), 2);
        due(x.ring(0, 1), 3);
        due(x.ring(3, 1), 9);
        due(x.lock(2, 0, 1 | POST), 3);
        due(x.relock(0, 2, POST), 1 | POST);
        due(x.ring(0, 1), 5);
        says("20 -1: there is none. -5: no such THING; -7: what.");
        due(x.ring(1, 0), -1);
        due(x.ring(1, 1), -1);
        due(x.ring(6, 0), NO_SUCH);
        due(x.ring(-1, 0), NO_SUCH);
        due(x.ring(0, 2), NOT_AS_TOLD);
        due(x.ring(0, -1), NOT_AS_TOLD);
        due(x.go(5), 5);
        due(x.ring(5, 0), -1);
        due(x.ring(5, 1), -1);
        due(x.ring(5, 2), NOT_AS_TOLD);
        says("20 each once: one who waits for many is in a ring with each alone");
        x = bicycles(3);
        due(x.lock(0, 0, 6), 0);
        due(x.lock(1, 0, 1 | POST), 1);
        due(x.ring(2, 0), -1);
        due(x.ring(0, 1), 3);
    }

    private static void promises21To23() {
        says("21 In how many ORDERS .. it becomes so that just some (bits) are GONE");
        LockedToAnothers x = bicycles(8);
        due(x.rows(255), 40320);
        due(x.rows(127), 5040);
        due(x.rows(128), 1);
        due(x.rows(0), 1);
        due(new LockedToAnothers().rows(0), 1);
        due(chain(8).rows(255), 1);
        due(chain(8).rows(127), 0);
        says("21 0: not all who are GONE now are among these.");
        due(x.go(7), 7);
        due(x.rows(0), 0);
        due(x.rows(127), 0);
        due(x.rows(128), 1);
        due(x.rows(255), 5040);
        says("21 NO: none such.");
        due(x.rows(256), NO);
        due(x.rows(256 | 128), NO);
        due(x.rows(-1), NO);
        due(x.rows(DEEP), NO);
        due(bicycles(2).rows(4), NO);
        due(bicycles(2).rows(3), 2);
        due(new LockedToAnothers().rows(1), NO);
        says("22 That for those who are GONE AT LAST.");
        due(new LockedToAnothers().ways(), 1);
        due(bicycles(8).ways(), 40320);
        due(chain(8).ways(), 1);
        due(things(WRECK, 0, 0, WRECK, 0, 0).ways(), 1);
        due(x.ways(), 5040);
        due(x.pass(24), 7);
        due(x.ways(), 1);
        says("23 The ORDER .. as digits, 1 more than each, the first the highest (0: nobody goes).");
        due(x.row(), 0);
        due(new LockedToAnothers().row(), 0);
        due(bicycles(1).row(), 1);
        due(bicycles(8).row(), 12345678);
        due(chain(8).row(), 87654321);
        due(things(WRECK, 0, 0, QUAD, 0, 23).row(), 2);
        says("23 each time the least who can goes");
        x = chain(3);
        due(x.row(), 321);
        due(x.relock(1, 0, 0), 2);
        due(x.relock(1, 2, 4 | POST), 6);
        due(x.row(), 213);
    }

    private static void promises24To26() {
        says("24 The HOUR in which a THING goes in a DAY; -1: it doesn't.");
        LockedToAnothers x = things(BICYCLE, 0, 0, BICYCLE, 0, 23, WRECK, 0, 0, QUAD, 0, 7);
        due(x.hour(0), 0);
        due(x.hour(1), 23);
        due(x.hour(2), -1);
        due(x.hour(3), -1);
        says("24 -5: no such THING; STATE: it is GONE.");
        due(x.hour(4), NO_SUCH);
        due(x.hour(-1), NO_SUCH);
        due(x.day(1), 12);
        due(x.day(2), 12);
        due(x.go(0), 3);
        due(x.hour(0), STATE);
        says("25 A DAY: what 0 BADNESS of all that aren't GONE now, 1 .. who doesn't go in the HOUR of COMING, 2 who doesn't go. BAD.");
        due(x.day(0), 24 + 17);
        due(x.day(1), 12);
        due(x.day(2), 12);
        due(x.day(-1), BAD);
        due(x.day(3), BAD);
        due(x.go(2), 2);
        due(x.go(3), 1);
        due(x.day(0) + x.day(1) + x.day(2), 0);
        x = new LockedToAnothers();
        due(x.day(0) + x.day(1) + x.day(2), 0);
        due(x.day(3), BAD);
        says("26 Those who go in HOURS below one (0 .. 24) of a DAY truly go: how many. BAD.");
        x = things(BICYCLE, 0, 0, BICYCLE, 0, 1, BICYCLE, 0, 23, WRECK, 0, 0);
        due(x.pass(-1), BAD);
        due(x.pass(25), BAD);
        due(x.pass(0), 0);
        due(x.count(2), 0);
        due(x.pass(1), 1);
        due(x.count(2), 1);
        due(x.pass(1), 0);
        due(x.pass(23), 1);
        due(x.pass(24), 1);
        due(x.count(2), 7);
        due(x.pass(24), 0);
        due(new LockedToAnothers().pass(24), 0);
        x = chain(8);
        due(x.pass(0), 0);
        due(x.pass(1), 8);
    }

    private static void promises27To31() {
        says("27 Of all sets of SHUT LOCKS (none, too) that by which a THING would be GONE AT LAST (or is)");
        LockedToAnothers x = bicycles(2);
        due(x.sawFor(0, 0), 0);
        due(x.sawFor(0, 1), 0);
        due(x.go(0), 1);
        due(x.sawFor(0, 0), 0);
        due(x.sawFor(0, 1), 0);
        x = bicycles(2);
        for (int l = 0; l < 10; l++) {
            due(x.lock(l % 2, 2, (l % 2 == 0 ? 2 : 1) | POST), l);
        }
        due(x.sawFor(0, 0), 341);
        due(x.sawFor(0, 1), 100);
        due(x.relock(1, 1, 1), 2);
        due(x.sawFor(0, 0), 2 + 8 + 32 + 128 + 512);
        due(x.sawFor(0, 1), 95);
        law(x, "0", "99", "0");
        due(x.sawFor(0, 0), 341);
        due(x.sawFor(1, 1), 495);
        due(x.sawAll(0), 341);
        due(x.sawAll(1), 495);
        says("27 and for which saws of all, together, is least, of like ones the least as bits");
        law(x, "0", "0", "0");
        due(x.sawFor(0, 0), 341);
        due(x.sawFor(0, 1), 0);
        due(bicycles(1).sawFor(0, 0), 0);
        says("27 -1: there is none. -5: no such THING; -7: what.");
        x = things(WRECK, 0, 0, BICYCLE, 0, 0);
        due(x.sawFor(0, 0), -1);
        due(x.sawFor(0, 1), -1);
        due(x.sawFor(2, 0), NO_SUCH);
        due(x.sawFor(-1, 0), NO_SUCH);
        due(x.sawFor(0, 2), NOT_AS_TOLD);
        due(x.sawFor(0, -1), NOT_AS_TOLD);
        due(x.go(0), 1);
        due(x.sawFor(0, 0), 0);
        says("27 SHUT LOCKS alone: one opened or SAWN is in none");
        x = chain(3);
        due(x.lock(0, 1, 4 | POST), 2);
        due(x.sawFor(0, 0), 1);
        due(x.saw(0), 15);
        due(x.sawFor(0, 0), 0);
        due(x.sawAll(0), 0);
        says("28 Likewise by which all who EVER GO would be. BAD.");
        due(new LockedToAnothers().sawAll(0), 0);
        due(new LockedToAnothers().sawAll(1), 0);
        due(things(WRECK, 0, 0).sawAll(0), 0);
        due(x.sawAll(2), BAD);
        due(x.sawAll(-1), BAD);
        x = things(BICYCLE, 0, 0, WRECK, 0, 0, QUAD, 0, 23);
        due(x.lock(1, 0, 1 | POST), 0);
        due(x.lock(1, 0, 4 | POST), 1);
        due(x.lock(0, 0, 2 | POST), 2);
        due(x.sawAll(0), 3);
        due(x.sawAll(1), 20);
        says("29 LOCKS (bits) each of which alone, were it SAWN, would let a THING be GONE AT LAST; 0: it is without.");
        due(x.keys(0), 1);
        due(x.keys(2), 2);
        due(x.keys(1), 0);
        due(x.keys(3), NO_SUCH);
        due(x.keys(-1), NO_SUCH);
        due(x.lock(1, 0, 1 | POST), 3);
        due(x.keys(0), 0);
        due(x.saw(3), 10);
        due(x.keys(0), 1);
        due(x.saw(0), 10);
        due(x.keys(0), 0);
        due(x.go(0), 2);
        due(x.keys(0), 0);
        x = bicycles(2);
        for (int l = 0; l < 10; l++) {
            due(x.lock(l % 2, 1, l < 9 ? POST : 1 | POST), l);
        }
        due(x.keys(0), 0);
        due(x.relock(8, 2, 2 | POST), POST);
        due(x.keys(0), 256 | 512);
        notesAndOuts();
    }

    private static void notesAndOuts() {
        says("30 Of all THINGS (it, too) that by which, did its owner COME in HOUR 0, a THING would go earliest in a DAY");
        LockedToAnothers x = things(BICYCLE, 0, 23, BICYCLE, 0, 0);
        due(x.note(0, 0), 0);
        due(x.note(0, 1), 0);
        says("30 if earlier than now (or doesn't now)");
        due(x.note(1, 0), -1);
        due(x.note(1, 1), 0);
        x = things(QUAD, 0, 7, BICYCLE, 0, 23);
        due(x.note(0, 0), 0);
        due(x.note(0, 1), 6);
        due(x.lock(1, 0, 3), 0);
        due(x.note(0, 0), -1);
        due(x.note(0, 1), -1);
        due(x.come(0, 6), 7);
        due(x.note(0, 0), 1);
        due(x.note(0, 1), 6);
        due(things(QUAD, 0, 6).note(0, 0), -1);
        due(things(QUAD, 0, 6).note(0, 1), 6);
        says("30 of like ones the first (what 0; -1: none), that HOUR (1; as now, if none: -1: it doesn't).");
        x = things(BICYCLE, 0, 9, BICYCLE, 0, 9, BICYCLE, 0, 4);
        due(x.lock(1, 0, 3), 0);
        due(x.note(0, 0), -1);
        due(x.note(0, 1), 9);
        due(x.come(1, 5), 9);
        due(x.note(0, 0), 0);
        due(x.note(0, 1), 5);
        due(x.come(0, 3), 9);
        due(x.note(0, 0), 1);
        due(x.note(0, 1), 3);
        due(things(WRECK, 0, 0).note(0, 0), -1);
        due(things(WRECK, 0, 0).note(0, 1), -1);
        x = things(QUAD, 9, 8, QUAD, 9, 9, QUAD, 9, 7);
        due(x.lock(0, 0, 6), 0);
        due(x.lock(2, 0, 2 | POST), 1);
        due(x.note(1, 0), 1);
        due(x.note(1, 1), 8);
        due(x.come(1, 7), 9);
        due(x.note(1, 0), 0);
        due(x.note(1, 1), 7);
        says("30 -5: no such THING; -7: what; STATE: it is GONE.");
        due(x.note(3, 0), NO_SUCH);
        due(x.note(-1, 0), NO_SUCH);
        due(x.note(0, 2), NOT_AS_TOLD);
        due(x.note(0, -1), NOT_AS_TOLD);
        due(x.go(0), 2);
        due(x.note(0, 0), STATE);
        says("31 OFF of all LOCKS that HOLD a THING, together; -1: of any it is 0. -5: no such THING.");
        x = bicycles(2);
        due(x.out(0), 0);
        for (int l = 0; l < 10; l++) {
            due(x.lock(l == 9 ? 0 : 1, 1, 1 | POST), l);
        }
        due(x.out(0), -1);
        law(x, "sort*99", "0", "0");
        due(x.out(0), 9 * 99);
        due(x.relock(8, 1, 0), 1);
        due(x.out(0), -1);
        due(x.relock(8, 1, 2), 0);
        due(x.out(0), 9 * 99);
        due(x.relock(9, 1, 0), 1);
        due(x.out(0), 9 * 99);
        due(x.out(2), NO_SUCH);
        due(x.out(-1), NO_SUCH);
        due(x.go(1), 1);
        due(x.out(0), 0);
    }

    private static void promises32To35() {
        says("32 THINGS (bits) that aren't GONE, and no LOCK FIXES.");
        due(new LockedToAnothers().steals(), 0);
        LockedToAnothers x = bicycles(8);
        due(x.steals(), 255);
        due(x.go(0), 7);
        due(x.steals(), 254);
        due(x.lock(7, 0, 254), 0);
        due(x.steals(), 0);
        says("33 Of each LOCK that FIXES a THING saws or OFF, whichever is less (saws, if OFF is 0), all together.");
        x = bicycles(2);
        due(x.theft(0), 0);
        due(x.lock(0, 0, 3), 0);
        law(x, "19", "20", "0");
        due(x.theft(0), 19);
        law(x, "20", "20", "0");
        due(x.theft(0), 20);
        law(x, "21", "20", "0");
        due(x.theft(0), 20);
        law(x, "0", "20", "0");
        due(x.theft(0), 20);
        law(x, "1", "0", "0");
        due(x.theft(0), 0);
        x = bicycles(1);
        law(x, "99", "99", "0");
        for (int l = 0; l < 10; l++) {
            due(x.lock(0, 0, 1 | POST), l);
        }
        due(x.theft(0), 990);
        says("33 saws of that THING, not of the OWNER's");
        x = bicycles(2);
        due(x.lock(1, 0, 3), 0);
        law(x, "0", "thing*10+3", "0");
        due(x.theft(0), 3);
        due(x.theft(1), 13);
        says("33 -5: no such THING; STATE: it is GONE.");
        due(x.theft(2), NO_SUCH);
        due(x.theft(-1), NO_SUCH);
        due(x.go(1), 1);
        due(x.theft(1), STATE);
        says("34 The THING that isn't GONE of which that is least, of like ones the first; -1: there is none. BAD.");
        due(x.loot(0), 0);
        due(x.loot(1), 0);
        due(x.loot(2), BAD);
        due(x.loot(-1), BAD);
        due(x.go(0), 0);
        due(x.loot(0), -1);
        due(x.loot(1), -1);
        due(x.loot(2), BAD);
        due(new LockedToAnothers().loot(0), -1);
        due(new LockedToAnothers().loot(1), -1);
        x = bicycles(3);
        due(x.loot(0), 0);
        due(x.loot(1), 0);
        due(x.lock(0, 1, 1 | POST), 0);
        due(x.loot(0), 1);
        due(x.lock(0, 0, 2 | POST), 1);
        due(x.lock(0, 0, 4 | POST), 2);
        due(x.loot(0), 1);
        due(x.loot(1), 10);
        due(x.relock(2, 2, 2 | 4), 4 | POST);
        due(x.loot(0), 2);
        due(x.loot(1), 10);
        due(x.saw(1), 10);
        due(x.loot(0), 1);
        due(x.relock(2, 2, 1), 6);
        due(x.loot(0), 1);
        due(x.loot(1), 0);
        guards();
    }

    private static void guards() {
        says("35 to one other THING that isn't GONE (0 .. 7), or the POST (8)");
        LockedToAnothers x = bicycles(1);
        due(x.guard(0, 0, 0), 8);
        due(x.guard(0, 0, 1), 0);
        x = bicycles(8);
        due(x.guard(0, 0, 0), 1);
        due(x.guard(7, 0, 0), 0);
        due(x.come(7, 23), 0);
        due(x.guard(7, 0, 0), 8);
        due(x.guard(7, 0, 1), 0);
        x = bicycles(8);
        for (int t = 1; t < 7; t++) {
            due(x.guard(0, 0, 0), t);
            due(x.go(t), 8 - t);
        }
        due(x.guard(0, 0, 0), 7);
        due(x.guard(7, 0, 0), 0);
        due(x.go(7), 1);
        due(x.guard(0, 0, 0), 8);
        says("35 that by which BADNESS as of day(0) would be least, of like ones the first");
        x = things(BICYCLE, 0, 9, BICYCLE, 0, 3, BICYCLE, 0, 5, BICYCLE, 0, 5);
        due(x.guard(0, 0, 0), 8);
        due(x.guard(0, 0, 1), 0);
        due(x.lock(0, 0, 2 | 4 | 8 | POST), 0);
        due(x.day(0), 14);
        due(x.guard(0, 0, 0), 1);
        due(x.guard(0, 0, 1), 14);
        says("35 that isn't GONE");
        x = bicycles(3);
        due(x.come(2, 4), 0);
        due(x.go(1), 2);
        due(x.guard(2, 0, 0), 8);
        due(x.guard(0, 0, 0), 2);
        says("35 of a SORT");
        x = things(BICYCLE, 0, 9, SCOOTER, 0, 0, TOY, 3, 0);
        due(x.guard(0, 0, 0), 1);
        due(x.guard(0, 1, 0), 2);
        due(x.guard(0, 2, 0), 8);
        due(x.guard(0, -1, 0), NOT_AS_TOLD);
        due(x.guard(0, 3, 0), NOT_AS_TOLD);
        due(x.guard(0, 0, -1), NOT_AS_TOLD);
        due(x.guard(0, 0, 2), NOT_AS_TOLD);
        due(x.guard(3, 0, 0), NO_SUCH);
        due(x.guard(-1, 0, 0), NO_SUCH);
        says("35 STATE: it is GONE; FULL.");
        due(x.go(2), 2);
        due(x.guard(2, 0, 0), STATE);
        for (int l = 0; l < 9; l++) {
            due(x.lock(0, 0, 1), l);
        }
        due(x.guard(0, 0, 0), 1);
        due(x.guard(0, 2, 0), 8);
        due(x.count(1), 9);
        due(x.lock(0, 0, 1), 9);
        due(x.guard(0, 0, 0), FULL);
        due(x.guard(0, 0, 1), FULL);
    }

    private static void promises36To38() {
        says("36 the first place (from 0) at which it is no THING, or one that CAN'T GO then; -1: none.");
        LockedToAnothers x = chain(8);
        due(x.sheet(0, 0, 0), 1);
        due(x.judge(0), -1);
        put(x, 0, 0, 7, 6, 5, 4, 3, 2, 1, 0);
        due(x.judge(0), -1);
        put(x, 0, 1, 7, 6, 5, 4, 3, 2, 0, 1);
        due(x.judge(0), 6);
        put(x, 0, 2, 7, 7);
        due(x.judge(0), 1);
        put(x, 0, 2, 8);
        due(x.judge(0), 0);
        put(x, 0, 2, -1);
        due(x.judge(0), 0);
        put(x, 0, 2, DEEP);
        due(x.judge(0), 0);
        put(x, 0, 2, 7, FAR);
        due(x.judge(0), 1);
        due(x.sheet(0, 2, 40), 1);
        due(x.judge(0), 0);
        due(x.go(7), 7);
        put(x, 0, 2, 7);
        due(x.judge(0), 0);
        put(x, 0, 2, 6);
        due(x.judge(0), -1);
        due(new LockedToAnothers().judge(0), MISSING);
        says("36 BAD: SHEET; -11.");
        due(x.judge(-1), BAD);
        due(x.judge(4), BAD);
        due(x.judge(3), MISSING);
        says("37 OWNERS (sort 0; bits), SORTS (1; bits 0 .. 2) by which, were they a LOCK's, that would be -1");
        x = bicycles(8);
        due(x.lock(0, 2, 128 | POST), 0);
        put(x, 0, 2, 7);
        due(x.whose(0, 0, 0), 128);
        put(x, 0, 2);
        due(x.whose(0, 0, 0), 255);
        due(x.whose(0, 0, 1), 7);
        put(x, 0, 2, 8);
        due(x.whose(0, 0, 0), 0);
        due(x.whose(0, 0, 1), 0);
        says("37 a GONE one may be the OWNER");
        due(x.go(3), 7);
        put(x, 0, 2, 7);
        due(x.whose(0, 0, 0), 128 | 8);
        due(x.lockTold(0, 0), 0);
        x = things(BICYCLE, 0, 0, TOY, 2, 0, TOY, 3, 0, SCOOTER, 0, 0);
        due(x.lock(0, 2, 14), 0);
        put(x, 0, 2, 1);
        due(x.whose(0, 0, 1), 1);
        put(x, 0, 2, 2);
        due(x.whose(0, 0, 1), 3);
        due(x.lockTold(0, 1), 2);
        due(x.holds(2), 1);
        says("37 BAD, -11 likewise; -5: no such LOCK; -7: sort.");
        due(x.whose(-1, 0, 0), BAD);
        due(x.whose(4, 0, 0), BAD);
        due(x.whose(1, 0, 0), MISSING);
        due(x.whose(0, 1, 0), NO_SUCH);
        due(x.whose(0, -1, 0), NO_SUCH);
        due(x.whose(0, 0, 2), NOT_AS_TOLD);
        due(x.whose(0, 0, -1), NOT_AS_TOLD);
        says("38 KINDS (bits 0 .. 5) by which, were they a THING's, all else being as it is, that would be -1.");
        put(x, 0, 2, 3);
        due(x.kinds(0, 3), 0);
        due(x.relock(0, 1, 1), 2);
        due(x.kinds(0, 3), 0);
        due(x.relock(0, 1, 0), 1);
        due(x.kinds(0, 3), 4 | 16);
        due(x.kinds(0, 1), 63);
        due(x.told(3, 0), SCOOTER);
        put(x, 0, 2, 2);
        due(x.relock(0, 1, 1), 0);
        due(x.kinds(0, 2), 16);
        due(x.relock(0, 1, 2), 1);
        due(x.kinds(0, 2), 0);
        put(x, 0, 2);
        due(x.kinds(0, 2), 63);
        due(x.told(2, 0), TOY);
        says("38 BAD, -11 likewise; -5: no such THING.");
        due(x.kinds(-1, 0), BAD);
        due(x.kinds(4, 0), BAD);
        due(x.kinds(1, 0), MISSING);
        due(x.kinds(0, 4), NO_SUCH);
        due(x.kinds(0, -1), NO_SUCH);
    }

    private static void promises39To41() {
        says("39 A SHEET tells saws of each LOCK (HOUR 0): TEXTS (bits), were they THE LAW, by which all are so.");
        LockedToAnothers x = bicycles(2);
        due(x.sheet(0, 0, 0), 1);
        due(x.laws(0), 1);
        for (int text = 1; text < 6; text++) {
            due(read(x, "takes 0;saws " + (text < 5 ? "99" : "10+hour") + ";minds 0;"), text);
        }
        due(x.laws(0), 63);
        for (int l = 0; l < 10; l++) {
            due(x.lock(l % 2, 0, 1 << l % 2), l);
        }
        put(x, 0, 0, 10, 10, 10, 10, 10, 10, 10, 10, 10, 10);
        due(x.laws(0), 1 | 32);
        due(x.cell(0, 9, 11), 1);
        due(x.laws(0), 0);
        due(x.cell(0, 9, 10), 1);
        due(x.cell(0, 0, 9), 1);
        due(x.laws(0), 0);
        put(x, 0, 1, 99, 99, 99, 99, 99, 99, 99, 99, 99, 99);
        due(x.laws(0), 2 | 4 | 8 | 16);
        due(x.saw(0), 10);
        due(x.go(1), 1);
        due(x.laws(0), 2 | 4 | 8 | 16);
        says("39 BAD, -11 likewise; BAD: it tells not as many as there are LOCKS.");
        due(x.sheet(0, 0, 9), 1);
        due(x.laws(0), BAD);
        due(x.sheet(0, 0, 11), 1);
        due(x.laws(0), BAD);
        due(x.sheet(0, 0, 0), 1);
        due(x.laws(0), BAD);
        due(x.laws(-1), BAD);
        due(x.laws(4), BAD);
        due(x.laws(1), MISSING);
        says("40 A SHEET truly becomes the HOURS in which all THINGS go in a DAY (ints; -1: it doesn't, or is GONE): how many. BAD.");
        due(x.film(-1), BAD);
        due(x.film(4), BAD);
        x = new LockedToAnothers();
        due(x.film(0), 0);
        due(x.cell(0, 0, 0), OUTSIDE);
        due(x.seen(0), -1);
        x = things(0, 0, 0, 0, 0, 23, 5, 0, 0, 3, 0, 7, 0, 0, 1, 0, 0, 2, 0, 0, 3, 0, 0, 4);
        due(x.go(4), 7);
        due(x.sheet(3, 0, 40), 1);
        due(x.film(3), 8);
        due(x.cell(3, 8, 0), OUTSIDE);
        put(x, 0, 2, 0, 23, -1, -1, -1, 2, 3, 4);
        due(x.seen(0), -1);
        due(x.copy(3, 0, 0, 0, 8), 8);
        due(x.seen(0), -1);
        due(x.seen(3), -1);
        says("41 A SHEET tells such HOURS: the first THING of which it is otherwise; -1: none.");
        for (int t = 0; t < 8; t++) {
            due(x.film(0), 8);
            for (int u = t; u < 8; u++) {
                due(x.cell(0, u, 9), 1);
            }
            due(x.seen(0), t);
        }
        says("41 BAD, -11 likewise; BAD: it tells not as many as there are THINGS.");
        due(x.sheet(0, 2, 7), 1);
        due(x.seen(0), BAD);
        due(x.sheet(0, 2, 9), 1);
        due(x.seen(0), BAD);
        due(x.sheet(0, 2, 0), 1);
        due(x.seen(0), BAD);
        due(x.seen(-1), BAD);
        due(x.seen(4), BAD);
        due(x.seen(1), MISSING);
    }

    private static void promises42And43() {
        says("42 DRAWN: the HOUR in which a THING goes; -1: it doesn't. -5: no such THING; -7: SEED; STATE: it is GONE.");
        LockedToAnothers x = things(BICYCLE, 0, 0, WRECK, 0, 0, BICYCLE, 0, 0);
        due(x.drawn(0, 0), 7);
        due(x.drawn(99999, 0), 2);
        due(x.drawn(0, 1), -1);
        due(x.drawn(-1, 0), NOT_AS_TOLD);
        due(x.drawn(100000, 0), NOT_AS_TOLD);
        due(x.drawn(0, 3), NO_SUCH);
        due(x.drawn(0, -1), NO_SUCH);
        due(x.go(2), 2);
        due(x.drawn(0, 2), STATE);
        due(x.lock(1, 0, 1 | POST), 0);
        due(x.drawn(0, 0), -1);
        due(x.saw(0), 10);
        says("43 In how many of so many (1 .. 40) seeds, SEED and each 1 more (they may pass 99999)");
        due(x.odds(0, 0, 0, 0), NO);
        due(x.odds(0, 41, 0, 0), NO);
        due(x.odds(0, -1, 0, 0), NO);
        due(x.odds(-1, 1, 0, 0), NO);
        due(x.odds(100000, 1, 0, 0), NO);
        // 99999 draws 2 for thing 0, 100000 draws 9.
        due(x.odds(99999, 1, 1, 0), 0);
        due(x.odds(99999, 1, 2, 0), 1);
        due(x.odds(99999, 2, 8, 0), 1);
        due(x.odds(99999, 2, 8, 1), 2);
        due(x.odds(99999, 2, 9, 0), 1);
        due(x.odds(99999, 2, 9, 1), 1);
        says("43 a THING goes in an HOUR or an earlier one (thingHour: 100 times the THING, and the HOUR; GONE now: in none)");
        due(x.odds(0, 1, 0, 0), 0);
        due(x.odds(0, 1, 0, 1), 1);
        due(x.odds(0, 1, 6, 0), 0);
        due(x.odds(0, 1, 7, 0), 1);
        due(x.odds(0, 40, 23, 0), 1);
        due(x.odds(0, 40, 23, 1), 1);
        due(x.odds(0, 40, 123, 0), 0);
        due(x.odds(0, 40, 123, 1), 1);
        due(x.odds(0, 40, 223, 0), 0);
        due(x.odds(0, 40, 223, 1), 1);
        for (int none : new int[] {-1, 24, 99, 124, 199, 224, 299, 300, 323, 800, 1000, FAR, DEEP, -100}) {
            due(x.odds(0, 1, none, 0), NO);
        }
        due(x.odds(0, 1, 0, -1), NO);
        due(x.odds(0, 1, 0, 2), NO);
        due(bicycles(8).odds(0, 1, 723, 0), 1);
        due(bicycles(8).odds(0, 1, 724, 0), NO);
        due(bicycles(8).odds(0, 1, 823, 0), NO);
        due(new LockedToAnothers().odds(0, 1, 0, 0), NO);
        says("43 part 0 above, 1 below the line, in lowest terms");
        lowestTerms();
    }

    /** Every number of seeds against sums worked out here. */
    private static void lowestTerms() {
        LockedToAnothers x = bicycles(1);
        for (int seeds = 1; seeds <= 40; seeds++) {
            int hits = 0;
            for (int seed = 99990; seed < 99990 + seeds; seed++) {
                hits += (seed + 1L) * 48271 % 2147483647L % 24 <= 11 ? 1 : 0;
            }
            long above = x.odds(99990, seeds, 11, 0);
            long below = x.odds(99990, seeds, 11, 1);
            due(above * seeds, hits * below);
            for (int d = 2; d <= 40; d++) {
                due(above % d == 0 && below % d == 0 ? 1 : 0, 0);
            }
        }
    }

    private static void promises44And45() {
        says("44 AN IMAGE is kept: how many THINGS.");
        LockedToAnothers x = new LockedToAnothers();
        due(x.image(), 0);
        due(x.back(), 0);
        x = bicycles(8);
        due(x.image(), 8);
        due(x.back(), 8);
        says("45 STATE: there is none.");
        x = bicycles(1);
        due(x.back(), STATE);
        due(x.count(0), 1);
        says("45 All that it keeps is as in THE IMAGE, THINGS, LOCKS that came since are none");
        due(x.image(), 1);
        due(x.thing(WRECK, 9, 9), 1);
        due(x.lock(1, 2, 3), 0);
        due(x.saw(0), 20);
        due(x.go(1), 1);
        due(x.back(), 1);
        due(x.told(1, 0), NO_SUCH);
        due(x.lockTold(0, 0), NO_SUCH);
        due(x.rows(2), NO);
        due(x.count(2) + x.count(3), 0);
        due(x.thing(TANDEM, 0, 0), 1);
        due(x.told(1, 3), 0);
        due(x.taken(11, 1), 1);
        due(x.lock(0, 0, 3), 0);
        due(x.lockTold(0, 3), 0);
        due(x.holds(1), 1);
        says("45 what it doesn't keep is as it was: TEXTS, THE TAPE, SHEETS");
        due(read(x, "takes 1" + REST), 1);
        due(x.force(1), 0);
        due(x.feed(3, 1, 2, 3, 4, 5), 3);
        put(x, 2, 1, 0, 0);
        due(x.back(), 1);
        due(x.count(4), 2);
        due(x.count(5), 0);
        due(x.count(6), 3);
        due(x.cell(2, 1, 0), 1);
        due(x.cell(2, 2, 0), OUTSIDE);
        due(x.force(1), 0);
        says("45 the last of several images counts, as often as wanted");
        due(x.go(0), 0);
        due(x.image(), 1);
        due(x.thing(0, 0, 0), 1);
        due(x.back(), 1);
        due(x.thing(0, 0, 0), 1);
        due(x.back(), 1);
        due(x.count(2), 1);
        due(x.count(5), 1);
    }

    private static void promises46And47() {
        says("46 A SHEET becomes a row of n of a sort, all 0, or missing (sort -1: n does not matter): 1.");
        LockedToAnothers x = bicycles(1);
        put(x, 0, 2, 7, 7);
        due(x.sheet(0, 2, 2), 1);
        due(x.judge(0), 1);
        due(x.sheet(0, 2, 1), 1);
        due(x.seen(0), -1);
        for (int n : new int[] {0, 40, 41, -1, FAR, DEEP}) {
            due(x.sheet(0, 1, 3), 1);
            due(x.sheet(0, -1, n), 1);
            due(x.cell(0, 0, 0), MISSING);
        }
        due(x.sheet(0, -1, 0), 1);
        says("46 BAD: SHEET, sort, n above 40; -14.");
        due(x.sheet(-1, 0, 1), BAD);
        due(x.sheet(4, 0, 1), BAD);
        due(x.sheet(4, -1, 1), BAD);
        due(x.sheet(0, -2, 1), BAD);
        due(x.sheet(0, 3, 1), BAD);
        due(x.sheet(0, 0, 41), BAD);
        due(x.sheet(0, 0, FAR), BAD);
        due(x.sheet(0, 0, -1), BELOW);
        due(x.sheet(0, 0, DEEP), BELOW);
        due(x.cell(0, 0, 0), MISSING);
        due(x.sheet(0, 0, 0), 1);
        due(x.cell(0, 0, 0), OUTSIDE);
        due(x.sheet(0, 0, 40), 1);
        due(x.cell(0, 39, 0), 1);
        says("47 Number i of a SHEET becomes v (of bytes, shorts its lowest 8, 16 bits): 1.");
        int[][] numbers = {{0, 127, 127}, {0, 128, -128}, {0, 255, -1}, {0, 256, 0}, {0, -1, -1}, {0, -128, -128}, {0, -129, 127},
            {0, FAR, -1}, {0, DEEP, 0}, {1, 255, 255}, {1, 32767, 32767}, {1, 32768, -32768}, {1, 65535, -1}, {1, 65536, 0},
            {1, -32769, 32767}, {1, FAR, -1}, {1, DEEP, 0}, {2, 65536, 65536}, {2, FAR, FAR}, {2, DEEP, DEEP}, {2, -1, -1}};
        for (int[] n : numbers) {
            due(x.sheet(0, n[0], 1), 1);
            due(x.cell(0, 0, n[1]), 1);
            due(x.judge(0), n[2] == 0 ? -1 : 0);
            due(isTold(n[0], n[1], n[2]), 1);
        }
        says("47 BAD: SHEET; -11; -12.");
        due(x.cell(-1, 0, 0), BAD);
        due(x.cell(4, 0, 0), BAD);
        due(x.cell(1, 0, 0), MISSING);
        due(x.sheet(0, 0, 3), 1);
        due(x.cell(0, 3, 0), OUTSIDE);
        due(x.cell(0, -1, 0), OUTSIDE);
        due(x.cell(0, FAR, 0), OUTSIDE);
        due(x.cell(0, DEEP, 0), OUTSIDE);
        due(x.cell(0, 2, 0), 1);
    }

    /** 1, if a cell of a sort that becomes v is then so; looked at as what a lock goes through, or as an hour. */
    private static int isTold(int sort, int v, int so) {
        LockedToAnothers x = things(0, 0, 0, 0, 0, 0, 0, 0, 0, 0, 0, 0, 0, 0, 0, 0, 0, 0, 0, 0, 0, 5, 0, 0);
        put(x, 0, sort, 0, 0, v);
        boolean isThrough = so > 0 && so < 512;
        if (x.locksBy(0, sort, 0, 1) != (isThrough ? 1 : 0) || isThrough && x.lockTold(0, 2) != so) {
            return 0;
        }
        LockedToAnothers y = things(WRECK, 0, 0);
        put(y, 0, sort, v);
        return y.seen(0) == (so == -1 ? -1 : 0) ? 1 : 0;
    }

    private static void promises48To50() {
        says("48 n numbers of a SHEET, from i on, come to another one's (or its own) place j (as they were): n.");
        LockedToAnothers x = chain(4);
        put(x, 0, 0, 3, 2, 1, 0);
        put(x, 1, 0, 9, 9, 9, 9);
        put(x, 2, 1, 3, 2, 1, 0);
        due(x.copy(0, 0, 1, 0, 4), 4);
        due(x.judge(1), -1);
        due(x.copy(0, 0, 0, 0, 4), 4);
        due(x.judge(0), -1);
        put(x, 0, 0, 9, 3, 2, 1, 0, 9);
        due(x.copy(0, 1, 0, 0, 5), 5);
        due(x.judge(0), 4);
        put(x, 0, 0, 3, 2, 1, 0, 9);
        due(x.copy(0, 0, 0, 1, 4), 4);
        due(x.cell(0, 0, 9), 1);
        due(x.copy(0, 1, 0, 0, 4), 4);
        due(x.judge(0), 4);
        due(x.copy(0, 3, 1, 3, 1), 1);
        due(x.judge(1), -1);
        says("48 BAD: SHEETS; -11; -13: unlike sorts");
        due(x.copy(-1, 0, 0, 0, 0), BAD);
        due(x.copy(4, 0, 0, 0, 0), BAD);
        due(x.copy(0, 0, -1, 0, 0), BAD);
        due(x.copy(0, 0, 4, 0, 0), BAD);
        due(x.copy(3, 0, 0, 0, 0), MISSING);
        due(x.copy(0, 0, 3, 0, 0), MISSING);
        due(x.copy(3, 0, 3, 0, 0), MISSING);
        due(x.copy(0, 0, 2, 0, 0), UNLIKE);
        due(x.copy(2, 0, 0, 0, 0), UNLIKE);
        says("48 -12 (n below 0, too; with n 0, too, if i or j is above how many there are)");
        put(x, 0, 0, 3, 2, 1, 0, 9);
        int[][] outside = {{0, 0, -1}, {1, 1, -1}, {0, 0, DEEP}, {-1, 0, 1}, {0, -1, 1}, {-1, 0, 0}, {0, -1, 0}, {5, 0, 1}, {0, 4, 1}, {6, 0, 0},
            {0, 5, 0}, {2, 0, 4}, {0, 2, 3}, {0, 0, 5}, {1, 0, FAR}, {FAR, 0, FAR}, {0, FAR, FAR}, {FAR, FAR, 0}, {DEEP, 0, 0}, {5, 4, -1}};
        for (int[] o : outside) {
            due(x.copy(0, o[0], 1, o[1], o[2]), OUTSIDE);
        }
        due(x.judge(1), -1);
        due(x.copy(0, 5, 1, 4, 0), 0);
        due(x.copy(0, 0, 1, 4, 0), 0);
        due(x.copy(0, 1, 1, 1, 3), 3);
        due(x.judge(1), -1);
        due(x.sheet(3, 0, 0), 1);
        due(x.copy(3, 0, 3, 0, 0), 0);
        due(x.copy(3, 0, 3, 0, 1), OUTSIDE);
        due(x.copy(3, 1, 3, 0, 0), OUTSIDE);
        locksBySheet();
        taken();
    }

    private static void locksBySheet() {
        says("49 LOCKS by a SHEET of a sort: from a place on, three by three (as of lock()), n of them (0 .. 10): how many came");
        LockedToAnothers x = bicycles(2);
        put(x, 0, 1, 0, 0, 1, 1, 1, 2, 1, 2, POST | 3);
        due(x.locksBy(0, 1, 0, 0), 0);
        due(x.count(1), 0);
        due(x.locksBy(0, 1, 0, 3), 3);
        due(x.count(1), 3);
        due(x.lockTold(2, 0) * 10000 + x.lockTold(2, 1) * 1000 + x.lockTold(2, 2), 12000 + POST + 3);
        due(x.locksBy(0, 1, 6, 1), 1);
        due(x.lockTold(3, 2), POST + 3);
        due(x.locksBy(0, 1, 0, -1), BAD);
        due(x.locksBy(0, 1, 0, 11), BAD);
        int[] ten = new int[30];
        for (int i = 2; i < 30; i += 3) {
            ten[i] = 1;
        }
        x = bicycles(2);
        put(x, 0, 0, ten);
        due(x.locksBy(0, 0, 0, 10), 10);
        due(x.count(1), 10);
        says("49 (others are left out)");
        due(x.locksBy(0, 0, 0, 10), 0);
        x = bicycles(2);
        due(x.go(1), 1);
        put(x, 0, 2, 2, 0, 1, 0, 3, 1, 0, 0, 0, 1, 0, 1, 0, 0, 2, 0, 0, 1, -1, 0, 1, 0, 0, DEEP, 0, 0, 512);
        due(x.locksBy(0, 2, 0, 9), 1);
        due(x.count(1), 1);
        for (int l = 1; l < 9; l++) {
            due(x.lock(0, 0, 1), l);
        }
        put(x, 0, 2, 0, 2, 1, 0, 1, 1);
        due(x.locksBy(0, 2, 0, 2), 1);
        due(x.lockTold(9, 1), 2);
        says("49 BAD: SHEET, sort, n; -11; -13");
        due(x.locksBy(-1, 0, 0, 0), BAD);
        due(x.locksBy(4, 0, 0, 0), BAD);
        due(x.locksBy(0, -1, 0, 0), BAD);
        due(x.locksBy(0, 3, 0, 0), BAD);
        due(x.locksBy(1, 0, 0, 0), MISSING);
        due(x.locksBy(0, 0, 0, 0), UNLIKE);
        due(x.locksBy(0, 1, 0, 0), UNLIKE);
        says("49 -12: what stood ahead came.");
        x = bicycles(1);
        put(x, 0, 0, 0, 0, 1, 0, 0, 1, 0, 0);
        due(x.locksBy(0, 0, -1, 1), OUTSIDE);
        due(x.locksBy(0, 0, -3, 2), OUTSIDE);
        due(x.locksBy(0, 0, 6, 1), OUTSIDE);
        due(x.locksBy(0, 0, 8, 1), OUTSIDE);
        due(x.locksBy(0, 0, 9, 1), OUTSIDE);
        due(x.locksBy(0, 0, FAR, 1), OUTSIDE);
        due(x.locksBy(0, 0, FAR - 5, 10), OUTSIDE);
        due(x.locksBy(0, 0, DEEP, 10), OUTSIDE);
        due(x.count(1), 0);
        due(x.locksBy(0, 0, 0, 3), OUTSIDE);
        due(x.count(1), 2);
        due(x.locksBy(0, 0, 3, 2), OUTSIDE);
        due(x.count(1), 3);
        due(x.locksBy(0, 0, 3, 1), 1);
        due(x.locksBy(0, 0, 5, 1), 0);
        due(x.count(1), 4);
    }

    private static void taken() {
        says("50 What lies at place i: 0 .. 9 LOCKS that are SHUT, 10 .. 17 THINGS that aren't GONE");
        LockedToAnothers x = bicycles(8);
        for (int l = 0; l < 10; l++) {
            due(x.lock(l % 8, 0, l < 9 ? 1 << l : 511), l);
        }
        for (int i = 0; i < 18; i++) {
            due(x.taken(i, 6), i < 9 ? 1 << i : i == 9 ? 511 : UNLIKE);
            due(x.taken(i, 0), i < 10 ? UNLIKE : i - 10);
        }
        says("50 -12: i");
        due(x.taken(-1, 0), OUTSIDE);
        due(x.taken(18, 0), OUTSIDE);
        due(x.taken(-1, 6), OUTSIDE);
        due(x.taken(18, 6), OUTSIDE);
        due(x.taken(FAR, 0), OUTSIDE);
        due(x.taken(DEEP, 0), OUTSIDE);
        says("50 BAD: kind");
        due(x.taken(10, -1), BAD);
        due(x.taken(10, 7), BAD);
        says("50 -11: nothing lies there");
        due(x.saw(0), 10);
        due(x.taken(0, 6), MISSING);
        due(x.saw(1), 10);
        due(x.saw(9), 10);
        due(x.go(1), 7);
        due(x.taken(9, 6), MISSING);
        due(x.taken(11, 0), MISSING);
        x = bicycles(1);
        due(x.lock(0, 0, 1), 0);
        due(x.taken(1, 6), MISSING);
        due(x.taken(9, 0), MISSING);
        due(x.taken(11, 0), MISSING);
        due(x.taken(17, 6), MISSING);
        due(x.go(0), 0);
        due(x.taken(0, 6), MISSING);
        says("50 taken for 0 .. 5 a THING of that KIND (also of one that is one): its number; 6 a LOCK: THROUGH what; -13");
        x = things(BICYCLE, 0, 0, TANDEM, 0, 0, SCOOTER, 0, 0, QUAD, 0, 0, TOY, 0, 0, WRECK, 0, 0);
        int[] are = {1, 3, 5, 11, 21, 33};
        for (int kind = 0; kind < 6; kind++) {
            for (int as = 0; as < 7; as++) {
                due(x.taken(10 + kind, as), (are[kind] >> as & 1) != 0 ? kind : UNLIKE);
            }
        }
    }

    /** Each call on a rail of eight things and ten locks. */
    private static void aFullRail() {
        says("8 THINGS, 10 LOCKS: what may be asked of so many");
        LockedToAnothers x = chain(8);
        due(x.lock(0, 1, 64 | 128), 7);
        due(x.lock(7, 2, 128 | POST), 8);
        due(x.lock(3, 0, 8), 9);
        due(x.holds(7), 128);
        due(x.waits(7), 1);
        due(x.free(), 0);
        due(x.never(), 255);
        due(x.first(7, 0), -1);
        due(x.ring(7, 1), 255);
        due(x.rows(255), 0);
        due(x.ways(), 1);
        due(x.row(), 0);
        due(x.hour(7), -1);
        due(x.day(0), 192);
        due(x.sawFor(7, 0), 1);
        due(x.sawAll(1), 15);
        due(x.keys(7), 255 - 64);
        due(x.note(7, 0), -1);
        due(x.out(7), -1);
        due(x.steals(), 0);
        due(x.theft(7), 50);
        due(x.loot(0), 0);
        due(x.guard(7, 0, 0), FULL);
        put(x, 0, 0, 7, 6, 5, 4, 3, 2, 1, 0);
        due(x.judge(0), 0);
        due(x.whose(0, 7, 0), 128);
        due(x.whose(0, 9, 1), 0);
        due(x.kinds(0, 7), 0);
        due(x.relock(7, 1, 0), 1);
        due(x.kinds(0, 7), 4 | 16);
        due(x.told(7, 0), BICYCLE);
        due(x.never(), 255);
        put(x, 1, 0, 15, 15, 15, 15, 15, 15, 15, 10, 20, 10);
        due(x.laws(1), 1);
        due(x.film(2), 8);
        due(x.seen(2), -1);
        due(x.drawn(0, 7), -1);
        due(x.odds(0, 40, 723, 0), 0);
        due(x.image(), 8);
        due(x.saw(7), 10);
        due(x.pass(24), 8);
        due(x.taken(17, 0), MISSING);
        due(x.back(), 8);
        due(x.taken(17, 0), 7);
        due(x.taken(9, 6), 8);
        due(x.relock(7, 2, 64), 192);
        due(x.row(), 87654321);
    }

    /** Numbers that come back into reach when bits are shifted by them, or when they are added to. */
    private static void numbersFarOff() {
        says("-5: no such THING");
        LockedToAnothers x = bicycles(8);
        for (int l = 0; l < 10; l++) {
            due(x.lock(0, 0, 1), l);
        }
        put(x, 0, 2, 0);
        for (int t : new int[] {8, 9, 31, 32, 33, 39, 40, 64, 256, -1, -8, -31, -32, FAR, DEEP}) {
            int[] answers = {x.come(t, 0), x.told(t, 0), x.holds(t), x.go(t), x.waits(t), x.first(t, 0), x.ring(t, 0), x.hour(t), x.sawFor(t, 0),
                x.keys(t), x.note(t, 0), x.out(t), x.theft(t), x.guard(t, 0, 0), x.kinds(0, t), x.drawn(0, t)};
            for (int answer : answers) {
                due(answer, NO_SUCH);
            }
            due(x.asks(0, t, -1, 0), BAD);
            due(x.lock(t, 0, 1), BAD);
            due(x.relock(0, 0, t), NOT_AS_TOLD);
            says("36 it is no THING");
            put(x, 1, 2, t);
            due(x.judge(1), 0);
            due(x.whose(1, 0, 0), 0);
        }
        says("-5: no such LOCK");
        for (int l : new int[] {10, 11, 31, 32, 33, 41, 42, 64, 256, -2, -10, -32, FAR, DEEP}) {
            due(x.relock(l, 0, 0), NO_SUCH);
            due(x.lockTold(l, 0), NO_SUCH);
            due(x.saw(l), NO_SUCH);
            due(x.whose(0, l, 0), NO_SUCH);
            due(x.asks(0, 0, l, 0), BAD);
        }
        says("BAD: SHEET");
        for (int s : new int[] {-1, 4, 5, 32, FAR, DEEP}) {
            int[] answers = {x.judge(s), x.whose(s, 0, 0), x.kinds(s, 0), x.laws(s), x.film(s), x.seen(s), x.sheet(s, 0, 1), x.cell(s, 0, 0),
                x.copy(s, 0, 0, 0, 1), x.copy(0, 0, s, 0, 1), x.locksBy(s, 2, 0, 1)};
            for (int answer : answers) {
                due(answer, BAD);
            }
        }
        due(x.count(2) + x.count(3), 0);
    }
}
