import java.util.NoSuchElementException;

/** For each promise of the document what it says of ordinary calls, of its edges and of what it refuses. */
public final class Promises {
    private static int wrong = 0;
    private static int promise = 0;

    private static final int NO_SUCH = Integer.MIN_VALUE + 1;
    private static final int ILLEGAL = Integer.MIN_VALUE + 2;

    // Two boxes, three people: 0 and 1 think into box 0 at each other, 2 thinks into box 1 at 0.
    private static final String STREET =
        "box 5 20;box 20 3;person 4 4 at 1;person 10 2 at 0;person 25 6 at 0;wet 4 0;";
    // One thinks 9 a day into the only box, which is emptied daily: the other one hears these 9.
    private static final String DAILY = "box 0 50;person 0 9 at 1;person 3 0 at 0;sounds much;";

    private interface Call {
        int answer();
    }

    private static void due(int want, Call call) {
        int got;
        try {
            got = call.answer();
        } catch (NoSuchElementException e) {
            got = NO_SUCH;
        } catch (IllegalArgumentException e) {
            got = ILLEGAL;
        }
        if (got != want) {
            wrong++;
            StackTraceElement at = new Throwable().getStackTrace()[1];
            System.out.println("promise " + promise + ", line " + at.getLineNumber() + ": answered " + name(got)
                + ", due is " + name(want));
        }
    }

    private static String name(int answer) {
        return answer == NO_SUCH ? "NoSuchElementException"
            : answer == ILLEGAL ? "IllegalArgumentException" : "" + answer;
    }

    private static int bit(boolean is) {
        return is ? 1 : 0;
    }

    private static void feed(SlotMat x, String text) {
        for (int i = 0; i < text.length(); i += 20) {
            int[] a = new int[5];
            for (int k = 0; k < 20; k++) {
                a[k / 4] = a[k / 4] << 8 | (i + k < text.length() ? text.charAt(i + k) : 'Q');
            }
            x.feed(a[0], a[1], a[2], a[3], a[4]);
        }
    }

    private static int tell(SlotMat x, String text) {
        feed(x, text);
        return x.city(text.length());
    }

    private static SlotMat told(String text) {
        SlotMat x = new SlotMat();
        int fault = tell(x, text);
        if (fault != 0) {
            wrong++;
            System.out.println("promise " + promise + ": fault " + fault + " at " + x.fault() + " of " + text);
        }
        return x;
    }

    private static void fault(int code, int place, String text) {
        SlotMat x = new SlotMat();
        int got = tell(x, text);
        if (got != code || x.fault() != place) {
            wrong++;
            System.out.println("promise " + promise + ": fault " + got + " at " + x.fault() + ", due is " + code
                + " at " + place + " of " + text);
        }
    }

    /** How many of 0 to 9 somebody thinks on the first day by this rule. */
    private static void thinks(int want, String rule) {
        SlotMat x = told("person 7 5 at 1;person 3 0;box 4 60;thinks " + rule + ";");
        x.strike(true);
        x.days(1);
        due(want, () -> x.held(0, 0));
    }

    private static String deepest(String inner) {
        String text = inner;
        for (int i = 0; i < 5; i++) {
            text = "0 or 1 and not not not not not not 1=0+1*(" + text + ")";
        }
        return text;
    }

    private static String many(int times, String text) {
        return text.repeat(times);
    }

    public static void main(String[] args) {
        promises1To4();
        values();
        faultsOfLines();
        faultsOfExpressions();
        promises5To8();
        promises9To12();
        promises13And14();
        aDay();
        promises15To19();
        promises20To24();
        promises25To28();
        promises29To31();
        promises32To39();
        promises40And41();
        System.out.println(wrong == 0 ? "all promises are kept" : wrong + " answers are wrong");
        System.exit(wrong == 0 ? 0 : 1);
    }

    private static void promises1To4() {
        promise = 1;
        SlotMat fresh = new SlotMat();
        int[] counts = {0, 0, 0, 2, 0, -1, 0, 0, 0, 0, 0, 0, 0, 0, 0, 0};
        for (int i = 0; i < counts.length; i++) {
            int what = i;
            due(counts[i], () -> fresh.count(what));
        }
        due(NO_SUCH, () -> fresh.box(0, 0));
        due(NO_SUCH, () -> fresh.person(0, 0));
        due(-1, () -> SlotMat.NONE);
        due(1, () -> fresh.days(1));

        promise = 2;
        SlotMat x = new SlotMat();
        for (int i = 1; i <= 35; i++) {
            int many = 20 * i;
            due(many, () -> x.feed(0x3b3b3b3b, 0, -1, 0x20202020, Integer.MIN_VALUE));
        }
        due(-1, () -> x.feed(0, 0, 0, 0, 0));
        due(700, () -> x.count(12));
        // Of each number the highest byte comes first: "box 1 2;" and then twelve blanks.
        SlotMat y = new SlotMat();
        due(20, () -> y.feed(0x626f7820, 0x3120323b, 0x20202020, 0x0a0a0a0a, 0x20202020));
        due(0, () -> y.city(20));
        due(1, () -> y.box(0, 0));
        due(2, () -> y.box(0, 1));

        promise = 3;
        SlotMat z = told(STREET);
        z.days(3);
        z.strike(true);
        z.note(0, 1, 1);
        z.image();
        feed(z, "box 1 1;wet 7;");
        due(ILLEGAL, () -> z.city(21));
        due(ILLEGAL, () -> z.city(-1));
        due(ILLEGAL, () -> z.city(Integer.MIN_VALUE));
        due(20, () -> z.count(12));
        due(0, () -> z.count(13));
        due(1, () -> z.city(3));
        due(0, () -> z.count(12));
        due(1, () -> z.count(13));
        due(2, () -> z.count(0));
        due(3, () -> z.count(2));
        due(1, () -> z.count(4));
        due(2, () -> z.count(10));
        due(1, () -> z.count(11));
        z.days(99);
        z.note(0, 99, 0);
        due(0, () -> tell(z, "box 1 1;wet 7;"));
        due(0, () -> z.count(12));
        due(1, () -> z.count(0));
        due(0, () -> z.count(1));
        due(0, () -> z.count(2));
        due(7, () -> z.count(3));
        due(0, () -> z.count(4));
        due(0, () -> z.count(10));
        due(0, () -> z.count(11));
        due(1, () -> z.count(13));
        due(1, () -> z.count(14));
        due(1, () -> z.count(15));
        due(0, () -> bit(z.restore()));
        due(-1, () -> z.undo());
        due(0, () -> z.city(0));
        due(0, () -> z.count(0));
        due(2, () -> z.count(3));
        // A text with a fault leaves the image.
        z.image();
        due(1, () -> tell(z, "x"));
        due(1, () -> bit(z.restore()));

        promise = 4;
        SlotMat f = new SlotMat();
        due(-1, () -> f.fault());
        due(2, () -> tell(f, "box 31 0;"));
        due(4, () -> f.fault());
        due(ILLEGAL, () -> f.city(1));
        due(4, () -> f.fault());
        due(0, () -> tell(f, "box 30 0;"));
        due(-1, () -> f.fault());
    }

    private static void values() {
        promise = 3;
        thinks(5, "pensive");
        thinks(0, "regret");
        thinks(0, "heard");
        thinks(6, "red/10");
        thinks(0, "held");
        thinks(0, "day");
        thinks(9, "9999");
        thinks(0, "0-1");
        thinks(7, "1+2*3");
        thinks(9, "(1+2)*3");
        thinks(3, "9-4-2");
        thinks(2, "16/4/2");
        thinks(8, "8*3/2-4");
        thinks(0, "7/0");
        thinks(3, "7/0+3");
        thinks(6, "(0-7)/2+9");
        thinks(1, "2<3");
        thinks(0, "3<3");
        thinks(1, "3=3");
        thinks(0, "2=3");
        thinks(1, "1+1=2");
        thinks(0, "not 5");
        thinks(1, "not 0");
        thinks(1, "not not 5");
        thinks(1, "not 3<2");
        thinks(0, "not 3=3");
        thinks(1, "5 and 3");
        thinks(0, "5 and 0");
        thinks(1, "0 or 4");
        thinks(0, "0 or 0");
        thinks(1, "1 or 0 and 0");
        thinks(0, "(1 or 0) and 0");
        thinks(1, "not 0 and 7");
        thinks(1, "not 1 or 7");
        thinks(1, "(2<3)=1");
        thinks(4, "(2<3)+(3<4)+2");
        thinks(1, "not(0)+5=5 or 6");
        thinks(6, "pensive + 1");
        // 46341 * 46341 is above what an int holds.
        thinks(1, "(9999*4+6345)*(9999*4+6345)<0");
        thinks(1, "9999*9999*9999<0 or 1");
        thinks(8, "(((((3)))))+5");
        thinks(1, "not not not not not not 3");
        thinks(3, "0003");
        // As much waits at once as can.
        thinks(1, deepest("1"));
        thinks(0, deepest("2"));
        thinks(0, "not0+1");

        // Values of sounds, one at a time: box at 2, who hears at 9, seven thoughts on day 3 with WET 6.
        String city = "box 2 9;person 2 7 at 1;person 9 0;wet 1 2 3 6;sounds ";
        String[] rules = {"much", "far", "heard", "wet", "day", "much*99", "0-1", "wet-9"};
        int[] dues = {28, 7, 0, 6, 3, 99, 0, 0};
        for (int i = 0; i < rules.length; i++) {
            SlotMat x = told(city + rules[i] + ";");
            x.strike(true);
            x.days(3);
            x.strike(false);
            x.days(1);
            int want = dues[i];
            due(want, () -> x.person(1, 4));
        }
    }

    private static void faultsOfLines() {
        promise = 3;
        fault(0, -1, "");
        fault(0, -1, " \n ");
        fault(0, -1, "box 30 99;person 30 9;person 0 0 at 0;");
        fault(0, -1, "box0 0;person0 0at7;");
        fault(1, 0, ";");
        fault(1, 0, "at");
        fault(1, 0, "boxes 1 1;");
        fault(1, 0, "fox 1 1;");
        fault(1, 0, "bot 1 1;");
        fault(1, 0, "5");
        fault(1, 0, "Box 1 1;");
        fault(1, 3, "box");
        fault(1, 5, "box  ");
        fault(1, 4, "box ;");
        fault(1, 4, "box x 1;");
        fault(1, 7, "box 1 1");
        fault(1, 8, "box 1 1 1;");
        fault(1, 8, "box 1 1 12345;");
        fault(1, 7, "box 1 1\t;");
        fault(1, 5, "box 1" + (char) 228 + "1;");
        fault(2, 4, "box 31 100;");
        fault(2, 6, "box 0 100;");
        fault(2, 4, "box 00000 0;");
        fault(0, -1, "box 0000 0099;");
        fault(2, 7, "person 31 0;");
        fault(2, 9, "person 0 10;");
        fault(1, 11, "person 0 0 to 1;");
        fault(1, 14, "person 0 0 at x;");
        fault(1, 16, "person 0 0 at 1 2;");
        fault(2, 14, "person 0 0 at 8;");
        fault(2, 14, "person 0 0 at 00000;");
        fault(4, 14, "person 0 0 at 0;");
        fault(4, 27, "person 0 0;person  0 0  at 1;");
        fault(0, -1, many(6, "box 0 0;"));
        fault(2, 48, many(7, "box 0 0;"));
        fault(2, 48, many(6, "box 0 0;") + "box");
        fault(0, -1, many(8, "person 0 0;"));
        fault(2, 88, many(9, "person 0 0;"));

        fault(1, 6, "round ;");
        fault(3, 6, "round 0;");
        fault(3, 14, "box 0 0;round 1;box 1 1;");
        fault(3, 16, "box 0 0;round 0 9;");
        fault(3, 16, "box 0 0;round 0 9999;");
        fault(2, 14, "box 0 0;round 12345;");
        fault(1, 16, "box 0 0;round 0 x;");
        fault(0, -1, "box 0 0;round 0 0 0 0 0 0 0 0;");
        fault(2, 30, "box 0 0;round 0 0 0 0 0 0 0 0 5;");
        fault(1, 30, "box 0 0;round 0 0 0 0 0 0 0 0 x;");
        fault(5, 16, "box 0 0;round 0;round x;");
        fault(1, 4, "wet ;");
        fault(2, 4, "wet 10;");
        fault(0, -1, "wet 0 1 2 3 4 5 6 9;");
        fault(2, 20, "wet 0 1 2 3 4 5 6 9 0;");
        fault(5, 6, "wet 0;wet 1;");
        fault(5, 9, "thinks 1;thinks 1;");
        fault(5, 9, "sounds 1;sounds");
        fault(0, -1, "sounds 1;thinks 1;");
        // The first along the text.
        fault(2, 4, "box 40 0;round 7;zzz");
    }

    private static void faultsOfExpressions() {
        promise = 3;
        fault(1, 7, "thinks ;");
        fault(1, 6, "thinks");
        fault(1, 8, "thinks 1");
        fault(1, 7, "thinks -1;");
        fault(1, 7, "thinks +1;");
        fault(1, 7, "thinks );");
        fault(1, 8, "thinks ();");
        fault(1, 9, "thinks (1;");
        fault(1, 8, "thinks 1);");
        fault(1, 9, "thinks 1 2;");
        fault(1, 9, "thinks 1 pensive;");
        fault(1, 9, "thinks 1 not 2;");
        fault(1, 8, "thinks 1(2);");
        fault(1, 10, "thinks 1<2<3;");
        fault(1, 12, "thinks 1=1+1=3;");
        fault(0, -1, "thinks 1<2 and 1=2 or not 3<4;");
        fault(0, -1, "thinks (1<2)<3;");
        fault(1, 9, "thinks 1+;");
        fault(1, 9, "thinks 1++1;");
        fault(1, 9, "thinks 1 ! 2;");
        fault(2, 7, "thinks 12345;");
        fault(2, 9, "thinks 1+00001;");
        fault(1, 9, "thinks 1 12345;");
        fault(3, 7, "thinks much;");
        fault(3, 7, "thinks far;");
        fault(3, 7, "thinks wet;");
        fault(3, 7, "sounds pensive;");
        fault(3, 7, "sounds red;");
        fault(3, 7, "sounds held;");
        fault(3, 7, "sounds regret;");
        fault(3, 7, "thinks or 1;");
        fault(3, 7, "thinks and;");
        fault(3, 7, "thinks box;");
        fault(3, 9, "thinks 1+not 1;");
        fault(3, 9, "thinks 1<not 1;");
        fault(3, 11, "thinks not or 1;");
        fault(3, 7, "thinks nott 1;");
        fault(0, -1, "thinks 1 or not 1 and not(not 1);");
        fault(0, -1, "thinks not not not not not not 1;");
        fault(2, 31, "thinks not not not not not not not 1;");
        fault(0, -1, "thinks not not not not not not(not 1);");
        fault(0, -1, "thinks not not not not not not 1 and not 1;");
        fault(0, -1, "thinks (((((1)))));");
        fault(0, -1, "thinks (((((not pensive)))));");
        fault(2, 13, "thinks ((((((1))))));");
        fault(2, 13, "thinks ((((((not 1))))));");
        fault(2, 13, "thinks ((((((zzz))))));");
        fault(2, 13, "thinks ((((((or");
        fault(2, 13, "thinks (((((((");
        fault(2, 15, "thinks 1+((((((1))))));");
        fault(2, 17, "thinks not ((((((1))))));");
        fault(1, 13, "thinks ((((((");
        fault(1, 13, "thinks (((((()");
        fault(1, 13, "thinks ((((((-");
        fault(0, -1, "thinks (1)+(1)+(1)+(1)+(1)+(1)+(1)+(((((1)))));");
        // What a fault left behind changes nothing in the next text.
        SlotMat again = new SlotMat();
        tell(again, "thinks (not not (not ;");
        due(0, () -> tell(again, "box 0 0;person 0 0;thinks 4;"));
        again.strike(true);
        again.days(1);
        due(4, () -> again.held(0, 0));
        tell(again, "box 9 9;thinks 5;sounds 5;person 0 0;wet 1;round 0;person 0 0 at x");
        due(4, () -> again.held(0, 0));
        due(0, () -> tell(again, "box 0 7;person 0 2;"));
        due(1, () -> again.count(0));
        due(1, () -> again.count(1));
        due(2, () -> again.count(3));
        due(7, () -> again.reds(0));
        due(2, () -> again.most(1, 2));
        // As long as a text may be.
        String longest = "thinks 1" + many(345, "+1");
        fault(0, -1, longest + ";");
        fault(1, 698, longest);
        fault(0, -1, "thinks 1" + many(115, " or 1") + ";");
    }

    private static void promises5To8() {
        promise = 5;
        SlotMat x = told(STREET + "round 1 0 1;");
        x.days(1);
        // On day 0 box 1 is emptied: 6 thoughts of person 2 are heard as 3 + 4 - 16 / 3 = 2.
        int[] counts = {2, 3, 1, 0, 0, 0, 6, 2, 1, 4, 1, 0, 0, 0, 0, 0};
        for (int i = 0; i < counts.length; i++) {
            int what = i;
            due(counts[i], () -> x.count(what));
        }
        due(NO_SUCH, () -> x.count(16));
        due(NO_SUCH, () -> x.count(-1));
        due(NO_SUCH, () -> x.count(Integer.MAX_VALUE));
        x.strike(true);
        due(1, () -> x.count(4));
        due(0, () -> x.count(5));
        x.note(0, 0, 0);
        due(1, () -> x.count(11));
        x.turn(1, 2);
        due(0, () -> x.count(8));
        due(0, () -> x.count(9));
        x.turn(0, -1);
        due(0b010, () -> x.count(9));

        promise = 6;
        SlotMat y = told("box 10 7;box 10 8;box 30 9;person 20 1;person 0 1;person 20 1;person 10 1;");
        due(10, () -> y.box(0, 0));
        due(30, () -> y.box(2, 0));
        due(8, () -> y.box(1, 1));
        due(0, () -> y.box(0, 2));
        // 20 is as far from 10 as from 30: the least box is nearest.
        due(0b1111, () -> y.box(0, 3));
        due(0, () -> y.box(1, 3));
        due(0, () -> y.box(0, 4));
        due(-1, () -> y.box(2, 4));
        due(0, () -> told("box 0 0;person 30 0;").box(0, 4));
        due(1, () -> told("box 0 0;box 1 0;person 30 0;").person(0, 5));
        y.strike(true);
        y.days(2);
        due(8, () -> y.box(0, 2));
        due(5, () -> y.box(0, 1));
        due(NO_SUCH, () -> y.box(3, 0));
        due(NO_SUCH, () -> y.box(-1, 0));
        due(NO_SUCH, () -> y.box(0, 5));
        due(NO_SUCH, () -> y.box(0, -1));

        promise = 7;
        SlotMat z = told(STREET + "person 5 0 at 7;");
        z.days(1);
        int[] two = {25, 6, 0, 6, 0, 1, 0, 0};
        int[] zero = {4, 4, 1, 0, 5, 0, 0b0110, 0b1010};
        for (int i = 0; i < 8; i++) {
            int what = i;
            due(two[i], () -> z.person(2, what));
            due(zero[i], () -> z.person(0, what));
        }
        due(-1, () -> z.person(3, 2));
        due(NO_SUCH, () -> z.person(4, 0));
        due(NO_SUCH, () -> z.person(-1, 0));
        due(NO_SUCH, () -> z.person(0, 8));
        due(NO_SUCH, () -> z.person(0, -1));
        SlotMat boxless = told("person 3 3 at 1;person 3 3;");
        due(-1, () -> boxless.person(0, 5));
        due(0, () -> boxless.person(0, 7));
        boxless.days(5);
        due(0, () -> boxless.person(0, 3));

        promise = 8;
        due(6, () -> z.held(1, 2));
        due(0, () -> z.held(0, 2));
        due(0, () -> z.held(0, 0));
        due(NO_SUCH, () -> z.held(2, 0));
        due(NO_SUCH, () -> z.held(0, 4));
        due(NO_SUCH, () -> z.held(-1, 0));
        due(NO_SUCH, () -> z.held(0, -1));
    }

    private static void promises9To12() {
        promise = 9;
        SlotMat x = told(DAILY);
        due(-1, () -> x.days(0));
        due(-1, () -> x.days(21));
        due(-1, () -> x.days(-5));
        due(-1, () -> x.days(Integer.MAX_VALUE));
        due(4, () -> x.count(14));
        due(0, () -> x.count(10));
        due(20, () -> x.days(20));
        due(180, () -> x.person(1, 4));
        due(1, () -> x.count(10));
        for (int day = 40; day <= 980; day += 20) {
            int want = day;
            due(want, () -> x.days(20));
        }
        due(-1, () -> x.days(20));
        due(5, () -> x.count(14));
        due(999, () -> x.days(19));
        due(-1, () -> x.days(1));
        due(999 * 9, () -> x.person(1, 4));

        promise = 10;
        SlotMat y = told("box 0 50;box 9 9;person 0 9 at 1;person 9 1;");
        y.strike(true);
        y.days(2);
        due(2 * 9 + 9, () -> y.write(0));
        due(27, () -> y.person(1, 4));
        due(0, () -> y.person(0, 3));
        due(0, () -> y.held(0, 0));
        due(2, () -> y.held(1, 1));
        due(36, () -> y.write(0));
        due(-1, () -> y.write(1));
        due(1, () -> y.count(14));
        due(2, () -> y.person(1, 3));
        due(NO_SUCH, () -> y.write(2));
        due(NO_SUCH, () -> y.write(-1));
        due(1, () -> y.count(14));
        SlotMat loud = told("box 0 9;person 0 9 at 1;person 0 0;sounds 99;");
        for (int i = 0; i < 6; i++) {
            loud.days(20);
        }
        due(9999, () -> loud.later(1, 40, 1));
        loud.days(1);
        due(9999, () -> loud.write(0));

        promise = 11;
        SlotMat z = told("box 0 98;box 1 99;");
        due(98, () -> z.paint(0));
        due(99, () -> z.box(0, 1));
        due(-1, () -> z.paint(0));
        due(-1, () -> z.paint(1));
        due(2, () -> z.count(14));
        due(1, () -> z.count(10));
        due(NO_SUCH, () -> z.paint(2));
        due(NO_SUCH, () -> z.paint(-1));

        promise = 12;
        SlotMat t = told(STREET);
        due(0, () -> t.turn(2, 1));
        due(1, () -> t.person(2, 2));
        due(-2, () -> t.turn(2, 1));
        due(-2, () -> t.turn(2, 2));
        due(1, () -> t.turn(2, -1));
        due(-1, () -> t.person(2, 2));
        due(-2, () -> t.turn(2, -1));
        due(-1, () -> t.turn(2, 0));
        due(3, () -> t.count(14));
        due(3, () -> t.count(10));
        due(NO_SUCH, () -> t.turn(3, 0));
        due(NO_SUCH, () -> t.turn(0, 3));
        due(NO_SUCH, () -> t.turn(0, -2));
        due(NO_SUCH, () -> t.turn(-1, 0));
        due(3, () -> t.count(14));
    }

    private static void promises13And14() {
        promise = 13;
        SlotMat x = told(DAILY);
        due(0, () -> bit(x.strike(false)));
        due(1, () -> bit(x.strike(true)));
        due(0, () -> bit(x.strike(true)));
        due(2, () -> x.count(14));
        x.days(1);
        due(9, () -> x.held(0, 0));
        due(1, () -> bit(x.strike(false)));
        x.days(1);
        due(0, () -> x.held(0, 0));
        due(18, () -> x.person(1, 4));

        promise = 14;
        SlotMat y = told(STREET);
        due(-1, () -> y.undo());
        y.days(1);
        y.write(2);
        y.paint(1);
        y.turn(1, 2);
        y.strike(true);
        y.days(20);
        due(5, () -> y.undo());
        due(1, () -> y.count(2));
        due(1, () -> y.count(4));
        due(4, () -> y.undo());
        due(0, () -> y.count(4));
        due(3, () -> y.undo());
        due(0, () -> y.person(1, 2));
        due(99, () -> y.box(1, 1));
        due(2, () -> y.undo());
        due(2, () -> y.box(1, 1));
        due(0, () -> y.held(1, 2));
        due(1, () -> y.undo());
        due(6, () -> y.held(1, 2));
        due(6, () -> y.person(2, 3));
        due(5, () -> y.person(0, 4));
        due(0, () -> y.undo());
        due(0, () -> y.count(2));
        due(0, () -> y.count(7));
        due(3, () -> y.box(1, 1));
        due(-1, () -> y.undo());
        due(0, () -> y.count(14));
        // Of 45 acts the latest 40 are kept.
        for (int i = 0; i < 45; i++) {
            y.days(1);
        }
        due(40, () -> y.count(10));
        for (int left = 39; left >= 0; left--) {
            int want = left;
            due(want, () -> y.undo());
        }
        due(-1, () -> y.undo());
        due(5, () -> y.count(2));
    }

    private static void aDay() {
        promise = 9;
        // 99 of one person at most; regret goes on to 999; red fades to 0, no further.
        SlotMat x = told("box 0 5;person 0 9 at 1;person 0 0;");
        x.strike(true);
        x.days(10);
        due(90, () -> x.held(0, 0));
        due(0, () -> x.box(0, 1));
        x.days(5);
        due(99, () -> x.held(0, 0));
        due(135, () -> x.person(0, 3));
        for (int i = 0; i < 5; i++) {
            x.days(20);
        }
        due(999, () -> x.person(0, 3));
        x.strike(false);
        x.days(1);
        due(900, () -> x.person(0, 3));
        due(49 + 2, () -> x.person(1, 4));

        // Thoughts at nobody are fetched and not heard; regret goes with them.
        SlotMat y = told("box 0 5;person 0 4;person 0 3 at 0;wet 0;");
        y.strike(true);
        y.days(2);
        y.strike(false);
        due(7 * 3, () -> y.most(1, 2));
        y.days(1);
        due(0, () -> y.person(0, 3));
        due(4, () -> y.person(0, 4));
        due(0, () -> y.person(1, 4));
        due(3, () -> y.box(0, 1));

        // Regret is not below 0; a letter had taken it, the thoughts of others stay.
        SlotMat z = told("box 0 9;box 9 9;person 0 5 at 1;person 0 2 at 0;round 1 0;thinks pensive*(regret<6);");
        z.days(1);
        due(5, () -> z.person(0, 3));
        z.days(1);
        due(0, () -> z.person(0, 3));

        // Far away nothing is heard rather than less than nothing.
        SlotMat far = told("box 0 9;person 0 1 at 1;person 30 0;wet 3;");
        far.days(4);
        due(0, () -> far.person(1, 4));
        due(0, () -> far.person(0, 3));

        // Person by person: the second one sees what the first put in, and hears what was heard already.
        SlotMat rows = told("box 0 9;person 0 3 at 2;person 0 3 at 2;person 0 0;thinks held+1;sounds heard+much;");
        rows.days(1);
        // 1, then 2, then 4 thoughts; heard is 1, then 1 + 1 + 2 (those of 2 are at nobody).
        due(4, () -> rows.person(2, 4));
        due(7 * 2, () -> rows.most(2, 2));
        rows.strike(true);
        rows.days(1);
        due(1, () -> rows.held(0, 0));
        due(2, () -> rows.held(0, 1));
        due(4, () -> rows.held(0, 2));

        // What was thought at one comes to whom one thinks at now.
        SlotMat turned = told("box 0 9;person 0 4 at 1;person 0 0;person 0 0;wet 0;");
        turned.strike(true);
        turned.days(1);
        turned.turn(0, 2);
        turned.strike(false);
        turned.days(1);
        due(0, () -> turned.person(1, 4));
        due(4, () -> turned.person(2, 4));
    }

    private static void promises15To19() {
        promise = 15;
        SlotMat x = told(STREET);
        due(0, () -> x.then(0, 0, 0));
        due(20, () -> x.then(0, 0, 1));
        due(6, () -> x.then(1, 1, 0));
        due(2, () -> x.then(1, 1, 1));
        due(0, () -> x.then(1, 2, 0));
        due(0, () -> x.then(1, 39, 1));
        due(0, () -> x.then(0, 40, 1));
        due(NO_SUCH, () -> x.then(2, 0, 0));
        due(NO_SUCH, () -> x.then(-1, 99, 0));
        due(NO_SUCH, () -> x.then(0, 99, 2));
        due(NO_SUCH, () -> x.then(0, 99, -1));
        due(ILLEGAL, () -> x.then(0, 41, 0));
        due(ILLEGAL, () -> x.then(0, -1, 1));
        due(0, () -> x.count(2));

        promise = 16;
        due(6, () -> x.later(2, 1, 0));
        due(6, () -> x.later(0, 2, 1));
        due(0, () -> x.later(0, 0, 1));
        due(NO_SUCH, () -> x.later(3, 0, 0));
        due(NO_SUCH, () -> x.later(-1, 99, 0));
        due(NO_SUCH, () -> x.later(0, 99, 2));
        due(ILLEGAL, () -> x.later(0, 41, 0));
        due(ILLEGAL, () -> x.later(0, -1, 1));
        SlotMat daily = told(DAILY);
        due(360, () -> daily.later(1, 40, 1));
        for (int i = 0; i < 50; i++) {
            daily.days(i == 49 ? 19 : 20);
        }
        // Days beyond the last one may be looked at.
        due((999 + 40) * 9, () -> daily.later(1, 40, 1));

        promise = 17;
        due(1, () -> x.first(0));
        due(-1, () -> x.first(2));
        SlotMat late = told("box 0 9;box 30 9;person 0 1 at 1;person 30 0;wet 0;round 1 1 1 0;");
        // 4 thoughts at a time are heard as 2, less 10 for the way: as nothing.
        due(-1, () -> late.first(1));
        SlotMat much = told("box 0 9;person 0 9 at 1;person 0 0;sounds day=39;");
        due(40, () -> much.first(1));
        SlotMat more = told("box 0 9;person 0 9 at 1;person 0 0;sounds day=40;");
        due(-1, () -> more.first(1));
        more.days(1);
        due(40, () -> more.first(1));
        due(NO_SUCH, () -> x.first(3));
        due(NO_SUCH, () -> x.first(-1));

        promise = 18;
        due(1, () -> x.full(1, 6));
        due(-1, () -> x.full(1, 7));
        due(2, () -> x.full(0, 6));
        SlotMat eight = told("box 0 9;" + many(8, "person 0 9;"));
        eight.strike(true);
        due(11, () -> eight.full(0, 792));
        due(1, () -> eight.full(0, 72));
        due(2, () -> eight.full(0, 73));
        eight.days(11);
        due(0, () -> eight.full(0, 792));
        due(ILLEGAL, () -> eight.full(0, 793));
        due(ILLEGAL, () -> eight.full(0, 0));
        due(NO_SUCH, () -> eight.full(1, 0));
        SlotMat slow = told("box 0 9;person 0 1;");
        slow.strike(true);
        due(40, () -> slow.full(0, 40));
        due(-1, () -> slow.full(0, 41));

        promise = 19;
        due(0, () -> x.most(0, 0));
        due(1, () -> x.most(1, 0));
        due(0, () -> x.most(2, 0));
        due(0, () -> x.most(0, 1));
        due(0, () -> x.most(1, 1));
        due(0, () -> x.most(0, 2));
        due(6, () -> x.most(1, 2));
        due(18, () -> x.most(2, 2));
        due(2, () -> x.most(1, 3));
        due(0, () -> x.most(2, 3));
        due(0b11, () -> x.most(0, 4));
        due(0b01, () -> x.most(1, 4));
        due(NO_SUCH, () -> x.most(99, 5));
        due(NO_SUCH, () -> x.most(0, -1));
        due(ILLEGAL, () -> x.most(41, 0));
        due(ILLEGAL, () -> x.most(-1, 4));
        SlotMat nothing = new SlotMat();
        due(-1, () -> nothing.most(0, 0));
        due(-1, () -> nothing.most(0, 1));
        due(0, () -> nothing.most(40, 2));
        due(-1, () -> nothing.most(0, 3));
        due(0, () -> nothing.most(0, 4));
    }

    private static void promises20To24() {
        // 0 to 1 to 2 to 0 is a ring; 3 comes to it; 4 thinks at nobody, 5 at 4.
        SlotMat x = told("person 0 0 at 1;person 0 0 at 2;person 0 0 at 0;person 0 0 at 1;person 0 0;person 0 0 at 4;");
        promise = 20;
        due(0b111, () -> x.ring(0));
        due(0b111, () -> x.ring(2));
        due(0, () -> x.ring(3));
        due(0, () -> x.ring(4));
        due(0, () -> x.ring(5));
        due(NO_SUCH, () -> x.ring(6));
        due(NO_SUCH, () -> x.ring(-1));

        promise = 21;
        due(0b111, () -> x.comesTo(0));
        due(0b111, () -> x.comesTo(3));
        due(0, () -> x.comesTo(4));
        due(0b010000, () -> x.comesTo(5));
        due(NO_SUCH, () -> x.comesTo(6));
        due(NO_SUCH, () -> x.comesTo(-1));
        SlotMat all = told("person 0 0 at 1;person 0 0 at 2;person 0 0 at 3;person 0 0 at 4;person 0 0 at 5;"
            + "person 0 0 at 6;person 0 0 at 7;person 0 0 at 0;");
        due(255, () -> all.ring(4));
        due(255, () -> all.comesTo(7));
        all.turn(7, 6);
        due(0, () -> all.ring(0));
        due(0b11000000, () -> all.ring(7));
        due(0b11111110, () -> all.comesTo(0));

        promise = 22;
        SlotMat street = told("box 0 0;box 10 0;box 20 0;person 5 0;person 15 0;person 10 0;");
        due(0b010, () -> street.toCover(5));
        due(-1, () -> street.toCover(4));
        due(0b010, () -> street.toCover(9));
        due(0b010, () -> street.toCover(10));
        due(0b001, () -> street.toCover(15));
        due(0b001, () -> street.toCover(30));
        due(ILLEGAL, () -> street.toCover(31));
        due(ILLEGAL, () -> street.toCover(-1));
        SlotMat pairs = told("box 0 0;box 1 0;box 20 0;box 21 0;person 0 0;person 21 0;");
        due(0b1001, () -> pairs.toCover(0));
        due(0b0101, () -> pairs.toCover(1));
        due(0, () -> told("box 3 3;").toCover(0));
        due(-1, () -> told("person 3 3;").toCover(30));

        promise = 23;
        SlotMat ways = told("box 0 0;person 0 0;person 10 0;person 20 0;person 30 0;");
        // At 20 the ways are 0, 10, 0 and 10.
        due(20, () -> ways.oneMore(0));
        due(20, () -> ways.oneMore(1));
        due(NO_SUCH, () -> ways.oneMore(2));
        due(NO_SUCH, () -> ways.oneMore(-1));
        SlotMat boxless = told("person 8 0;person 12 0;");
        due(8, () -> boxless.oneMore(0));
        due(4, () -> boxless.oneMore(1));
        SlotMat near = told("box 8 0;person 8 0;");
        due(0, () -> near.oneMore(0));
        due(0, () -> near.oneMore(1));

        promise = 24;
        SlotMat rows = told("box 0 0;box 10 0;person 0 9 at 1;person 10 2 at 0;wet 0;sounds much;");
        // 0 then 1: 9 and 4 are heard; 1 then 0: 2 and 18.
        due(20, () -> rows.order(-1));
        due(1, () -> rows.order(0));
        due(0, () -> rows.order(1));
        due(NO_SUCH, () -> rows.order(2));
        due(NO_SUCH, () -> rows.order(-2));
        due(0, () -> rows.count(2));
        // What is known of the order of one day is not said of another one.
        rows.turn(0, -1);
        due(4, () -> rows.order(-1));
        due(0, () -> rows.order(0));
        rows.strike(true);
        due(0, () -> rows.order(-1));
        due(0, () -> rows.order(0));
        due(1, () -> rows.order(1));
        rows.undo();
        rows.undo();
        due(20, () -> rows.order(-1));
        tell(rows, "box 0 0;person 0 0;");
        due(0, () -> rows.order(-1));
        due(0, () -> rows.order(0));
        due(NO_SUCH, () -> rows.order(1));
        // Nor of a day that differs from the one before by its WET alone.
        tell(rows, "box 0 0;person 0 1 at 1;person 0 0;wet 0 9;");
        due(0, () -> rows.order(-1));
        rows.days(1);
        due(9, () -> rows.order(-1));
        // Nor of another city that begins alike.
        tell(rows, "box 0 0;box 10 0;person 0 9 at 1;person 10 2 at 0;wet 0;sounds much;");
        due(20, () -> rows.order(-1));
        tell(rows, "box 0 0;box 10 0;person 0 2 at 1;person 10 9 at 0;wet 0;sounds much;");
        due(20, () -> rows.order(-1));
        due(0, () -> rows.order(0));
        due(1, () -> rows.order(1));
        // The order's first box is fetched on the next day, whatever day it is, and whatever the round is.
        SlotMat odd = told("box 0 0;box 10 0;person 0 9 at 1;person 10 2 at 0;wet 0;sounds much;round 0;");
        odd.days(1);
        // Box 0 was emptied, box 1 holds 2: 1 then 0 lets 4 and 18 be heard.
        due(22, () -> odd.order(-1));
        due(1, () -> odd.order(0));
        due(-1, () -> told("person 1 1;").order(-1));
        due(NO_SUCH, () -> told("person 1 1;").order(0));
    }

    private static void promises25To28() {
        promise = 25;
        SlotMat x = told(STREET);
        due(-1, () -> x.note(0, 21, 0));
        due(-1, () -> x.note(0, -1, 0));
        due(-1, () -> x.note(0, 0, -1));
        due(-1, () -> x.note(0, 0, 10000));
        due(4, () -> x.count(15));
        due(NO_SUCH, () -> x.note(3, 99, 0));
        due(NO_SUCH, () -> x.note(-1, 0, 0));
        due(4, () -> x.count(15));
        for (int i = 1; i <= 8; i++) {
            int want = i;
            due(want, () -> x.note(0, 20, 9999));
        }
        due(-1, () -> x.note(0, 0, 0));
        due(NO_SUCH, () -> x.note(3, 0, 0));
        due(5, () -> x.count(15));
        due(0, () -> x.thought(0));
        due(-1, () -> x.thought(1));
        due(0, () -> x.thought(2));
        due(-1, () -> x.ask(0));
        due(0, () -> x.ask(1));

        promise = 26;
        x.forget();
        due(0, () -> x.count(11));
        due(3, () -> x.thought(0));
        due(1, () -> x.note(0, 0, 0));

        promise = 27;
        SlotMat y = told(STREET);
        due(3, () -> y.thought(0));
        due(2, () -> y.thought(1));
        due(1, () -> y.thought(2));
        y.note(1, 1, 5);
        // That 0 had thought at 2 is out; 12 and 21 are left.
        due(2, () -> y.thought(0));
        due(12, () -> y.thought(1));
        due(1, () -> y.thought(2));
        y.note(0, 1, 0);
        due(1, () -> y.thought(0));
        due(12, () -> y.thought(1));
        due(0, () -> y.thought(2));
        due(NO_SUCH, () -> y.thought(3));
        due(NO_SUCH, () -> y.thought(-1));
        due(0, () -> y.person(1, 2));
        // One who thinks at nobody could have thought at anybody; behind 0 days it is what is heard now.
        SlotMat nobody = told("person 0 0;person 0 0;person 0 0;");
        due(6, () -> nobody.thought(0));
        due(1, () -> nobody.thought(1));
        nobody.note(2, 0, 0);
        due(6, () -> nobody.thought(0));
        nobody.note(2, 0, 1);
        due(0, () -> nobody.thought(0));

        promise = 28;
        SlotMat z = told(DAILY + "person 0 0;");
        // 02 (9 a day come to 2), 12 and 20, 21 (nothing changes): 1 and 2 have two sums each.
        due(1, () -> z.ask(0));
        due(2, () -> z.ask(1));
        z.note(2, 5, 45);
        due(1, () -> z.thought(0));
        due(0, () -> z.ask(0));
        due(1, () -> z.ask(1));
        due(NO_SUCH, () -> z.ask(2));
        due(NO_SUCH, () -> z.ask(-1));
        due(-1, () -> new SlotMat().ask(0));
        due(0, () -> new SlotMat().ask(1));
    }

    private static void promises29To31() {
        promise = 29;
        SlotMat x = told("box 0 0;person 0 1 at 1;person 0 0;wet 5;");
        // 9 is heard on each wet night, nothing on the others.
        due(3, () -> x.wetNights(1, 1, 1, 3));
        due(10, () -> x.wetNights(1, 0, 1, 3));
        due(3, () -> x.wetNights(1, 9, 1, 3));
        due(0, () -> x.wetNights(1, 10, 1, 3));
        due(9, () -> x.wetNights(1, 18, 2, 3));
        due(100 - 49, () -> x.wetNights(1, 9, 2, 3));
        due(3 * 9 * 7 + 27, () -> x.wetNights(1, 18, 3, 3));
        due(100000, () -> x.wetNights(1, 45, 5, 10));
        due(0, () -> x.wetNights(1, 1, 5, 0));
        due(0, () -> x.wetNights(0, 9999, 5, 5));
        due(ILLEGAL, () -> x.wetNights(1, -1, 1, 3));
        due(ILLEGAL, () -> x.wetNights(1, 10000, 1, 3));
        due(ILLEGAL, () -> x.wetNights(1, 0, 0, 3));
        due(ILLEGAL, () -> x.wetNights(1, 0, 6, 3));
        due(ILLEGAL, () -> x.wetNights(1, 0, 1, -1));
        due(ILLEGAL, () -> x.wetNights(1, 0, 1, 11));
        due(NO_SUCH, () -> x.wetNights(2, -1, 0, 11));
        due(NO_SUCH, () -> x.wetNights(-1, 0, 1, 1));

        promise = 30;
        // A letter costs 2 and nobody hears a thing otherwise: neither writes.
        SlotMat y = told("person 0 0 at 1;person 0 0 at 0;person 0 0;");
        due(1, () -> y.game(0, 1, 0));
        due(0, () -> y.game(0, 1, 1));
        due(-1, () -> y.game(0, 2, 0));
        due(-1, () -> y.game(2, 0, 1));
        due(NO_SUCH, () -> y.game(0, 3, 0));
        due(NO_SUCH, () -> y.game(3, 3, 0));
        due(NO_SUCH, () -> y.game(0, 0, 2));
        due(NO_SUCH, () -> y.game(0, 1, -1));
        due(ILLEGAL, () -> y.game(2, 2, 0));
        // Regret of 27 for 0 and none for 1: only 0 gains 3 by a letter, whoever is told first.
        SlotMat z = told("box 0 0;person 0 9 at 1;person 0 0 at 0;thinks pensive*(day<3);");
        z.strike(true);
        z.days(3);
        due(1, () -> z.game(0, 1, 0));
        due(10, () -> z.game(0, 1, 1));
        due(1, () -> z.game(1, 0, 0));
        due(1, () -> z.game(1, 0, 1));
        due(27, () -> z.person(0, 3));
        // Regret of 10 for both: by 5 it is just the 2 that a letter costs, so that every couple rests.
        SlotMat even = told("box 0 0;person 0 5 at 1;person 0 5 at 0;thinks pensive*(day<2);");
        even.strike(true);
        even.days(2);
        due(4, () -> even.game(0, 1, 0));
        due(0, () -> even.game(0, 1, 1));

        // A letter makes the other one think, so that its writer hears 5 on two of the three days: 10 by 5, less 2.
        SlotMat hears = told("box 0 0;person 0 0 at 1;person 0 0 at 0;thinks heard=9;sounds 5*(0<day);");
        due(3, () -> hears.game(0, 1, 0));
        due(0, () -> hears.game(0, 1, 1));
        // Here each gains most if both write.
        SlotMat both = told("box 0 0;person 0 0 at 1;person 0 0 at 0;thinks heard;sounds much*5;");
        due(1, () -> both.game(0, 1, 0));
        due(11, () -> both.game(0, 1, 1));

        promise = 31;
        SlotMat w = told(STREET);
        due(0, () -> w.years(5, 0, 0));
        due(0, () -> w.years(-5, 0, 1));
        due(0, () -> w.years(5, 0, 2));
        due(NO_SUCH, () -> w.years(5, 99, 3));
        due(NO_SUCH, () -> w.years(5, 0, -1));
        due(ILLEGAL, () -> w.years(5, 41, 0));
        due(ILLEGAL, () -> w.years(5, -1, 0));
        for (int seed = -60; seed < 60; seed++) {
            yearsByActs(seed);
        }
        due(0, () -> new SlotMat().years(9, 40, 0));
    }

    /** Plays the same years by acts, with WET told anew each time as the seed draws it. */
    private static void yearsByActs(int seed) {
        int[] state = {seed};
        StringBuilder wet = new StringBuilder("wet");
        int[][] drawn = new int[8][];
        for (int i = 0; i < 8; i++) {
            wet.append(' ').append(draw(state, 10));
            int who = draw(state, 3);
            int act = draw(state, 6);
            drawn[i] = new int[] {who, act, act == 1 ? draw(state, 3) : 0};
        }
        String people = "box 5 20;box 20 3;person 4 4 at 1;person 10 2 at 0;person 25 6 at 0;";
        SlotMat x = told(people + wet + ";");
        for (int[] one : drawn) {
            if (one[1] == 0 && x.person(one[0], 2) >= 0) {
                x.write(one[0]);
            } else if (one[1] == 1) {
                x.turn(one[0], one[2] == one[0] ? -1 : one[2]);
            } else if (one[1] == 2) {
                x.strike(x.count(4) == 0);
            }
            x.days(1);
        }
        SlotMat y = told(people + "wet 9;");
        due(x.count(7), () -> y.years(seed, 8, 0));
        due(x.person(0, 3) + x.person(1, 3) + x.person(2, 3), () -> y.years(seed, 8, 1));
        due(x.count(6), () -> y.years(seed, 8, 2));
        due(0, () -> y.count(2));
    }

    private static int draw(int[] state, int n) {
        state[0] = state[0] * 1103515245 + 12345;
        return (state[0] >> 16 & 0x7fff) % n;
    }

    private static void promises32To39() {
        SlotMat x = told(STREET);
        promise = 32;
        due(0, () -> x.pale(0, 20));
        due(0, () -> x.pale(0, 99));
        due(2, () -> x.pale(0, 19));
        due(4, () -> x.pale(0, 18));
        due(40, () -> x.pale(0, 0));
        due(5, () -> x.pale(1, 0));
        due(ILLEGAL, () -> x.pale(0, -1));
        due(ILLEGAL, () -> x.pale(0, 100));
        due(NO_SUCH, () -> x.pale(2, 100));
        due(NO_SUCH, () -> x.pale(-1, 0));
        SlotMat red = told("box 0 41;person 0 1;");
        red.strike(true);
        due(40, () -> red.pale(0, 1));
        due(-1, () -> red.pale(0, 0));

        promise = 33;
        SlotMat round = told("box 0 0;box 1 0;box 2 0;round 0 1 0;");
        due(1, () -> round.visits(0, 1));
        due(0, () -> round.visits(1, 1));
        due(40, () -> round.visits(0, 60));
        due(20, () -> round.visits(1, 60));
        due(0, () -> round.visits(2, 60));
        round.strike(true);
        round.days(1);
        due(0, () -> round.visits(0, 1));
        due(2, () -> round.visits(0, 3));
        due(ILLEGAL, () -> round.visits(0, 0));
        due(ILLEGAL, () -> round.visits(0, 61));
        due(NO_SUCH, () -> round.visits(3, 61));
        due(NO_SUCH, () -> round.visits(-1, 1));

        promise = 34;
        due(2, () -> x.steps(2, 1));
        due(1, () -> x.steps(2, 0));
        due(0, () -> x.steps(2, 2));
        due(-1, () -> x.steps(0, 2));
        due(NO_SUCH, () -> x.steps(3, 0));
        due(NO_SUCH, () -> x.steps(0, 3));
        due(NO_SUCH, () -> x.steps(0, -1));
        SlotMat chain = told("person 0 0 at 1;person 0 0 at 2;person 0 0 at 3;person 0 0 at 4;person 0 0 at 5;"
            + "person 0 0 at 6;person 0 0 at 7;person 0 0;");
        due(7, () -> chain.steps(0, 7));
        due(-1, () -> chain.steps(7, 0));

        promise = 35;
        due(5, () -> x.quiet(2, 5));
        due(40, () -> x.quiet(2, 40));
        due(1, () -> x.quiet(1, 4));
        due(0, () -> x.quiet(0, 1));
        SlotMat rare = told("box 0 9;person 0 9 at 1;person 0 0;sounds day=2 or day=6;");
        due(2, () -> rare.quiet(1, 3));
        due(3, () -> rare.quiet(1, 7));
        due(4, () -> rare.quiet(1, 11));
        due(ILLEGAL, () -> x.quiet(0, 0));
        due(ILLEGAL, () -> x.quiet(0, 41));
        due(NO_SUCH, () -> x.quiet(3, 41));
        due(NO_SUCH, () -> x.quiet(-1, 1));

        promise = 36;
        due(10, () -> x.middle());
        due(8, () -> told("box 30 0;person 8 0;person 12 0;").middle());
        due(30, () -> told("person 30 0;").middle());
        due(0, () -> told("box 9 9;").middle());

        promise = 37;
        due(1, () -> x.bestAt(2, 2));
        due(0, () -> x.bestAt(1, 40));
        due(-1, () -> told("box 0 0;person 0 9;").bestAt(0, 40));
        due(1, () -> told("box 0 0;person 0 9 at 2;person 5 0;person 5 0;").bestAt(0, 1));
        due(2, () -> told("box 0 0;person 0 9 at 1;person 5 0;person 0 0;").bestAt(0, 1));
        due(ILLEGAL, () -> x.bestAt(0, 0));
        due(ILLEGAL, () -> x.bestAt(0, 41));
        due(NO_SUCH, () -> x.bestAt(3, 41));
        due(NO_SUCH, () -> x.bestAt(-1, 1));

        promise = 38;
        due(23, () -> x.reds(0));
        due(22, () -> x.reds(1));
        due(21, () -> x.reds(2));
        due(0, () -> x.reds(40));
        due(ILLEGAL, () -> x.reds(-1));
        due(ILLEGAL, () -> x.reds(41));

        promise = 39;
        due(-1, () -> x.whose(0));
        SlotMat mine = told("box 0 0;box 9 0;person 0 0;person 0 3;person 0 3;person 0 2;");
        mine.strike(true);
        mine.days(1);
        due(1, () -> mine.whose(0));
        due(-1, () -> mine.whose(1));
        due(NO_SUCH, () -> mine.whose(2));
        due(NO_SUCH, () -> mine.whose(-1));
    }

    private static void promises40And41() {
        promise = 40;
        SlotMat x = told(STREET);
        x.days(1);
        x.strike(true);
        x.note(0, 1, 2);
        x.image();
        x.strike(false);
        x.days(7);
        x.write(0);
        x.paint(0);
        x.turn(0, 2);
        x.note(1, 1, 2);
        x.days(30);
        promise = 41;
        for (int i = 0; i < 2; i++) {
            due(1, () -> bit(x.restore()));
            due(1, () -> x.count(2));
            due(1, () -> x.count(4));
            due(6, () -> x.count(6));
            due(10, () -> x.count(7));
            due(20, () -> x.box(0, 1));
            due(1, () -> x.person(0, 2));
            due(6, () -> x.person(2, 3));
            due(2, () -> x.count(10));
            due(1, () -> x.count(11));
            due(1, () -> x.count(14));
            due(1, () -> x.undo());
            due(0, () -> x.undo());
            due(0, () -> x.count(2));
            due(-1, () -> x.undo());
            x.forget();
        }
        promise = 40;
        SlotMat noted = told(DAILY);
        noted.note(1, 2, 18);
        noted.image();
        noted.forget();
        noted.note(0, 1, 7);
        due(0, () -> noted.thought(2));
        noted.restore();
        due(1, () -> noted.thought(2));
        noted.note(1, 3, 27);
        due(1, () -> noted.thought(2));
        noted.note(1, 4, 35);
        due(0, () -> noted.thought(2));
        x.image();
        x.days(3);
        due(1, () -> bit(x.restore()));
        due(0, () -> x.count(2));
        due(0, () -> x.count(10));
        due(0, () -> x.count(11));
        promise = 41;
        due(0, () -> bit(new SlotMat().restore()));
    }
}
