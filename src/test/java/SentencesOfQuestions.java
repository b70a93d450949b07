/** Each sentence of the document that tells a boundary of what will be, could be or should be so. */
public final class SentencesOfQuestions {
    // One thinks 9 a day into the only box, which is emptied daily: the other one hears these 9.
    private static final String DAILY = "box 0 50;person 0 9 at 1;person 3 0 at 0;sounds much;";
    private static final String RING_OF_8 = "person 0 0 at 1;person 0 0 at 2;person 0 0 at 3;person 0 0 at 4;"
        + "person 0 0 at 5;person 0 0 at 6;person 0 0 at 7;person 0 0 at 0;";
    private static final int[] NOT_0_TO_40 = {-1, 41, Integer.MIN_VALUE, Integer.MAX_VALUE};
    private static final int[] NOT_1_TO_40 = {0, -1, 41, Integer.MIN_VALUE, Integer.MAX_VALUE};

    public static void main(String[] args) {
        thenAndLater();
        first();
        full();
        fullestAndLoudest();
        fetchedSaddestAndEmpty();
        ringAndComesTo();
        toCover();
        oneMore();
        order();
        note();
        thought();
        ask();
        wetNights();
        game();
        years();
        pale();
        visits();
        steps();
        quiet();
        middle();
        bestAt();
        reds();
        whose();
        Sentence.end();
    }

    private static void passDays(SlotMat x, int many) {
        for (int left = many; left > 0; left -= 20) {
            x.days(Math.min(20, left));
        }
    }

    /** A what below 0, and from this one on, is none. */
    private static void noWhat(int firstWrong, Sentence.OneNumber call) {
        Sentence.dueForEach(Sentence.NO_SUCH, call, -1, firstWrong, firstWrong + 1, Integer.MIN_VALUE,
            Integer.MAX_VALUE);
    }

    // ---- promises 15 to 19 ----

    private static void thenAndLater() {
        Sentence.of(15, "(If only DAYS go by, from now on:)");
        SlotMat asked = Sentence.told(Sentence.STREET + "round 1 0 1;");
        SlotMat lived = Sentence.told(Sentence.STREET + "round 1 0 1;");
        for (int i = 0; i <= 40; i++) {
            int days = i;
            for (int box = 0; box < 2; box++) {
                int one = box;
                Sentence.due(lived.box(one, 2), () -> asked.then(one, days, 0));
                Sentence.due(lived.box(one, 1), () -> asked.then(one, days, 1));
            }
            for (int person = 0; person < 3; person++) {
                int one = person;
                Sentence.due(lived.person(one, 3), () -> asked.later(one, days, 0));
                Sentence.due(lived.person(one, 4), () -> asked.later(one, days, 1));
            }
            lived.days(1);
        }
        Sentence.due(0, () -> asked.count(2));

        Sentence.of(15, "THEN, behind so many DAYS (0 to 40): how much a BOX HOLDS, its RED; REGRET of a PERSON, how"
            + " much one has HEARD.");
        SlotMat strike = Sentence.toldOnStrike("box 0 50;person 0 1;person 0 9;");
        Sentence.due(0, () -> strike.then(0, 0, 0));
        Sentence.due(50, () -> strike.then(0, 0, 1));
        Sentence.due(10, () -> strike.then(0, 1, 0));
        Sentence.due(49, () -> strike.then(0, 1, 1));
        Sentence.due(40 + 99, () -> strike.then(0, 40, 0));
        Sentence.due(10, () -> strike.then(0, 40, 1));
        Sentence.due(0, () -> strike.later(1, 0, 0));
        Sentence.due(360, () -> strike.later(1, 40, 0));
        SlotMat daily = Sentence.told(DAILY);
        Sentence.due(0, () -> daily.later(1, 0, 1));
        Sentence.due(360, () -> daily.later(1, 40, 1));
        // Days beyond 999 may be looked at, with their wet and their round.
        SlotMat last = Sentence.told("box 0 9;person 0 9 at 1;person 0 0;wet 1 2 3 4 5 6 7;sounds wet*(998<day);");
        passDays(last, 999);
        // 999 is 5 more than a multiple of 7.
        Sentence.due(6, () -> last.later(1, 1, 1));
        Sentence.due(6 + 7 + 1, () -> last.later(1, 3, 1));
        Sentence.due(5 * 28 + 6 + 7 + 1 + 2 + 3, () -> last.later(1, 40, 1));
        Sentence.due(999, () -> last.count(2));

        Sentence.of(15, "THEN: how much it HOLDS (what 0), RED (1). NoSuchElementException: also another what.");
        noWhat(2, what -> strike.then(0, 0, what));
        noWhat(2, what -> strike.then(0, 41, what));

        Sentence.of(15, "IllegalArgumentException (behind that): not 0 to 40.");
        Sentence.dueForEach(Sentence.ILLEGAL, days -> strike.then(0, days, 0), NOT_0_TO_40);
        Sentence.dueForEach(Sentence.ILLEGAL, days -> strike.then(0, days, 1), NOT_0_TO_40);
        Sentence.due(Sentence.NO_SUCH, () -> strike.then(1, 41, 0));

        Sentence.of(16, "THEN: REGRET (what 0), how much one has HEARD (1). NoSuchElementException: also another"
            + " what. IllegalArgumentException (behind that): not 0 to 40.");
        noWhat(2, what -> strike.later(0, 0, what));
        noWhat(2, what -> strike.later(0, 41, what));
        Sentence.dueForEach(Sentence.ILLEGAL, days -> strike.later(0, days, 0), NOT_0_TO_40);
        Sentence.dueForEach(Sentence.ILLEGAL, days -> strike.later(0, days, 1), NOT_0_TO_40);
        Sentence.due(Sentence.NO_SUCH, () -> strike.later(2, 41, 0));
    }

    private static void first() {
        Sentence.of(17, "FIRST: behind how many DAYS (1 to 40) one has HEARD more than now first; none.");
        SlotMat x = Sentence.told("box 0 9;person 0 9 at 1;person 0 0;sounds (day=0)+(day=39)+(day=80);");
        Sentence.due(1, () -> x.first(1));
        x.days(1);
        // More than now, which is 1: behind 39 days.
        Sentence.due(39, () -> x.first(1));
        passDays(x, 39);
        Sentence.due(2, () -> x.person(1, 4));
        Sentence.due(Sentence.NONE, () -> x.first(1));
        x.days(1);
        Sentence.due(40, () -> x.first(1));
        Sentence.due(Sentence.NONE, () -> x.first(0));

        Sentence.of(17, "FIRST; NONE: none.");
        x.strike(true);
        Sentence.due(Sentence.NONE, () -> x.first(1));
        // Who has heard 9999 hears no more.
        SlotMat loud = Sentence.told("box 0 9;person 0 9 at 1;person 0 0;sounds 99;");
        passDays(loud, 100);
        Sentence.due(1, () -> loud.first(1));
        loud.days(1);
        Sentence.due(Sentence.NONE, () -> loud.first(1));
        Sentence.due(Sentence.NONE, () -> Sentence.told("person 0 9 at 1;person 0 0;").first(1));
    }

    private static void full() {
        Sentence.of(18, "FULL: behind how many DAYS (0 to 40) a BOX first HOLDS so many (1 to 792) or more; none.");
        SlotMat eight = Sentence.toldOnStrike("box 0 9;" + Sentence.many(8, "person 0 9;"));
        Sentence.due(1, () -> eight.full(0, 1));
        Sentence.due(1, () -> eight.full(0, 72));
        Sentence.due(2, () -> eight.full(0, 73));
        Sentence.due(10, () -> eight.full(0, 720));
        Sentence.due(11, () -> eight.full(0, 721));
        Sentence.due(11, () -> eight.full(0, 792));
        eight.days(11);
        Sentence.due(0, () -> eight.full(0, 792));
        Sentence.due(0, () -> eight.full(0, 1));
        SlotMat slow = Sentence.toldOnStrike("box 0 9;person 0 1;");
        Sentence.due(39, () -> slow.full(0, 39));
        Sentence.due(40, () -> slow.full(0, 40));
        Sentence.due(Sentence.NONE, () -> slow.full(0, 41));
        slow.days(1);
        Sentence.due(40, () -> slow.full(0, 41));
        // First: it holds so many again later, and less in between.
        SlotMat round = Sentence.told("box 0 9;box 30 9;person 0 1;round 1 1 1 0;");
        Sentence.due(2, () -> round.full(0, 2));
        Sentence.due(3, () -> round.full(0, 3));

        Sentence.of(18, "FULL; NONE: none.");
        Sentence.due(Sentence.NONE, () -> round.full(0, 4));
        Sentence.due(Sentence.NONE, () -> round.full(1, 1));

        Sentence.of(18, "IllegalArgumentException (behind NoSuchElementException): not 1 to 792.");
        Sentence.dueForEach(Sentence.ILLEGAL, many -> eight.full(0, many), 0, -1, 793, Integer.MIN_VALUE,
            Integer.MAX_VALUE);
        Sentence.dueForEach(Sentence.NO_SUCH, many -> eight.full(1, many), 0, 1, 793);
    }

    private static void fullestAndLoudest() {
        Sentence.of(19, "FULLEST behind so many DAYS (0 to 40): the BOX that HOLDS most (of like ones the least);"
            + " none.");
        // Box 2 holds one from the first day on, boxes 0 and 1 hold nine each from day 38 on.
        SlotMat x = Sentence.toldOnStrike("box 0 0;box 10 0;box 20 0;person 0 0;person 10 0;person 20 1;"
            + "thinks (day=0)*pensive+(day=38)*(held=0)*9;");
        Sentence.due(0, () -> x.most(0, 0));
        Sentence.due(2, () -> x.most(1, 0));
        Sentence.due(2, () -> x.most(38, 0));
        // 0 and 1 hold 9 each: of like ones the least.
        Sentence.due(0, () -> x.most(39, 0));
        Sentence.due(0, () -> x.most(40, 0));
        SlotMat like = Sentence.toldOnStrike("box 0 0;box 10 0;box 20 0;person 10 3;person 20 3;");
        Sentence.due(1, () -> like.most(40, 0));
        Sentence.due(Sentence.NONE, () -> Sentence.told("person 0 9;").most(40, 0));

        Sentence.of(19, "LOUDEST: who has HEARD most then (of like ones the least); none.");
        SlotMat loud = Sentence.told("box 0 0;person 0 1 at 2;person 0 1 at 3;person 0 1 at 3;person 0 1 at 1;"
            + "sounds day=39;");
        Sentence.due(0, () -> loud.most(0, 1));
        Sentence.due(0, () -> loud.most(39, 1));
        // Behind 40 days 3 has heard twice, 1 and 2 once.
        Sentence.due(3, () -> loud.most(40, 1));
        loud.turn(1, -1);
        // Now 1, 2 and 3 have heard once then.
        Sentence.due(1, () -> loud.most(40, 1));
        Sentence.due(Sentence.NONE, () -> Sentence.told("box 0 9;").most(40, 1));

        Sentence.of(19, "FULLEST (what 0; NONE), LOUDEST (1; NONE), FETCHED (2), SADDEST (3; NONE), EMPTY (4; bits)."
            + " NoSuchElementException: another what.");
        noWhat(5, what -> x.most(0, what));
        noWhat(5, what -> x.most(41, what));

        Sentence.of(19, "IllegalArgumentException (behind that): not 0 to 40.");
        for (int i = 0; i < 5; i++) {
            int what = i;
            Sentence.dueForEach(Sentence.ILLEGAL, days -> x.most(days, what), NOT_0_TO_40);
            Sentence.dueForEach(Sentence.ILLEGAL, days -> new SlotMat().most(days, what), NOT_0_TO_40);
        }
    }

    private static void fetchedSaddestAndEmpty() {
        Sentence.of(19, "FETCHED in so many DAYS (0 to 40): how many THOUGHTS, all together.");
        SlotMat eight = Sentence.told("box 0 9;" + Sentence.many(8, "person 0 9;"));
        Sentence.due(0, () -> eight.most(0, 2));
        Sentence.due(72, () -> eight.most(1, 2));
        Sentence.due(72 * 40, () -> eight.most(40, 2));
        eight.strike(true);
        Sentence.due(0, () -> eight.most(40, 2));
        eight.days(20);
        eight.strike(false);
        Sentence.due(792, () -> eight.most(1, 2));
        Sentence.due(792 + 72, () -> eight.most(2, 2));
        Sentence.due(0, () -> Sentence.told("person 0 9;").most(40, 2));
        // What a letter tells is not fetched.
        SlotMat letter = Sentence.toldOnStrike("box 0 9;person 0 9 at 1;person 0 0;");
        letter.days(2);
        letter.write(0);
        letter.strike(false);
        Sentence.due(9, () -> letter.most(1, 2));

        Sentence.of(19, "SADDEST: who has most REGRET behind so many DAYS (0 to 40; of like ones the least); none.");
        SlotMat sad = Sentence.toldOnStrike("box 0 0;person 0 0;person 0 2;person 0 2;");
        Sentence.due(0, () -> sad.most(0, 3));
        Sentence.due(1, () -> sad.most(1, 3));
        Sentence.due(1, () -> sad.most(40, 3));
        // 0 has 3 from the first day on, 1 has 4 from day 39 on.
        SlotMat late = Sentence.toldOnStrike("box 0 0;person 0 1;person 0 2;"
            + "thinks (day=0)*(pensive=1)*3+(day=39)*(pensive=2)*4;");
        Sentence.due(0, () -> late.most(39, 3));
        Sentence.due(1, () -> late.most(40, 3));
        Sentence.due(Sentence.NONE, () -> Sentence.told("box 0 9;").most(40, 3));

        Sentence.of(19, "EMPTY behind so many DAYS (0 to 40): BOXES that HOLD nothing, as bits.");
        SlotMat empty = Sentence.told("box 0 0;box 6 0;box 12 0;box 18 0;box 24 0;box 30 0;person 0 1;person 6 1;"
            + "person 12 1;person 18 1;person 24 1;person 30 0;");
        Sentence.due(0b111111, () -> empty.most(0, 4));
        for (int i = 1; i <= 40; i++) {
            int days = i;
            Sentence.due(0b100000 | 1 << (i - 1) % 6, () -> empty.most(days, 4));
        }
        empty.strike(true);
        Sentence.due(0b100000, () -> empty.most(40, 4));
        Sentence.due(0, () -> Sentence.told("person 0 0;").most(0, 4));
    }

    // ---- promises 20 to 24 ----

    private static void ringAndComesTo() {
        // 0 to 1 to 2 to 0 is a ring; 3 comes to it; 4 thinks at nobody, 5 at 4; 6 and 7 at each other.
        SlotMat x = Sentence.told("person 0 0 at 1;person 0 0 at 2;person 0 0 at 0;person 0 0 at 1;person 0 0;"
            + "person 0 0 at 4;person 0 0 at 7;person 0 0 at 6;");
        SlotMat all = Sentence.told(RING_OF_8);
        SlotMat tail = Sentence.told(RING_OF_8);
        tail.turn(7, 6);

        Sentence.of(20, "A RING of one: whom one comes to, from one on, from each to AT whom that one thinks, if one"
            + " comes back to oneself (bits, oneself too; 0, if one doesn't).");
        int[] rings = {0b111, 0b111, 0b111, 0, 0, 0, 0b11000000, 0b11000000};
        for (int person = 0; person < 8; person++) {
            int one = person;
            Sentence.due(rings[person], () -> x.ring(one));
            Sentence.due(255, () -> all.ring(one));
            Sentence.due(one < 6 ? 0 : 0b11000000, () -> tail.ring(one));
        }
        Sentence.due(0, () -> Sentence.told("person 0 0;").ring(0));

        Sentence.of(21, "COMES TO: PEOPLE to whom one comes so (bits; not oneself, unless by a RING).");
        int[] comes = {0b111, 0b111, 0b111, 0b111, 0, 0b10000, 0b11000000, 0b11000000};
        for (int person = 0; person < 8; person++) {
            int one = person;
            Sentence.due(comes[person], () -> x.comesTo(one));
            Sentence.due(255, () -> all.comesTo(one));
            Sentence.due(one < 6 ? 255 & ~((2 << one) - 1) : 0b11000000, () -> tail.comesTo(one));
        }
        tail.turn(7, Sentence.NONE);
        Sentence.due(0b11111110, () -> tail.comesTo(0));
        Sentence.due(0, () -> tail.comesTo(7));
    }

    private static void toCover() {
        Sentence.of(22, "TO COVER: the fewest BOXES, so that each PERSON is so far (0 to 30) or less from one: of as"
            + " few the least as bits; none.");
        SlotMat ends = Sentence.told("box 0 0;box 30 0;person 30 0;");
        Sentence.due(0b10, () -> ends.toCover(0));
        Sentence.due(0b10, () -> ends.toCover(29));
        Sentence.due(0b01, () -> ends.toCover(30));
        SlotMat near = Sentence.told("box 10 0;person 4 0;person 16 0;");
        Sentence.due(1, () -> near.toCover(6));
        Sentence.due(Sentence.NONE, () -> near.toCover(5));
        // 0 covers the first, 3 the others; 1 the first two, 2 the last: 6 is less than 9, and than 10.
        SlotMat like = Sentence.told("box 0 0;box 5 0;box 20 0;box 15 0;person 0 0;person 10 0;person 20 0;");
        Sentence.due(0b0110, () -> like.toCover(5));
        // Two are fewer than three, though 9 is more than 7.
        SlotMat fewer = Sentence.told("box 0 0;box 10 0;box 20 0;box 15 0;person 0 0;person 10 0;person 20 0;");
        Sentence.due(0b1001, () -> fewer.toCover(5));
        SlotMat six = Sentence.told("box 0 0;box 6 0;box 12 0;box 18 0;box 24 0;box 30 0;person 0 0;person 6 0;"
            + "person 12 0;person 18 0;person 24 0;person 30 0;");
        Sentence.due(0b111111, () -> six.toCover(0));
        Sentence.due(0b111111, () -> six.toCover(5));
        Sentence.due(0b010010, () -> six.toCover(6));
        // Without people none are needed; without boxes nobody is near one.
        Sentence.due(0, () -> Sentence.told("box 0 0;").toCover(0));
        Sentence.due(0, () -> new SlotMat().toCover(30));

        Sentence.of(22, "TO COVER, as bits; NONE: none.");
        Sentence.due(Sentence.NONE, () -> Sentence.told("person 0 0;").toCover(30));
        Sentence.due(Sentence.NONE, () -> Sentence.told("box 0 0;person 30 0;").toCover(29));

        Sentence.of(22, "IllegalArgumentException: not 0 to 30.");
        Sentence.dueForEach(Sentence.ILLEGAL, far -> near.toCover(far), -1, 31, Integer.MIN_VALUE,
            Integer.MAX_VALUE);
        Sentence.dueForEach(Sentence.ILLEGAL, far -> new SlotMat().toCover(far), -1, 31);
    }

    private static void oneMore() {
        Sentence.of(23, "ONE MORE: the PLACE (0 to 30) at which another BOX should stand, so that ways of all to the"
            + " NEAREST (with it) are fewest, all together: which (of like ones the least); how many.");
        SlotMat ends = Sentence.told("box 0 0;person 30 0;person 30 0;person 0 0;");
        Sentence.due(30, () -> ends.oneMore(0));
        Sentence.due(0, () -> ends.oneMore(1));
        SlotMat begin = Sentence.told("box 30 0;person 0 0;person 30 0;");
        Sentence.due(0, () -> begin.oneMore(0));
        Sentence.due(0, () -> begin.oneMore(1));
        SlotMat second = Sentence.told("box 30 0;person 1 0;");
        Sentence.due(1, () -> second.oneMore(0));
        Sentence.due(0, () -> second.oneMore(1));
        // From 8 to 12 all are alike, and of no other place are the ways so few.
        SlotMat like = Sentence.told("person 8 0;person 12 0;");
        Sentence.due(8, () -> like.oneMore(0));
        Sentence.due(4, () -> like.oneMore(1));
        // Nobody has a way: the least place is as good as any.
        SlotMat none = Sentence.told("box 8 0;person 8 0;");
        Sentence.due(0, () -> none.oneMore(0));
        Sentence.due(0, () -> none.oneMore(1));
        SlotMat far = Sentence.told(Sentence.many(4, "person 0 0;") + Sentence.many(4, "person 30 0;"));
        Sentence.due(0, () -> far.oneMore(0));
        Sentence.due(120, () -> far.oneMore(1));
        // At 20 the ways are 0, 10, 0 and 10, at 25 they were 0, 10, 5 and 5.
        SlotMat ways = Sentence.told("box 0 0;person 0 0;person 10 0;person 20 0;person 30 0;");
        Sentence.due(20, () -> ways.oneMore(0));
        Sentence.due(20, () -> ways.oneMore(1));
        // Six boxes stand already; one more may be thought of.
        SlotMat six = Sentence.told(Sentence.many(6, "box 0 0;") + "person 9 0;");
        Sentence.due(9, () -> six.oneMore(0));
        Sentence.due(0, () -> six.oneMore(1));
        Sentence.due(0, () -> new SlotMat().oneMore(0));
        Sentence.due(0, () -> new SlotMat().oneMore(1));

        Sentence.of(23, "ONE MORE: which (what 0), how many (1). NoSuchElementException: another what.");
        noWhat(2, what -> ways.oneMore(what));
        noWhat(2, what -> new SlotMat().oneMore(what));
    }

    /** So many boxes, at each of which somebody thinks so much a day; what is fetched is heard. */
    private static String boxesWith(int... pensive) {
        StringBuilder text = new StringBuilder();
        for (int i = 0; i < pensive.length; i++) {
            text.append("box ").append(6 * i).append(" 9;person ").append(6 * i).append(' ').append(pensive[i])
                .append(" at ").append((i + 1) % pensive.length).append(';');
        }
        return text + "sounds much;";
    }

    private static void dueOrder(SlotMat x, int gained, int... row) {
        Sentence.due(gained, () -> x.order(Sentence.NONE));
        for (int i = 0; i < row.length; i++) {
            int place = i;
            Sentence.due(row[i], () -> x.order(place));
        }
    }

    /** From now on: what was answered of another day, another wet or another city is not said again. */
    private static void orderIsAskedAgain() {
        SlotMat x = Sentence.told(boxesWith(1, 2));
        dueOrder(x, 1 + 4, 0, 1);
        x.days(2);
        // Box 0 was emptied first and holds 1, box 1 nothing: 0 first lets 2 and 4 be heard, 1 first 2 and 3.
        dueOrder(x, 2 + 4, 0, 1);
        x.undo();
        dueOrder(x, 1 + 4, 0, 1);
        x.turn(1, Sentence.NONE);
        dueOrder(x, 2, 1, 0);
        Sentence.tell(x, boxesWith(2, 1));
        dueOrder(x, 1 + 4, 1, 0);
        Sentence.tell(x, boxesWith(9, 1));
        dueOrder(x, 1 + 18, 1, 0);
        Sentence.tell(x, boxesWith(1, 9));
        dueOrder(x, 1 + 18, 0, 1);
        // Only WET, and with it the day, is another one.
        SlotMat wet = Sentence.told("box 0 0;person 0 1 at 1;person 0 0;wet 7 9;sounds wet*(0<day);");
        dueOrder(wet, 0, 0);
        wet.days(1);
        dueOrder(wet, 9, 0);
    }

    private static void order() {
        Sentence.of(24, "AN ORDER of all BOXES, by which, were it the ROUND from now on (its first one fetched on the"
            + " next DAY), all would have HEARD most behind as many DAYS as there are BOXES, all together: how much"
            + " more than now; the i-th BOX: of like ones the first row; none without BOXES.");
        // Who is fetched on the d-th day has d times as many: the fewest first, the most last.
        dueOrder(Sentence.told(boxesWith(3, 1, 2, 9, 5, 4)), 1 + 4 + 9 + 16 + 25 + 54, 1, 2, 0, 5, 4, 3);
        dueOrder(Sentence.told(boxesWith(9, 5, 4, 3, 2, 1)), 1 + 4 + 9 + 16 + 25 + 54, 5, 4, 3, 2, 1, 0);
        // Of like ones the first row.
        dueOrder(Sentence.told(boxesWith(2, 2, 2, 2, 2, 2)), 2 * 21, 0, 1, 2, 3, 4, 5);
        dueOrder(Sentence.told(boxesWith(2, 2, 1)), 1 + 4 + 6, 2, 0, 1);
        dueOrder(Sentence.told(boxesWith(0, 0)), 0, 0, 1);
        dueOrder(Sentence.told("box 0 0;"), 0, 0);
        dueOrder(Sentence.told("box 0 0;box 0 0;box 0 0;"), 0, 0, 1, 2);
        // The next day counts, whatever day it is and whatever the round is.
        SlotMat odd = Sentence.told(boxesWith(9, 2) + "round 0;");
        odd.days(1);
        dueOrder(odd, 4 + 18, 1, 0);
        // More than now: what was heard is not in it.
        Sentence.due(9, () -> odd.count(7));
        // What all can have heard at most bounds it: 9 of 99 is all that's left.
        SlotMat loud = Sentence.told("box 0 0;person 0 9 at 1;person 0 0;sounds 90;");
        passDays(loud, 111);
        dueOrder(loud, 9, 0);
        SlotMat before = Sentence.told(boxesWith(3, 1, 2));
        before.days(1);
        Sentence.changesNothing(before, () -> before.order(Sentence.NONE));
        orderIsAskedAgain();

        Sentence.of(24, "(A STRIKE goes on.)");
        SlotMat strike = Sentence.toldOnStrike(boxesWith(9, 5, 1));
        dueOrder(strike, 0, 0, 1, 2);
        strike.strike(false);
        dueOrder(strike, 1 + 10 + 27, 2, 1, 0);

        Sentence.of(24, "AN ORDER: how much more (i NONE), the i-th BOX; NONE: no BOXES.");
        Sentence.due(Sentence.NONE, () -> Sentence.told("person 0 9;").order(Sentence.NONE));
        Sentence.due(Sentence.NONE, () -> new SlotMat().order(Sentence.NONE));

        Sentence.of(24, "NoSuchElementException: no such BOX.");
        Sentence.dueForEach(Sentence.NO_SUCH, i -> strike.order(i), 3, 6, -2, Integer.MIN_VALUE, Integer.MAX_VALUE);
        Sentence.dueForEach(Sentence.NO_SUCH, i -> new SlotMat().order(i), 0, 1, -2);
    }

    // ---- promises 25 to 28 ----

    private static void note() {
        Sentence.of(25, "NOTED (at most 8): how much (0 to 9999) a PERSON has HEARD behind so many DAYS (0 to 20).");
        SlotMat x = Sentence.told(Sentence.STREET);
        int[][] notes = {{0, 0, 0}, {2, 20, 9999}, {1, 20, 0}, {0, 0, 9999}, {0, 0, 0}, {0, 0, 0}, {0, 1, 1}};
        for (int i = 0; i < notes.length; i++) {
            int[] one = notes[i];
            Sentence.due(i + 1, () -> x.note(one[0], one[1], one[2]));
        }
        Sentence.due(7, () -> x.count(11));
        Sentence.due(8, () -> x.note(0, 0, 0));
        Sentence.due(8, () -> x.count(11));

        Sentence.of(25, "NONE (STATUS 2): there are 8, not 0 to 20, not 0 to 9999.");
        Sentence.due(Sentence.NONE, () -> x.note(0, 0, 0));
        Sentence.due(8, () -> x.count(11));
        Sentence.due(1, () -> x.count(15));
        SlotMat y = Sentence.told(Sentence.STREET);
        Sentence.changesNothing(y, () -> {
            Sentence.dueForEach(Sentence.NONE, days -> y.note(0, days, 0), -1, 21, Integer.MIN_VALUE,
                Integer.MAX_VALUE);
            Sentence.dueForEach(Sentence.NONE, heard -> y.note(0, 0, heard), -1, 10000, Integer.MIN_VALUE,
                Integer.MAX_VALUE);
        });
        Sentence.due(8, () -> y.count(15));
        Sentence.due(0, () -> y.count(14));

        Sentence.of(25, "NoSuchElementException (ahead): no such PERSON.");
        Sentence.dueForEach(Sentence.NO_SUCH, person -> x.note(person, 0, 0), -1, 3);
        Sentence.dueForEach(Sentence.NO_SUCH, person -> y.note(person, 21, -1), -1, 3);
        Sentence.due(1, () -> x.count(15));
        Sentence.due(8, () -> y.count(15));

        Sentence.of(26, "All that is NOTED is forgotten.");
        x.forget();
        Sentence.due(0, () -> x.count(11));
        Sentence.due(1, () -> x.thought(2));
        x.forget();
        Sentence.due(0, () -> x.count(11));
        for (int i = 1; i <= 8; i++) {
            int want = i;
            Sentence.due(want, () -> x.note(0, 0, 0));
        }
        Sentence.due(Sentence.NONE, () -> x.note(0, 0, 0));
        Sentence.due(1, () -> x.thought(2));
    }

    private static void thought() {
        Sentence.of(27, "THOUGHT: PEOPLE and others (than AT whom one thinks now; not oneself), AT whom, did one think"
            + " at that one from now on, all NOTED would be so: how many; the first (10 by who, and AT whom);"
            + " whether it is so without (1).");
        // Each of eight has seven others, and six if one thinks at somebody; without notes all are so.
        SlotMat nobody = Sentence.told(Sentence.many(8, "person 0 0;"));
        Sentence.due(56, () -> nobody.thought(0));
        Sentence.due(1, () -> nobody.thought(1));
        Sentence.due(1, () -> nobody.thought(2));
        SlotMat ring = Sentence.told(RING_OF_8);
        Sentence.due(48, () -> ring.thought(0));
        Sentence.due(2, () -> ring.thought(1));
        // Only 7 thinks, 9 a day.
        SlotMat last = Sentence.told("box 0 9;" + Sentence.many(7, "person 0 0;") + "person 0 9;sounds much;");
        last.note(6, 1, 9);
        Sentence.due(1, () -> last.thought(0));
        Sentence.due(76, () -> last.thought(1));
        Sentence.due(0, () -> last.thought(2));
        // So on the last day that can be noted, too, and with all that's noted at once.
        last.note(6, 20, 180);
        last.note(7, 20, 0);
        last.note(6, 0, 0);
        Sentence.due(76, () -> last.thought(1));
        last.note(6, 19, 172);
        Sentence.due(0, () -> last.thought(0));
        // A note behind 0 days is of what is heard now.
        last.forget();
        last.note(0, 0, 0);
        Sentence.due(56, () -> last.thought(0));
        last.note(0, 0, 1);
        Sentence.due(0, () -> last.thought(0));
        Sentence.due(0, () -> last.thought(2));
        // Thoughts that are held now come to the other one too.
        SlotMat held = Sentence.toldOnStrike("box 0 9;person 0 9 at 1;person 0 0;person 0 0;sounds much;");
        held.days(2);
        held.strike(false);
        held.note(2, 1, 27);
        Sentence.due(1, () -> held.thought(0));
        Sentence.due(2, () -> held.thought(1));
        Sentence.changesNothing(held, () -> held.thought(0));

        Sentence.of(27, "THOUGHT: how many (what 0), the first (1; NONE: none), whether without (2)."
            + " NoSuchElementException: another what.");
        held.note(2, 1, 26);
        Sentence.due(Sentence.NONE, () -> held.thought(1));
        noWhat(3, what -> held.thought(what));
        SlotMat alone = Sentence.told("person 0 0;");
        Sentence.due(0, () -> alone.thought(0));
        Sentence.due(Sentence.NONE, () -> alone.thought(1));
        Sentence.due(1, () -> alone.thought(2));
        noWhat(3, what -> new SlotMat().thought(what));
    }

    private static void ask() {
        Sentence.of(28, "ASK NEXT: who has HEARD most unlike sums behind 5 DAYS by these (of like ones the least): how"
            + " many; none without any.");
        // By 02 it's 2 who hears 45 behind 5 days, by 12, 20 and 21 it's 1: each of the two has two sums.
        SlotMat x = Sentence.told(DAILY + "person 0 0;");
        Sentence.due(1, () -> x.ask(0));
        Sentence.due(2, () -> x.ask(1));
        // By 02 alone all have one sum: 0 is the least.
        x.note(2, 5, 45);
        Sentence.due(0, () -> x.ask(0));
        Sentence.due(1, () -> x.ask(1));
        // Behind 5 days: what differs on the fifth counts, on the sixth it doesn't.
        SlotMat fifth = Sentence.told("box 0 9;person 0 9 at 1;person 0 0;person 0 0;sounds day=4;");
        Sentence.due(1, () -> fifth.ask(0));
        Sentence.due(2, () -> fifth.ask(1));
        SlotMat sixth = Sentence.told("box 0 9;person 0 9 at 1;person 0 0;person 0 0;sounds day=5;");
        Sentence.due(0, () -> sixth.ask(0));
        Sentence.due(1, () -> sixth.ask(1));
        // Notes reach to the 20th day, yet the sums are those of the fifth.
        SlotMat late = Sentence.told("box 0 9;person 0 9 at 1;person 0 0;person 0 0;sounds day=19;");
        late.note(2, 20, 1);
        Sentence.due(0, () -> late.ask(0));
        Sentence.due(1, () -> late.ask(1));
        // 3 hears nothing, 5, 10 or 20; 0 hears nothing, 10 or 20; 1 nothing, 5 or 20; 2 nothing, 5 or 10.
        SlotMat many = Sentence.told("box 0 9;person 0 1;person 0 2;person 0 4;person 0 0;sounds much;");
        Sentence.due(3, () -> many.ask(0));
        Sentence.due(4, () -> many.ask(1));
        // Of 56 thoughts seven let the first, or the last one, hear something, each another sum.
        SlotMat eight = Sentence.told("box 0 9;person 0 0;person 0 1;person 0 2;person 0 3;person 0 4;person 0 5;"
            + "person 0 6;person 0 7;sounds much;");
        Sentence.due(0, () -> eight.ask(0));
        Sentence.due(8, () -> eight.ask(1));
        SlotMat last = Sentence.told("box 0 9;person 0 7;person 0 1;person 0 2;person 0 3;person 0 4;person 0 5;"
            + "person 0 6;person 0 0;sounds much;");
        Sentence.due(7, () -> last.ask(0));
        Sentence.due(8, () -> last.ask(1));

        Sentence.of(28, "ASK NEXT (what 0; NONE), how many (1; 0: none). NoSuchElementException: another what.");
        x.note(2, 5, 44);
        Sentence.due(Sentence.NONE, () -> x.ask(0));
        Sentence.due(0, () -> x.ask(1));
        SlotMat alone = Sentence.told("box 0 9;person 0 9;");
        Sentence.due(Sentence.NONE, () -> alone.ask(0));
        Sentence.due(0, () -> alone.ask(1));
        noWhat(2, what -> x.ask(what));
        noWhat(2, what -> new SlotMat().ask(what));
    }

    // ---- promises 29 to 31 ----

    private static void wetNights() {
        Sentence.of(29, "WET NIGHTS: on each of so many DAYS (1 to 5) WET is 9 with so many tenths (0 to 10), else 0:"
            + " how likely a PERSON has HEARD so much (0 to 9999) or more behind them: as so many of 10 to the power"
            + " of these DAYS.");
        // 9 is heard on each wet night, nothing on the others, whatever the city's WET is.
        SlotMat x = Sentence.told("box 0 0;person 0 1 at 1;person 0 0;wet 5;");
        Sentence.due(3, () -> x.wetNights(1, 9, 1, 3));
        Sentence.due(0, () -> x.wetNights(1, 10, 1, 3));
        Sentence.due(3, () -> x.wetNights(1, 1, 1, 3));
        int[] whole = {1, 10, 100, 1000, 10000, 100000};
        for (int i = 1; i <= 5; i++) {
            int days = i;
            Sentence.due(whole[i], () -> x.wetNights(1, 0, days, 3));
            Sentence.due(whole[i], () -> x.wetNights(1, 9 * days, days, 10));
            Sentence.due(0, () -> x.wetNights(1, 9 * days + 1, days, 10));
            Sentence.due(whole[i], () -> x.wetNights(1, 0, days, 0));
            Sentence.due(0, () -> x.wetNights(1, 1, days, 0));
            Sentence.due(0, () -> x.wetNights(1, 9999, days, 10));
        }
        // At least one of five, all five, and four or five of five.
        Sentence.due(100000 - 7 * 7 * 7 * 7 * 7, () -> x.wetNights(1, 1, 5, 3));
        Sentence.due(3 * 3 * 3 * 3 * 3, () -> x.wetNights(1, 45, 5, 3));
        Sentence.due(243 + 5 * 81 * 7, () -> x.wetNights(1, 36, 5, 3));
        // The least that is likely at all: one of 100000.
        Sentence.due(1, () -> x.wetNights(1, 45, 5, 1));
        Sentence.due(99999, () -> x.wetNights(1, 1, 5, 9));
        // On a dry night WET is 0: of two thoughts 1 is heard then, and 10 on a wet one.
        SlotMat two = Sentence.told("box 0 0;person 0 2 at 1;person 0 0;wet 5;");
        Sentence.due(10, () -> two.wetNights(1, 1, 1, 3));
        Sentence.due(3, () -> two.wetNights(1, 2, 1, 3));
        Sentence.due(100, () -> two.wetNights(1, 2, 2, 3));
        Sentence.due(100 - 49, () -> two.wetNights(1, 3, 2, 3));
        Sentence.due(0, () -> two.wetNights(1, 6, 5, 0));
        Sentence.due(100000, () -> two.wetNights(1, 5, 5, 0));
        // Who has heard it already has heard so much.
        SlotMat loud = Sentence.told("box 0 9;person 0 9 at 1;person 0 0;sounds 99;");
        passDays(loud, 101);
        Sentence.due(100000, () -> loud.wetNights(1, 9999, 5, 7));
        x.strike(true);
        Sentence.due(0, () -> x.wetNights(1, 1, 5, 10));
        Sentence.changesNothing(x, () -> x.wetNights(1, 1, 5, 10));

        Sentence.of(29, "WET NIGHTS. IllegalArgumentException (behind NoSuchElementException): much, days, tenths.");
        Sentence.dueForEach(Sentence.ILLEGAL, much -> x.wetNights(1, much, 1, 3), -1, 10000, Integer.MIN_VALUE,
            Integer.MAX_VALUE);
        Sentence.dueForEach(Sentence.ILLEGAL, days -> x.wetNights(1, 0, days, 3), 0, -1, 6, Integer.MIN_VALUE,
            Integer.MAX_VALUE);
        Sentence.dueForEach(Sentence.ILLEGAL, tenths -> x.wetNights(1, 0, 1, tenths), -1, 11, Integer.MIN_VALUE,
            Integer.MAX_VALUE);
        Sentence.due(Sentence.NO_SUCH, () -> x.wetNights(2, -1, 1, 3));
        Sentence.due(Sentence.NO_SUCH, () -> x.wetNights(2, 0, 6, 3));
        Sentence.due(Sentence.NO_SUCH, () -> x.wetNights(2, 0, 1, 11));
    }

    /** How many couples rest, and the first, of 0 and 1. */
    private static void dueGame(SlotMat x, int many, int first) {
        Sentence.due(many, () -> x.game(0, 1, 0));
        Sentence.due(first, () -> x.game(0, 1, 1));
    }

    private static void game() {
        Sentence.of(30, "A GAME of two PEOPLE who think at somebody: each WRITES now, or not (1, 0; the lesser first):"
            + " each gains how much one has HEARD behind 3 DAYS, by 5, cut down, less REGRET then, by 5, cut down,"
            + " less 2, if one WROTE.");
        gameByRegret(9, 1, 0);
        gameByRegret(10, 2, 0);
        gameByRegret(14, 2, 0);
        gameByRegret(15, 1, 10);
        gameByHeard("9*(day=0)", 2, 0);
        gameByHeard("10*(day=0)", 4, 0);
        gameByHeard("11*(day=0)", 2, 0);
        gameByHeard("14*(day=0)", 2, 0);
        gameByHeard("15*(day=0)", 1, 11);
        // Behind 3 days: what is heard on the third counts, on the fourth it doesn't.
        gameByHeard("15*(day=2)", 1, 11);
        gameByHeard("15*(day=3)", 1, 0);
        // Regret then: it is fetched on the third day, or only on the fourth.
        SlotMat fetched = Sentence.toldOnStrike("box 0 0;box 30 0;person 0 9 at 1;person 0 0 at 0;"
            + "round 1 1 1 1 0 1 1 1;thinks pensive*(day<2);sounds 0;");
        fetched.days(2);
        fetched.strike(false);
        dueGame(fetched, 1, 0);
        SlotMat later = Sentence.toldOnStrike("box 0 0;box 30 0;person 0 9 at 1;person 0 0 at 0;"
            + "round 1 1 1 1 1 0 1 1;thinks pensive*(day<2);sounds 0;");
        later.days(2);
        later.strike(false);
        dueGame(later, 1, 10);
        Sentence.changesNothing(later, () -> later.game(0, 1, 0));

        Sentence.of(30, "A couple RESTS, if neither gains more by the other choice: how many; the first (10 by the"
            + " first one's and the other one's); none, if one thinks at nobody.");
        // Only who has regret of 15 gains by a letter, whoever is the call's first one.
        SlotMat x = regretting(15);
        Sentence.due(10, () -> x.game(0, 1, 1));
        Sentence.due(1, () -> x.game(1, 0, 1));
        Sentence.due(1, () -> x.game(1, 0, 0));
        x.turn(1, Sentence.NONE);
        for (int i = 0; i < 2; i++) {
            int what = i;
            Sentence.due(Sentence.NONE, () -> x.game(0, 1, what));
            Sentence.due(Sentence.NONE, () -> x.game(1, 0, what));
        }
        x.turn(0, Sentence.NONE);
        Sentence.due(Sentence.NONE, () -> x.game(0, 1, 0));

        Sentence.of(30, "A GAME: how many couples rest (what 0), the first (1; NONE: none); NONE for both, if one"
            + " thinks at nobody. NoSuchElementException: also another what.");
        noCoupleRests();
        noWhat(2, what -> x.game(0, 1, what));
        noWhat(2, what -> x.game(0, 0, what));

        Sentence.of(30, "IllegalArgumentException (behind that): both are one.");
        SlotMat street = Sentence.told(Sentence.STREET);
        Sentence.dueForEach(Sentence.ILLEGAL, person -> street.game(person, person, 0), 0, 1, 2);
        Sentence.dueForEach(Sentence.ILLEGAL, person -> street.game(person, person, 1), 0, 1, 2);
        // Also if that one thinks at nobody; but not if there's no such one.
        Sentence.due(Sentence.ILLEGAL, () -> x.game(0, 0, 0));
        Sentence.dueForEach(Sentence.NO_SUCH, person -> street.game(person, person, 0), -1, 3);
    }

    /** 0 has this much regret, and thinks no more, while a strike goes on; 1 has none. */
    private static SlotMat regretting(int regret) {
        SlotMat x = Sentence.toldOnStrike("box 0 0;person 0 1 at 1;person 0 0 at 0;thinks pensive*((day=0)*9+(day=1)*"
            + (regret - 9) + ");");
        x.days(2);
        Sentence.due(regret, () -> x.person(0, 3));
        return x;
    }

    private static void gameByRegret(int regret, int many, int first) {
        dueGame(regretting(regret), many, first);
    }

    /** Who wrote is thought at by the other one (who has heard 9 then), and hears what the rule says. */
    private static void gameByHeard(String rule, int many, int first) {
        dueGame(Sentence.told("box 0 0;person 0 0 at 1;person 0 0 at 0;thinks heard=9;sounds " + rule + ";"),
            many, first);
    }

    /**
     * 1 hears 15 by 0's thought if 1 wrote and 0 did not, 0 by 1's if both wrote: so 0 writes if 1 does, and 1
     * writes if 0 does not.
     */
    private static void noCoupleRests() {
        dueGame(Sentence.told("box 0 0;person 0 0 at 1;person 3 0 at 0;thinks (day=0)*(heard=9);"
            + "sounds (day=0)*15*((far=0)*(heard=9)+(far=3)*(heard=0));"), 0, Sentence.NONE);
    }

    // ---- years ----

    private static int draw(int[] seed, int n) {
        // In longs, of which the lower 32 bits are those of an int that wraps.
        long next = (seed[0] & 0xffffffffL) * 1103515245L + 12345L;
        seed[0] = (int) next;
        return (int) (next >> 16 & 0x7fff) % n;
    }

    /** Plays the years by acts; up to 8 days WET is told as the seed draws it. */
    private static void yearsByActs(String lines, int people, int seed, int n) {
        int[] state = {seed};
        StringBuilder wet = new StringBuilder("wet");
        int[][] drawn = new int[n][];
        for (int i = 0; i < n; i++) {
            wet.append(' ').append(draw(state, 10));
            int who = draw(state, people);
            int act = draw(state, 6);
            drawn[i] = new int[] {who, act, act == 1 ? draw(state, people) : 0};
        }
        SlotMat lived = Sentence.told(lines + (n > 0 && n <= 8 ? wet + ";" : ""));
        for (int[] one : drawn) {
            if (one[1] == 0) {
                lived.write(one[0]);
            } else if (one[1] == 1) {
                lived.turn(one[0], one[2] == one[0] ? Sentence.NONE : one[2]);
            } else if (one[1] == 2) {
                lived.strike(lived.count(4) == 0);
            }
            lived.days(1);
        }
        int regret = 0;
        for (int person = 0; person < people; person++) {
            regret += lived.person(person, 3);
        }
        int all = regret;
        SlotMat asked = Sentence.told(lines);
        Sentence.due(lived.count(7), () -> asked.years(seed, n, 0));
        Sentence.due(all, () -> asked.years(seed, n, 1));
        Sentence.due(lived.count(6), () -> asked.years(seed, n, 2));
    }

    private static void years() {
        Sentence.of(31, "YEARS by a seed: n DAYS (0 to 40) from now on: WET of each is a DRAW of 10; behind that DRAW"
            + " one of PEOPLE, one of 6: 0 that one WRITES, if one thinks at somebody, 1 that one TURNS to a DRAW of"
            + " PEOPLE (if it is oneself: to nobody), 2 a STRIKE begins, or ends; then the DAY goes by: how much all"
            + " have HEARD in these DAYS, all together; REGRET of all at the end; how much all BOXES HOLD.");
        String street = "box 5 20;box 20 3;person 4 4 at 1;person 10 2 at 0;person 25 6 at 0;";
        String eight = "box 5 20;box 20 3;" + Sentence.many(4, "person 4 3 at 7;")
            + Sentence.many(4, "person 21 2 at 0;");
        int[] seeds = {0, 1, -1, 5, 12345, -987654321, Integer.MAX_VALUE, Integer.MIN_VALUE};
        for (int seed : seeds) {
            for (int n : new int[] {0, 1, 2, 7, 8}) {
                yearsByActs(street, 3, seed, n);
                yearsByActs(eight, 8, seed, n);
                yearsByActs("box 9 9;person 0 9;", 1, seed, n);
                yearsByActs("person 0 9 at 1;person 0 9 at 0;", 2, seed, n);
            }
            for (int n : new int[] {0, 9, 39, 40}) {
                yearsByActs(street + "sounds much+1;", 3, seed, n);
                yearsByActs(eight + "sounds much+heard/9;", 8, seed, n);
            }
        }
        // In these days alone, from what is so now; and nothing changes.
        SlotMat x = Sentence.told(street);
        x.days(9);
        int held = x.count(6);
        int regret = x.person(0, 3) + x.person(1, 3) + x.person(2, 3);
        Sentence.due(0, () -> x.years(7, 0, 0));
        Sentence.due(regret, () -> x.years(7, 0, 1));
        Sentence.due(held, () -> x.years(7, 0, 2));
        Sentence.changesNothing(x, () -> x.years(7, 40, 0));
        // More is regretted than is held, where a box held 99 already.
        SlotMat most = Sentence.toldOnStrike("box 0 0;person 0 9;");
        most.days(20);
        Sentence.due(0, () -> most.years(7, 0, 0));
        Sentence.due(180, () -> most.years(7, 0, 1));
        Sentence.due(99, () -> most.years(7, 0, 2));

        Sentence.of(31, "A seed becomes itself times 1103515245 and 12345 (an int that wraps); a DRAW of n is its bits"
            + " 16 to 30 MOD n then.");
        SlotMat draws = Sentence.told("box 0 0;person 0 1 at 1;person 0 0;sounds wet;");
        for (int seed : new int[] {0, 3, -3, 777777777, -777777777, Integer.MAX_VALUE, Integer.MIN_VALUE}) {
            int[] state = {seed};
            int wet = draw(state, 10);
            draw(state, 2);
            int act = draw(state, 6);
            // An act of 3 to 5 is none, so that it's the first draw that is heard.
            if (act > 2) {
                Sentence.due(wet, () -> draws.years(seed, 1, 0));
            }
        }

        Sentence.of(31, "(Without PEOPLE the DRAWS of 10 alone.)");
        for (int what = 0; what < 3; what++) {
            int one = what;
            Sentence.due(0, () -> Sentence.told("box 0 9;").years(7, 40, one));
            Sentence.due(0, () -> new SlotMat().years(Integer.MIN_VALUE, 40, one));
        }

        Sentence.of(31, "YEARS: how much is HEARD (what 0), REGRET (1), how much is HELD (2). NoSuchElementException:"
            + " another what.");
        noWhat(3, what -> x.years(7, 0, what));
        noWhat(3, what -> x.years(7, 41, what));

        Sentence.of(31, "IllegalArgumentException (behind that): n.");
        for (int what = 0; what < 3; what++) {
            int one = what;
            Sentence.dueForEach(Sentence.ILLEGAL, n -> x.years(7, n, one), NOT_0_TO_40);
            Sentence.dueForEach(Sentence.ILLEGAL, n -> new SlotMat().years(7, n, one), NOT_0_TO_40);
        }
    }

    // ---- promises 32 to 39 ----

    private static void pale() {
        Sentence.of(32, "PALE: behind how many DAYS (0 to 40) RED of a BOX is so much (0 to 99) or less first; none.");
        SlotMat x = Sentence.toldOnStrike("box 0 41;box 30 99;box 15 0;person 0 1;");
        Sentence.due(0, () -> x.pale(0, 99));
        Sentence.due(0, () -> x.pale(0, 42));
        Sentence.due(0, () -> x.pale(0, 41));
        Sentence.due(1, () -> x.pale(0, 40));
        Sentence.due(40, () -> x.pale(0, 1));
        Sentence.due(Sentence.NONE, () -> x.pale(0, 0));
        x.days(1);
        Sentence.due(40, () -> x.pale(0, 0));
        Sentence.due(0, () -> x.pale(1, 99));
        Sentence.due(0, () -> x.pale(2, 0));

        Sentence.of(32, "PALE; NONE: none.");
        // A box that holds nothing does not fade.
        Sentence.due(Sentence.NONE, () -> x.pale(1, 98));
        x.paint(0);
        Sentence.due(Sentence.NONE, () -> x.pale(0, 58));
        Sentence.due(40, () -> x.pale(0, 59));

        Sentence.of(32, "IllegalArgumentException (behind NoSuchElementException): not 0 to 99.");
        Sentence.dueForEach(Sentence.ILLEGAL, red -> x.pale(0, red), -1, 100, Integer.MIN_VALUE, Integer.MAX_VALUE);
        Sentence.dueForEach(Sentence.NO_SUCH, red -> x.pale(3, red), -1, 0, 100);
    }

    private static void visits() {
        Sentence.of(33, "VISITS of a BOX in so many DAYS (1 to 60, from this one on) by the ROUND, STRIKE or not: how"
            + " many.");
        SlotMat x = Sentence.told("box 0 0;box 1 0;box 2 0;round 0 1 0 0 0 0 0;");
        Sentence.due(1, () -> x.visits(0, 1));
        Sentence.due(0, () -> x.visits(1, 1));
        Sentence.due(1, () -> x.visits(1, 2));
        Sentence.due(1, () -> x.visits(1, 8));
        Sentence.due(2, () -> x.visits(1, 9));
        // Days 1, 8 .. 57: nine of 60, and of 58; eight of 57.
        Sentence.due(8, () -> x.visits(1, 57));
        Sentence.due(9, () -> x.visits(1, 58));
        Sentence.due(9, () -> x.visits(1, 60));
        Sentence.due(51, () -> x.visits(0, 60));
        Sentence.due(0, () -> x.visits(2, 60));
        x.strike(true);
        Sentence.due(9, () -> x.visits(1, 60));
        x.days(1);
        Sentence.due(1, () -> x.visits(1, 1));
        Sentence.due(1, () -> x.visits(1, 7));
        Sentence.due(2, () -> x.visits(1, 8));
        // From the last day on: 999 is 5 more than a multiple of 7, so that days 1003, 1010 .. are visits.
        passDays(x, 998);
        Sentence.due(999, () -> x.count(2));
        Sentence.due(0, () -> x.visits(1, 3));
        Sentence.due(1, () -> x.visits(1, 4));
        Sentence.due(9, () -> x.visits(1, 60));
        Sentence.due(60, () -> Sentence.told("box 0 0;").visits(0, 60));

        Sentence.of(33, "VISITS. IllegalArgumentException (behind NoSuchElementException): not 1 to 60.");
        Sentence.dueForEach(Sentence.ILLEGAL, days -> x.visits(0, days), 0, -1, 61, Integer.MIN_VALUE,
            Integer.MAX_VALUE);
        Sentence.dueForEach(Sentence.NO_SUCH, days -> x.visits(3, days), 0, 1, 61);
    }

    private static void steps() {
        Sentence.of(34, "STEPS from one to another one: how often one goes on to AT whom one thinks until one comes to"
            + " that one (0 to oneself); none.");
        SlotMat ring = Sentence.told(RING_OF_8);
        SlotMat chain = Sentence.told(RING_OF_8);
        chain.turn(7, Sentence.NONE);
        for (int from = 0; from < 8; from++) {
            for (int to = 0; to < 8; to++) {
                int one = from;
                int other = to;
                Sentence.due((to - from + 8) % 8, () -> ring.steps(one, other));
                Sentence.due(to >= from ? to - from : Sentence.NONE, () -> chain.steps(one, other));
            }
        }

        Sentence.of(34, "STEPS; NONE: none.");
        // In a ring beside, or in one that one comes to and which the other one is not in.
        SlotMat x = Sentence.told("person 0 0 at 1;person 0 0 at 0;person 0 0 at 3;person 0 0 at 2;person 0 0 at 0;");
        Sentence.due(Sentence.NONE, () -> x.steps(0, 2));
        Sentence.due(Sentence.NONE, () -> x.steps(4, 3));
        Sentence.due(Sentence.NONE, () -> x.steps(0, 4));
        Sentence.due(2, () -> x.steps(4, 1));
        SlotMat alone = Sentence.told("person 0 0;");
        Sentence.due(0, () -> alone.steps(0, 0));
    }

    private static void quiet() {
        Sentence.of(35, "QUIET of a PERSON in so many DAYS (1 to 40), if only these go by: the longest row of DAYS on"
            + " which one HEARS nothing.");
        SlotMat x = Sentence.told("box 0 9;person 0 9 at 1;person 0 0;sounds (day=2)+(day=6)+(day=36);");
        Sentence.due(1, () -> x.quiet(1, 1));
        Sentence.due(2, () -> x.quiet(1, 2));
        Sentence.due(2, () -> x.quiet(1, 3));
        Sentence.due(2, () -> x.quiet(1, 5));
        Sentence.due(3, () -> x.quiet(1, 6));
        Sentence.due(3, () -> x.quiet(1, 10));
        Sentence.due(4, () -> x.quiet(1, 11));
        Sentence.due(29, () -> x.quiet(1, 36));
        Sentence.due(29, () -> x.quiet(1, 40));
        Sentence.due(40, () -> x.quiet(0, 40));
        x.days(2);
        Sentence.due(0, () -> x.quiet(1, 1));
        Sentence.due(29, () -> x.quiet(1, 40));
        // The row is at the end: from day 37 on nothing is heard.
        passDays(x, 35);
        Sentence.due(40, () -> x.quiet(1, 40));
        SlotMat daily = Sentence.told(DAILY);
        Sentence.due(0, () -> daily.quiet(1, 40));
        daily.strike(true);
        Sentence.due(40, () -> daily.quiet(1, 40));
        Sentence.changesNothing(daily, () -> daily.quiet(1, 40));

        Sentence.of(35, "QUIET. IllegalArgumentException (behind NoSuchElementException): not 1 to 40.");
        Sentence.dueForEach(Sentence.ILLEGAL, days -> x.quiet(1, days), NOT_1_TO_40);
        Sentence.dueForEach(Sentence.NO_SUCH, days -> x.quiet(2, days), NOT_1_TO_40);
    }

    private static void middle() {
        Sentence.of(36, "MIDDLE: the PLACE (0 to 30) at which one BOX alone should stand, so that ways of all to it are"
            + " fewest, all together (of like ones the least).");
        Sentence.due(30, () -> Sentence.told("box 0 0;person 30 0;").middle());
        Sentence.due(0, () -> Sentence.told("box 30 0;person 0 0;").middle());
        Sentence.due(10, () -> Sentence.told(Sentence.STREET).middle());
        // Where boxes stand does not matter.
        Sentence.due(9, () -> Sentence.told("box 9 0;person 9 0;person 9 0;person 20 0;").middle());
        Sentence.due(1, () -> Sentence.told("person 1 0;").middle());
        // From 8 to 12 all are alike.
        Sentence.due(8, () -> Sentence.told("person 12 0;person 8 0;").middle());
        SlotMat even = Sentence.told(Sentence.many(4, "person 30 0;") + Sentence.many(4, "person 0 0;"));
        Sentence.due(0, () -> even.middle());
        SlotMat odd = Sentence.told(Sentence.many(5, "person 30 0;") + Sentence.many(3, "person 0 0;"));
        Sentence.due(30, () -> odd.middle());
        Sentence.due(29, () -> Sentence.told("person 30 0;person 29 0;person 0 0;").middle());
        // Without people all places are alike.
        Sentence.due(0, () -> Sentence.told("box 9 9;").middle());
        Sentence.due(0, () -> new SlotMat().middle());
    }

    private static void bestAt() {
        Sentence.of(37, "BEST AT for one: the other one who, did one think at that one from now on, would have HEARD"
            + " most behind so many DAYS (1 to 40; of like ones the least); none.");
        // 1 is far, and has heard 9; at 2 or 3, who are near, 4 a day are heard.
        SlotMat x = Sentence.told("box 0 0;person 0 9 at 2;person 30 0;person 0 0;person 0 0 at 1;wet 0;");
        x.write(3);
        Sentence.due(1, () -> x.bestAt(0, 1));
        Sentence.due(1, () -> x.bestAt(0, 2));
        Sentence.due(2, () -> x.bestAt(0, 3));
        Sentence.due(2, () -> x.bestAt(0, 40));
        // The one at whom one thinks now is one of them, and a like one.
        x.turn(0, 3);
        Sentence.due(2, () -> x.bestAt(0, 3));
        // What is heard on the 40th day counts.
        SlotMat late = Sentence.told("box 0 0;person 0 9;person 0 0;person 30 0;sounds (day=39)*far;");
        Sentence.due(1, () -> late.bestAt(0, 39));
        Sentence.due(2, () -> late.bestAt(0, 40));
        // Nobody hears anything: of like ones the least, which is not oneself.
        SlotMat silent = Sentence.told("person 0 0;person 0 0;person 0 0;");
        Sentence.due(1, () -> silent.bestAt(0, 40));
        Sentence.due(0, () -> silent.bestAt(1, 40));
        Sentence.due(0, () -> silent.bestAt(2, 1));
        Sentence.changesNothing(x, () -> x.bestAt(0, 40));

        Sentence.of(37, "BEST AT; NONE: there is nobody else.");
        SlotMat alone = Sentence.told("box 0 0;person 0 9;");
        Sentence.due(Sentence.NONE, () -> alone.bestAt(0, 1));
        Sentence.due(Sentence.NONE, () -> alone.bestAt(0, 40));

        Sentence.of(37, "IllegalArgumentException (behind NoSuchElementException): not 1 to 40.");
        Sentence.dueForEach(Sentence.ILLEGAL, days -> x.bestAt(0, days), NOT_1_TO_40);
        Sentence.dueForEach(Sentence.ILLEGAL, days -> alone.bestAt(0, days), NOT_1_TO_40);
        Sentence.dueForEach(Sentence.NO_SUCH, days -> x.bestAt(4, days), NOT_1_TO_40);
    }

    private static void reds() {
        Sentence.of(38, "REDS behind so many DAYS (0 to 40): RED of all BOXES together.");
        SlotMat six = Sentence.toldOnStrike(Sentence.many(6, "box 0 99;") + "person 0 1;");
        Sentence.due(594, () -> six.reds(0));
        Sentence.due(593, () -> six.reds(1));
        Sentence.due(554, () -> six.reds(40));
        SlotMat zero = Sentence.toldOnStrike("box 0 39;box 30 0;person 0 1;person 30 1;");
        Sentence.due(39, () -> zero.reds(0));
        Sentence.due(1, () -> zero.reds(38));
        Sentence.due(0, () -> zero.reds(39));
        Sentence.due(0, () -> zero.reds(40));
        Sentence.due(0, () -> new SlotMat().reds(40));

        Sentence.of(38, "REDS. IllegalArgumentException: not 0 to 40.");
        Sentence.dueForEach(Sentence.ILLEGAL, days -> six.reds(days), NOT_0_TO_40);
        Sentence.dueForEach(Sentence.ILLEGAL, days -> new SlotMat().reds(days), NOT_0_TO_40);
    }

    private static void whose() {
        Sentence.of(39, "WHOSE: of whom a BOX HOLDS most THOUGHTS now (of like ones the least); none, if it HOLDS"
            + " none.");
        SlotMat x = Sentence.toldOnStrike("box 0 0;box 30 0;person 0 0;person 0 3;person 0 3;person 0 2;person 30 1;");
        x.days(1);
        Sentence.due(1, () -> x.whose(0));
        Sentence.due(4, () -> x.whose(1));
        // At 99 they are all alike.
        passDays(x, 60);
        Sentence.due(1, () -> x.whose(0));
        SlotMat last = Sentence.toldOnStrike("box 0 0;" + Sentence.many(7, "person 0 0;") + "person 0 1;");
        last.days(1);
        Sentence.due(7, () -> last.whose(0));

        Sentence.of(39, "WHOSE; NONE: none.");
        SlotMat none = Sentence.told("box 0 0;box 30 0;person 0 9;");
        Sentence.due(Sentence.NONE, () -> none.whose(0));
        none.days(1);
        Sentence.due(Sentence.NONE, () -> none.whose(0));
        none.days(1);
        Sentence.due(0, () -> none.whose(0));
        Sentence.due(Sentence.NONE, () -> none.whose(1));
        Sentence.due(Sentence.NONE, () -> Sentence.told("box 0 0;").whose(0));
    }
}
