import java.util.List;

/** Each sentence of the document that tells a boundary of what is so, of a day, of acts and of the image. */
public final class SentencesOfActs {
    // One thinks 9 a day into the only box, which is emptied daily: the other one hears these 9.
    private static final String DAILY = "box 0 50;person 0 9 at 1;person 3 0 at 0;sounds much;";
    // Eight people in a ring, each of whom hears 99 a day.
    private static final String LOUD = "box 0 9;person 0 9 at 1;person 0 9 at 2;person 0 9 at 3;person 0 9 at 4;"
        + "person 0 9 at 5;person 0 9 at 6;person 0 9 at 7;person 0 9 at 0;sounds 99;";
    private static final int[] NO_NUMBER = {-2, -3, Integer.MIN_VALUE, Integer.MAX_VALUE};

    public static void main(String[] args) {
        count();
        box();
        person();
        held();
        thinking();
        fetching();
        redAndDay();
        days();
        write();
        paint();
        turn();
        strike();
        undo();
        status();
        image();
        restore();
        Sentence.end();
    }

    private static void passDays(SlotMat x, int many) {
        for (int left = many; left > 0; left -= 20) {
            x.days(Math.min(20, left));
        }
    }

    // ---- promises 5 to 8 ----

    private static void count() {
        Sentence.of(5, "0 BOXES, 1 PEOPLE, 2 the DAY, 3 WET of it, 4 whether there is a STRIKE (1), 5 the BOX of the"
            + " ROUND of this DAY (NONE), 6 how much all BOXES HOLD, 7 how much all have HEARD, 8 MUTUAL, 9"
            + " UNTHOUGHT (bits), 10 ACTS that are kept, 11 NOTED, 12 bytes of the tape, 13 to 15 STATUS 0 to 2.");
        SlotMat x = Sentence.told(Sentence.STREET + "round 1 0 1;");
        x.days(1);
        // On day 0 box 1 is emptied: 6 thoughts of person 2 are heard as 3 + 4 - 16 / 3 = 2; box 0 holds 4 and 2.
        int[] counts = {2, 3, 1, 0, 0, 0, 6, 2, 1, 0b100, 1, 0, 0, 0, 0, 0};
        for (int i = 0; i < counts.length; i++) {
            int what = i;
            Sentence.due(counts[i], () -> x.count(what));
        }
        // Without boxes there is none of the round; a strike changes nothing about it.
        SlotMat boxless = Sentence.told("person 0 0;");
        Sentence.due(Sentence.NONE, () -> boxless.count(5));
        x.strike(true);
        Sentence.due(0, () -> x.count(5));
        // The most that boxes can hold, and that all can have heard.
        SlotMat eight = Sentence.toldOnStrike("box 0 0;box 30 0;" + Sentence.many(4, "person 0 9;")
            + Sentence.many(4, "person 30 9;"));
        eight.days(12);
        Sentence.due(8 * 99, () -> eight.count(6));
        SlotMat loud = Sentence.told(LOUD);
        passDays(loud, 102);
        Sentence.due(8 * 9999, () -> loud.count(7));

        Sentence.of(5, "NoSuchElementException: another what.");
        Sentence.dueForEach(Sentence.NO_SUCH, what -> x.count(what), NO_NUMBER);
        Sentence.dueForEach(Sentence.NO_SUCH, what -> x.count(what), -1, 16, 17);

        Sentence.of(5, "MUTUAL: couples of PEOPLE who think at each other: how many.");
        SlotMat couples = Sentence.told("person 0 0 at 7;person 0 0 at 6;person 0 0 at 3;person 0 0 at 2;"
            + "person 0 0 at 5;person 0 0 at 4;person 0 0 at 1;person 0 0 at 0;");
        Sentence.due(4, () -> couples.count(8));
        couples.turn(7, 1);
        Sentence.due(3, () -> couples.count(8));
        couples.turn(4, -1);
        Sentence.due(2, () -> couples.count(8));
        Sentence.due(0, () -> Sentence.told(LOUD).count(8));
        Sentence.due(0, () -> new SlotMat().count(8));

        Sentence.of(5, "UNTHOUGHT: PEOPLE at whom nobody thinks, as bits.");
        Sentence.due(255, () -> Sentence.told(Sentence.many(8, "person 0 0;")).count(9));
        Sentence.due(0, () -> Sentence.told(LOUD).count(9));
        Sentence.due(0, () -> new SlotMat().count(9));
        Sentence.due(1, () -> Sentence.told("person 0 0;").count(9));
    }

    /** What each call that takes a BOX answers to this one. */
    private static void noBox(SlotMat x, int box) {
        Sentence.due(Sentence.NO_SUCH, () -> x.box(box, 0));
        Sentence.due(Sentence.NO_SUCH, () -> x.held(box, 0));
        Sentence.due(Sentence.NO_SUCH, () -> x.paint(box));
        Sentence.due(Sentence.NO_SUCH, () -> x.then(box, 41, 0));
        Sentence.due(Sentence.NO_SUCH, () -> x.full(box, 0));
        Sentence.due(Sentence.NO_SUCH, () -> x.pale(box, 100));
        Sentence.due(Sentence.NO_SUCH, () -> x.visits(box, 0));
        Sentence.due(Sentence.NO_SUCH, () -> x.whose(box));
        if (box != Sentence.NONE) {
            Sentence.due(Sentence.NO_SUCH, () -> x.order(box));
        }
    }

    private static void box() {
        Sentence.of(6, "Of a BOX: 0 PLACE, 1 RED, 2 how much it HOLDS, 3 for whom it is NEAREST (bits), 4 FARTHEST"
            + " (NONE).");
        SlotMat x = Sentence.toldOnStrike("box 10 7;box 30 9;" + Sentence.many(8, "person 12 9;"));
        x.days(11);
        int[] first = {10, 0, 792, 255, 0};
        int[] second = {30, 9, 0, 0, Sentence.NONE};
        for (int i = 0; i < 5; i++) {
            int what = i;
            Sentence.due(first[i], () -> x.box(0, what));
            Sentence.due(second[i], () -> x.box(1, what));
        }

        Sentence.of(6, "FARTHEST from a BOX: of those for whom it is NEAREST, who is farthest from it (of like ones"
            + " the least); none.");
        // 1 and 3 are 5 from box 0, on both sides; 0 is farther from it, but nearer to box 1.
        SlotMat far = Sentence.told("box 10 0;box 30 0;box 0 0;person 22 0;person 15 0;person 10 0;person 5 0;");
        Sentence.due(1, () -> far.box(0, 4));
        Sentence.due(0, () -> far.box(1, 4));
        Sentence.due(Sentence.NONE, () -> far.box(2, 4));
        // On either side of it.
        Sentence.due(1, () -> Sentence.told("box 10 0;person 15 0;person 4 0;").box(0, 4));
        Sentence.due(1, () -> Sentence.told("box 10 0;person 5 0;person 16 0;").box(0, 4));
        // Who stands at the box itself is farthest, if nobody else is.
        Sentence.due(0, () -> Sentence.told("box 9 0;person 9 0;person 9 0;").box(0, 4));
        Sentence.due(Sentence.NONE, () -> Sentence.told("box 9 0;").box(0, 4));

        Sentence.of(6, "NoSuchElementException: no such BOX (as everywhere), what.");
        SlotMat street = Sentence.told(Sentence.STREET);
        Sentence.changesNothing(street, () -> {
            for (int box : new int[] {-1, 2, 5, 6, Integer.MIN_VALUE, Integer.MAX_VALUE}) {
                noBox(street, box);
            }
        });
        noBox(new SlotMat(), 0);
        noBox(Sentence.told("person 0 0;"), 0);
        noBox(Sentence.told(Sentence.many(6, "box 0 0;") + "person 0 0;"), 6);
        Sentence.dueForEach(Sentence.NO_SUCH, what -> street.box(0, what), NO_NUMBER);
        Sentence.dueForEach(Sentence.NO_SUCH, what -> street.box(0, what), -1, 5);
        Sentence.due(0, () -> street.count(14));
        // Boxes of the city before are no boxes.
        Sentence.tell(street, "box 0 0;person 0 0;");
        noBox(street, 1);
    }

    /** What each call that takes a PERSON answers to this one, and to this one as the other one. */
    private static void noPerson(SlotMat x, int person) {
        Sentence.due(Sentence.NO_SUCH, () -> x.person(person, 0));
        Sentence.due(Sentence.NO_SUCH, () -> x.held(0, person));
        Sentence.due(Sentence.NO_SUCH, () -> x.write(person));
        Sentence.due(Sentence.NO_SUCH, () -> x.turn(person, person));
        Sentence.due(Sentence.NO_SUCH, () -> x.turn(person, 0));
        Sentence.due(Sentence.NO_SUCH, () -> x.later(person, 41, 0));
        Sentence.due(Sentence.NO_SUCH, () -> x.first(person));
        Sentence.due(Sentence.NO_SUCH, () -> x.ring(person));
        Sentence.due(Sentence.NO_SUCH, () -> x.comesTo(person));
        Sentence.due(Sentence.NO_SUCH, () -> x.note(person, 21, -1));
        Sentence.due(Sentence.NO_SUCH, () -> x.wetNights(person, -1, 0, 11));
        Sentence.due(Sentence.NO_SUCH, () -> x.game(person, 0, 0));
        Sentence.due(Sentence.NO_SUCH, () -> x.game(0, person, 0));
        Sentence.due(Sentence.NO_SUCH, () -> x.game(person, person, 0));
        Sentence.due(Sentence.NO_SUCH, () -> x.steps(person, 0));
        Sentence.due(Sentence.NO_SUCH, () -> x.steps(0, person));
        Sentence.due(Sentence.NO_SUCH, () -> x.steps(person, person));
        Sentence.due(Sentence.NO_SUCH, () -> x.quiet(person, 0));
        Sentence.due(Sentence.NO_SUCH, () -> x.bestAt(person, 0));
        if (person != Sentence.NONE) {
            Sentence.due(Sentence.NO_SUCH, () -> x.turn(0, person));
        }
    }

    private static void person() {
        Sentence.of(7, "Of a PERSON: 0 PLACE, 1 PENSIVE, 2 AT whom one thinks (NONE), 3 REGRET, 4 how much one has"
            + " HEARD, 5 the BOX that is NEAREST (NONE), 6 FANS (bits), 7 NEIGHBOURS (bits).");
        SlotMat x = Sentence.told(Sentence.STREET + "person 5 0 at 7;");
        x.days(1);
        // Box 0 was emptied on day 0: 4 thoughts are heard by 1 as 2 + 4 - 5 / 3, 2 by 0 as 1 + 4.
        int[][] all = {{4, 4, 1, 0, 5, 0, 0b0110, 0b1010}, {10, 2, 0, 0, 5, 0, 0b0001, 0b1001},
            {25, 6, 0, 6, 0, 1, 0, 0}, {5, 0, Sentence.NONE, 0, 0, 0, 0, 0b0011}};
        for (int person = 0; person < 4; person++) {
            for (int what = 0; what < 8; what++) {
                int who = person;
                int which = what;
                Sentence.due(all[person][what], () -> x.person(who, which));
            }
        }
        SlotMat boxless = Sentence.told("person 0 0;person 0 0;");
        Sentence.due(Sentence.NONE, () -> boxless.person(0, 5));

        Sentence.of(7, "FANS of one: who thinks AT that one (bits).");
        SlotMat star = Sentence.told("person 0 0;" + Sentence.many(7, "person 0 0 at 0;"));
        Sentence.due(0b11111110, () -> star.person(0, 6));
        Sentence.due(0, () -> star.person(7, 6));
        star.turn(3, 7);
        Sentence.due(0b11110110, () -> star.person(0, 6));
        Sentence.due(0b00001000, () -> star.person(7, 6));

        Sentence.of(7, "NEIGHBOURS: PEOPLE (others) who think into the same BOX as one, as bits.");
        SlotMat same = Sentence.told("box 3 3;" + Sentence.many(8, "person 0 0;"));
        for (int person = 0; person < 8; person++) {
            int who = person;
            Sentence.due(255 & ~(1 << who), () -> same.person(who, 7));
        }
        Sentence.due(0, () -> Sentence.told("box 3 3;person 0 0;").person(0, 7));
        // Two boxes at one place are two; who thinks into none has no neighbours.
        Sentence.due(0, () -> Sentence.told("box 0 0;box 9 0;person 0 0;person 9 0;").person(0, 7));
        Sentence.due(0, () -> boxless.person(0, 7));

        Sentence.of(7, "NoSuchElementException: no such PERSON (as everywhere), what.");
        SlotMat street = Sentence.told(Sentence.STREET);
        Sentence.changesNothing(street, () -> {
            for (int person : new int[] {-1, 3, 8, Integer.MIN_VALUE, Integer.MAX_VALUE}) {
                noPerson(street, person);
            }
        });
        noPerson(new SlotMat(), 0);
        noPerson(Sentence.told("box 0 0;"), 0);
        noPerson(Sentence.told("box 0 0;" + Sentence.many(8, "person 0 0;")), 8);
        Sentence.dueForEach(Sentence.NO_SUCH, what -> street.person(0, what), NO_NUMBER);
        Sentence.dueForEach(Sentence.NO_SUCH, what -> street.person(0, what), -1, 8);
        Sentence.dueForEach(0, what -> street.count(what), 14, 15);
        Sentence.tell(street, "box 0 0;person 0 0;person 0 0;");
        noPerson(street, 2);
    }

    private static void held() {
        Sentence.of(8, "How many THOUGHTS of a PERSON a BOX HOLDS.");
        SlotMat x = Sentence.toldOnStrike("box 0 0;box 30 0;person 1 9;person 29 1;person 2 0;");
        Sentence.due(0, () -> x.held(0, 0));
        x.days(11);
        Sentence.due(99, () -> x.held(0, 0));
        Sentence.due(0, () -> x.held(0, 1));
        Sentence.due(0, () -> x.held(0, 2));
        Sentence.due(0, () -> x.held(1, 0));
        Sentence.due(11, () -> x.held(1, 1));
        Sentence.due(Sentence.NO_SUCH, () -> x.held(2, 3));
    }

    // ---- a day ----

    /** How many thoughts one day brings by this rule. */
    private static void thoughtsBy(int want, String lines) {
        SlotMat x = Sentence.toldOnStrike("box 0 9;person 0 4;" + lines);
        x.days(1);
        Sentence.due(want, () -> x.held(0, 0));
        Sentence.due(want, () -> x.person(0, 3));
    }

    private static void thinking() {
        Sentence.of(9, "first PERSON by PERSON thinks into the BOX that is NEAREST (of like ones the least; none"
            + " without BOXES):");
        // 15 is as far from 20 as from 10 and 10: it's the least of numbers, not of places.
        SlotMat like = Sentence.toldOnStrike("box 20 9;box 10 9;box 10 9;person 15 5;person 14 3;person 16 2;");
        like.days(1);
        Sentence.due(5, () -> like.held(0, 0));
        Sentence.due(3, () -> like.held(1, 1));
        Sentence.due(2, () -> like.held(0, 2));
        Sentence.due(0, () -> like.box(2, 2));
        SlotMat ends = Sentence.toldOnStrike("box 30 9;person 0 5;person 30 5;");
        ends.days(1);
        Sentence.due(10, () -> ends.box(0, 2));
        // Person by person: the second one finds what the first one put in.
        SlotMat rows = Sentence.toldOnStrike("box 0 9;person 0 0;person 0 0;person 0 0;thinks held+1;");
        rows.days(1);
        Sentence.due(1, () -> rows.held(0, 0));
        Sentence.due(2, () -> rows.held(0, 1));
        Sentence.due(4, () -> rows.held(0, 2));
        SlotMat boxless = Sentence.told("person 0 9 at 1;person 0 9 at 0;thinks 9;sounds 9;");
        Sentence.due(20, () -> boxless.days(20));
        Sentence.due(0, () -> boxless.person(0, 3));
        Sentence.due(0, () -> boxless.count(6));

        Sentence.of(9, "it HOLDS so many THOUGHTS more of that PERSON as THINKS gives, kept to 0 to 9 (without it"
            + " PENSIVE), 99 of one PERSON at most;");
        thoughtsBy(4, "");
        thoughtsBy(0, "thinks 0;");
        thoughtsBy(0, "thinks 0-1;");
        thoughtsBy(0, "thinks 0-9999*9999;");
        thoughtsBy(0, "thinks 256*256*256*128;");
        thoughtsBy(8, "thinks 8;");
        thoughtsBy(9, "thinks 9;");
        thoughtsBy(9, "thinks 10;");
        thoughtsBy(9, "thinks 256*256*256*128-1;");
        SlotMat full = Sentence.toldOnStrike("box 0 9;person 0 9;person 0 7;");
        full.days(11);
        Sentence.due(99, () -> full.held(0, 0));
        Sentence.due(77, () -> full.held(0, 1));
        full.days(3);
        Sentence.due(99, () -> full.held(0, 0));
        Sentence.due(98, () -> full.held(0, 1));
        full.days(1);
        Sentence.due(99, () -> full.held(0, 1));
        Sentence.due(198, () -> full.box(0, 2));

        Sentence.of(9, "REGRET of that PERSON is as many more (999 at most).");
        SlotMat regret = Sentence.toldOnStrike("box 0 9;person 0 9;person 0 8;");
        regret.days(12);
        Sentence.due(12 * 9, () -> regret.person(0, 3));
        passDays(regret, 98);
        Sentence.due(990, () -> regret.person(0, 3));
        regret.days(1);
        Sentence.due(999, () -> regret.person(0, 3));
        passDays(regret, 13);
        Sentence.due(999, () -> regret.person(0, 3));
        Sentence.due(124 * 8, () -> regret.person(1, 3));
        regret.days(1);
        Sentence.due(999, () -> regret.person(1, 3));
    }

    /** What is heard of so many thoughts on one day. */
    private static void soundsOf(int want, int much, int wet, int far) {
        SlotMat x = Sentence.told("box 0 9;person 0 " + much + " at 1;person " + far + " 0;wet " + wet + ";");
        x.days(1);
        Sentence.due(want, () -> x.person(1, 4));
    }

    private static void soundsBy(int want, String rule) {
        SlotMat x = Sentence.told("box 0 9;person 0 4 at 1;person 0 0;sounds " + rule + ";");
        x.days(1);
        Sentence.due(want, () -> x.person(1, 4));
    }

    private static void fetching() {
        Sentence.of(9, "Then, if there is no STRIKE, the man comes to the BOX of the ROUND at place DAY MOD how many"
            + " it has:");
        SlotMat round = Sentence.told("box 0 9;box 9 9;box 30 9;person 0 1;person 9 1;person 30 1;round 1 1 0;");
        int[][] holds = {{1, 0, 1}, {2, 0, 2}, {0, 1, 3}, {1, 0, 4}, {2, 0, 5}, {0, 1, 6}};
        for (int[] day : holds) {
            round.days(1);
            for (int box = 0; box < 3; box++) {
                int which = box;
                Sentence.due(day[box], () -> round.box(which, 2));
            }
        }
        // The round does not wait for a strike's end: day 7 is place 1, day 8 place 2.
        round.strike(true);
        round.days(1);
        Sentence.due(1, () -> round.box(0, 2));
        Sentence.due(2, () -> round.box(1, 2));
        round.strike(false);
        round.days(1);
        Sentence.due(0, () -> round.box(1, 2));
        round.days(1);
        Sentence.due(0, () -> round.box(0, 2));

        Sentence.of(9, "PERSON by PERSON whose THOUGHTS it HOLDS: AT whom one thinks (if somebody) has HEARD so much"
            + " more as SOUNDS gives, kept to 0 to 99 (without it 'much' by 2, and 'wet', less 'far' by 3; all cut"
            + " down), 9999 at most;");
        soundsBy(0, "0");
        soundsBy(0, "0-1");
        soundsBy(0, "256*256*256*128");
        soundsBy(98, "98");
        soundsBy(99, "99");
        soundsBy(99, "100");
        soundsBy(99, "256*256*256*128-1");
        soundsOf(3 + 2 - 2, 7, 2, 8);
        soundsOf(1, 3, 0, 2);
        soundsOf(0, 3, 0, 3);
        soundsOf(0, 1, 0, 0);
        soundsOf(1, 2, 0, 0);
        soundsOf(0, 1, 9, 27);
        soundsOf(1, 1, 9, 26);
        soundsOf(0, 1, 9, 30);
        soundsOf(4 + 9, 9, 9, 0);
        // Where no thoughts are fetched nothing is heard, whatever the rule would give.
        SlotMat silent = Sentence.told("box 0 9;box 9 9;person 0 0 at 1;person 9 5 at 0;round 0;sounds 7;");
        silent.days(3);
        Sentence.due(0, () -> silent.count(7));
        // Of that box alone, be there as many people as can be.
        SlotMat two = Sentence.told("box 0 9;box 30 9;person 30 1;" + Sentence.many(7, "person 0 1;") + "round 0;");
        two.days(2);
        Sentence.due(2, () -> two.held(1, 0));
        Sentence.due(0, () -> two.box(0, 2));
        // Nobody hears what is thought at nobody, yet it is fetched.
        SlotMat nobody = Sentence.told("box 0 9;person 0 5;person 0 0;sounds 7;");
        nobody.days(1);
        Sentence.due(0, () -> nobody.count(7));
        Sentence.due(0, () -> nobody.count(6));
        Sentence.due(0, () -> nobody.person(0, 3));
        // Person by person: what the first one's thoughts let hear is heard already.
        SlotMat rows = Sentence.told("box 0 9;person 0 1 at 2;person 0 1 at 2;person 0 0;sounds heard+1;");
        rows.days(1);
        Sentence.due(1 + 2, () -> rows.person(2, 4));
        SlotMat loud = Sentence.told(LOUD);
        passDays(loud, 101);
        Sentence.due(9999, () -> loud.person(0, 4));
        loud.days(1);
        Sentence.due(9999, () -> loud.person(0, 4));
        loudToTheLast();

        Sentence.of(9, "one's REGRET is as much less as there were THOUGHTS (not below 0), and it HOLDS none of"
            + " these.");
        SlotMat less = Sentence.toldOnStrike("box 0 9;person 0 9;person 0 2;");
        less.days(20);
        less.strike(false);
        less.days(1);
        // 99 of 189 go; of the other one's 42 all of them.
        Sentence.due(21 * 9 - 99, () -> less.person(0, 3));
        Sentence.due(0, () -> less.person(1, 3));
        Sentence.due(0, () -> less.held(0, 0));
        Sentence.due(0, () -> less.held(0, 1));
        less.days(5);
        Sentence.due(90, () -> less.person(0, 3));
        // At 999 it is 99 less, too.
        SlotMat most = Sentence.toldOnStrike("box 0 9;person 0 9;");
        passDays(most, 120);
        most.strike(false);
        most.days(1);
        Sentence.due(900, () -> most.person(0, 3));

        Sentence.of(9, "(Without BOXES nobody comes.)");
        SlotMat boxless = Sentence.told("person 0 9 at 1;person 0 9 at 0;sounds 9;");
        Sentence.due(5, () -> boxless.days(5));
        Sentence.due(0, () -> boxless.count(7));
        Sentence.due(0, () -> boxless.most(40, 2));
        Sentence.due(3, () -> new SlotMat().days(3));
    }

    /** Behind 102 days 98 a day are 9996, to which 3 more are heard and no others. */
    private static void loudToTheLast() {
        SlotMat x = Sentence.told("box 0 9;person 0 9 at 1;person 0 0;sounds 98;");
        passDays(x, 102);
        Sentence.due(9996, () -> x.person(1, 4));
        x.days(1);
        Sentence.due(9999, () -> x.person(1, 4));
        x.days(20);
        Sentence.due(9999, () -> x.person(1, 4));
    }

    private static void redAndDay() {
        Sentence.of(9, "Then RED of each BOX that HOLDS something is 1 less (not below 0).");
        // Box 0 is emptied on even days, box 1 never, box 2 has nothing in it.
        SlotMat x = Sentence.told("box 0 5;box 9 2;box 30 7;box 30 7;person 0 1;person 9 1;round 0 3;");
        int[][] reds = {{5, 1, 7}, {4, 0, 7}, {4, 0, 7}, {3, 0, 7}};
        for (int[] red : reds) {
            x.days(1);
            for (int box = 0; box < 3; box++) {
                int which = box;
                Sentence.due(red[box], () -> x.box(which, 1));
            }
        }
        SlotMat zero = Sentence.toldOnStrike("box 0 0;person 0 1;");
        zero.days(3);
        Sentence.due(0, () -> zero.box(0, 1));
        SlotMat most = Sentence.toldOnStrike("box 0 99;person 0 1;");
        passDays(most, 98);
        Sentence.due(1, () -> most.box(0, 1));
        most.days(2);
        Sentence.due(0, () -> most.box(0, 1));

        Sentence.of(9, "The DAY is one more then.");
        SlotMat day = Sentence.told("box 0 0;person 0 0;thinks day;sounds day;");
        for (int i = 1; i <= 3; i++) {
            int want = i;
            Sentence.due(want, () -> day.days(1));
            Sentence.due(want, () -> day.count(2));
        }
        // All of a day is still that day: on day 3 one thinks 3, of which is heard what day 3 lets be heard.
        SlotMat still = Sentence.told("box 0 0;person 0 0 at 1;person 0 0;thinks day;sounds much*10+day;wet 1 2 3 4;");
        still.days(3);
        int heard = still.person(1, 4);
        still.days(1);
        Sentence.due(heard + 33, () -> still.person(1, 4));
    }

    // ---- promises 9 to 14 ----

    private static void days() {
        Sentence.of(9, "DAYS go by: the DAY.");
        SlotMat x = Sentence.told(DAILY);
        Sentence.due(1, () -> x.days(1));
        Sentence.due(21, () -> x.days(20));
        Sentence.due(21 * 9, () -> x.person(1, 4));

        Sentence.of(9, "DAYS go by (1 to 20);");
        for (int many = 1; many <= 20; many++) {
            int one = many;
            Sentence.due(one, () -> new SlotMat().days(one));
        }

        Sentence.of(9, "NONE (STATUS 1): not 1 to 20, it would be above 999.");
        Sentence.changesNothing(x, () -> Sentence.dueForEach(Sentence.NONE, many -> x.days(many),
            0, -1, 21, 40, Integer.MIN_VALUE, Integer.MAX_VALUE));
        Sentence.due(6, () -> x.count(14));
        SlotMat last = Sentence.told(DAILY);
        passDays(last, 980);
        Sentence.changesNothing(last, () -> Sentence.due(Sentence.NONE, () -> last.days(20)));
        Sentence.due(1, () -> last.count(14));
        Sentence.due(999, () -> last.days(19));
        Sentence.due(999 * 9, () -> last.person(1, 4));
        Sentence.changesNothing(last, () -> {
            Sentence.due(Sentence.NONE, () -> last.days(1));
            // So far that a sum would wrap.
            Sentence.due(Sentence.NONE, () -> last.days(Integer.MAX_VALUE));
            Sentence.due(Sentence.NONE, () -> last.days(Integer.MIN_VALUE));
        });
        Sentence.due(4, () -> last.count(14));
        // Other acts are done on the last day, too.
        Sentence.due(50, () -> last.paint(0));
        last.undo();
        last.undo();
        Sentence.due(980, () -> last.count(2));
        Sentence.due(999, () -> last.days(19));
    }

    private static void write() {
        Sentence.of(10, "a PERSON who thinks at somebody WRITES: that one has HEARD 9 more and all THOUGHTS of the"
            + " PERSON that are HELD anywhere (9999 at most); none are HELD any more, REGRET is 0;");
        SlotMat x = Sentence.toldOnStrike("box 0 50;box 30 9;person 0 9 at 1;person 30 1;person 0 3 at 1;");
        Sentence.due(9, () -> x.write(0));
        x.days(20);
        // 99 are held, of 180 that are regretted: all of these are gone.
        Sentence.due(9 + 9 + 99, () -> x.write(0));
        Sentence.due(0, () -> x.held(0, 0));
        Sentence.due(0, () -> x.person(0, 3));
        Sentence.due(60, () -> x.held(0, 2));
        Sentence.due(60, () -> x.person(2, 3));
        Sentence.due(20, () -> x.held(1, 1));
        Sentence.due(20, () -> x.person(1, 3));
        Sentence.due(9 + 9 + 99 + 9 + 60, () -> x.write(2));
        Sentence.due(0, () -> x.held(0, 2));
        Sentence.due(0, () -> x.person(2, 3));
        Sentence.due(30, () -> x.box(0, 1));
        SlotMat loud = Sentence.told("box 0 9;person 0 9 at 1;person 0 0 at 0;sounds 90*(day<111);");
        passDays(loud, 111);
        Sentence.due(9990, () -> loud.person(1, 4));
        Sentence.due(9999, () -> loud.write(0));
        Sentence.due(9999, () -> loud.write(0));
        loud.undo();
        loud.undo();
        loud.strike(true);
        loud.days(11);
        Sentence.due(9999, () -> loud.write(0));
        Sentence.due(9, () -> loud.write(1));

        Sentence.of(10, "WRITES: how much AT whom one thinks has HEARD then.");
        SlotMat turned = Sentence.toldOnStrike("box 0 9;person 0 5 at 1;person 0 0;person 0 0;");
        turned.days(2);
        turned.turn(0, 2);
        Sentence.due(9 + 10, () -> turned.write(0));
        Sentence.due(19, () -> turned.person(2, 4));
        Sentence.due(0, () -> turned.person(1, 4));

        Sentence.of(10, "NONE (STATUS 1): one thinks at nobody.");
        SlotMat nobody = Sentence.toldOnStrike("box 0 9;person 0 5;person 0 4 at 5;person 0 3 at 0;");
        nobody.days(3);
        nobody.turn(2, -1);
        Sentence.changesNothing(nobody,
            () -> Sentence.dueForEach(Sentence.NONE, person -> nobody.write(person), 0, 1, 2));
        Sentence.due(3, () -> nobody.count(14));
        Sentence.due(Sentence.NO_SUCH, () -> nobody.write(3));
        Sentence.due(3, () -> nobody.count(14));
    }

    private static void paint() {
        Sentence.of(11, "a BOX is PAINTED (RED is 99);");
        SlotMat x = Sentence.told("box 0 0;box 1 98;box 2 99;");
        Sentence.due(0, () -> x.paint(0));
        Sentence.due(99, () -> x.box(0, 1));

        Sentence.of(11, "PAINTED: RED as it was.");
        Sentence.due(98, () -> x.paint(1));
        Sentence.due(99, () -> x.box(1, 1));

        Sentence.of(11, "NONE (STATUS 1): it is 99.");
        Sentence.changesNothing(x, () -> Sentence.dueForEach(Sentence.NONE, box -> x.paint(box), 0, 1, 2));
        Sentence.due(3, () -> x.count(14));
        Sentence.due(2, () -> x.count(10));
        Sentence.due(Sentence.NO_SUCH, () -> x.paint(3));
        Sentence.due(3, () -> x.count(14));
    }

    private static void turn() {
        Sentence.of(12, "a PERSON TURNS to another one, or to nobody;");
        SlotMat x = Sentence.told(Sentence.STREET);
        Sentence.due(0, () -> x.turn(2, 1));
        Sentence.due(1, () -> x.person(2, 2));
        Sentence.due(1, () -> x.turn(2, Sentence.NONE));
        Sentence.due(Sentence.NONE, () -> x.person(2, 2));

        Sentence.of(12, "TURNS: AT whom one thought (NONE).");
        Sentence.due(Sentence.NONE, () -> x.turn(2, 0));
        Sentence.due(0, () -> x.turn(2, 1));
        Sentence.due(4, () -> x.count(10));

        Sentence.of(12, "-2 (STATUS 1): one thinks so, it is oneself.");
        Sentence.changesNothing(x, () -> {
            Sentence.due(-2, () -> x.turn(2, 1));
            Sentence.due(-2, () -> x.turn(2, 2));
            Sentence.due(-2, () -> x.turn(0, 0));
        });
        Sentence.due(3, () -> x.count(14));
        x.turn(2, Sentence.NONE);
        Sentence.due(-2, () -> x.turn(2, Sentence.NONE));
        Sentence.due(-2, () -> x.turn(2, 2));
        Sentence.due(5, () -> x.count(14));

        Sentence.of(12, "NoSuchElementException: no such PERSON (the other one may be NONE).");
        Sentence.changesNothing(x, () -> {
            Sentence.dueForEach(Sentence.NO_SUCH, other -> x.turn(0, other), NO_NUMBER);
            Sentence.dueForEach(Sentence.NO_SUCH, other -> x.turn(0, other), 3, 8);
            Sentence.dueForEach(Sentence.NO_SUCH, person -> x.turn(person, Sentence.NONE), NO_NUMBER);
            Sentence.dueForEach(Sentence.NO_SUCH, person -> x.turn(person, Sentence.NONE), -1, 3, 8);
        });
        Sentence.due(5, () -> x.count(14));
        Sentence.due(1, () -> x.turn(0, Sentence.NONE));
        SlotMat alone = Sentence.told("person 0 0;");
        Sentence.due(-2, () -> alone.turn(0, Sentence.NONE));
        Sentence.due(-2, () -> alone.turn(0, 0));
        Sentence.due(Sentence.NO_SUCH, () -> alone.turn(0, 1));
    }

    private static void strike() {
        Sentence.of(13, "A STRIKE begins (true), or ends: true.");
        SlotMat x = Sentence.told(DAILY);
        Sentence.due(1, () -> Sentence.bit(x.strike(true)));
        Sentence.due(1, () -> x.count(4));
        Sentence.due(1, () -> Sentence.bit(x.strike(false)));
        Sentence.due(0, () -> x.count(4));
        Sentence.due(2, () -> x.count(10));

        Sentence.of(13, "False (STATUS 1): it is so already.");
        Sentence.changesNothing(x, () -> Sentence.due(0, () -> Sentence.bit(x.strike(false))));
        x.strike(true);
        Sentence.changesNothing(x, () -> Sentence.due(0, () -> Sentence.bit(x.strike(true))));
        Sentence.due(2, () -> x.count(14));
        SlotMat fresh = new SlotMat();
        Sentence.due(0, () -> Sentence.bit(fresh.strike(false)));
        Sentence.due(1, () -> fresh.count(14));
        Sentence.due(1, () -> Sentence.bit(fresh.strike(true)));
    }

    private static void undo() {
        Sentence.of(14, "ACTS (at most 40 are kept, the latest ones):");
        SlotMat x = Sentence.told(DAILY);
        for (int i = 1; i <= 39; i++) {
            x.days(1);
        }
        Sentence.due(39, () -> x.count(10));
        x.days(1);
        Sentence.due(40, () -> x.count(10));
        x.days(1);
        Sentence.due(40, () -> x.count(10));
        passDays(x, 200);
        Sentence.due(40, () -> x.count(10));
        for (int left = 39; left >= 0; left--) {
            int want = left;
            Sentence.due(want, () -> x.undo());
        }
        Sentence.due(Sentence.NONE, () -> x.undo());
        // 51 acts were done, of which 11 days are the earliest: those stay.
        Sentence.due(11, () -> x.count(2));
        Sentence.due(11 * 9, () -> x.person(1, 4));
        // Behind that acts are kept anew.
        x.days(2);
        Sentence.due(1, () -> x.count(10));
        Sentence.due(0, () -> x.undo());
        Sentence.due(11, () -> x.count(2));

        Sentence.of(14, "They are UNDONE, the last one first.");
        SlotMat all = Sentence.told(Sentence.STREET);
        all.days(2);
        List<Integer> begun = Sentence.seen(all);
        all.write(2);
        List<Integer> written = Sentence.seen(all);
        all.paint(1);
        all.turn(1, 2);
        all.strike(true);
        all.days(20);
        Sentence.due(5, () -> all.undo());
        Sentence.due(2, () -> all.count(2));
        Sentence.due(1, () -> all.count(4));
        Sentence.due(4, () -> all.undo());
        Sentence.due(0, () -> all.count(4));
        Sentence.due(2, () -> all.person(1, 2));
        Sentence.due(3, () -> all.undo());
        Sentence.due(0, () -> all.person(1, 2));
        Sentence.due(99, () -> all.box(1, 1));
        Sentence.due(2, () -> all.undo());
        if (!Sentence.seen(all).equals(written)) {
            Sentence.tellWrong("it is not as it was ahead of the paint");
        }
        Sentence.due(1, () -> all.undo());
        if (!Sentence.seen(all).equals(begun)) {
            Sentence.tellWrong("it is not as it was ahead of the letter");
        }

        Sentence.of(14, "The last ACT is UNDONE: how many are left.");
        Sentence.due(0, () -> all.undo());
        Sentence.due(0, () -> all.count(10));
        Sentence.due(0, () -> all.count(2));

        Sentence.of(14, "NONE: there is none.");
        Sentence.changesNothing(all, () -> Sentence.due(Sentence.NONE, () -> all.undo()));
        Sentence.due(Sentence.NONE, () -> new SlotMat().undo());
        // An act that was refused is none; what is noted and the image are no acts.
        SlotMat none = Sentence.told(Sentence.STREET);
        none.days(0);
        none.days(21);
        none.turn(0, 0);
        none.turn(0, 1);
        none.strike(false);
        none.note(0, 0, 0);
        none.image();
        none.restore();
        none.forget();
        Sentence.due(0, () -> none.count(10));
        Sentence.due(Sentence.NONE, () -> none.undo());
        none.note(0, 0, 0);
        none.days(1);
        none.undo();
        Sentence.due(1, () -> none.count(11));
    }

    private static void status() {
        Sentence.of(5, "STATUS: how many calls were refused: 0 of TEXTS with a FAULT, 1 of ACTS, 2 of what is"
            + " NOTED.");
        SlotMat x = Sentence.told(Sentence.STREET);
        Sentence.tell(x, "?");
        Sentence.tell(x, "box");
        Sentence.tell(x, "wet 10;");
        x.days(0);
        x.days(21);
        x.paint(0);
        x.paint(0);
        x.turn(0, 0);
        x.strike(false);
        x.turn(1, Sentence.NONE);
        x.write(1);
        x.note(0, 21, 0);
        x.note(0, 0, -1);
        Sentence.due(3, () -> x.count(13));
        Sentence.due(6, () -> x.count(14));
        Sentence.due(2, () -> x.count(15));
        // Undoing where there is nothing, an exception and a full tape are none of these.
        SlotMat y = Sentence.told(Sentence.STREET);
        y.undo();
        y.restore();
        Sentence.due(Sentence.ILLEGAL, () -> y.city(1));
        Sentence.due(Sentence.NO_SUCH, () -> y.write(3));
        Sentence.due(Sentence.NO_SUCH, () -> y.paint(2));
        Sentence.due(Sentence.NO_SUCH, () -> y.turn(0, 3));
        Sentence.due(Sentence.NO_SUCH, () -> y.note(3, 21, 0));
        Sentence.feed(y, Sentence.many(36 * 20, " "));
        Sentence.dueForEach(0, what -> y.count(what), 13, 14, 15);
    }

    // ---- promises 40 and 41 ----

    private static void image() {
        Sentence.of(40, "The DAY, what BOXES HOLD, RED, REGRET, what is HEARD, AT whom all think, the STRIKE, ACTS"
            + " and what is NOTED are kept as an image,");
        SlotMat x = Sentence.told(Sentence.STREET);
        x.days(3);
        x.turn(2, 1);
        x.strike(true);
        x.days(2);
        x.note(0, 0, 12);
        x.note(1, 3, 12);
        Sentence.changesNothing(x, () -> x.image());
        List<Integer> kept = Sentence.seen(x);
        int thoughts = x.thought(2);
        x.strike(false);
        x.days(9);
        x.write(0);
        x.paint(0);
        x.turn(0, 2);
        x.turn(1, -1);
        x.forget();
        x.note(2, 20, 9999);
        x.days(20);
        Sentence.due(1, () -> Sentence.bit(x.restore()));
        if (!Sentence.seen(x).equals(kept)) {
            Sentence.tellWrong("it is not as the image");
        }
        Sentence.due(thoughts, () -> x.thought(2));
        // Acts that were done ahead of the image are undone behind it, each as it was.
        Sentence.due(3, () -> x.undo());
        Sentence.due(3, () -> x.count(2));
        Sentence.due(2, () -> x.undo());
        Sentence.due(0, () -> x.count(4));
        Sentence.due(1, () -> x.undo());
        Sentence.due(0, () -> x.person(2, 2));
        Sentence.due(0, () -> x.undo());
        Sentence.due(0, () -> x.count(2));
        Sentence.due(Sentence.NONE, () -> x.undo());
        fullImage();

        Sentence.of(40, "in place of another one.");
        SlotMat y = Sentence.told(DAILY);
        y.days(1);
        y.image();
        y.days(1);
        y.image();
        y.days(1);
        y.restore();
        Sentence.due(2, () -> y.count(2));
        y.undo();
        y.undo();
        y.restore();
        Sentence.due(2, () -> y.count(2));
        Sentence.due(2, () -> y.count(10));
    }

    /** Forty acts and eight notes are in the image, while forty others are done and eight others noted. */
    private static void fullImage() {
        SlotMat x = Sentence.told(DAILY);
        for (int i = 0; i < 45; i++) {
            x.days(1);
        }
        for (int i = 0; i < 8; i++) {
            x.note(1, i, 9 * (45 + i));
        }
        x.image();
        for (int i = 0; i < 50; i++) {
            x.days(2);
        }
        x.forget();
        for (int i = 0; i < 8; i++) {
            x.note(0, 20 - i, 7);
        }
        x.restore();
        Sentence.due(45, () -> x.count(2));
        Sentence.due(40, () -> x.count(10));
        Sentence.due(8, () -> x.count(11));
        Sentence.due(1, () -> x.thought(2));
        Sentence.due(Sentence.NONE, () -> x.note(1, 0, 0));
        for (int left = 39; left >= 0; left--) {
            int want = left;
            Sentence.due(want, () -> x.undo());
            Sentence.due(want + 5, () -> x.count(2));
        }
        Sentence.due(Sentence.NONE, () -> x.undo());
    }

    private static void restore() {
        Sentence.of(41, "They are as the image again: true.");
        SlotMat x = Sentence.told(DAILY);
        x.image();
        for (int i = 0; i < 3; i++) {
            x.days(5);
            x.note(0, 0, 0);
            Sentence.due(1, () -> Sentence.bit(x.restore()));
            Sentence.due(0, () -> x.count(2));
            Sentence.due(0, () -> x.count(10));
            Sentence.due(0, () -> x.count(11));
            Sentence.due(Sentence.NONE, () -> x.undo());
        }
        // The tape, STATUS and the FAULT's place are not in it.
        x.days(0);
        x.note(0, 21, 0);
        Sentence.tell(x, "wet 10;");
        Sentence.feed(x, "box 0 0;");
        x.restore();
        Sentence.due(20, () -> x.count(12));
        Sentence.dueForEach(1, what -> x.count(what), 13, 14, 15);
        Sentence.due(4, () -> x.fault());
        // An image of a new object is one.
        SlotMat fresh = new SlotMat();
        fresh.image();
        fresh.days(7);
        Sentence.due(1, () -> Sentence.bit(fresh.restore()));
        Sentence.due(0, () -> fresh.count(2));

        Sentence.of(41, "False: there is none.");
        SlotMat none = new SlotMat();
        none.days(2);
        Sentence.changesNothing(none, () -> Sentence.due(0, () -> Sentence.bit(none.restore())));
        none.image();
        Sentence.due(1, () -> Sentence.bit(none.restore()));
        none.city(0);
        none.days(1);
        Sentence.changesNothing(none, () -> Sentence.due(0, () -> Sentence.bit(none.restore())));
    }
}
