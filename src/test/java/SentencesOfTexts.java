import java.util.List;

/** Each sentence of the document that tells a boundary of the tape, of a text, of a rule or of a fault. */
public final class SentencesOfTexts {
    private static final String[] WORDS = {
        "box", "person", "at", "round", "wet", "thinks", "sounds", "or", "and", "not",
        "pensive", "regret", "heard", "red", "held", "day", "much", "far", "zzz"
    };
    private static final String[] SIGNS = {";", "(", ")", "+", "-", "*", "/", "<", "="};
    private static final String OF_THINKS = "pensive regret heard red held day";
    private static final String OF_SOUNDS = "much far heard wet day";

    public static void main(String[] args) {
        aNewObject();
        feed();
        city();
        faultsPlace();
        boundsOfLines();
        tokens();
        lines();
        expressions();
        values();
        fault1();
        fault2();
        fault3();
        faults4And5();
        whichFault();
        Sentence.end();
    }

    private static void aNewObject() {
        Sentence.of(1, "`SlotMat()`: No BOXES, nobody.");
        SlotMat x = new SlotMat();
        // WET is 2, and the round has no box; of all else there is nothing.
        int[] counts = {0, 0, 0, 2, 0, Sentence.NONE, 0, 0, 0, 0, 0, 0, 0, 0, 0, 0};
        for (int i = 0; i < counts.length; i++) {
            int what = i;
            Sentence.due(counts[i], () -> x.count(what));
        }
        Sentence.due(Sentence.NO_SUCH, () -> x.box(0, 0));
        Sentence.due(Sentence.NO_SUCH, () -> x.person(0, 0));
        Sentence.due(Sentence.NO_SUCH, () -> x.held(0, 0));
        Sentence.due(0, () -> x.toCover(0));
        Sentence.due(0, () -> x.oneMore(0));
        Sentence.due(0, () -> x.oneMore(1));
        Sentence.due(0, () -> x.middle());
        Sentence.due(Sentence.NONE, () -> x.order(-1));
        Sentence.due(Sentence.NONE, () -> x.most(40, 0));
        Sentence.due(Sentence.NONE, () -> x.most(40, 1));
        Sentence.due(Sentence.NONE, () -> x.most(40, 3));
        Sentence.due(0, () -> x.thought(0));
        Sentence.due(0, () -> x.reds(40));
        Sentence.due(20, () -> x.days(20));

        Sentence.of(1, "The DAY is 0; nobody has REGRET, or has HEARD anything; the BOXES HOLD nothing;"
            + " there is no STRIKE.");
        SlotMat again = Sentence.told(Sentence.STREET);
        List<Integer> begun = Sentence.seen(again);
        again.days(9);
        again.write(0);
        again.paint(0);
        again.turn(1, 2);
        again.strike(true);
        again.days(3);
        Sentence.tell(again, Sentence.STREET);
        if (!Sentence.seen(again).equals(begun)) {
            Sentence.tellWrong("the same city is told anew, and is not as it was");
        }
        Sentence.due(0, () -> again.count(2));
        Sentence.due(0, () -> again.count(4));
        Sentence.due(0, () -> again.count(6));
        Sentence.due(0, () -> again.count(7));
        Sentence.dueForEach(0, person -> again.person(person, 3), 0, 1, 2);

        Sentence.of(1, "`NONE = -1`: There is none; nobody.");
        Sentence.due(-1, () -> SlotMat.NONE);

        Sentence.of(1, "An object is used for at most 512 calls after it has been made; what later calls answer is"
            + " free.");
        SlotMat old = new SlotMat();
        for (int call = 1; call <= 511; call++) {
            old.days(0);
        }
        Sentence.due(511, () -> old.count(14));
        SlotMat busy = new SlotMat();
        for (int call = 1; call <= 511; call++) {
            busy.days(1);
        }
        Sentence.due(512, () -> busy.days(1));
    }

    // ---- promises 2 to 4 ----

    private static void feed() {
        Sentence.of(2, "Twenty bytes come behind the tape, of each number the highest first: how many it has;");
        SlotMat x = new SlotMat();
        // "box 1 2;" and "box 30 99;", of which the second one is cut in two by the twenties.
        Sentence.due(20, () -> x.feed(0x626f7820, 0x3120323b, 0x0a0a2020, 0x20202020, 0x20626f78));
        Sentence.due(40, () -> x.feed(0x20333020, 0x39393b20, 0x20202020, 0x20202020, 0x20202020));
        Sentence.due(0, () -> x.city(40));
        Sentence.due(2, () -> x.count(0));
        Sentence.due(30, () -> x.box(1, 0));
        Sentence.due(99, () -> x.box(1, 1));
        // A byte of 128 or more is one byte, none of whose bits come into the next one.
        for (int place = 0; place < 20; place++) {
            int[] a = {0x20202020, 0x20202020, 0x20202020, 0x20202020, 0x20202020};
            a[place / 4] = a[place / 4] & ~(255 << 24 - place % 4 * 8) | 0xff << 24 - place % 4 * 8;
            SlotMat y = new SlotMat();
            y.feed(a[0], a[1], a[2], a[3], a[4]);
            int want = place;
            Sentence.due(1, () -> y.city(20));
            Sentence.due(want, () -> y.fault());
        }

        Sentence.of(2, "NONE, and none come, if it would have more than 700.");
        SlotMat full = new SlotMat();
        for (int i = 1; i <= 34; i++) {
            int want = 20 * i;
            Sentence.due(want, () -> full.feed(0x20202020, 0x20202020, 0x20202020, 0x20202020, 0x20202020));
        }
        // The last bytes that the tape can have are "box 7 8;".
        Sentence.due(700, () -> full.feed(0x20202020, 0x20202020, 0x20202020, 0x626f7820, 0x3720383b));
        Sentence.due(Sentence.NONE, () -> full.feed(-1, -1, -1, -1, -1));
        Sentence.due(Sentence.NONE, () -> full.feed(0, 0, 0, 0, 0));
        Sentence.due(700, () -> full.count(12));
        Sentence.due(Sentence.ILLEGAL, () -> full.city(701));
        Sentence.due(0, () -> full.city(700));
        Sentence.due(7, () -> full.box(0, 0));
        Sentence.due(8, () -> full.box(0, 1));
        Sentence.due(20, () -> full.feed(0, 0, 0, 0, 0));
        // That none come is no refusal that STATUS counts.
        Sentence.dueForEach(0, what -> full.count(what), 13, 14, 15);
    }

    private static void city() {
        Sentence.of(3, "The tape's first n bytes (it is empty then) are a CITY, all anew: 0,");
        SlotMat x = new SlotMat();
        Sentence.feed(x, "box 1 1;box 2 2;box 3 3;");
        Sentence.due(40, () -> x.count(12));
        Sentence.due(0, () -> x.city(16));
        Sentence.due(2, () -> x.count(0));
        Sentence.due(0, () -> x.count(12));
        Sentence.due(Sentence.ILLEGAL, () -> x.city(1));
        // What comes next is not behind what was left.
        Sentence.feed(x, "person 4 4;");
        Sentence.due(20, () -> x.count(12));
        Sentence.due(0, () -> x.city(11));
        Sentence.due(0, () -> x.count(0));
        Sentence.due(1, () -> x.count(1));
        // None of the tape's bytes are a CITY too: one without boxes.
        Sentence.feed(x, "box 1 1;");
        Sentence.due(0, () -> x.city(0));
        Sentence.due(0, () -> x.count(1));
        Sentence.due(0, () -> x.count(12));
        // All anew: without a round, wet, thinks and sounds none of the earlier ones are left.
        Sentence.tell(x, "box 0 9;box 9 9;person 0 5 at 1;person 0 0;round 1;wet 9 9;thinks 1;sounds 77;");
        Sentence.tell(x, "box 0 9;box 9 9;person 0 5 at 1;person 0 0;");
        Sentence.due(0, () -> x.count(5));
        Sentence.due(2, () -> x.count(3));
        Sentence.due(5, () -> x.most(1, 2));
        Sentence.due(4, () -> x.later(1, 1, 1));
        // Nor is anything left of boxes that are not told any more.
        for (int i = 0; i < 3; i++) {
            Sentence.tell(x, Sentence.many(6, "box 0 99;") + Sentence.many(8, "person 0 9 at 0;")
                .replaceFirst("person 0 9 at 0", "person 0 9"));
        }
        Sentence.tell(x, "box 0 7;person 0 2;");
        Sentence.due(7, () -> x.reds(0));
        Sentence.due(2, () -> x.most(1, 2));
        Sentence.due(Sentence.NO_SUCH, () -> x.box(1, 0));

        Sentence.of(3, "or the FAULT (all stays).");
        SlotMat stays = Sentence.told(Sentence.STREET + "round 1 0;thinks pensive+1;sounds much;");
        stays.days(3);
        stays.turn(0, 2);
        stays.note(0, 0, 0);
        stays.image();
        int ahead = stays.later(2, 40, 1);
        Sentence.changesNothing(stays, () -> {
            Sentence.due(1, () -> Sentence.tell(stays,
                "box 9 9;box 8 8;box 7 7;person 1 1;person 2 2;round 0;wet 1;thinks 9;sounds 9;person 3 3"));
        });
        Sentence.due(ahead, () -> stays.later(2, 40, 1));
        Sentence.due(1, () -> stays.count(13));
        Sentence.due(0, () -> stays.count(12));
        Sentence.due(1, () -> stays.undo());
        Sentence.due(1, () -> Sentence.bit(stays.restore()));
        Sentence.due(2, () -> stays.count(10));

        Sentence.of(3, "ACTS, what is NOTED, the image are gone (STATUS stays).");
        SlotMat gone = Sentence.told(Sentence.STREET);
        gone.days(3);
        gone.days(21);
        gone.note(0, 0, 0);
        gone.note(0, 0, -1);
        Sentence.tell(gone, "?");
        gone.image();
        Sentence.due(0, () -> Sentence.tell(gone, Sentence.STREET));
        Sentence.due(0, () -> gone.count(10));
        Sentence.due(Sentence.NONE, () -> gone.undo());
        Sentence.due(0, () -> gone.count(11));
        Sentence.due(0, () -> Sentence.bit(gone.restore()));
        Sentence.due(0, () -> gone.count(2));
        Sentence.dueForEach(1, what -> gone.count(what), 13, 14, 15);

        Sentence.of(3, "IllegalArgumentException: the tape has not so many, n below 0 (nothing changes).");
        SlotMat refuses = Sentence.told(Sentence.STREET);
        refuses.days(2);
        Sentence.tell(refuses, "box 40 0;");
        Sentence.feed(refuses, "box 1 1;");
        Sentence.changesNothing(refuses, () -> Sentence.dueForEach(Sentence.ILLEGAL, n -> refuses.city(n),
            21, 40, 700, 701, Integer.MAX_VALUE, -1, -20, Integer.MIN_VALUE));
        Sentence.due(20, () -> refuses.count(12));
        Sentence.due(1, () -> refuses.count(13));
        Sentence.due(4, () -> refuses.fault());
        Sentence.due(0, () -> refuses.city(8));
        SlotMat fresh = new SlotMat();
        Sentence.due(Sentence.ILLEGAL, () -> fresh.city(1));
        Sentence.due(0, () -> fresh.city(0));
    }

    private static void faultsPlace() {
        Sentence.of(4, "The place of the latest city()'s FAULT; NONE without.");
        SlotMat x = new SlotMat();
        Sentence.due(Sentence.NONE, () -> x.fault());
        Sentence.tell(x, "?");
        Sentence.due(0, () -> x.fault());
        Sentence.tell(x, "wet 5;?");
        Sentence.due(6, () -> x.fault());
        Sentence.tell(x, "wet 5;");
        Sentence.due(Sentence.NONE, () -> x.fault());
        Sentence.tell(x, "wet");
        Sentence.due(3, () -> x.fault());
        x.city(0);
        Sentence.due(Sentence.NONE, () -> x.fault());
        // The last byte of the longest text, and behind it.
        Sentence.fault(1, 699, Sentence.many(699, " ") + "?");
        Sentence.fault(1, 700, Sentence.many(697, " ") + "box");
    }

    // ---- what a text may tell ----

    private static void boundsOfLines() {
        Sentence.of(3, "BOXES 0, 1 .. (at most 6): a PLACE (0 to 30), RED (0 to 99).");
        SlotMat boxes = Sentence.told("box 0 0;box 30 99;" + Sentence.many(4, "box 1 1;"));
        Sentence.due(6, () -> boxes.count(0));
        Sentence.due(0, () -> boxes.box(0, 0));
        Sentence.due(0, () -> boxes.box(0, 1));
        Sentence.due(30, () -> boxes.box(1, 0));
        Sentence.due(99, () -> boxes.box(1, 1));
        Sentence.due(1, () -> boxes.box(5, 0));
        Sentence.fault(2, 4, "box 31 0;");
        Sentence.fault(2, 4, "box 9999 0;");
        Sentence.fault(2, 6, "box 0 100;");
        Sentence.fault(2, 7, "box 30 9999;");

        Sentence.of(3, "PEOPLE 0, 1 .. (at most 8): a PLACE (0 to 30), how PENSIVE (0 to 9), perhaps another one AT"
            + " whom one thinks.");
        SlotMat people = Sentence.told("person 0 0;person 30 9 at 0;" + Sentence.many(6, "person 1 1 at 1;"));
        Sentence.due(8, () -> people.count(1));
        Sentence.due(0, () -> people.person(0, 0));
        Sentence.due(0, () -> people.person(0, 1));
        Sentence.due(Sentence.NONE, () -> people.person(0, 2));
        Sentence.due(30, () -> people.person(1, 0));
        Sentence.due(9, () -> people.person(1, 1));
        Sentence.due(0, () -> people.person(1, 2));
        Sentence.due(1, () -> people.person(7, 2));
        Sentence.fault(2, 7, "person 31 0;");
        Sentence.fault(2, 9, "person 0 10;");
        Sentence.fault(2, 10, "person 30 9999;");

        Sentence.of(3, "A ROUND: 1 to 8 BOXES (all of them by number without).");
        SlotMat one = Sentence.told("box 0 0;box 1 1;box 2 2;round 2;");
        Sentence.due(60, () -> one.visits(2, 60));
        Sentence.due(0, () -> one.visits(0, 60));
        SlotMat eight = Sentence.told("box 0 0;box 1 1;box 2 2;round 2 1 1 1 1 1 1 0;");
        Sentence.due(2, () -> eight.count(5));
        Sentence.due(1, () -> eight.visits(0, 8));
        Sentence.due(6, () -> eight.visits(1, 8));
        eight.days(7);
        Sentence.due(0, () -> eight.count(5));
        eight.days(1);
        Sentence.due(2, () -> eight.count(5));
        SlotMat without = Sentence.told(Sentence.many(6, "box 1 1;"));
        for (int day = 0; day < 14; day++) {
            int want = day % 6;
            Sentence.due(want, () -> without.count(5));
            without.days(1);
        }
        Sentence.fault(1, 13, "box 0 0;round;");

        Sentence.of(3, "WET (1 to 8 numbers, 0 to 9 each): that of DAY d is the (d MOD how many)-th; 2 without.");
        SlotMat wet = Sentence.told("wet 9 0 1 2 3 4 5 6;");
        int[] wets = {9, 0, 1, 2, 3, 4, 5, 6, 9, 0};
        for (int howWet : wets) {
            Sentence.due(howWet, () -> wet.count(3));
            wet.days(1);
        }
        SlotMat same = Sentence.told("wet 0;");
        Sentence.due(0, () -> same.count(3));
        same.days(1);
        Sentence.due(0, () -> same.count(3));
        SlotMat dry = Sentence.told("box 0 0;");
        Sentence.due(2, () -> dry.count(3));
        dry.days(7);
        Sentence.due(2, () -> dry.count(3));
        Sentence.fault(1, 3, "wet;");
        Sentence.fault(2, 4, "wet 10;");
        Sentence.fault(2, 18, "wet 0 0 0 0 0 0 0 10;");

        Sentence.of(3, "A TEXT of at most 700 bytes tells it.");
        SlotMat longest = Sentence.told(Sentence.many(692, " ") + "box 4 5;");
        Sentence.due(4, () -> longest.box(0, 0));
        Sentence.isCity("thinks " + "1" + Sentence.many(345, "+1") + " ;");
    }

    private static void tokens() {
        Sentence.of(3, "TOKENS: words (a .. z, the longest row),");
        Sentence.isCity("wet 1;person 1 1 at 1;box 1 1;thinks red;");
        // A longer or a shorter row is another word.
        for (String word : new String[] {"box", "person", "round", "wet", "thinks", "sounds"}) {
            Sentence.fault(1, 0, word + "a 1 1;");
            Sentence.fault(1, 0, word + "z 1 1;");
            Sentence.fault(1, 0, "a" + word + " 1 1;");
            Sentence.fault(1, 0, word.substring(0, word.length() - 1) + " 1 1;");
            Sentence.fault(1, 0, word.substring(1) + " 1 1;");
            Sentence.fault(1, 0, word.charAt(0) + " " + word.substring(1) + " 1 1;");
            Sentence.fault(1, 0, word.toUpperCase() + " 1 1;");
        }
        Sentence.fault(1, 11, "person 1 1 atx 0;");
        Sentence.fault(3, 7, "thinks redd;");
        Sentence.fault(3, 7, "thinks re;");
        Sentence.fault(3, 7, "thinks notpensive;");
        Sentence.fault(1, 9, "thinks 1 orday;");
        Sentence.fault(1, 9, "thinks 1 andday;");

        Sentence.of(3, "NUMBERS (1 to 4 digits)");
        SlotMat digits = Sentence.told("box 0030 099;thinks 9999-9990;person 000 0009;");
        Sentence.due(30, () -> digits.box(0, 0));
        Sentence.due(99, () -> digits.box(0, 1));
        Sentence.due(9, () -> digits.person(0, 1));
        Sentence.due(9, () -> digits.most(1, 2));
        Sentence.fault(2, 4, "box 00030 0;");
        Sentence.fault(2, 7, "thinks 09999;");

        Sentence.of(3, "signs ; ( ) + - * / < = ;");
        // A sign ends where it begins: two of them are two.
        Sentence.isCity("thinks((1))*(2)-(3)<(4);");
        Sentence.fault(1, 9, "thinks 1<=2;");
        Sentence.fault(1, 9, "thinks 1==2;");
        Sentence.fault(1, 6, "wet 1;;");

        Sentence.of(3, "blanks (32, 10) between them count for nothing.");
        Sentence.isCity("");
        Sentence.isCity(" ");
        Sentence.isCity("\n\n");
        Sentence.isCity("\n box\n\n1 \n 1\n; \n");
        Sentence.isCity("box1 1;person1 1at1;round0;wet1 2;thinks(1)or not pensive;sounds much;");
        SlotMat apart = Sentence.told("box 1\n2;");
        Sentence.due(1, () -> apart.box(0, 0));
        Sentence.due(2, () -> apart.box(0, 1));
        // Every byte where a blank might stand: letters make the word longer, digits the number.
        for (int sign = 0; sign < 256; sign++) {
            String text = "box" + (char) sign + "1 1;";
            if (sign == 32 || sign == 10 || sign >= '0' && sign <= '2') {
                Sentence.isCity(text);
            } else if (sign >= '3' && sign <= '9') {
                Sentence.fault(2, 3, text);
            } else {
                Sentence.fault(1, sign >= 'a' && sign <= 'z' ? 0 : 3, text);
            }
        }
    }

    // ---- what may stand where ----

    /** Of all words, a number and all signs these may stand behind the beginning; others are fault 1, or 3. */
    private static void mayStand(String beginning, String may, boolean wordsAre3) {
        List<String> fine = List.of(may.split(" "));
        for (String word : WORDS) {
            stands(beginning, word, fine.contains(word) ? 0 : wordsAre3 ? 3 : 1);
        }
        for (String sign : SIGNS) {
            stands(beginning, sign, fine.contains(sign) ? 0 : 1);
        }
        stands(beginning, "1", fine.contains("1") ? 0 : 1);
        stands(beginning, "?", 1);
    }

    private static void stands(String beginning, String token, int code) {
        String text = beginning + " " + token;
        int place = beginning.length() + 1;
        SlotMat x = new SlotMat();
        int got = Sentence.tell(x, text);
        boolean fine = code == 0 ? x.fault() == Sentence.NONE || x.fault() > place
            : got == code && x.fault() == place;
        if (!fine) {
            Sentence.tellWrong("fault " + got + " at " + x.fault() + " of " + text + ", due is "
                + (code == 0 ? "none there" : code + " at " + place));
        }
    }

    private static void lines() {
        Sentence.of(3, "CITY: LINE*.");
        Sentence.isCity("");
        mayStand("", "box person round wet thinks sounds", false);
        mayStand("box 1 1;", "box person round wet thinks sounds", false);

        Sentence.of(3, "LINE: ('box' PLACE RED | 'person' PLACE PENSIVE ['at' PERSON] | 'round' BOX BOX* | 'wet'"
            + " NUMBER NUMBER* | ('thinks' | 'sounds') EXPR) ';', all in capitals but EXPR being NUMBERS.");
        mayStand("box", "1", false);
        mayStand("box 1", "1", false);
        mayStand("box 1 1", ";", false);
        mayStand("person", "1", false);
        mayStand("person 1", "1", false);
        mayStand("person 1 1", "at ;", false);
        mayStand("person 1 1 at", "1", false);
        mayStand("person 1 1 at 1", ";", false);
        mayStand("box 1 1;box 1 1;round", "1", false);
        mayStand("box 1 1;box 1 1;round 0", "1 ;", false);
        mayStand("wet", "1", false);
        mayStand("wet 1", "1 ;", false);
        mayStand("thinks", "1 ( not " + OF_THINKS, true);
        mayStand("sounds", "1 ( not " + OF_SOUNDS, true);
        mayStand("thinks 1", "; + - * / < = or and", false);
        mayStand("sounds wet", "; + - * / < = or and", false);
    }

    private static void expressions() {
        String behindPart = "; + - * / < = or and";
        Sentence.of(3, "EXPR: AND ('or' AND)*. AND: NOT ('and' NOT)*.");
        mayStand("thinks 1 or", "1 ( not " + OF_THINKS, true);
        mayStand("thinks 1 and", "1 ( not " + OF_THINKS, true);
        mayStand("sounds 1 or", "1 ( not " + OF_SOUNDS, true);
        mayStand("thinks 1 and 1", behindPart, false);
        mayStand("thinks 1 or 1", behindPart, false);
        Sentence.isCity("thinks 1" + Sentence.many(138, " or 1") + ";");
        Sentence.isCity("thinks 1" + Sentence.many(115, " and 1") + ";");

        Sentence.of(3, "NOT: 'not' NOT | SUM [('<' | '=') SUM].");
        mayStand("thinks not", "1 ( not " + OF_THINKS, true);
        mayStand("thinks not 1", behindPart, false);
        mayStand("thinks 1<", "1 ( " + OF_THINKS, true);
        mayStand("thinks 1=", "1 ( " + OF_THINKS, true);
        // There is one test at most.
        mayStand("thinks 1<1", "; + - * / or and", false);
        mayStand("thinks 1=1", "; + - * / or and", false);
        mayStand("thinks 1*2<1-2/3", "; + - * / or and", false);
        mayStand("thinks not not 1<1", "; + - * / or and", false);
        mayStand("thinks 1<1 and 1", behindPart, false);
        mayStand("thinks 1<1 or 1", behindPart, false);
        mayStand("thinks (1<1)", behindPart, false);
        mayStand("thinks 1<(1)", "; + - * / or and", false);
        mayStand("thinks 1<(1", ") + - * / < = or and", false);

        Sentence.of(3, "SUM: PRODUCT (('+' | '-') PRODUCT)*. PRODUCT: PART (('*' | '/') PART)*.");
        for (String sign : new String[] {"+", "-", "*", "/"}) {
            mayStand("thinks 1" + sign, "1 ( " + OF_THINKS, true);
            mayStand("sounds 1" + sign, "1 ( " + OF_SOUNDS, true);
            mayStand("thinks 1" + sign + "1", behindPart, false);
        }
        Sentence.isCity("thinks 1" + Sentence.many(340, "*1") + ";");

        Sentence.of(3, "PART: NUMBER | VALUE | '(' EXPR ')'.");
        mayStand("thinks (", "1 ( not " + OF_THINKS, true);
        mayStand("thinks (1", ") + - * / < = or and", false);
        mayStand("thinks (not(1", ") + - * / < = or and", false);
        mayStand("thinks (1)", behindPart, false);
        mayStand("sounds ((1)", ") + - * / < = or and", false);
        mayStand("thinks pensive", behindPart, false);
    }

    // ---- what rules give ----

    /** How much somebody thinks on the first day by this rule: pensive is 5, red is 60. */
    private static void gives(int want, String rule) {
        SlotMat x = Sentence.toldOnStrike("person 7 5 at 1;person 3 0;box 4 60;thinks " + rule + ";");
        x.days(1);
        int got = x.held(0, 0);
        if (got != want) {
            Sentence.tellWrong(rule + " gives " + got + ", due is " + want);
        }
    }

    private static void values() {
        Sentence.of(3, "From the left;");
        gives(3, "9-4-2");
        gives(7, "9-4+2");
        gives(2, "16/4/2");
        gives(8, "16/4*2");
        gives(6, "7/2*2");
        gives(7, "3*5/2");
        gives(7, "1+2*3");
        gives(5, "1*2+3");
        gives(1, "9-2*4");
        gives(9, "(1+2)*3");
        gives(1, "1 or 1 and 0");
        gives(1, "0 and 0 or 1");
        gives(0, "0 and (0 or 1)");
        gives(1, "not 0 and 1");
        gives(0, "not 1 and 0");
        gives(1, "not (1 and 0)");
        gives(1, "not 1=2");
        gives(1, "(not 1)=0");
        gives(1, "1+1<3");
        gives(1, "5=2+3");

        Sentence.of(3, "ints that wrap,");
        // 65536 * 65536 is 0, 65536 * 32768 the least int, and one less is the greatest one.
        gives(1, "256*256*256*256=0");
        gives(1, "256*256*256*128<0");
        gives(1, "0<256*256*256*128-1");
        gives(1, "256*256*256*128-1+1<0");
        gives(1, "256*256*256*128=0-256*256*256*128");
        gives(0, "256*256*256*128");
        gives(9, "256*256*256*128-1");
        gives(7, "256*256*256*256+7");

        Sentence.of(3, "/ cut down to 0,");
        gives(3, "7/2");
        gives(0, "1/2");
        gives(6, "(0-7)/2+9");
        gives(6, "7/(0-2)+9");
        gives(3, "(0-7)/(0-2)");
        gives(9, "(0-1)/2+9");
        // The least int by -1 wraps to itself.
        gives(1, "256*256*256*128/(0-1)=256*256*256*128");

        Sentence.of(3, "by 0 gives 0;");
        gives(0, "7/0");
        gives(0, "0/0");
        gives(3, "7/0+3");
        gives(2, "2+9*(7/(pensive-5))");
        gives(1, "256*256*256*128/0=0");

        Sentence.of(3, "tests, not, and, or are 1 or 0 (what isn't 0 holds).");
        gives(1, "2<3");
        gives(0, "3<3");
        gives(0, "4<3");
        gives(1, "0-1<0");
        gives(1, "3=3");
        gives(0, "2=3");
        gives(0, "3=2");
        gives(1, "not 0");
        gives(0, "not 1");
        gives(0, "not 7");
        gives(0, "not (0-1)");
        gives(1, "not not 7");
        gives(0, "0 and 0");
        gives(0, "7 and 0");
        gives(0, "0 and 7");
        gives(1, "7 and (0-1)");
        gives(0, "0 or 0");
        gives(1, "7 or 0");
        gives(1, "0 or 7");
        gives(1, "0 or (0-1)");
        gives(1, "7 or 7");
        // What does not hold is 0, and not less: it can be reckoned with.
        gives(3, "(0 or 0)+3");
        gives(3, "(0 and 7)+3");
        gives(3, "(not 7)+3");
        gives(3, "(3<3)+3");
        gives(3, "(2=3)+3");
        gives(4, "(7 or 7)+3");
        gives(4, "(7 and 7)+3");
        gives(4, "(not 0)+3");
        gives(4, "(2<3)+3");
        gives(4, "(3=3)+3");
        // One that stands alone is itself.
        gives(7, "(7)");

        valuesOfThinks();
        valuesOfSounds();
    }

    /**
     * On day 2 person 0 (pensive 4, regret 8, heard 15) thinks by the rule into box 0, which is 18 red and holds
     * 8 of 0 and 2 of 2: those of 1 were written, and the round never comes there.
     */
    private static void thinksOnDay2(int want, String rule) {
        SlotMat x = Sentence.told("box 0 20;box 30 50;person 0 4 at 1;person 1 3 at 0;person 2 1;round 1;thinks "
            + "(day<2)*pensive+(day=2)*(" + rule + ");");
        x.days(2);
        x.write(1);
        x.days(1);
        int got = x.held(0, 0) - 8;
        if (got != want) {
            Sentence.tellWrong(rule + " gives " + got + ", due is " + want);
        }
    }

    private static void valuesOfThinks() {
        Sentence.of(3, "VALUES of THINKS, for a PERSON and the BOX into which one thinks: 'pensive', 'regret',"
            + " 'heard' (of the PERSON), 'red', 'held' (of the BOX), 'day';");
        thinksOnDay2(4, "pensive");
        thinksOnDay2(8, "regret");
        thinksOnDay2(5, "heard-10");
        thinksOnDay2(6, "red-12");
        thinksOnDay2(3, "held-7");
        thinksOnDay2(2, "day");
    }

    /** On day 3, with WET 6, the box at 2 has 28 thoughts fetched, at one who is at 9. */
    private static void soundsOnDay3(int want, String rule) {
        SlotMat x = Sentence.toldOnStrike("box 2 9;person 3 7 at 1;person 9 0;wet 1 2 3 6;sounds " + rule + ";");
        x.days(3);
        x.strike(false);
        Sentence.due(want, () -> x.later(1, 1, 1));
    }

    private static void valuesOfSounds() {
        Sentence.of(3, "of SOUNDS, for THOUGHTS that are fetched: 'much' (how many), 'far' (from the BOX to AT whom"
            + " they are), 'heard' (of that one), 'wet', 'day'.");
        soundsOnDay3(28, "much");
        soundsOnDay3(7, "far");
        soundsOnDay3(6, "wet");
        soundsOnDay3(3, "day");
        // 'heard' is of that one, not of who thinks: 1 has heard 16 by a letter, 0 nothing.
        SlotMat x = Sentence.toldOnStrike("box 0 9;person 0 7 at 1;person 0 0 at 0;sounds heard+1;");
        x.days(1);
        x.write(0);
        x.strike(false);
        Sentence.due(16, () -> x.person(1, 4));
        Sentence.due(16 + 17, () -> x.later(1, 1, 1));
        Sentence.due(16 + 17 + 34, () -> x.later(1, 2, 1));
        Sentence.due(0, () -> x.later(0, 2, 1));
    }

    // ---- faults ----

    private static void fault1() {
        Sentence.of(3, "1 a TOKEN that can't stand there, or is none");
        for (int sign = 0; sign < 256; sign++) {
            boolean blank = sign == 32 || sign == 10;
            if (!blank) {
                Sentence.fault(1, 0, "" + (char) sign);
                Sentence.fault(1, 9, "box 1 1;\n" + (char) sign);
            }
            boolean inWord = sign >= 'a' && sign <= 'z' || sign >= '0' && sign <= '9';
            boolean isSign = "()+-*/<=; \n".indexOf(sign) >= 0;
            if (!inWord && !isSign) {
                Sentence.fault(1, 8, "thinks 1" + (char) sign + "2;");
                Sentence.fault(1, 7, "thinks " + (char) sign + "2;");
                Sentence.fault(1, 5, "wet 1" + (char) sign + "2;");
            }
        }

        Sentence.of(3, "(the text's length where it ends too soon)");
        String whole = "box 5 20 ; person 4 4 at 1 ; round 0 0 ; wet 4 9 ;"
            + " thinks ( not 1 ) + 2 * red < 3 or not 4 and 5 ; sounds much - 1 / 2 = wet ;";
        String[] tokens = whole.split(" ");
        String text = "";
        for (String token : tokens) {
            text += token;
            if (token.equals(";")) {
                Sentence.isCity(text);
            } else {
                Sentence.fault(1, text.length(), text);
                Sentence.fault(1, text.length() + 3, text + " \n ");
            }
            text += " ";
        }
        // What is behind the first n bytes is not read, even if it would go on well.
        SlotMat x = new SlotMat();
        Sentence.feed(x, "box 5 20;");
        Sentence.due(1, () -> x.city(8));
        Sentence.due(8, () -> x.fault());
        // A NUMBER ends with the text: of 20 there's the 2 alone.
        SlotMat y = new SlotMat();
        Sentence.feed(y, "box 5 20;");
        Sentence.due(1, () -> y.city(7));
        Sentence.due(7, () -> y.fault());
    }

    private static void fault2() {
        Sentence.of(3, "2 one that can, but is too much: a NUMBER of 5 digits or more,");
        // Some of these are small numbers if an int wraps.
        String[] numbers = {"00000", "00001", "10000", "99999", "4294967296", "4294967297", "18446744073709551617",
            Sentence.many(500, "0"), Sentence.many(500, "9")};
        for (String number : numbers) {
            Sentence.fault(2, 4, "box " + number + " 0;");
            Sentence.fault(2, 6, "box 0 " + number + ";");
            Sentence.fault(2, 7, "person " + number + " 0;");
            Sentence.fault(2, 9, "person 0 " + number + ";");
            Sentence.fault(2, 14, "person 0 0 at " + number + ";");
            Sentence.fault(2, 14, "box 0 0;round " + number + ";");
            Sentence.fault(2, 16, "box 0 0;round 0 " + number + ";");
            Sentence.fault(2, 4, "wet " + number + ";");
            Sentence.fault(2, 6, "wet 0 " + number + ";");
            Sentence.fault(2, 7, "thinks " + number + ";");
            Sentence.fault(2, 10, "sounds (1<" + number + ");");
        }
        Sentence.isCity("thinks 9999+0000;");

        Sentence.of(3, "or (not in an EXPR) not as told (a PERSON to 7),");
        Sentence.isCity("box 30 99;person 30 9 at 7;wet 9 9;thinks 31+100+8+10;");
        Sentence.fault(2, 4, "box 31 99;");
        Sentence.fault(2, 7, "box 30 100;");
        Sentence.fault(2, 7, "person 31 9;");
        Sentence.fault(2, 10, "person 30 10;");
        Sentence.fault(2, 15, "person 30 9 at 8;");
        Sentence.fault(2, 15, "person 30 9 at 9999;");
        Sentence.fault(2, 4, "wet 10;");
        Sentence.fault(2, 6, "wet 9 10;");

        Sentence.of(3, "the first TOKEN of the 7th BOX,");
        Sentence.isCity(Sentence.many(6, "box 0 0;"));
        Sentence.fault(2, 48, Sentence.many(7, "box 0 0;"));
        Sentence.fault(2, 48, Sentence.many(6, "box 0 0;") + "box");
        Sentence.fault(2, 48, Sentence.many(6, "box 0 0;") + "box 31 0;");
        Sentence.fault(2, 60, Sentence.many(6, "box 0 0;") + "person 0 0; box 0 0;");

        Sentence.of(3, "the 9th PERSON,");
        Sentence.isCity(Sentence.many(8, "person 0 0;"));
        Sentence.fault(2, 88, Sentence.many(9, "person 0 0;"));
        Sentence.fault(2, 88, Sentence.many(8, "person 0 0;") + "person");
        Sentence.fault(2, 96, Sentence.many(8, "person 0 0;") + "box 0 0;person 0 0 at 8;");

        Sentence.of(3, "the 9th BOX of a ROUND,");
        Sentence.isCity("box 0 0;round" + Sentence.many(8, " 0") + ";");
        Sentence.fault(2, 30, "box 0 0;round" + Sentence.many(9, " 0") + ";");
        Sentence.fault(2, 30, "box 0 0;round" + Sentence.many(8, " 0") + " 1;");
        Sentence.fault(2, 30, "box 0 0;round" + Sentence.many(8, " 0") + " 12345");
        Sentence.fault(1, 30, "box 0 0;round" + Sentence.many(8, " 0") + " box");
        Sentence.fault(1, 29, "box 0 0;round" + Sentence.many(8, " 0"));

        Sentence.of(3, "the 9th number of WET,");
        Sentence.isCity("wet" + Sentence.many(8, " 0") + ";");
        Sentence.fault(2, 20, "wet" + Sentence.many(9, " 0") + ";");
        Sentence.fault(2, 20, "wet" + Sentence.many(8, " 0") + " 10;");
        Sentence.fault(1, 20, "wet" + Sentence.many(8, " 0") + " wet");
        Sentence.fault(1, 19, "wet" + Sentence.many(8, " 0"));

        fault2OfExpressions();
    }

    private static void fault2OfExpressions() {
        Sentence.of(3, "of an EXPR within 6 others (a NUMBER, any word, a parenthesis),");
        for (String begun : new String[] {"", "not ", "1+", "1=", "0 or ", "0 and not ", "(1)*", "(((((1)))))*"}) {
            String deep = "thinks " + begun + "((((((";
            int place = deep.length();
            Sentence.isCity("thinks " + begun + "(((((1)))));");
            for (String word : WORDS) {
                Sentence.fault(2, place, deep + word);
            }
            Sentence.fault(2, place, deep + "1))))));");
            Sentence.fault(2, place, deep + "12345");
            Sentence.fault(2, place, deep + "(");
            for (String sign : SIGNS) {
                if (!sign.equals("(")) {
                    Sentence.fault(1, place, deep + sign);
                }
            }
            Sentence.fault(1, place, deep);
            Sentence.fault(1, place, deep + "?");
        }
        // What was closed is not about it any more; sounds counts anew.
        Sentence.isCity("thinks ((((1))+((2)))-(((3))));sounds (((((1)))));");
        Sentence.fault(2, 17, "thinks ((((1)+((((2)");
        Sentence.isCity("thinks " + Sentence.many(60, "(1)+") + "(((((1)))));");
        gives(8, "(((((3)))))+5");
        // As much as can wait at once waits in each of the six.
        String begins = "0 or 1 and not not not not not not 1=0+1*";
        String waits = begins + Sentence.many(4, "(" + begins) + "(" + begins;
        gives(1, waits + "1)))))");
        gives(0, waits + "2)))))");

        Sentence.of(3, "the seventh 'not' side by side;");
        Sentence.isCity("thinks " + Sentence.many(6, "not ") + "1;");
        Sentence.fault(2, 31, "thinks " + Sentence.many(7, "not ") + "1;");
        Sentence.fault(2, 31, "thinks " + Sentence.many(6, "not ") + "not");
        Sentence.fault(2, 36, "thinks 1 or " + Sentence.many(7, "not ") + "1;");
        Sentence.fault(2, 36, "thinks 1+2*(" + Sentence.many(7, "not ") + "1);");
        // Not side by side: something stands between.
        Sentence.isCity("thinks " + Sentence.many(6, "not ") + "(" + Sentence.many(6, "not ") + "1);");
        Sentence.isCity("thinks " + Sentence.many(6, "not ") + "1 and " + Sentence.many(6, "not ") + "1 or "
            + Sentence.many(6, "not ") + "1;");
        Sentence.isCity("thinks " + Sentence.many(6, "not ") + "1;sounds " + Sentence.many(6, "not ") + "1;");
        gives(1, Sentence.many(6, "not ") + "3");
        gives(0, Sentence.many(5, "not ") + "3");
    }

    private static void fault3() {
        Sentence.of(3, "3 any word where a PART must stand that is no VALUE of this EXPR,");
        for (String begun : new String[] {"", "1+", "1-", "1*", "1/", "1<", "1=", "(", "1 or ", "1 and ", "not "}) {
            int place = 7 + begun.length();
            for (String word : new String[] {"much", "far", "wet", "box", "person", "at", "round", "thinks",
                "sounds", "zzz", "x", "or", "and"}) {
                Sentence.fault(3, place, "thinks " + begun + word + ";");
            }
            for (String word : new String[] {"pensive", "regret", "red", "held", "box", "person", "at", "round",
                "thinks", "sounds", "zzz", "x", "or", "and"}) {
                Sentence.fault(3, place, "sounds " + begun + word + ";");
            }
            for (String value : OF_THINKS.split(" ")) {
                Sentence.isCity("thinks " + begun + value + (begun.equals("(") ? ");" : ";"));
            }
            for (String value : OF_SOUNDS.split(" ")) {
                Sentence.isCity("sounds " + begun + value + (begun.equals("(") ? ");" : ";"));
            }
        }
        Sentence.fault(3, 9, "thinks 1+not 1;");
        Sentence.fault(3, 9, "thinks 1<not 1;");
        // Behind a PART a word that is no 'or' or 'and' can't stand.
        Sentence.fault(1, 9, "thinks 1 much;");

        Sentence.of(3, "a BOX of a 'round' that isn't told ahead;");
        Sentence.isCity("box 0 0;box 0 0;round 1 0;");
        Sentence.fault(3, 6, "round 0;");
        Sentence.fault(3, 14, "box 0 0;round 1;");
        Sentence.fault(3, 14, "box 0 0;round 1;box 0 0;");
        Sentence.fault(3, 16, "box 0 0;round 0 1;box 0 0;");
        Sentence.fault(3, 28, "box 0 0;round" + Sentence.many(7, " 0") + " 1;");
        Sentence.isCity(Sentence.many(6, "box 0 0;") + "round 5;");
        Sentence.fault(3, 54, Sentence.many(6, "box 0 0;") + "round 6;");
        Sentence.fault(3, 54, Sentence.many(6, "box 0 0;") + "round 9999;");
        // Boxes of the city before are not told ahead.
        SlotMat x = Sentence.told("box 0 0;box 1 1;");
        Sentence.due(3, () -> Sentence.tell(x, "box 0 0;round 1;"));
        Sentence.due(14, () -> x.fault());
    }

    private static void faults4And5() {
        Sentence.of(3, "4 a PERSON AT whom one can't think: oneself;");
        for (int person = 0; person < 8; person++) {
            String others = Sentence.many(person, "person 0 0;");
            Sentence.fault(4, others.length() + 14, others + "person 0 0 at " + person + ";");
            Sentence.fault(4, others.length() + 14, others + "person 0 0 at 000" + person + ";");
            Sentence.isCity(others + "person 0 0 at " + (person + 1) % 8 + ";");
        }

        Sentence.of(3, "5 a second 'round', 'wet', 'thinks', 'sounds'.");
        Sentence.fault(5, 16, "box 0 0;round 0;round 0;");
        Sentence.fault(5, 6, "wet 2;wet 2;");
        Sentence.fault(5, 9, "thinks 0;thinks 0;");
        Sentence.fault(5, 9, "sounds 0;sounds 0;");
        Sentence.fault(5, 34, "thinks 0;wet 0;sounds 0;box 0 0; \nwet 0;");
        Sentence.isCity("box 0 0;sounds 0;thinks 0;wet 0;round 0;");
        // None of the earlier text's, nor of one that had a fault: not even what waits in it to be closed.
        SlotMat x = Sentence.told("box 0 0;round 0;wet 1;thinks 1;sounds 1;");
        Sentence.due(0, () -> Sentence.tell(x, "box 0 0;round 0;wet 1;thinks 1;sounds 1;"));
        Sentence.due(1, () -> Sentence.tell(x, "box 0 0;round 0;wet 1;thinks 1;sounds 1;?"));
        Sentence.due(0, () -> Sentence.tell(x, "box 0 0;round 0;wet 1;thinks 1;sounds 1;"));
        for (String begun : new String[] {"(((((", "(((((1+", "not not not not not not ", "1<2 or (3=", "(1"}) {
            Sentence.due(1, () -> Sentence.tell(x, "box 0 0;thinks " + begun + ";"));
            Sentence.due(0, () -> Sentence.tell(x, "box 0 0;person 0 0;thinks (((((not not not not not not 4)))))+3;"));
            Sentence.due(4, () -> x.most(1, 2));
            Sentence.due(1, () -> Sentence.tell(x, "thinks " + begun));
            Sentence.due(1, () -> Sentence.tell(x, "box 0 0;sounds 1);"));
        }

        Sentence.of(3, "(AT may be one who is told behind, or never: then one thinks at nobody.)");
        SlotMat at = Sentence.told("person 0 0 at 2;person 0 0 at 3;person 0 0 at 0;");
        Sentence.due(2, () -> at.person(0, 2));
        Sentence.due(Sentence.NONE, () -> at.person(1, 2));
        Sentence.due(0, () -> at.person(2, 2));
        Sentence.due(Sentence.NONE, () -> at.write(1));
        SlotMat alone = Sentence.told("person 0 0 at 7;");
        Sentence.due(Sentence.NONE, () -> alone.person(0, 2));
        SlotMat eighth = Sentence.told("person 0 0 at 7;" + Sentence.many(7, "person 0 0;"));
        Sentence.due(7, () -> eighth.person(0, 2));
    }

    private static void whichFault() {
        Sentence.of(3, "FAULTS, the first along the text,");
        Sentence.fault(5, 6, "wet 1;wet 10;box 31 0;?");
        Sentence.fault(4, 14, "person 0 0 at 0;wet 10;?");
        Sentence.fault(3, 6, "round 0 12345;wet 10;?");
        Sentence.fault(3, 7, "thinks zzz+12345;?");
        Sentence.fault(2, 4, "box 31 100;?");
        Sentence.fault(2, 6, "box 0 100 1;");
        Sentence.fault(1, 4, "box ;box 31 0;");
        Sentence.fault(2, 14, "person 0 0 at 8 8;");

        Sentence.of(3, "at a TOKEN's first byte,");
        Sentence.fault(1, 3, " \n boxes 1 1;");
        Sentence.fault(2, 7, "box \n\n 31 0;");
        Sentence.fault(2, 5, "box  99999 0;");
        Sentence.fault(3, 10, "thinks \n  much;");
        Sentence.fault(4, 17, "person 0 0 at\n \n 0;");
        Sentence.fault(5, 9, "wet 1; \n wet 1;");

        Sentence.of(3, "of one TOKEN the least:");
        // 1, not 2: five digits where no NUMBER can stand.
        Sentence.fault(1, 0, "12345");
        Sentence.fault(1, 8, "box 0 0 12345;");
        Sentence.fault(1, 9, "thinks 1 12345;");
        Sentence.fault(1, 16, "person 0 0 at 1 12345;");
        // 2, not 3: a word in an EXPR within 6 others, a 9th BOX, a BOX of five digits, that are not told.
        Sentence.fault(2, 13, "thinks ((((((zzz");
        Sentence.fault(2, 30, "box 0 0;round" + Sentence.many(8, " 0") + " 7;");
        Sentence.fault(2, 6, "round 00000;");
        // 2, not 4: oneself, in five digits.
        Sentence.fault(2, 14, "person 0 0 at 00000;");
        Sentence.fault(2, 25, "person 0 0;person 0 0 at 00001;");
    }
}
