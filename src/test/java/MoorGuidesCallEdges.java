/** The tape, slides by call, what is undone, images and counts: each boundary of their sentences from both sides. */
public final class MoorGuidesCallEdges extends Dues {
    private static final String PLAIN = "part a 100;part b 100;person x knows a;person y;";

    private static int feedBlanks(MoorGuides x) {
        return x.feed(0x20202020, 0x20202020, 0x20202020, 0x20202020, 0x20202020);
    }

    // ---- the tape and the text ------------------------------------------------------------------------------

    private static void newObjects() {
        of("1 a new object: a TEXT without LINES; an empty TAPE");
        MoorGuides x = new MoorGuides();
        due("an empty tape", x.text(1), -2);
        for (int what = 0; what <= 9; what++) {
            due("count " + what, x.count(what), 0);
        }
        due("no fault", x.fault(0), 0);
        due("no place", x.fault(1), -1);
        due("nothing to undo", x.undo(), -1);
        due("no image", x.back(), -1);
        due("no claims", x.wrongly(), 0);
        due("no part", x.part(0, 0), -1);
        due("no person", thrown(x, 0, 0), 1);
        due("no party", x.led(0, 0), -1);
        due("no slide", x.slide(0), -1);
        due("night 0", x.nights(0), 0);
        due("one more object", new MoorGuides().nights(0), 0);
        due("NONE", MoorGuides.NONE, -1);
        of("An object is used for at most 512 calls");
        x = told(PLAIN);
        for (int i = 5; i <= 512; i++) {
            due("call " + i, x.look(0, 2), 1);
        }
    }

    private static void feeding() {
        of("2 feed: how many it has; NONE, and none come, if it would have more than 900");
        MoorGuides x = new MoorGuides();
        for (int i = 1; i <= 44; i++) {
            due("feed", feedBlanks(x), 20 * i);
        }
        due("880 and 20 are 900", x.feed(0x20202020, 0x20202020, 0x20202020, 0x6e656172, 0x2037203b), 900);
        due("920 would be too many", x.feed(0x7878, 0x7878, 0x7878, 0x7878, 0x7878), -1);
        due("and again", feedBlanks(x), -1);
        due("none came", x.text(901), -2);
        due("all 900", x.text(900), 1);
        due("with their last bytes", x.count(9), 7);
        due("empty then", feedBlanks(x), 20);
        of("2 feed: four of each number, the highest first");
        x = new MoorGuides();
        x.feed(0x6e656172, 0x20333b73, 0x65656420, 0x343b6e65, 0x61722035);
        due("near 3;", x.text(7), 1);
        due("near", x.count(9), 3);
        x.feed(0x6e656172, 0x20333b73, 0x65656420, 0x343b6e65, 0x61722035);
        due("near told again, at its place", x.text(20), -1);
        due("kind", x.fault(0), 3);
        due("place", x.fault(1), 14);
        for (int shift = 0; shift < 32; shift += 8) {
            x.feed(0x20202020, 0x20202020, 0x20202020, 0x20202020, 0x20202020 ^ 0xa0 << shift);
            due("a byte above 127", x.text(20), -1);
            due("its place", x.fault(1), 19 - shift / 8);
            x.feed(0x20202020 ^ 0x20 << shift, 0x20202020, 0x20202020, 0x20202020, 0x20202020);
            due("a byte 0", x.text(20), -1);
            due("its place", x.fault(1), 3 - shift / 8);
        }
    }

    private static void texts() {
        of("3 text: the TAPE's first n bytes (it is empty then) are the TEXT: how many LINES");
        MoorGuides x = new MoorGuides();
        feed(x, "near 3;near 4;");
        due("the first 7", x.text(7), 1);
        due("near", x.count(9), 3);
        due("the rest is gone, too", x.text(1), -2);
        feed(x, "near 5;");
        due("the first 0", x.text(0), 0);
        due("near", x.count(9), 0);
        due("the rest is gone, too", x.text(1), -2);
        feed(x, "near 6;");
        due("all", x.text(20), 1);
        due("near", x.count(9), 6);
        of("3 text: -2, and the TAPE stays: there are not so many, n is below 0");
        feed(x, "near 7;near;");
        for (int n : new int[] {21, 900, 901, Integer.MAX_VALUE, -1, Integer.MIN_VALUE}) {
            due("text " + n, x.text(n), -2);
            due("all stays", x.count(9), 6);
        }
        due("so does the tape", x.text(7), 1);
        due("near", x.count(9), 7);
        due("of an empty one", x.text(1), -2);
        due("of an empty one", x.text(0), 0);
        of("4 fault: of the latest text() that was not -2");
        feed(x, "near 7;near;");
        x.text(12);
        due("-2", x.text(1), -2);
        due("-2", x.text(-1), -2);
        due("kind", x.fault(0), 3);
        due("place", x.fault(1), 7);
        due("what 2", x.fault(2), -1);
        due("what -1", x.fault(-1), -1);
        feed(x, "near 7;");
        due("till there is another", x.fault(0), 3);
        x.text(7);
        due("none", x.fault(0), 0);
        due("no place", x.fault(1), -1);
        due("what 2", x.fault(2), -1);
    }

    private static void freshStart() {
        of("3 text: NIGHT 0 is next, nobody lost, no CLAIMS, no IMAGE, nothing to undo then");
        MoorGuides x = told("part a 0;part b 100;person x knows b;person y knows b;slide a 3;near 1;");
        x.lose(0, 0);
        x.lose(1, 1);
        x.nights(1);
        x.slide(1);
        x.lose(1, 1);
        x.claim(0, 0, 0);
        x.claim(0, 0, 1);
        x.keep();
        due("NONE with a FAULT", tell(x, "part c 1;person z;party"), -1);
        int[] stay = {2, 2, 0, 2, 0, 1, 2, 1, 2, 1};
        for (int what = 0; what <= 9; what++) {
            due("all stays: count " + what, x.count(what), stay[what]);
        }
        due("all stays: named", x.named(0, letters("c")), -1);
        due("all stays: named", x.named(0, letters("b")), 1);
        due("all stays: lost", x.look(1, 5), 1);
        due("all stays: out", x.look(1, 3), 1);
        due("all stays: claims", x.wrongly(), 1);
        due("all stays: an undo", x.undo(), 1);
        due("all stays: the image", x.back(), 1);
        x.lose(1, 0);
        due("a text of its own", tell(x, "part a 100;part b 100;person x;person y;"), 4);
        int[] fresh = {2, 2, 0, 0, 0, 0, 0, 0, 0, 0};
        for (int what = 0; what <= 9; what++) {
            due("count " + what, x.count(what), fresh[what]);
        }
        due("nobody gone", x.look(0, 1), 0);
        due("nobody lost", x.look(1, 5), -1);
        due("nobody was out", x.look(1, 3), 0);
        due("nobody knows", x.look(1, 2), 0);
        due("no image", x.back(), -1);
        due("nothing to undo", x.undo(), -1);
        due("no claims", x.against(0), -1);
        due("nothing wrong", x.wrongly(), 0);
    }

    // ---- slides and undone ones -----------------------------------------------------------------------------

    private static void slides() {
        of("A SLIDE by call is on the NIGHT that is next");
        MoorGuides x = told(PLAIN);
        x.nights(2);
        due("one", x.slide(0), 1);
        due("ahead of it", x.knows(0, 0, 1), 1);
        due("on it", x.knows(0, 0, 2), 0);
        due("behind it", x.knows(0, 0, 3), 0);
        x.lose(0, 0);
        x.nights(1);
        due("learned on it", x.look(0, 2), 1);
        due("another part", x.slide(1), 2);
        due("is not forgotten by it", x.look(0, 2), 1);
        of("28 slide: (12 at most in all): how many there are; NONE: no such PART, there are 12");
        x = told(PLAIN + "slide a 9;slide a 9;slide b 9;slide b 9;");
        due("part 2", x.slide(2), -1);
        due("part -1", x.slide(-1), -1);
        for (int i = 5; i <= 12; i++) {
            due("slide", x.slide(1), i);
        }
        due("a 13th", x.slide(0), -1);
        due("a 13th of no part", x.slide(2), -1);
        due("12", x.count(3), 12);
        due("a 13th can't be undone", x.count(8), 8);
        due("nor did it come", x.look(0, 2), 1);
        due("one less", x.undo(), 7);
        due("a 12th", x.slide(0), 12);
        due("did come", x.look(0, 2), 0);
        x = told(PLAIN);
        for (int i = 1; i <= 12; i++) {
            due("all by call", x.slide(i % 2), i);
        }
        due("a 13th", x.slide(0), -1);
        x = told(PLAIN);
        goBy(x, 1000);
        due("on night 1000", x.slide(0), 1);
        due("knows on 998", x.knows(0, 0, 998), 1);
    }

    private static void undoing() {
        of("29 undo: the latest is undone: how many are left; NONE: none");
        MoorGuides x = told(PLAIN);
        due("none", x.undo(), -1);
        x.lose(0, 0);
        x.slide(0);
        x.lose(0, 1);
        x.lose(0, -1);
        due("four", x.count(8), 4);
        int[][] ahead = {{1, 0, 1}, {0, 0, 1}, {0, 1, 0}, {-1, 1, 0}};
        for (int left = 3; left >= 0; left--) {
            due("left", x.undo(), left);
            due("lost in", x.look(0, 5), ahead[3 - left][0]);
            due("knows", x.look(0, 2), ahead[3 - left][1]);
            due("slides", x.count(3), ahead[3 - left][2]);
        }
        due("none", x.undo(), -1);
        of("what is refused can't be undone");
        x.lose(0, 5);
        x.lose(7, 0);
        x.slide(5);
        due("none", x.count(8), 0);
        due("none", x.undo(), -1);
        of("the latest first (20 at most)");
        for (int calls = 19; calls <= 23; calls++) {
            x = told(PLAIN);
            for (int i = 0; i < calls; i++) {
                due("lose", x.lose(0, i % 2), true);
                due("to undo", x.count(8), Math.min(i + 1, 20));
            }
            for (int left = Math.min(calls, 20) - 1; left >= 0; left--) {
                due("undo of " + calls, x.undo(), left);
            }
            due("no more", x.undo(), -1);
            due("lost as 20 ahead of it", x.look(0, 5), calls <= 20 ? -1 : (calls - 21) % 2);
        }
        of("20 at most: of slides, too");
        x = told(PLAIN);
        x.slide(0);
        x.slide(0);
        for (int i = 0; i < 19; i++) {
            x.lose(1, i % 2);
        }
        for (int left = 19; left >= 0; left--) {
            due("undo", x.undo(), left);
        }
        due("the first slide stays", x.count(3), 1);
        due("known no more", x.look(0, 2), 0);
        due("nobody lost", x.look(1, 5), -1);
    }

    private static void nightsBetween() {
        of("if no NIGHT went by since");
        MoorGuides x = told(PLAIN);
        x.lose(0, 1);
        x.slide(0);
        due("nights 0", x.nights(0), 0);
        due("both still", x.count(8), 2);
        due("refused nights", x.nights(201), -1);
        due("both still", x.count(8), 2);
        due("nights 1", x.nights(1), 1);
        due("neither", x.count(8), 0);
        due("undo", x.undo(), -1);
        due("the slide stays", x.count(3), 1);
        due("lost in b it was", x.look(0, 2), 2);
        x.lose(1, 1);
        due("one since", x.undo(), 0);
        due("nobody lost", x.look(1, 5), -1);
        due("and no more", x.undo(), -1);
    }

    // ---- images and counts ----------------------------------------------------------------------------------

    private static void images() {
        of("31 back: NONE: there is none");
        MoorGuides x = told("part a 100;part b 0;person x;person y;person z;seed 4;");
        due("none", x.back(), -1);
        of("30 keep: which NIGHT is next; 31 back: all is as in the IMAGE (nothing to undo then)");
        due("on night 0", x.keep(), 0);
        x.nights(3);
        due("back on night 0", x.back(), 0);
        x.nights(2);
        x.lose(0, 0);
        x.lose(1, 1);
        x.slide(0);
        due("in place of one ahead", x.keep(), 2);
        due("what can be undone stays so", x.count(8), 3);
        due("undone, but not in the image", x.undo(), 2);
        x.nights(1);
        x.slide(0);
        x.slide(1);
        due("out", x.look(0, 3), 1);
        due("gone", x.count(7), 1);
        for (int i = 0; i < 2; i++) {
            due("back", x.back(), 2);
            due("night", x.count(5), 2);
            due("nothing to undo", x.count(8), 0);
            due("undo", x.undo(), -1);
            due("x was lost", x.look(0, 5), 0);
            due("y was lost", x.look(1, 5), 1);
            due("z wasn't", x.look(2, 5), -1);
            due("not out", x.look(0, 3), 0);
            due("not gone", x.look(1, 1), 0);
            due("a slide", x.count(3), 1);
            due("not known", x.knows(0, 0, 2), 0);
            x.nights(1);
            due("known", x.knows(0, 0, 2), 1);
            due("gone", x.look(1, 1), 1);
        }
        due("keep on night 3", x.keep(), 3);
        due("back at once", x.back(), 3);
        due("gone in the image", x.look(1, 1), 1);
        due("known in the image", x.look(0, 2), 1);
        of("An IMAGE keeps all but CLAIMS");
        x.claim(0, 0, 0);
        x.claim(0, 0, 1);
        due("back", x.back(), 3);
        due("both stay", x.count(6), 2);
        due("wrong still", x.wrongly(), 1);
        imageOfNumbers();
    }

    private static void imageOfNumbers() {
        of("An IMAGE keeps which number is the last one");
        MoorGuides x = told("part a 0;part b 0;person x;person y;person z;seed 4;law out 50;");
        long first = after(4);
        x.keep();
        for (int i = 0; i < 3; i++) {
            x.lose(2, 0);
            x.nights(1);
            due("gone by the first number", x.look(2, 1), drawn(first) < 50 ? 0 : 1);
            x.lose(0, 0);
            x.nights(1);
            due("gone by the second one", x.look(0, 1), drawn(after(first)) < 50 ? 0 : 1);
            due("back", x.back(), 0);
        }
        due("slides of the image", x.slide(0), 1);
        x.keep();
        tell(x, "part a 1;");
        due("a text has no image", x.back(), -1);
        due("a text has one of its own", x.keep(), 0);
        due("back", x.back(), 0);
        due("a text with a fault", tell(x, "part"), -1);
        due("its image stays", x.back(), 0);
        due("no slides", x.count(3), 0);
    }

    /** The slides of an image come again as they were, on their parts and nights. */
    private static void imageOfSlides() {
        of("An IMAGE keeps slides, and when a part was learned");
        MoorGuides x = told("part a 100;part b 100;person x knows a knows b forget 9;slide b 4;");
        x.nights(1);
        x.slide(0);
        x.lose(0, 0);
        x.nights(1);
        x.keep();
        x.lose(0, 0);
        x.slide(1);
        x.nights(3);
        x.slide(0);
        due("back", x.back(), 2);
        int[] a = {0, 1, 1, 1, 1, 1, 1, 1, 1, 1, 1, 0};
        for (int night = 0; night < a.length; night++) {
            due("a on " + night, x.knows(0, 0, night), a[night]);
            due("b on " + night, x.knows(0, 1, night), night < 4 ? 1 : 0);
        }
        due("slides", x.count(3), 2);
        due("a third", x.slide(1), 3);
        due("b tonight", x.knows(0, 1, 2), 0);
        due("b last night", x.knows(0, 1, 1), 1);
    }

    /** A slide undone behind the image, another one in its place. */
    private static void imageOfAnother() {
        of("An IMAGE keeps which parts slid");
        MoorGuides x = told("part a 100;part b 100;person x knows a knows b;");
        x.slide(0);
        x.keep();
        x.undo();
        x.slide(1);
        due("b slid", x.look(0, 2), 1);
        due("back", x.back(), 0);
        due("a slid", x.look(0, 2), 2);
        x.nights(2);
        x.slide(0);
        x.keep();
        x.undo();
        x.nights(1);
        x.lose(0, 0);
        x.nights(1);
        x.slide(0);
        due("back", x.back(), 2);
        due("a on 1", x.knows(0, 0, 1), 0);
        due("b on 2", x.knows(0, 1, 2), 1);
        due("two slides", x.count(3), 2);
    }

    // ---- as much of all as may be ---------------------------------------------------------------------------

    private static String fullHouse() {
        StringBuilder s = new StringBuilder(longRow());
        for (char who = 'p'; who <= 'u'; who++) {
            s.append("person ").append(who).append(" knows a knows b;");
        }
        for (int i = 0; i < 8; i++) {
            s.append("party a ").append((char) ('a' + i)).append(" 0 ").append(i + 1).append(';');
        }
        return s.append("slide h 1;slide h 2;slide h 3;slide h 4;law out 100;law pick odds;").toString();
    }

    private static void fullHouses() {
        of("eight PARTS, six PEOPLE, eight PARTIES, twelve SLIDES");
        MoorGuides x = told(fullHouse());
        for (int i = 5; i <= 12; i++) {
            due("slide", x.slide(7), i);
        }
        due("knows", x.look(5, 2), 3);
        due("known by six", x.part(1, 3), 6);
        due("wanted by all", x.part(0, 2), 8);
        due("steps", x.steps(7, 0), 7);
        due("hands", x.led(1, 0), 0);
        due("can't be led", x.led(7, 0), -2);
        due("share", x.share(0, -1), 3);
        due("the second by", x.share(0, 1), 1);
        due("worth", x.worth(5, 0), 0);
        due("a stranger", x.stranger(255, 0), 33);
        due("one who knows c and d", x.stranger(12, 0), 7);
        due("fewest", x.fewest(255, 1), 252);
        due("order", x.order(5, 255, 0), 1);
        due("ordered", x.ordered(5, 255, 7), 7);
        due("near", x.pick(0, 1), 2);
        due("way", x.pick(1, 1), 2);
        due("safe", x.pick(2, 0), 0);
        due("told", x.pick(3, 1), 2);
        due("round", x.round(7, 3), -2);
        due("season", x.season(0, 1, 50, 1), 0);
        due("led on the first night", x.season(0, 1, 50, 2), 2);
        for (int who = 0; who < 6; who++) {
            due("lost", x.lose(who, who + 2), true);
        }
        due("nights", x.nights(1), 1);
        for (int who = 0; who < 6; who++) {
            due("out", x.look(who, 3), 1);
            due("knew the own part on night 0", x.knows(who, who + 2, 0), 1);
            due("and does now, unless it slid", x.look(who, 2), who == 5 ? 3 : 3 | 1 << who + 2);
        }
        of("as little of it in the next TEXT");
        due("a short one", tell(x, "part a 100;person p knows a;party a a 0 3;"), 3);
        due("share", x.share(0, -1), 3);
        due("worth", x.worth(0, 0), 3);
        due("hands", x.led(0, 0), 0);
        due("a stranger", x.stranger(1, 0), 0);
        due("known by one", x.part(0, 3), 1);
        due("wanted by one", x.part(0, 2), 1);
        due("a full one again", tell(x, fullHouse()), 28);
        due("another short one", tell(x, "part z 100;person z;party z z 0 3;"), 3);
        due("no b", x.named(0, letters("b")), -1);
        due("no q", x.named(1, letters("q")), -1);
        due("share", x.share(0, -1), 0);
        due("a stranger", x.stranger(1, 0), 3);
        due("wanted by one", x.part(0, 2), 1);
        due("known by nobody", x.part(0, 3), 0);
        due("no slides", x.slide(0), 1);
    }

    private static void counting() {
        of("32 count: 0 PARTS .. 9 near. NONE for another what");
        String most = parts(8) + "person p;person q;person r;person s;person t;person u;" + many("party a a 0 0;", 8)
            + many("slide a 999;", 4) + "near 8;law out 1" + many("+1", 31) + ";law pick 1;";
        MoorGuides x = told(most);
        int[] counts = {8, 6, 8, 4, 64, 0, 0, 0, 0, 8};
        for (int what = 0; what <= 9; what++) {
            due("what " + what, x.count(what), counts[what]);
        }
        for (int what : new int[] {-1, 10, Integer.MIN_VALUE, Integer.MAX_VALUE}) {
            due("what " + what, x.count(what), -1);
        }
        x = told("part a 0;person p;person q;person r;person s;person t;person u;");
        for (int who = 0; who < 6; who++) {
            due("lost", x.lose(who, 0), true);
            due("to undo", x.count(8), who + 1);
            due("none gone yet", x.count(7), 0);
        }
        x.nights(1);
        due("all six gone", x.count(7), 6);
        due("night 1", x.count(5), 1);
        due("nobody left to pick", x.pick(0, 0), -2);
    }

    public static void main(String[] args) {
        newObjects();
        feeding();
        texts();
        freshStart();
        slides();
        undoing();
        nightsBetween();
        images();
        imageOfSlides();
        imageOfAnother();
        fullHouses();
        counting();
        end();
    }
}
