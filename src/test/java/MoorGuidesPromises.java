/** Each promise of the document by itself: ordinary inputs, the edges that it names, wrong inputs. */
public final class MoorGuidesPromises extends Dues {
    private static void newObject() {
        of("1 a new object");
        MoorGuides x = new MoorGuides();
        for (int what = 0; what <= 9; what++) {
            due("count " + what, x.count(what), 0);
        }
        due("fault(0)", x.fault(0), 0);
        due("fault(1)", x.fault(1), -1);
        due("named", x.named(0, letters("a")), -1);
        due("named 0", x.named(0, 0), -1);
        due("text(0)", x.text(0), 0);
        due("text(1)", x.text(1), -2);
        due("undo", x.undo(), -1);
        due("back", x.back(), -1);
        due("wrongly", x.wrongly(), 0);
        due("share", x.share(0, -1), 0);
        due("nights", x.nights(200), 200);
        due("NONE", MoorGuides.NONE, -1);
    }

    private static void feeding() {
        of("2 feed");
        MoorGuides x = new MoorGuides();
        for (int i = 1; i <= 45; i++) {
            due("feed", x.feed(0x20202020, 0x20202020, 0x20202020, 0x20202020, 0x20202020), 20 * i);
        }
        due("feed beyond", x.feed(0, 0, 0, 0, 0), -1);
        due("text 901", x.text(901), -2);
        due("text 900", x.text(900), 0);
        due("feed again", x.feed(0x6e656172, 0x2037203b, 0x20202020, 0x20202020, 0x20202020), 20);
        due("text", x.text(20), 1);
        due("near", x.count(9), 7);
        x.feed(0x20202020, 0x20202020, 0x20202020, 0x20202020, 0x202020ff);
        due("a byte above 127", x.text(20), -1);
        due("its place", x.fault(1), 19);
    }

    private static void texts() {
        of("3 text");
        MoorGuides x = new MoorGuides();
        feed(x, "near 3;");
        due("below 0", x.text(-1), -2);
        due("too many", x.text(21), -2);
        due("the tape stays", x.text(7), 1);
        due("the tape is empty", x.text(1), -2);
        x = told("part a 100;person x;seed 5;near 2;");
        x.lose(0, 0);
        x.claim(0, 0, 0);
        x.slide(0);
        x.keep();
        x.nights(3);
        x.lose(0, 0);
        due("a fault", tell(x, "part a 1;person;"), -1);
        due("all stays: parts", x.part(0, 0), 100);
        due("all stays: night", x.count(5), 3);
        due("all stays: claims", x.count(6), 1);
        due("all stays: undo", x.count(8), 1);
        due("all stays: slides", x.count(3), 1);
        due("all stays: near", x.count(9), 2);
        due("all stays: lost", x.look(0, 5), 0);
        due("but the tape is empty", x.feed(0, 0, 0, 0, 0), 20);
        x.text(0);
        due("a text without lines: parts", x.count(0), 0);
        due("a text without lines: night", x.count(5), 0);
        due("a text without lines: claims", x.count(6), 0);
        due("a text without lines: undo", x.count(8), 0);
        due("a text without lines: image", x.back(), -1);
        x = told("part a 100;person x knows a;");
        x.lose(0, 0);
        due("lines", tell(x, "\n part a 7\n;person x;\n"), 2);
        due("nobody lost", x.look(0, 5), -1);
        due("knows nothing", x.look(0, 2), 0);
        due("odds", x.part(0, 0), 7);
    }

    private static void faultsOfTokens() {
        of("4 fault (1)");
        faulty("part", 1, 4);
        faulty("part a", 1, 6);
        faulty("part a 1", 1, 8);
        faulty("part a 1  ", 1, 10);
        faulty("part a 1 ;;", 1, 10);
        faulty("part abcdefg 1;", 1, 5);
        fine("part abcdef 1;", 1);
        faulty("part odds 1;", 1, 5);
        faulty("part weather 1;", 1, 5);
        faulty("part or 1;", 1, 5);
        faulty("part pick 1;", 1, 5);
        faulty("part a b;", 1, 7);
        faulty("part 1 1;", 1, 5);
        faulty("part a 1 knows a;", 1, 9);
        faulty("part a 1 1;", 1, 9);
        faulty("Part a 1;", 1, 0);
        faulty("part a 1;\tpart b 1;", 1, 9);
        faulty("part a -1;", 1, 7);
        faulty("person x beside a;", 1, 9);
        faulty("person x knows 1;", 1, 15);
        faulty("person x knows cost;", 1, 15);
        faulty("person x cost;", 1, 13);
        faulty("part a 1;party a;", 1, 16);
        faulty("part a 1;party a a 1;", 1, 20);
        faulty("weather", 1, 7);
        faulty("slide 1 1;", 1, 6);
        faulty("near;", 1, 4);
        faulty("seed x;", 1, 5);
        faulty("law odds;", 1, 4);
        faulty("law out odds", 1, 12);
        faulty("law out (odds;", 1, 13);
        faulty("law out odds);", 1, 12);
        faulty("law out ();", 1, 9);
        faulty("law out 1 2;", 1, 10);
        faulty("law out 1 < 2 < 3;", 1, 14);
        faulty("law out 1 < = 2;", 1, 12);
        faulty("law out 1 > < 2;", 1, 12);
        faulty("law out 1 =< 2;", 1, 11);
        faulty("law out 1 <>= 2;", 1, 12);
        faulty("law out 1 + not 1;", 1, 12);
        faulty("law out 1 < not 1;", 1, 12);
        faulty("law out 1 not 1;", 1, 10);
        faulty("law out - 1;", 1, 8);
        faulty("law out 1 and;", 1, 13);
        faulty("law out part;", 1, 8);
        faulty("law out out;", 1, 8);
        faulty("law out a;", 1, 8);
        fine("law out (1 < 2) < 3;", 1);
        fine("law out 1 < 2 and 2 < 3 or not not 3 >= 4;", 1);
        fine("law out not(1)and not(2);", 1);
        fine("parta1;".replace("parta", "part a"), 1);
        fine("part a1beside;".replace("beside", ""), 1);
        fine("", 0);
        fine(" \n ", 0);
        faulty(many(";", 900), 1, 0);
        faulty("law out" + many("(", 893), 2, 15);
        faulty("law out 1" + many(" ", 891), 1, 900);
        fine("near 1;" + many(" ", 893), 1);
    }

    private static void faultsOfSizes() {
        of("4 fault (2)");
        fine("part a 100;", 1);
        faulty("part a 101;", 2, 7);
        faulty("part a 99999999999999999999;", 2, 7);
        fine("part a 000000000000000000000100;", 1);
        fine(parts(8), 8);
        faulty(parts(8) + "part a 1;", 2, 80);
        String people = "person a;person b;person c;person d;person e;person f;";
        fine(people, 6);
        faulty(people + "person a;", 2, 54);
        String party = "part a 1;" + many("party a a 0 0;", 8);
        fine(party, 9);
        faulty(party + "party x x;", 2, 9 + 8 * 14);
        String slides = "part a 1;" + many("slide a 0;", 4);
        fine(slides, 5);
        faulty(slides + "slide x;", 2, 49);
        fine("person x cost 99;", 1);
        faulty("person x cost 100;", 2, 14);
        fine("person x from 999;", 1);
        fine("person x from 0;", 1);
        faulty("person x from 1000;", 2, 14);
        fine("person x till 0;", 1);
        faulty("person x till 1000;", 2, 14);
        fine("person x from 5 till 5;", 1);
        faulty("person x from 5 till 4;", 2, 21);
        fine("person x till 5 from 5;", 1);
        faulty("person x till 4 from 5;", 2, 21);
        fine("person x forget 1;", 1);
        faulty("person x forget 0;", 2, 16);
        fine("person x forget 999;", 1);
        faulty("person x forget 1000;", 2, 16);
        faulty("part a 1;party a a 1000 1;", 2, 19);
        fine("part a 1;party a a 999 99;", 2);
        faulty("part a 1;party a a 1 100;", 2, 21);
        fine("weather" + many(" 9", 14) + ";", 1);
        faulty("weather" + many(" 9", 15) + ";", 2, 36);
        faulty("weather 10;", 2, 8);
        fine("part a 1;slide a 999;", 2);
        faulty("part a 1;slide a 1000;", 2, 17);
        fine("near 8;", 1);
        faulty("near 9;", 2, 5);
        fine("seed 99999;", 1);
        faulty("seed 100000;", 2, 5);
        fine("law out 9999;", 1);
        faulty("law out 10000;", 2, 8);
        fine("law out ((((((((1))))))));", 1);
        faulty("law out (((((((((1)))))))));", 2, 16);
        fine("law out ((((((((1))))))))+((((((((1))))))));", 1);
        faulty("law out ((((((((1+(;", 2, 18);
        String knots = "law out 1" + many("+1", 31) + ";";
        fine(knots + "law pick 1;", 2);
        faulty(knots + "law pick 1+1;", 2, knots.length() + 10);
        faulty(knots + "law pick not 1;", 2, knots.length() + 13);
        faulty(knots + "law pick 1;near 9;", 2, knots.length() + 16);
        fine("law out " + many("not ", 63) + "1;", 1);
        faulty("law out " + many("not ", 64) + "1;", 2, 8 + 256);
        faulty("law out " + many("not ", 65) + "1;", 2, 8 + 256);
    }

    private static void faultsOfNames() {
        of("4 fault (3, 4)");
        faulty("part a 1;part a 1;", 3, 14);
        fine("part a 1;person a;", 2);
        faulty("person a;person a;", 3, 16);
        faulty("part a 1;part b 1 beside a beside a;", 3, 34);
        faulty("part a 1;person x knows a cost 1 knows a;", 3, 39);
        faulty("person x cost 1 cost 1;", 3, 16);
        faulty("person x from 1 from 1;", 3, 16);
        faulty("person x till 1 till 1;", 3, 16);
        faulty("person x forget 1 forget 1;", 3, 18);
        faulty("person x cost 1 from 1 cost 1;", 3, 23);
        faulty("weather 1;weather 1;", 3, 10);
        faulty("near 0;near 0;", 3, 7);
        faulty("seed 0;seed 0;", 3, 7);
        faulty("law out 1;law out 1;", 3, 14);
        faulty("law pick 1;law out 1;law pick 1;", 3, 25);
        faulty("part a 1 beside b;part b 1;", 4, 16);
        faulty("part a 1 beside a;", 4, 16);
        faulty("person x knows a;part a 1;", 4, 15);
        faulty("part a 1;party a b 1 1;", 4, 17);
        faulty("part a 1;party b a 1 1;", 4, 15);
        faulty("slide a 1;", 4, 6);
        faulty("part a 1;person x knows x;", 4, 24);
        faulty("near 9 near 9;", 2, 5);
        MoorGuides x = new MoorGuides();
        tell(x, "near;");
        due("another what", x.fault(2), -1);
        due("another what", x.fault(-1), -1);
        x.text(5);
        due("-2 leaves it", x.fault(0), 1);
        due("-2 leaves its place", x.fault(1), 4);
        x.text(0);
        due("without", x.fault(0), 0);
        due("without a place", x.fault(1), -1);
    }

    private static void names() {
        of("5 named");
        MoorGuides x = told("part a 1;part zzzzzz 1;part ab 1;person ab;person b;");
        due("a", x.named(0, letters("a")), 0);
        due("zzzzzz", x.named(0, letters("zzzzzz")), 1);
        due("ab", x.named(0, letters("ab")), 2);
        due("ab, a person", x.named(1, letters("ab")), 0);
        due("b, a person", x.named(1, letters("b")), 1);
        due("a, no person", x.named(1, letters("a")), -1);
        due("b, no part", x.named(0, letters("b")), -1);
        due("another what", x.named(2, letters("a")), -1);
        due("another what", x.named(-1, letters("a")), -1);
        due("1", x.named(0, 1), -1);
        due("0", x.named(0, 0), -1);
        due("below 0", x.named(0, letters("a") | 1 << 31), -1);
    }

    private static void looks() {
        of("6 look");
        MoorGuides x = told("part a 0;part b 100;person x knows b cost 0;person y from 1 till 2 knows a;person z cost 7;");
        due("there", x.look(0, 0), 1);
        due("not there yet", x.look(1, 0), 0);
        due("so knows nothing", x.look(1, 2), 0);
        due("knows", x.look(0, 2), 2);
        due("cost", x.look(0, 4), 0);
        due("cost without", x.look(1, 4), 1);
        due("cost", x.look(2, 4), 7);
        x.lose(0, 1);
        x.lose(2, 0);
        due("lost", x.look(0, 5), 1);
        due("lost", x.look(2, 5), 0);
        due("not lost", x.look(1, 5), -1);
        x.nights(1);
        due("out once", x.look(0, 3), 1);
        due("gone", x.look(2, 1), 1);
        due("gone isn't there", x.look(2, 0), 0);
        due("gone wasn't out", x.look(2, 3), 0);
        due("there now", x.look(1, 0), 1);
        due("knows now", x.look(1, 2), 1);
        due("not gone", x.look(1, 1), 0);
        x.nights(1);
        due("no more there", x.look(1, 0), 0);
        due("but not gone", x.look(1, 1), 0);
        due("no such person", thrown(x, 3, 0), 1);
        due("no such person", thrown(x, -1, 9), 1);
        due("no such what", thrown(x, 0, 6), 2);
        due("no such what", thrown(x, 0, -1), 2);
    }

    private static void partsAsked() {
        of("7 part");
        MoorGuides x = told(ROW + "person x knows a knows b;person y knows b;"
            + "party a b 0 1;party b b 1 1;party c a 2 1;");
        due("odds", x.part(3, 0), 40);
        due("beside", x.part(1, 1), 5);
        due("beside", x.part(0, 1), 2);
        due("beside nothing", x.part(4, 1), 0);
        due("wanted", x.part(0, 2), 2);
        due("wanted, each once", x.part(1, 2), 2);
        due("known by", x.part(1, 3), 2);
        due("known by nobody", x.part(2, 3), 0);
        x.nights(1);
        due("wanted from now on", x.part(0, 2), 1);
        due("wanted tonight", x.part(1, 2), 1);
        x.nights(2);
        due("no more wanted", x.part(0, 2), 0);
        due("no such part", x.part(5, 0), -1);
        due("no such part", x.part(-1, 0), -1);
        due("no such what", x.part(0, 4), -1);
        due("no such what", x.part(0, -1), -1);
    }

    private static void knowing() {
        of("8 knows");
        MoorGuides x = told("part a 100;part b 100;person x knows a knows b forget 4 from 1 till 9;slide b 3;"
            + "person y knows a knows b;slide a 0;");
        due("not there", x.knows(0, 1, 0), 0);
        due("there", x.knows(0, 1, 1), 1);
        due("ahead of the slide", x.knows(0, 1, 2), 1);
        due("on the slide's night", x.knows(0, 1, 3), 0);
        due("a slide on night 0", x.knows(0, 0, 1), 0);
        due("for the other one, too", x.knows(1, 0, 0), 0);
        x.lose(1, 0);
        x.nights(1);
        due("lost on the slide's night", x.knows(1, 0, 0), 1);
        due("and later", x.knows(1, 0, 998), 1);
        due("nobody is there then", x.knows(1, 0, 999), 0);
        x.nights(2);
        x.lose(0, 1);
        x.nights(1);
        due("learned on 3", x.knows(0, 1, 3), 1);
        due("the latest time alone counts", x.knows(0, 1, 2), 0);
        due("four nights behind", x.knows(0, 1, 7), 1);
        due("forgotten", x.knows(0, 1, 8), 0);
        due("no such night", x.knows(0, 1, 1000), -1);
        due("no such night", x.knows(0, 1, -1), -1);
        due("no such part", x.knows(0, 2, 1), -1);
        due("no such person", x.knows(2, 0, 1), -1);
        due("no such person", x.knows(-1, 0, 1), -1);
        x = told("part a 0;part b 0;person x knows a knows b;");
        x.lose(0, 0);
        x.nights(1);
        due("gone knows nothing", x.knows(0, 1, 0), 0);
    }

    private static void stepping() {
        of("9 steps");
        MoorGuides x = told(ROW);
        due("0", x.steps(0, 0), 0);
        due("1", x.steps(2, 1), 1);
        due("3", x.steps(0, 3), 3);
        due("no way", x.steps(0, 4), -2);
        due("no such part", x.steps(0, 5), -1);
        due("no such part", x.steps(-1, 0), -1);
        due("as far as can be", told(longRow()).steps(7, 0), 7);
    }

    private static int chanceBy(String law) {
        return told("part a 33;part b 1 beside a;person x knows b cost 9;weather 2;law out " + law + ";").chance(0, 0);
    }

    private static void chances() {
        of("10 chance");
        MoorGuides x = told("part a 33;person x from 1;person y;");
        due("odds", x.chance(1, 0), 33);
        due("not there", x.chance(0, 0), -1);
        due("no such person", x.chance(2, 0), -1);
        due("no such part", x.chance(1, 1), -1);
        due("no such part", x.chance(1, -1), -1);
        due("a law", chanceBy("odds * 2 + around"), 67);
        due("above 100", chanceBy("101"), 100);
        due("at 100", chanceBy("100"), 100);
        due("below 0", chanceBy("0 - 1"), 0);
        due("an error", chanceBy("1 / 0"), 33);
        due("cost", chanceBy("cost"), 9);
        due("weather", chanceBy("weather"), 2);
        x = told("part a 100;part b 5 beside a;person x;law out odds - around * 10 - times;");
        due("ahead", x.chance(0, 0), 100);
        x.lose(0, 0);
        x.nights(1);
        due("times", x.chance(0, 0), 99);
        due("around", x.chance(0, 1), 0);
    }

    private static void lawIs(String law, long want) {
        MoorGuides x = told("part a 33;part b 1 beside a;person x knows b cost 9;weather 2 5;"
            + "party a a 0 1;party a b 1 1;law pick " + law + ";");
        due("law pick " + law, x.law(1, 0, 0), want);
    }

    private static void laws() {
        of("11 law");
        long error = Long.MIN_VALUE;
        lawIs("odds", 33);
        lawIs("around", 1);
        lawIs("weather", 2);
        lawIs("times", 0);
        lawIs("wanted", 2);
        lawIs("cost", 9);
        lawIs("night", 0);
        lawIs("1 + 2 * 3", 7);
        lawIs("(1 + 2) * 3", 9);
        lawIs("9 - 3 - 2", 4);
        lawIs("100 / 10 / 3", 3);
        lawIs("(0 - 7) / 2", -3);
        lawIs("7 / (0 - 2)", -3);
        lawIs("2 * 7 / 4", 3);
        lawIs("1 < 2", 1);
        lawIs("2 < 2", 0);
        lawIs("2 <= 2", 1);
        lawIs("3 <= 2", 0);
        lawIs("2 = 2", 1);
        lawIs("2 = 3", 0);
        lawIs("2 <> 3", 1);
        lawIs("2 <> 2", 0);
        lawIs("2 >= 2", 1);
        lawIs("1 >= 2", 0);
        lawIs("3 > 2", 1);
        lawIs("2 > 2", 0);
        lawIs("1+1<1+2", 1);
        lawIs("5 and 2", 1);
        lawIs("5 and 0", 0);
        lawIs("0 or 7", 1);
        lawIs("0 or 0", 0);
        lawIs("not 7", 0);
        lawIs("not 0", 1);
        lawIs("not not 7", 1);
        lawIs("not 1 < 0", 1);
        lawIs("not 1 and 0", 0);
        lawIs("1 or 1 and 0", 1);
        lawIs("(1 or 1) and 0", 0);
        lawIs("1 or 1 / 0", error);
        lawIs("0 and 1 / 0", error);
        lawIs("1 / 0", error);
        lawIs("0 / (1 - 1)", error);
        lawIs("1000 * 1000 * 1000 * 1000", 1000000000000L);
        lawIs("1000 * 1000 * 1000 * 1000 + 1", error);
        lawIs("0 - 1000 * 1000 * 1000 * 1000", -1000000000000L);
        lawIs("0 - 1 - 1000 * 1000 * 1000 * 1000", error);
        lawIs("1000 * 1000 * 1000 * 1000 + 1 - 1", error);
        lawIs("(1000 * 1000 * 1000 * 1000) * (1000 * 1000 * 1000 * 1000)", error);
        lawIs("(1000 * 1000 * 1000) * (0 - 1000 * 1000 * 1000)", error);
        lawIs("0 * (1000 * 1000 * 1000 * 1000)", 0);
        lawIs("1000 * 1000 * 1000 * 1001 > 0", error);
        MoorGuides x = told("part a 33;person x;person y from 1;law out 200;");
        due("not cut to 100", x.law(0, 0, 0), 200);
        due("no such law", x.law(1, 0, 0), error);
        due("no such law", x.law(2, 0, 0), error);
        due("no such law", x.law(-1, 0, 0), error);
        due("not there", x.law(0, 1, 0), error);
        due("no such person", x.law(0, 2, 0), error);
        due("no such part", x.law(0, 0, 1), error);
        x = told("part a 33;person x;law out weather * 1000 + night;weather 3 4;");
        x.nights(3);
        due("weather comes again", x.law(0, 0, 0), 4003);
    }

    private static void losing() {
        of("12 lose");
        MoorGuides x = told("part a 100;part b 0;person x;person y from 1;");
        due("lost", x.lose(0, 1), true);
        due("lost elsewhere", x.lose(0, 0), true);
        due("in a", x.look(0, 5), 0);
        due("in none", x.lose(0, -1), true);
        due("in none", x.look(0, 5), -1);
        due("in none again", x.lose(0, -1), true);
        due("no such part", x.lose(0, 2), false);
        due("no such part", x.lose(0, -2), false);
        due("no such person", x.lose(2, 0), false);
        due("no such person", x.lose(-1, 0), false);
        due("not there", x.lose(1, 0), false);
        due("not there, in none", x.lose(1, -1), false);
        due("to undo", x.count(8), 4);
        x.lose(0, 1);
        x.nights(1);
        due("gone", x.lose(0, 0), false);
        due("there now", x.lose(1, 0), true);
    }

    private static void nightsGoBy() {
        of("13 nights");
        MoorGuides x = told(ROW + "person x;person y;person z;near 1;law out 100;");
        x.lose(0, 0);
        x.lose(1, 1);
        x.lose(2, 3);
        due("none", x.nights(0), 0);
        due("still lost", x.look(2, 5), 3);
        due("still to undo", x.count(8), 3);
        due("one", x.nights(1), 1);
        due("nobody lost", x.look(2, 5), -1);
        due("spoilt", x.look(0, 2), 0);
        due("spoilt", x.look(1, 2), 0);
        due("out all the same", x.look(0, 3), 1);
        due("two steps away", x.look(2, 2), 8);
        x.lose(0, 4);
        x.lose(1, 3);
        x.nights(2);
        due("no way is not near", x.look(0, 2), 16);
        due("learned again", x.knows(1, 3, 1), 1);
        x = told("part a 50;part b 50 beside a;person x;person y;law out 100;");
        x.lose(0, 0);
        x.lose(1, 0);
        x.nights(1);
        due("near 0: the same part", x.look(0, 2) + x.look(1, 2), 0);
        x.lose(0, 0);
        x.lose(1, 1);
        x.nights(1);
        due("near 0: not the part beside", x.look(0, 2) + x.look(1, 2), 3);
        due("no such number", x.nights(-1), -1);
        due("no such number", x.nights(201), -1);
        due("stays", x.count(5), 2);
        for (int i = 0; i < 4; i++) {
            x.nights(200);
        }
        due("802", x.count(5), 802);
        due("beyond 1000", x.nights(199), -1);
        due("1000", x.nights(198), 1000);
        due("none more", x.nights(0), 1000);
        due("beyond", x.nights(1), -1);
        due("nobody is there", x.pick(0, 0), -2);
    }

    /** The number that decides, as the document tells it, one by one. */
    private static void numbers() {
        of("13 numbers");
        long last = 4711;
        MoorGuides x = told("part a 0;part b 0;person x;person y;seed 4711;law out 50;");
        for (int night = 0; night < 12; night++) {
            x.keep();
            boolean[] out = new boolean[2];
            for (int i = 0; i < 2; i++) {
                last = last * 1103515245 + 12345 & 0x7fffffff;
                out[i] = last / 65536 % 100 < 50;
            }
            int ahead = x.look(0, 3);
            int aheadToo = x.look(1, 3);
            x.lose(1, 1);
            x.lose(0, 0);
            x.nights(1);
            due("x of night " + night, x.look(0, 3) - ahead, out[0] ? 1 : 0);
            due("y of night " + night, x.look(1, 3) - aheadToo, out[1] ? 1 : 0);
            due("gone", x.count(7), (out[0] ? 0 : 1) + (out[1] ? 0 : 1));
            if (!out[0] || !out[1]) {
                break;
            }
        }
    }

    private static void leading() {
        of("14 led, 15 way");
        String ring = "part a 1;part b 1 beside a;part c 1 beside b;part d 1 beside c;part e 1 beside a;part f 1 beside e beside d;";
        MoorGuides x = told(ring + "party a d 0 1;person p knows a knows b;person q knows b knows c knows d;"
            + "person r knows a knows e;person s knows e knows f knows d;");
        due("hands", x.led(0, 0), 1);
        due("parts", x.led(0, 1), 4);
        int[] parts = {0, 1, 2, 3};
        int[] guides = {0, 0, 1, 1};
        for (int k = 0; k < 4; k++) {
            due("way " + k, x.way(0, k, 0), parts[k]);
        }
        due("of several guides the first: by parts, then", x.way(0, 0, 1), guides[0]);
        due("the least guide as long as can be", x.way(0, 1, 1), guides[1]);
        due("then the other", x.way(0, 2, 1), guides[2]);
        due("then the other", x.way(0, 3, 1), guides[3]);
        due("no so many", x.way(0, 4, 0), -2);
        due("no such k", x.way(0, -1, 0), -1);
        due("no such what", x.way(0, 0, 2), -1);
        due("no such party", x.way(1, 0, 0), -1);
        due("no such party", x.led(-1, 0), -1);
        due("no such what", x.led(0, 2), -1);
        due("no such what", x.led(0, -1), -1);
        x = told("part a 1;part b 1 beside a;part c 1 beside b beside a;part d 1 beside c;party a c 0 1;"
            + "person p knows a knows b;person q knows c;person r knows a knows b knows c;");
        due("fewest parts among the fewest hands", x.led(0, 1), 2);
        due("by one alone", x.led(0, 0), 0);
        due("by r", x.way(0, 0, 1), 2);
        x = told("part a 1;part b 1 beside a;part c 1 beside b;part d 1 beside a;part e 1 beside d;part f 1 beside e beside c;"
            + "part g 1 beside a beside f;party a f 0 1;person p knows a knows g;person q knows f;"
            + "person r knows a knows b knows c knows f;");
        due("fewer hands by a longer way", x.led(0, 0), 0);
        due("which is longer", x.led(0, 1), 4);
        x = told("part a 1;part b 1 beside a;party a b 3 1;person p knows a;person q knows b from 3;person r knows b till 3;");
        due("on its night", x.led(0, 0), 1);
        due("by q", x.way(0, 1, 1), 1);
        x = told("part a 1;part b 1 beside a;part c 1 beside a;part d 1 beside b beside c;party a d 0 1;"
            + "person p knows a knows c knows d;person q knows a knows b knows d;");
        due("first by parts", x.way(0, 1, 0), 1);
        for (int k = 0; k < 3; k++) {
            due("then by guides who can go on", x.way(0, k, 1), 1);
        }
        x = told("part a 1;part b 1;party a b 0 1;party a a 0 1;person p knows a knows b;");
        due("no way", x.led(0, 0), -2);
        due("no way", x.way(0, 0, 1), -2);
        due("the same part", x.led(1, 1), 1);
    }

    private static void roundabout() {
        of("16 round");
        MoorGuides x = told("part a 1;part b 1 beside a;part c 1 beside b;part d 1 beside a;part e 1 beside d beside c;"
            + "part f 1;part g 1 beside c;party a c 0 1;party a f 0 1;party a g 0 1;");
        due("one more", x.round(0, 1), 1);
        due("not on the way", x.round(0, 3), 0);
        due("none", x.round(2, 2), -2);
        due("none with it", x.round(1, 1), -1);
        due("its first", x.round(0, 0), -1);
        due("its last", x.round(0, 2), -1);
        due("no such part", x.round(0, 7), -1);
        due("no such party", x.round(3, 1), -1);
        due("no such party", x.round(-1, 1), -1);
    }

    private static void sharing() {
        of("17 share, 18 worth");
        String moor = "part a 1;part b 1 beside a;part c 1;";
        MoorGuides x = told(moor + "person p knows a knows b;person q knows b;person r knows c;"
            + "party a b 2 10;party b b 2 10;party b b 2 11;party c c 2 0;party c c 3 4;party a c 2 50;");
        due("the most", x.share(2, -1), 21);
        due("by p", x.share(2, 0), 0);
        due("not led", x.share(2, 1), -2);
        due("by q", x.share(2, 2), 1);
        due("for nothing", x.share(2, 3), 2);
        due("not of this night", x.share(2, 4), -2);
        due("no way", x.share(2, 5), -2);
        due("another night", x.share(3, 4), 2);
        due("nothing then", x.share(999, -1), 0);
        due("no such night", x.share(1000, -1), -1);
        due("no such night", x.share(-1, -1), -1);
        due("no such party", x.share(0, 6), -1);
        due("no such party", x.share(0, -2), -1);
        due("worth of p", x.worth(0, 2), 10);
        due("worth of q", x.worth(1, 2), 10);
        due("worth of r", x.worth(2, 2), 0);
        due("worth of r", x.worth(2, 3), 4);
        due("no such person", x.worth(3, 2), -1);
        due("no such night", x.worth(0, 1000), -1);
        x = told(moor + "person p knows b;person q knows b;party b b 0 5;party b b 0 5;party b b 0 5;");
        due("of several the first", x.share(0, 0), 0);
        due("then the next", x.share(0, 1), 1);
        due("behind all", x.share(0, 2), -2);
        due("after a longer text", tell(x, "part a 1;person p knows a;party a a 0 3;"), 3);
        due("the sum of one", x.share(0, -1), 3);
        tell(x, "part a 1;person p;person q;person r;person s;person t;person u knows a;party a a 0 3;");
        due("by the last one", x.share(0, 0), 5);
        tell(x, "part a 1;person p knows a;person q knows a;person r knows a;person s knows a;person t knows a;"
            + "person u knows a;" + many("party a a 0 3;", 8));
        due("six of eight", x.share(0, -1), 18);
        due("the sixth", x.share(0, 5), 5);
        due("the seventh", x.share(0, 6), -2);
    }

    private static void strangers() {
        of("19 stranger");
        MoorGuides x = told(ROW + "person p knows a;person q knows c;party a c 1 10;party b b 1 5;party a a 1 2;party a e 1 90;party b b 2 7;");
        due("b", x.stranger(2, 1), 15);
        due("b, another night", x.stranger(2, 2), 7);
        due("what is known", x.stranger(5, 1), 0);
        due("none", x.stranger(0, 1), 0);
        due("all", x.stranger(31, 1), 15);
        due("no such part", x.stranger(32, 1), -1);
        due("below 0", x.stranger(-1, 1), -1);
        due("no such night", x.stranger(1, 1000), -1);
        due("no such night", x.stranger(1, -1), -1);
    }

    private static void fewestParts() {
        of("20 fewest");
        MoorGuides x = told("part a 1;part b 1 beside a;part c 1 beside b;part d 1 beside a;part e 1 beside d beside c;part f 1;"
            + "person p knows a knows c forget 3;party a c 0 1;party a c 4 1;party a e 0 1;party a f 0 1;");
        due("by b", x.fewest(1, 0), 1);
        due("by b", x.fewest(1, 1), 2);
        due("forgotten by then", x.fewest(2, 1), 7);
        due("e by b and c, not by d: the least bits", x.fewest(4, 1), 18);
        due("e and c", x.fewest(5, 1), 18);
        due("four", x.fewest(6, 0), 4);
        due("which", x.fewest(6, 1), 23);
        due("not by all", x.fewest(8, 0), -2);
        due("not by all", x.fewest(9, 1), -2);
        due("none", x.fewest(0, 1), 0);
        due("all eight", told(longRow() + "party a h 0 0;").fewest(1, 1), 255);
        due("seven", told(longRow() + "party b h 0 0;").fewest(1, 1), 254);
        due("no such party", x.fewest(16, 0), -1);
        due("below 0", x.fewest(-1, 0), -1);
        due("no such what", x.fewest(1, 2), -1);
        due("no such what", x.fewest(1, -1), -1);
    }

    private static void ordering() {
        of("21 order, 22 ordered");
        String row = "part a 10;part b 20 beside a;part c 30 beside b;part d 50 beside c;";
        orderIs(told(row + "person x;"), 15, "abcd", 3, 1000);
        orderIs(told(row + "person x;law out odds + around * 20;"), 15, "dcba", 3, 100);
        orderIs(told(row + "person x knows c;law out odds + around * 20;"), 3, "ba", 3, 25);
        orderIs(told(row + "person x;law out 0;"), 14, "bcd", 0, 1);
        orderIs(told(row + "person x;law out 100;"), 10, "bd", 1, 1);
        orderIs(told(row + "person x;law out odds * weather;weather 1 0 2;"), 3, "ab", 0, 1);
        orderIs(told(row + "person x;law out odds * weather;weather 1 2 1 2;"), 9, "ad", 1, 10);
        orderIs(told(row + "person x;law out (times = 1) * (odds = 10) * 50 + (odds = 20) * (night = 0) * 70;"), 3, "ba", 7, 20);
        orderIs(told(row + "person x forget 1;law out 50 + around * 10;"), 7, "abc", 9, 50);
        orderIs(told(row + "person x;slide b 1;law out 10 + around * 40;"), 3, "ab", 1, 20);
        orderIs(told(row + "person x;slide b 2;law out (odds = 10) * (50 + around * 10) + (odds = 20) * 50;"), 3, "ba", 3, 10);
        orderIs(told(row + "person x;slide b 1;law out (odds = 10) * (50 + around * 10) + (odds = 20) * 50;"), 3, "ab", 1, 4);
        MoorGuides x = told(row + "person x knows a till 3;person y from 1;");
        orderIs(x, 7, "abc", 3, 500);
        due("not there all those nights", x.order(0, 15, 0), -1);
        due("likewise", x.ordered(0, 15, 0), -1);
        due("not there", x.order(1, 1, 0), -1);
        due("likewise", x.ordered(1, 1, 0), -1);
        due("no parts", x.order(0, 0, 0), -1);
        due("no parts", x.ordered(0, 0, 0), -1);
        due("no such parts", x.order(0, 16, 0), -1);
        due("no such parts", x.ordered(0, -1, 0), -1);
        due("no such person", x.order(2, 1, 0), -1);
        due("no such person", x.ordered(-1, 1, 0), -1);
        due("no such what", x.order(0, 1, 2), -1);
        due("no such what", x.order(0, 1, -1), -1);
        due("no such k", x.ordered(0, 1, -1), -1);
        x.nights(1);
        due("later on", x.order(0, 7, 0), -1);
        orderIs(x, 3, "ab", 1, 50);
        x = told("part a 99;part b 99;part c 99;part d 99;part e 99;part f 99;part g 99;part h 99;person x;");
        orderIs(x, 255, "abcdefgh", 9227446944279201L, 10000000000000000L);
        x = told("part a 100;part b 20 beside a;person x knows a;law out odds + around;");
        due("asked for first", x.ordered(0, 3, 0), 0);
        x.keep();
        x.nights(3);
        x.slide(0);
        due("slid", x.order(0, 2, 0), 1);
        x.back();
        due("ahead of a slide", x.order(0, 2, 0), 21);
        x.slide(0);
        due("behind it", x.order(0, 2, 0), 1);
        x.undo();
        due("undone", x.order(0, 2, 0), 21);
        tell(x, "part a 100;part b 7;person x;");
        due("another text", x.order(0, 2, 0), 7);
    }

    private static void picks(MoorGuides x, int master, int person, int part) {
        due("person of master " + master, x.pick(master, 0), person);
        due("part of master " + master, x.pick(master, 1), part);
    }

    private static void picking() {
        of("23 pick");
        String row = "part a 10;part b 20 beside a;part c 30 beside b;part d 40 beside c;";
        picks(told(row + "person x;person y knows c;"), 0, 1, 1);
        picks(told(row + "person x knows a knows b knows c knows d;person y;"), 0, 1, 0);
        picks(told(row + "person x knows d from 1;person y;"), 0, 1, 0);
        picks(told(row + "person x;person y;party b c 0 1;party d c 0 1;"), 1, 0, 2);
        picks(told(row + "person x knows c;person y;party b c 0 1;party d c 0 1;"), 1, 1, 2);
        picks(told(row + "person x;person y;"), 1, 0, 0);
        picks(told(row + "person x knows d;person y;"), 2, 1, 3);
        picks(told(row + "person x cost 1;person y cost 3;law out cost * 10 - odds;"), 2, 1, 0);
        picks(told(row + "person x cost 1;person y cost 3;law pick odds - cost;"), 3, 0, 3);
        picks(told(row + "person x;law pick 0 - 5 - odds;"), 3, 0, 0);
        picks(told(row + "person x;law pick 20 / (odds - 20) - 1;"), 3, 0, 2);
        picks(told(row + "person x knows a;"), 3, 0, 1);
        MoorGuides x = told("part a 1;person x knows a;person y till 0;");
        for (int master = 0; master < 4; master++) {
            picks(x, master, -2, -2);
        }
        due("no such master", x.pick(4, 0), -1);
        due("no such master", x.pick(-1, 0), -1);
        due("no such what", x.pick(0, 2), -1);
        due("no such what", x.pick(0, -1), -1);
    }

    private static void seasons() {
        of("24 season");
        MoorGuides x = told("part a 100;part b 100 beside a;person x cost 3;party a a 0 7;party a a 1 10;party a b 1 20;"
            + "party a b 2 40;party b b 49 80;");
        due("ahead of those lost", x.season(0, 1, 1, 0), -3);
        due("two nights", x.season(0, 1, 2, 0), 4);
        due("three nights", x.season(0, 1, 3, 0), 44);
        due("fifty", x.season(0, 2147483647, 50, 0), 124);
        due("led", x.season(0, 0, 50, 2), 3);
        due("gone", x.season(0, 0, 50, 1), 0);
        due("nothing has changed", x.count(5), 0);
        due("knows nothing", x.look(0, 2), 0);
        due("no such master", x.season(4, 0, 1, 0), Integer.MIN_VALUE);
        due("no such seed", x.season(0, -1, 1, 0), Integer.MIN_VALUE);
        due("no such n", x.season(0, 0, 0, 0), Integer.MIN_VALUE);
        due("no such n", x.season(0, 0, 51, 0), Integer.MIN_VALUE);
        due("no such what", x.season(0, 0, 1, 3), Integer.MIN_VALUE);
        due("no such what", x.season(0, 0, 1, -1), Integer.MIN_VALUE);
        x = told("part a 0;person x cost 3;person y cost 4;person z from 2 cost 50;");
        due("gone one by one", x.season(0, 5, 2, 1), 2);
        due("paid", x.season(0, 5, 2, 0), -7);
        due("and the third", x.season(0, 5, 3, 0), -57);
        x.lose(0, 0);
        due("whoever is lost isn't", x.season(0, 5, 1, 0), -3);
        due("only one each night", x.season(0, 5, 1, 1), 1);
        due("still lost", x.look(0, 5), 0);
        x.nights(1);
        due("gone by it alone", x.season(0, 5, 1, 1), 1);
        x = told("part a 50;person x;seed 77;");
        for (int seed = 0; seed < 40; seed++) {
            int gone = (int) ((seed * 1103515245L + 12345 & 0x7fffffff) / 65536 % 100) < 50 ? 0 : 1;
            due("by seed " + seed, x.season(0, seed, 1, 1), gone);
        }
        for (int i = 0; i < 5; i++) {
            x.nights(200);
        }
        due("at the end of all nights", x.season(0, 0, 50, 0), 0);
    }

    private static void claiming() {
        of("25 claim, 26 wrongly, 27 against");
        MoorGuides x = told(ROW + "person x;person y;person z;near 1;");
        due("none", x.wrongly(), 0);
        due("0", x.claim(0, 999, 0), 0);
        due("1", x.claim(1, 999, 1), 1);
        due("2", x.claim(2, 999, 2), 2);
        due("of a row the one between", x.wrongly(), 2);
        due("against two", x.against(1), 2);
        due("against one", x.against(0), 1);
        due("3", x.claim(2, 998, 2), 3);
        due("another night", x.against(3), 0);
        due("4", x.claim(2, 999, 2), 4);
        due("the same again", x.against(4), 1);
        due("5", x.claim(0, 999, 4), 5);
        due("two parts of one night", x.against(5), 1);
        due("the fewest, then the least bits", x.wrongly(), 3);
        due("no such claim", x.against(6), -1);
        due("no such claim", x.against(-1), -1);
        due("no such person", x.claim(3, 0, 0), -1);
        due("no such night", x.claim(0, 1000, 0), -1);
        due("no such night", x.claim(0, -1, 0), -1);
        due("no such part", x.claim(0, 0, 5), -1);
        for (int i = 6; i < 12; i++) {
            due("claim", x.claim(0, 0, 0), i);
        }
        due("there are 12", x.claim(0, 0, 0), -1);
        due("12", x.count(6), 12);
        x.claim(1, 0, 0);
        due("still", x.wrongly(), 3);
        x = told("part a 1;part b 1 beside a;person p;person q;person r;person s;person t;person u;near 1;");
        for (int i = 0; i < 12; i++) {
            x.claim(i / 2, 5, i % 2);
        }
        due("one alone can be", x.wrongly(), 0x7ff);
        due("against all", x.against(7), 11);
    }

    private static void sliding() {
        of("28 slide");
        MoorGuides x = told("part a 100;person x knows a;slide a 50;");
        x.lose(0, 0);
        x.nights(1);
        due("two", x.slide(0), 2);
        due("no more known", x.look(0, 2), 0);
        due("on the night that is next", x.knows(0, 0, 0), 1);
        x.lose(0, 0);
        x.nights(1);
        due("learned on that night", x.look(0, 2), 1);
        for (int i = 3; i <= 12; i++) {
            due("slide", x.slide(0), i);
        }
        due("there are 12", x.slide(0), -1);
        due("to undo", x.count(8), 10);
        due("no such part", x.slide(1), -1);
        due("no such part", x.slide(-1), -1);
        due("12", x.count(3), 12);
    }

    private static void undoing() {
        of("29 undo");
        MoorGuides x = told("part a 100;part b 100;person x knows a;");
        due("none", x.undo(), -1);
        x.lose(0, 0);
        x.slide(0);
        x.lose(0, 1);
        due("lost in a", x.undo(), 2);
        due("lost in a", x.look(0, 5), 0);
        due("slid", x.look(0, 2), 0);
        due("not slid", x.undo(), 1);
        due("not slid", x.look(0, 2), 1);
        due("no slide", x.count(3), 0);
        due("not lost", x.undo(), 0);
        due("not lost", x.look(0, 5), -1);
        due("none", x.undo(), -1);
        for (int i = 0; i < 21; i++) {
            x.lose(0, i % 2);
        }
        due("20 at most", x.count(8), 20);
        for (int i = 19; i >= 0; i--) {
            due("undo", x.undo(), i);
        }
        due("the oldest one is not undone", x.look(0, 5), 0);
        due("none", x.undo(), -1);
        tell(x, "part a 100;part b 100;person x;person y;person z;");
        for (int i = 0; i < 22; i++) {
            x.lose(i % 3, i % 2);
        }
        for (int i = 19; i >= 0; i--) {
            due("undo", x.undo(), i);
        }
        due("x as at first", x.look(0, 5), 0);
        due("y as at first", x.look(1, 5), 1);
        due("z not lost", x.look(2, 5), -1);
        x.slide(1);
        x.lose(0, 0);
        x.nights(1);
        due("a night went by", x.undo(), -1);
        due("the slide stays", x.count(3), 1);
    }

    private static void images() {
        of("30 keep, 31 back");
        MoorGuides x = told("part a 100;part b 0;person x;person y;seed 9;law out odds - weather;weather 0 1;");
        due("none", x.back(), -1);
        x.nights(2);
        x.lose(0, 0);
        x.lose(1, 1);
        x.slide(1);
        due("keep", x.keep(), 2);
        due("to undo still", x.count(8), 3);
        x.claim(0, 0, 0);
        x.nights(1);
        x.slide(0);
        due("gone", x.count(7), 1);
        due("knows", x.knows(0, 0, 2), 1);
        due("back", x.back(), 2);
        due("nobody gone", x.count(7), 0);
        due("night", x.count(5), 2);
        due("not known", x.knows(0, 0, 2), 0);
        due("not out", x.look(0, 3), 0);
        due("lost", x.look(0, 5), 0);
        due("lost", x.look(1, 5), 1);
        due("slides", x.count(3), 1);
        due("nothing to undo", x.count(8), 0);
        due("claims stay", x.count(6), 1);
        due("again", x.back(), 2);
        x.nights(3);
        due("in place of one ahead", x.keep(), 5);
        x.nights(3);
        due("back", x.back(), 5);
        x = told("part a 50;person x;person y;person z;person u;person v;person w;seed 3;");
        for (int i = 0; i < 6; i++) {
            x.lose(i, 0);
        }
        x.keep();
        x.nights(1);
        int gone = 0;
        for (int i = 0; i < 6; i++) {
            gone |= x.look(i, 1) << i;
        }
        x.back();
        x.nights(1);
        int again = 0;
        for (int i = 0; i < 6; i++) {
            again |= x.look(i, 1) << i;
        }
        due("the numbers come again", again, gone);
    }

    private static void counting() {
        of("32 count");
        MoorGuides x = told("part a 0;part b 1;person x;person y;person z;party a a 0 0;slide a 1;slide a 2;slide b 3;slide b 4;"
            + "near 6;law out (1 + odds) * 2;law pick not 3 >= 4 and 5 or 6;");
        x.slide(0);
        x.lose(0, 0);
        x.lose(0, 0);
        x.claim(0, 0, 0);
        int[] want = {2, 3, 1, 5, 13, 0, 1, 0, 3, 6};
        for (int what = 0; what < 10; what++) {
            due("count " + what, x.count(what), want[what]);
        }
        x.lose(1, 0);
        tell(x, "part a 0;person x;person y;");
        x.lose(0, 0);
        x.lose(1, 0);
        x.nights(7);
        due("night", x.count(5), 7);
        due("gone", x.count(7), 2);
        due("another what", x.count(10), -1);
        due("another what", x.count(-1), -1);
    }

    private static final int[] FAR = {Integer.MIN_VALUE, Integer.MIN_VALUE + 1, -1000, -33, -32, -3, -2, -1, 0, 1, 2, 3, 4, 5, 6, 7,
        8, 9, 31, 32, 33, 63, 64, 255, 256, 999, 1000, 1 << 30, Integer.MAX_VALUE};

    /** No arguments whatever, ahead of a text or behind one, may make a call throw. */
    private static void farArguments() {
        of("far arguments");
        String full = parts(8) + "person a knows a;person b knows b;person c;person d;person e;person f;"
            + many("party a h 0 9;", 8) + many("slide a 1;", 4) + "near 8;seed 99999;law out odds / (odds - 50);"
            + "law pick 9999 * 9999 * 9999 * 9999;";
        for (String text : new String[] {"", "part a 1;", "person x;", full}) {
            for (int a : FAR) {
                for (int b : FAR) {
                    MoorGuides x = told(text);
                    farCalls(x, a, b);
                    for (int i = 0; i < 5; i++) {
                        x.nights(200);
                    }
                    farCalls(x, b, a);
                }
            }
        }
    }

    private static void farCalls(MoorGuides x, int a, int b) {
        x.named(a, b);
        due("look", thrown(x, a, b), a < 0 || a >= x.count(1) ? 1 : b < 0 || b > 5 ? 2 : 0);
        x.part(a, b);
        x.steps(a, b);
        x.chance(a, b);
        x.lose(a, b);
        x.led(a, b);
        x.round(a, b);
        x.share(a, b);
        x.worth(a, b);
        x.stranger(a, b);
        x.fewest(a, b);
        x.pick(a, b);
        x.against(a);
        x.slide(a);
        x.wrongly();
        x.keep();
        x.count(a);
        x.fault(a);
        for (int c : new int[] {Integer.MIN_VALUE, -1, 0, 1, 7, Integer.MAX_VALUE}) {
            x.knows(a, b, c);
            x.law(c, a, b);
            x.way(a, b, c);
            x.order(a, b, c);
            x.ordered(a, b, c);
            x.season(c, a, b, 0);
            x.season(0, c, a, b);
            x.claim(a, b, c);
        }
        x.undo();
        x.nights(a);
        x.back();
        x.text(a);
    }

    public static void main(String[] args) {
        newObject();
        feeding();
        texts();
        faultsOfTokens();
        faultsOfSizes();
        faultsOfNames();
        names();
        looks();
        partsAsked();
        knowing();
        stepping();
        chances();
        laws();
        losing();
        nightsGoBy();
        numbers();
        leading();
        roundabout();
        sharing();
        strangers();
        fewestParts();
        ordering();
        picking();
        seasons();
        claiming();
        sliding();
        undoing();
        images();
        counting();
        farArguments();
        end();
    }
}
