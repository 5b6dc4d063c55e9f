/** People, chances and nights, sentence by sentence of section 2 and its promises: each boundary from both sides. */
public final class MoorGuidesNightEdges extends Dues {
    // ---- there, and known -----------------------------------------------------------------------------------

    private static void there() {
        of("THERE on a NIGHT from the one told, ahead of the one on which they are no more");
        MoorGuides x = told("part a 100;person x knows a from 3 till 6;");
        int[] there = {0, 0, 0, 1, 1, 1, 0, 0};
        for (int night = 0; night < there.length; night++) {
            due("knows on " + night, x.knows(0, 0, night), there[night]);
            due("there on " + night, x.look(0, 0), there[night]);
            due("known by, on " + night, x.part(0, 3), there[night]);
            due("chance on " + night, x.chance(0, 0), there[night] == 1 ? 100 : -1);
            due("law on " + night, x.law(0, 0, 0), Long.MIN_VALUE);
            due("lose on " + night, x.lose(0, 0), there[night] == 1);
            due("undo on " + night, x.undo(), there[night] == 1 ? 0 : -1);
            due("never gone", x.look(0, 1), 0);
            x.nights(1);
        }
        due("from and till on one night", told("part a 1;person x knows a from 4 till 4;").knows(0, 0, 4), 0);
        due("till one later", told("part a 1;person x knows a from 4 till 5;").knows(0, 0, 4), 1);
        of("THERE, if they aren't GONE");
        x = told("part a 0;part b 1;person x knows b;person y knows b;");
        x.lose(0, 0);
        due("there yet", x.look(0, 0), 1);
        x.nights(1);
        due("gone", x.look(0, 1), 1);
        due("not there", x.look(0, 0), 0);
        due("on no night, not on one ahead", x.knows(0, 1, 0), 0);
        due("knows no more", x.look(0, 2), 0);
        due("the other one does", x.knows(1, 1, 0), 1);
        due("known by one", x.part(1, 3), 1);
        due("lost no more", x.look(0, 5), -1);
    }

    private static void forgetting() {
        of("learned at first, as on NIGHT 0, not more than forget NIGHTS");
        for (int forget : new int[] {1, 2, 500, 997}) {
            MoorGuides x = told("part a 1;person x knows a forget " + forget + ";");
            due("on 0 with " + forget, x.knows(0, 0, 0), 1);
            due("so many behind, " + forget, x.knows(0, 0, forget), 1);
            due("one more behind, " + forget, x.knows(0, 0, forget + 1), 0);
        }
        due("there from 2 on, as on NIGHT 0", told("part a 1;person x knows a forget 2 from 2;").knows(0, 0, 2), 1);
        due("there from 3 on, forgotten", told("part a 1;person x knows a forget 2 from 3;").knows(0, 0, 3), 0);
        of("by being lost, on that NIGHT or ahead of it, not more than forget NIGHTS");
        MoorGuides x = told("part a 100;person x forget 3;");
        x.nights(5);
        x.lose(0, 0);
        due("not yet", x.knows(0, 0, 5), 0);
        x.nights(1);
        int[] known = {0, 0, 0, 0, 0, 1, 1, 1, 1, 0, 0};
        for (int night = 0; night < known.length; night++) {
            due("knows on " + night, x.knows(0, 0, night), known[night]);
        }
        of("the latest time alone counts");
        x = told("part a 100;person x knows a forget 4;");
        x.nights(2);
        x.lose(0, 0);
        x.nights(1);
        due("learned again: ahead of it", x.knows(0, 0, 1), 0);
        due("learned again: on it", x.knows(0, 0, 2), 1);
        due("learned again: four behind", x.knows(0, 0, 6), 1);
        due("learned again: five behind", x.knows(0, 0, 7), 0);
        x.lose(0, 0);
        x.nights(1);
        due("and again: ahead of it", x.knows(0, 0, 2), 0);
        due("and again: on it", x.knows(0, 0, 3), 1);
        due("and again: four behind", x.knows(0, 0, 7), 1);
        due("and again: five behind", x.knows(0, 0, 8), 0);
        of("without forget: 999");
        x = told("part a 100;person x;");
        x.lose(0, 0);
        x.nights(1);
        due("to the last night", x.knows(0, 0, 998), 1);
    }

    private static void slidesBehind() {
        of("no SLIDE of it on a NIGHT behind that on which it was learned up to this one");
        MoorGuides x = told("part a 100;part b 100;person x;slide a 2;slide a 6;");
        x.nights(1);
        x.lose(0, 0);
        x.nights(1);
        due("learned on 1", x.knows(0, 0, 1), 1);
        due("the slide on 2", x.knows(0, 0, 2), 0);
        due("behind it", x.knows(0, 0, 3), 0);
        x.lose(0, 0);
        x.nights(1);
        due("learned on 2, the slide's night", x.knows(0, 0, 2), 1);
        due("ahead of the next slide", x.knows(0, 0, 5), 1);
        due("the slide on 6", x.knows(0, 0, 6), 0);
        x = told("part a 100;part b 100;person x knows a knows b;slide a 3;");
        due("another part's", x.knows(0, 1, 5), 1);
        due("its own", x.knows(0, 0, 3), 0);
        due("ahead", x.knows(0, 0, 2), 1);
        of("at first: on NIGHT 0, too");
        due("slide on 0", told("part a 1;person x knows a;slide a 0;").knows(0, 0, 0), 0);
        due("slide on 1, night 0", told("part a 1;person x knows a;slide a 1;").knows(0, 0, 0), 1);
        due("slide on 1, night 1", told("part a 1;person x knows a;slide a 1;").knows(0, 0, 1), 0);
        x = told("part a 100;person x;slide a 0;");
        x.lose(0, 0);
        x.nights(1);
        due("lost on 0, slide on 0", x.knows(0, 0, 0), 1);
        x = told("part a 1;person x knows a;slide a 999;");
        due("slide on 999, night 998", x.knows(0, 0, 998), 1);
    }

    // ---- chances and values ---------------------------------------------------------------------------------

    private static void cutChances() {
        of("CHANCE: out's E (0 .. 100; ODDS without, with an ERROR)");
        due("without", told("part a 33;person x;").chance(0, 0), 33);
        String[] laws = {"0 - 1", "0", "1", "99", "100", "101", "9999", "0 - 9999", "1 / 0", "9999 * 9999 * 9999 * 9999",
            "1000 * 1000 * 1000 * 1000", "0 - 1000 * 1000 * 1000 * 1000"};
        int[] chances = {0, 0, 1, 99, 100, 100, 100, 0, 33, 33, 100, 0};
        for (int i = 0; i < laws.length; i++) {
            due(laws[i], told("part a 33;person x;law out " + laws[i] + ";").chance(0, 0), chances[i]);
        }
        due("by pick alone", told("part a 33;person x;law pick 7;").chance(0, 0), 33);
        of("around: how many PARTS beside it they KNOW");
        String star = "part a 1;part b 1 beside a;part c 1 beside a;part d 1;person x knows a knows d;person y knows b knows c;"
            + "person z;law out around;";
        MoorGuides x = told(star);
        due("none", x.chance(2, 0), 0);
        due("itself isn't, nor one that is not beside", x.chance(0, 0), 0);
        due("one", x.chance(0, 1), 1);
        due("two", x.chance(1, 0), 2);
        due("nothing beside", x.chance(0, 3), 0);
        of("times: how often they were out ahead");
        x = told("part a 100;person x;person y;near 8;law pick times;");
        for (int i = 0; i < 3; i++) {
            due("times", x.law(1, 0, 0), i);
            due("looked at", x.look(0, 3), i);
            x.lose(0, 0);
            x.lose(1, 0);
            due("being lost isn't out yet", x.law(1, 0, 0), i);
            x.nights(1);
        }
        due("spoilt is out, too", x.look(1, 3), 3);
        of("wanted: how many PARTIES of this NIGHT and later ones begin or end there (each once)");
        x = told("part a 1;part b 1;person x;party a b 1 1;party a a 1 1;party b a 2 1;law pick wanted;");
        int[][] wanted = {{3, 2}, {3, 2}, {1, 1}, {0, 0}};
        for (int night = 0; night < 4; night++) {
            for (int part = 0; part < 2; part++) {
                due("law on " + night, x.law(1, 0, part), wanted[night][part]);
                due("part on " + night, x.part(part, 2), wanted[night][part]);
            }
            x.nights(1);
        }
    }

    private static void valueIs(String law, long want) {
        due(law, told("part a 33;person x cost 9;law pick " + law + ";").law(1, 0, 0), want);
    }

    private static void values() {
        long error = Long.MIN_VALUE;
        long most = 1000000000000L;
        String million = "(1000 * 1000)";
        of("ERROR: a value above 10 to the 12 or below 0 by more than that");
        valueIs(million + " * " + million, most);
        valueIs(million + " * " + million + " - 1", most - 1);
        valueIs(million + " * " + million + " + 1", error);
        valueIs("0 - " + million + " * " + million, -most);
        valueIs("1 - " + million + " * " + million, 1 - most);
        valueIs("0 - 1 - " + million + " * " + million, error);
        valueIs(million + " * (" + million + " + 1)", error);
        valueIs("(" + million + " + 1) * (" + million + " - 1)", most - 1);
        valueIs("(0 - " + million + ") * " + million, -most);
        valueIs("(0 - " + million + ") * (0 - " + million + ")", most);
        valueIs("(0 - " + million + ") * (" + million + " + 1)", error);
        valueIs("(" + million + " + 1) * (0 - " + million + ")", error);
        valueIs("(" + million + " * " + million + " - 1) / 3 * 3 + 1", most);
        valueIs("(" + million + " * " + million + " - 1) / 3 * 3 + 2", error);
        valueIs("(" + million + " * " + million + ") * 0", 0);
        valueIs("0 * (0 - " + million + " * " + million + ")", 0);
        valueIs("(" + million + " * " + million + ") * 1", most);
        valueIs("(" + million + " * " + million + ") * (0 - 1)", -most);
        valueIs("(" + million + " * " + million + ") * 2", error);
        valueIs("(" + million + " * " + million + ") * (" + million + " * " + million + ")", error);
        valueIs("(" + million + " * " + million + ") / (" + million + " * " + million + ")", 1);
        valueIs("(" + million + " * " + million + " + 1) < 0", error);
        valueIs("not (" + million + " * " + million + " + 1)", error);
        valueIs("0 * (" + million + " * " + million + " + 1)", error);
        of("ERROR: / by 0");
        valueIs("0 / 0", error);
        valueIs("1 / 0", error);
        valueIs("1 / (cost - 9)", error);
        valueIs("1 / (cost - 8)", 1);
        valueIs("1 / (cost - 10)", -1);
        valueIs("0 / 5", 0);
        of("or binds less than and, that less than not, that less than < and so on");
        valueIs("1 or 1 and 0", 1);
        valueIs("0 and 0 or 1", 1);
        valueIs("(1 or 1) and 0", 0);
        valueIs("not 0 and 0", 0);
        valueIs("not 1 or 1", 1);
        valueIs("not (0 and 0)", 1);
        valueIs("not 1 < 0", 1);
        valueIs("not 1 = 0 and 1", 1);
        valueIs("5 < 2 + 4", 1);
        valueIs("2 + 4 < 5", 0);
        valueIs("1 + 2 * 3", 7);
        valueIs("2 * 3 + 1", 7);
        valueIs("8 - 6 / 2", 5);
        of("of signs of one kind the left one first");
        valueIs("9 - 3 - 2", 4);
        valueIs("9 - 3 + 2", 8);
        valueIs("9 - (3 + 2)", 4);
        valueIs("100 / 10 / 5", 2);
        valueIs("7 / 2 * 2", 6);
        valueIs("2 * 7 / 4", 3);
        valueIs("7 * (2 / 4)", 0);
        of("both sides are worked out");
        valueIs("0 and 1 / 0", error);
        valueIs("1 / 0 and 0", error);
        valueIs("1 or 1 / 0", error);
        valueIs("1 / 0 or 1", error);
        of("/ is cut towards 0");
        valueIs("7 / 2", 3);
        valueIs("(0 - 7) / 2", -3);
        valueIs("7 / (0 - 2)", -3);
        valueIs("(0 - 7) / (0 - 2)", 3);
        valueIs("1 / 2", 0);
        valueIs("(0 - 1) / 2", 0);
        valueIs("2 / 2", 1);
        of("what isn't 0 is as 1");
        valueIs("not 0", 1);
        valueIs("not 2", 0);
        valueIs("not (0 - 1)", 0);
        valueIs("not not 2", 1);
        valueIs("2 and 3", 1);
        valueIs("2 and 0", 0);
        valueIs("0 and 2", 0);
        valueIs("0 and 0", 0);
        valueIs("(0 - 1) and (0 - 1)", 1);
        valueIs("0 or 0", 0);
        valueIs("0 or (0 - 1)", 1);
        valueIs("2 or 0", 1);
        valueIs("2 or 2", 1);
        of("comparisons are 1 or 0");
        int[][] compared = {{1, 0, 0}, {1, 1, 0}, {0, 1, 0}, {1, 0, 1}, {0, 1, 1}, {0, 0, 1}};
        String[] signs = {"<", "<=", "=", "<>", ">=", ">"};
        for (int i = 0; i < signs.length; i++) {
            for (int right = 10; right >= 8; right--) {
                valueIs("cost " + signs[i] + " " + right, compared[i][10 - right]);
                valueIs("0 - cost " + signs[i] + " 0 - " + (18 - right), compared[i][10 - right]);
            }
        }
    }

    // ---- nights ---------------------------------------------------------------------------------------------

    private static void drawing() {
        of("a number modulo 100: if that is below the CHANCE, they are out; else they are GONE");
        for (int seed = 0; seed < 60; seed++) {
            int number = drawn(after(seed));
            MoorGuides x = told("part a " + number + ";part b " + (number + 1) + ";person x;seed " + seed + ";");
            x.keep();
            x.lose(0, 0);
            x.nights(1);
            due("at the number: gone", x.look(0, 1), 1);
            due("and wasn't out", x.look(0, 3), 0);
            due("how many are gone", x.count(7), 1);
            x.back();
            x.lose(0, 1);
            x.nights(1);
            due("one above the number: out", x.look(0, 1), 0);
            due("once more", x.look(0, 3), 1);
            due("and knows it", x.look(0, 2), 2);
            due("season: below the chance", x.season(2, seed, 1, 1), 1);
        }
        of("Numbers: without what is above 31 bits");
        MoorGuides x = told("part a 50;person x;");
        for (int seed : new int[] {0, 1, 2, 65535, 65536, 1 << 30, Integer.MAX_VALUE - 1, Integer.MAX_VALUE}) {
            due("gone by seed " + seed, x.season(0, seed, 1, 1), drawn(after(seed)) < 50 ? 0 : 1);
        }
        of("CHANCE 0 and 100 leave nothing to the number");
        for (int seed = 0; seed < 30; seed++) {
            x = told("part a 0;part b 100;person x;person y;seed " + seed * 3331 + ";");
            x.lose(0, 0);
            x.lose(1, 1);
            x.nights(1);
            due("at 0", x.look(0, 1), 1);
            due("at 100", x.look(1, 1), 0);
        }
    }

    private static void rowOfNumbers() {
        of("by numbers each lost one: a number");
        long number = 7;
        MoorGuides x = told("part a 0;part b 0;part c 0;person x;person y;person z;person u;seed 7;law out 95;");
        int gone = 0;
        int[] times = new int[4];
        for (int night = 0; night < 25; night++) {
            int lost = night % 15 + 1;
            for (int who = 3; who >= 0; who--) {
                if ((lost >> who & 1) != 0 && (gone >> who & 1) == 0) {
                    due("lost", x.lose(who, (who + night) % 3), true);
                }
            }
            for (int who = 0; who < 4; who++) {
                if ((lost >> who & 1) != 0 && (gone >> who & 1) == 0) {
                    number = after(number);
                    if (drawn(number) < 95) {
                        times[who]++;
                    } else {
                        gone |= 1 << who;
                    }
                }
            }
            x.nights(1);
            for (int who = 0; who < 4; who++) {
                due("out by night " + night, x.look(who, 3), times[who]);
                due("gone by night " + night, x.look(who, 1), gone >> who & 1);
            }
        }
        due("all this drew on somebody", Integer.bitCount(gone) > 0, true);
    }

    /** Two lost ones so many steps away from one another, in a row of eight. */
    private static int knownBeside(int near, int steps) {
        MoorGuides x = told(longRow() + "person x;person y;law out 100;" + (near < 0 ? "" : "near " + near + ";"));
        x.lose(0, 0);
        x.lose(1, steps);
        x.nights(1);
        due("both are out", x.look(0, 3) + x.look(1, 3), 2);
        return (x.look(0, 2) == 0 ? 0 : 1) + (x.look(1, 2) == 0 ? 0 : 1);
    }

    private static void spoiling() {
        of("if no other lost one is in a PART that is at most near steps away (SPOILT)");
        due("without near: the same part", knownBeside(-1, 0), 0);
        due("without near: one step", knownBeside(-1, 1), 2);
        for (int near = 0; near <= 8; near++) {
            for (int steps = Math.max(0, near - 1); steps <= Math.min(7, near + 1); steps++) {
                due("near " + near + ", steps " + steps, knownBeside(near, steps), steps <= near ? 0 : 2);
            }
        }
        MoorGuides x = told("part a 100;part b 100;person x;person y;near 8;");
        x.lose(0, 0);
        x.lose(1, 1);
        x.nights(1);
        due("no way to one another", x.look(0, 2) + x.look(1, 2), 3);
        of("SPOILT by one who is gone by this night, too; a part known stays as it was");
        x = told("part a 100;part b 0 beside a;person x;person y;person z knows a forget 1;near 1;");
        x.lose(0, 0);
        x.lose(1, 1);
        x.nights(1);
        due("gone", x.look(1, 1), 1);
        due("spoilt", x.look(0, 2), 0);
        x.lose(0, 0);
        x.lose(2, 0);
        x.nights(1);
        due("spoilt again", x.look(0, 2), 0);
        due("z has not learned it anew", x.look(2, 2), 0);
        due("but knew it", x.knows(2, 0, 1), 1);
        x.lose(0, 0);
        x.nights(1);
        due("alone: learned", x.look(0, 2), 1);
        due("on this night", x.knows(0, 0, 2), 1);
        due("not ahead", x.knows(0, 0, 1), 0);
        of("All CHANCES are as the NIGHT begins");
        x = told("part a 100;part b 0 beside a;person x knows a till 9;person y;law out 100 - around * 100 + odds * 0;");
        x.lose(1, 0);
        x.lose(0, 1);
        due("x by what they know", x.chance(0, 1), 0);
        x.nights(1);
        due("x is gone", x.look(0, 1), 1);
        due("y is out", x.look(1, 2), 1);
    }

    // ---- the promises ---------------------------------------------------------------------------------------

    private static void looking() {
        of("6 look: IndexOutOfBoundsException: no such PERSON. NoSuchElementException: no such what");
        MoorGuides x = new MoorGuides();
        due("none at first", thrown(x, 0, 0), 1);
        x = told("part a 1;person x;person y;");
        for (int what = 0; what <= 5; what++) {
            due("fine", thrown(x, 0, what), 0);
            due("fine", thrown(x, 1, what), 0);
            due("no person 2", thrown(x, 2, what), 1);
            due("no person -1", thrown(x, -1, what), 1);
        }
        for (int what : new int[] {-1, 6, Integer.MIN_VALUE, Integer.MAX_VALUE}) {
            due("no what " + what, thrown(x, 1, what), 2);
            due("neither", thrown(x, 2, what), 1);
        }
        due("no person far away", thrown(x, Integer.MIN_VALUE, 0), 1);
        due("no person far away", thrown(x, Integer.MAX_VALUE, 0), 1);
        of("5 named: NONE: there is none such");
        x = told("part zzzzzz 1;part a 1;person zzzzza;");
        due("the greatest letters", x.named(0, letters("zzzzzz")), 0);
        due("one less", x.named(0, letters("zzzzzz") - 1), -1);
        due("one more", x.named(0, letters("zzzzzz") + 1), -1);
        due("a person's", x.named(0, letters("zzzzza")), -1);
        due("a person", x.named(1, letters("zzzzza")), 0);
        due("the first one is highest of six", x.named(0, 1 << 25), 1);
        due("not lowest", x.named(0, 1), -1);
        due("two above", x.named(0, 1 << 30 | 1 << 25), -1);
        due("0", x.named(0, 0), -1);
        due("what 2", x.named(2, 1 << 25), -1);
        due("what -1", x.named(-1, 1 << 25), -1);
        due("none at first", new MoorGuides().named(0, 0), -1);
    }

    private static void askingParts() {
        of("7 part: NONE: no such ones");
        MoorGuides x = told("part a 100;part b 0;");
        for (int what = -1; what <= 4; what++) {
            due("no part -1", x.part(-1, what), -1);
            due("no part 2", x.part(2, what), -1);
            due("the last part", x.part(1, what) >= 0, what >= 0 && what <= 3);
        }
        of("8 knows: a NIGHT (0 .. 999); NONE: no such ones");
        x = told("part a 1;person x knows a;");
        due("-1", x.knows(0, 0, -1), -1);
        due("0", x.knows(0, 0, 0), 1);
        due("999", x.knows(0, 0, 999), 0);
        due("1000", x.knows(0, 0, 1000), -1);
        due("no person", x.knows(1, 0, 0), -1);
        due("no person", x.knows(-1, 0, 0), -1);
        due("no part", x.knows(0, 1, 0), -1);
        due("no part", x.knows(0, -1, 0), -1);
        of("9 steps: -2: there is no way; NONE: no such ones");
        x = told(longRow());
        for (int to = 0; to < 8; to++) {
            due("from a", x.steps(0, to), to);
            due("to a", x.steps(to, 0), to);
        }
        due("no part", x.steps(0, 8), -1);
        due("no part", x.steps(8, 0), -1);
        due("no part", x.steps(-1, 0), -1);
        due("no part", x.steps(0, -1), -1);
        x = told("part a 1;part b 1;");
        due("no way", x.steps(0, 1), -2);
        due("to itself", x.steps(1, 1), 0);
        of("10 chance, 11 law: no such ones, not THERE");
        x = told("part a 5;person x from 1 till 2;law out 7;law pick 8;");
        int[] chances = {-1, 7, -1};
        for (int night = 0; night < 3; night++) {
            due("chance on " + night, x.chance(0, 0), chances[night]);
            due("out on " + night, x.law(0, 0, 0), night == 1 ? 7 : Long.MIN_VALUE);
            due("pick on " + night, x.law(1, 0, 0), night == 1 ? 8 : Long.MIN_VALUE);
            for (int far : new int[] {-1, 1}) {
                due("no person", x.chance(far, 0), -1);
                due("no part", x.chance(0, far), -1);
                due("no person", x.law(0, far, 0), Long.MIN_VALUE);
                due("no part", x.law(0, 0, far), Long.MIN_VALUE);
            }
            due("no law -1", x.law(-1, 0, 0), Long.MIN_VALUE);
            due("no law 2", x.law(2, 0, 0), Long.MIN_VALUE);
            x.nights(1);
        }
        due("out alone", told("part a 1;person x;law out 7;").law(1, 0, 0), Long.MIN_VALUE);
        due("pick alone", told("part a 1;person x;law pick 7;").law(0, 0, 0), Long.MIN_VALUE);
    }

    private static void losing() {
        of("12 lose: a PART (NONE: in none): true; false: no such ones, not THERE");
        MoorGuides x = told("part a 100;part b 0;person x from 1 till 3;person y;");
        due("ahead of from", x.lose(0, 0), false);
        due("in none ahead of from", x.lose(0, -1), false);
        due("the other", x.lose(1, 1), true);
        x.nights(1);
        due("from", x.lose(0, 0), true);
        due("gone", x.lose(1, 0), false);
        due("in none, gone", x.lose(1, -1), false);
        due("part -2", x.lose(0, -2), false);
        due("part 2", x.lose(0, 2), false);
        due("stays lost", x.look(0, 5), 0);
        due("part 1", x.lose(0, 1), true);
        due("one part alone", x.look(0, 5), 1);
        due("in none", x.lose(0, -1), true);
        due("so nobody is", x.look(0, 5), -1);
        x.nights(1);
        due("the last night", x.lose(0, -1), true);
        due("neither out nor gone", x.look(0, 3) + x.look(0, 1), 0);
        x.nights(1);
        due("till", x.lose(0, 0), false);
        due("person 2", x.lose(2, 0), false);
        due("person -1", x.lose(-1, 0), false);
        due("person -1, in none", x.lose(-1, -1), false);
    }

    private static void goingBy() {
        of("13 nights: so many (0 .. 200); NONE, and none does: no such number, beyond 1000");
        MoorGuides x = told("part a 100;person x;");
        x.lose(0, 0);
        due("-1", x.nights(-1), -1);
        due("201", x.nights(201), -1);
        due("far", x.nights(Integer.MAX_VALUE), -1);
        due("far", x.nights(Integer.MIN_VALUE), -1);
        due("none did", x.count(5), 0);
        due("0", x.nights(0), 0);
        due("still lost", x.look(0, 5), 0);
        due("200", x.nights(200), 200);
        due("those lost tonight in the first one", x.knows(0, 0, 0), 1);
        due("once", x.look(0, 3), 1);
        due("1", x.nights(1), 201);
        goBy(x, 598);
        due("799", x.count(5), 799);
        due("999", x.nights(200), 999);
        due("beyond", x.nights(2), -1);
        due("none did", x.count(5), 999);
        due("nobody is there", x.lose(0, 0), false);
        due("1000", x.nights(1), 1000);
        due("beyond 1000", x.nights(1), -1);
        due("0 more", x.nights(0), 1000);
        due("beyond 1000", x.nights(200), -1);
        due("still 1000", x.count(5), 1000);
        x = told("");
        goBy(x, 801);
        due("beyond by one", x.nights(200), -1);
        due("just not", x.nights(199), 1000);
    }

    public static void main(String[] args) {
        there();
        forgetting();
        slidesBehind();
        cutChances();
        values();
        drawing();
        rowOfNumbers();
        spoiling();
        looking();
        askingParts();
        losing();
        goingBy();
        end();
    }
}
