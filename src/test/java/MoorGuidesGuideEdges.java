/** Ways, guides, orders, masters and claims, sentence by sentence of section 3: each boundary from both sides. */
public final class MoorGuidesGuideEdges extends Dues {
    private static final int NO_SEASON = Integer.MIN_VALUE;
    /** Two ways from a to d: by b and by c. */
    private static final String SQUARE = "part a 1;part b 1 beside a;part c 1 beside a;part d 1 beside b beside c;";

    private static void wayIs(MoorGuides x, int party, String parts, String guides) {
        int hands = 0;
        for (int k = 0; k < parts.length(); k++) {
            due("part " + k, x.way(party, k, 0), parts.charAt(k) - 'a');
            due("guide " + k, x.way(party, k, 1), guides.charAt(k) - 'p');
            hands += k > 0 && guides.charAt(k) != guides.charAt(k - 1) ? 1 : 0;
        }
        due("no so many parts", x.way(party, parts.length(), 0), -2);
        due("no so many guides", x.way(party, parts.length(), 1), -2);
        due("hands", x.led(party, 0), hands);
        due("parts", x.led(party, 1), parts.length());
    }

    private static void noWay(MoorGuides x, int party) {
        for (int what = 0; what < 2; what++) {
            due("can't be led", x.led(party, what), -2);
            due("no way", x.way(party, 0, what), -2);
            due("no way, far", x.way(party, 7, what), -2);
        }
    }

    // ---- led ------------------------------------------------------------------------------------------------

    private static void ledParties() {
        of("LED: from its first to its last one, each by a GUIDE who KNOWS it");
        MoorGuides x = told(SQUARE + "party a a 0 1;party a b 0 1;party a d 0 1;party d a 0 1;party b b 0 1;"
            + "person p knows a knows c knows d;");
        wayIs(x, 0, "a", "p");
        noWay(x, 1);
        wayIs(x, 2, "acd", "ppp");
        wayIs(x, 3, "dca", "ppp");
        noWay(x, 4);
        noWay(told(SQUARE + "party a d 0 1;"), 0);
        noWay(told(SQUARE + "party a d 0 1;person p knows a knows d;"), 0);
        noWay(told("part a 1;part b 1;party a b 0 1;person p knows a knows b;"), 0);
        wayIs(told(longRow() + "party a h 0 1;person p knows a knows b knows c knows d knows e knows f knows g knows h;"), 0,
            "abcdefgh", "pppppppp");
        wayIs(told(longRow() + "party h a 0 1;person p knows a knows c knows e knows g;person q knows b knows d knows f knows h;"),
            0, "hgfedcba", "qpqpqpqp");
        of("LED on its NIGHT, as it is now");
        String moor = "part a 100;part b 100 beside a;person p knows a from 2 till 4;person q knows b forget 3;";
        int[] led = {-2, -2, 1, 1, -2, -2};
        for (int night = 0; night < led.length; night++) {
            due("night " + night, told(moor + "party a b " + night + " 1;").led(0, 0), led[night]);
        }
        x = told(moor + "party a b 3 1;slide b 3;");
        due("a slide on it", x.led(0, 0), -2);
        x = told(moor + "party a b 3 1;slide b 4;");
        due("a slide behind it", x.led(0, 0), 1);
        goBy(x, 5);
        due("a night ahead of now", x.led(0, 0), 1);
        of("the fewest HANDS, then the fewest PARTS");
        String ring = "part a 1;part b 1 beside a;part c 1 beside b;part d 1 beside c;part e 1 beside a beside d;party a d 0 1;";
        wayIs(told(ring + "person p knows a knows b knows c knows d;person q knows e;"), 0, "abcd", "pppp");
        wayIs(told(ring + "person p knows a knows b knows c knows d;person q knows e knows d;"), 0, "abcd", "pppp");
        wayIs(told(ring + "person p knows a knows b knows c;person q knows e knows d;"), 0, "aed", "pqq");
        wayIs(told(ring + "person p knows a knows b knows c knows d knows e;person q knows a;"), 0, "aed", "ppp");
        String twoRows = "part a 1;part b 1 beside a;part c 1 beside b;part d 1 beside c;part e 1 beside d;part f 1 beside a;"
            + "part g 1 beside f beside e;party a e 0 1;";
        wayIs(told(twoRows + "person p knows a knows b knows c knows d knows e;person q knows f;person r knows g knows e;"), 0,
            "abcde", "ppppp");
        wayIs(told(twoRows + "person p knows a knows b knows c knows d;person q knows f;person r knows g knows e;"), 0,
            "abcde", "ppppr");
        wayIs(told(twoRows + "person p knows a knows b knows c;person q knows d knows f;person r knows g knows e;"), 0,
            "afge", "pqrr");
        of("of several the first by PARTS, then by GUIDES");
        wayIs(told(SQUARE + "party a d 0 1;person p knows a knows c knows d;person q knows a knows b knows d;"), 0, "abd", "qqq");
        wayIs(told(SQUARE + "party a d 0 1;person p knows a knows b knows c knows d;person q knows a knows b knows d;"), 0,
            "abd", "ppp");
        wayIs(told(SQUARE + "party a d 0 1;person p knows d;person q knows a knows b;person r knows a knows b knows c;"), 0,
            "abd", "qqp");
        wayIs(told(SQUARE + "party a d 0 1;person p knows a knows b;person q knows b knows d;"), 0, "abd", "ppq");
        wayIs(told(SQUARE + "party a d 0 1;person p knows b knows d;person q knows a knows b;"), 0, "abd", "qpp");
        wayIs(told(SQUARE + "party a d 0 1;person p knows a;person q knows a knows b knows d;person r knows a knows b knows d;"),
            0, "abd", "qqq");
        wayIs(told(SQUARE + "party d a 0 1;person p;person q;person r;person s;person t;person u knows a knows b knows c knows d;"),
            0, "dba", "uuu");
    }

    private static void refusedWays() {
        of("14 led, 15 way: NONE: no such ones");
        MoorGuides x = told(SQUARE + "party a a 0 1;party a d 0 1;person p knows a;");
        for (int party = -1; party <= 2; party++) {
            for (int what = -1; what <= 2; what++) {
                boolean none = party < 0 || party > 1 || what < 0 || what > 1;
                int can = party == 0 ? what : -2;
                due("led " + party + " " + what, x.led(party, what), none ? -1 : can);
                due("way " + party + " " + what, x.way(party, 0, what), none ? -1 : party == 0 ? 0 : -2);
                due("way, too far", x.way(party, 1, what), none ? -1 : -2);
                due("way, k below 0", x.way(party, -1, what), -1);
            }
        }
        due("as far as can be", x.way(0, Integer.MAX_VALUE, 0), -2);
        due("no parties at first", new MoorGuides().led(0, 0), -1);
    }

    private static void rounds() {
        of("ROUND: fewest PARTS of a way (by anybody or nobody) without a PART, less that with it");
        String ring = "part a 1;part b 1 beside a;part c 1 beside b;part d 1 beside c;part e 1 beside d beside a;part f 1 beside a;"
            + "part g 1;";
        MoorGuides x = told(ring + "party a c 0 1;party a f 0 1;party a a 0 1;party a g 0 1;party g g 0 1;party b e 0 1;");
        due("one more", x.round(0, 1), 1);
        due("not on the shortest", x.round(0, 3), 0);
        due("nowhere near", x.round(0, 6), 0);
        due("one step", x.round(1, 1), 0);
        due("no step", x.round(2, 1), 0);
        due("no step, alone", x.round(4, 0), 0);
        due("one more", x.round(5, 0), 1);
        of("16 round: -2: there is none");
        due("by b alone", told("part a 1;part b 1 beside a;part c 1 beside b;party a c 0 1;").round(0, 1), -2);
        of("16 round: NONE: no such ones, none with it, its first or last one");
        for (int part = 0; part < 7; part++) {
            due("none with it", x.round(3, part), -1);
        }
        due("first", x.round(0, 0), -1);
        due("last", x.round(0, 2), -1);
        due("first and last", x.round(2, 0), -1);
        due("part 7", x.round(0, 7), -1);
        due("part -1", x.round(0, -1), -1);
        due("party 6", x.round(6, 1), -1);
        due("party -1", x.round(-1, 1), -1);
        due("the longest round",
            told("part a 1;part b 1 beside a;part c 1 beside b;part d 1 beside c;part e 1 beside d;part f 1 beside e;part g 1 beside f;"
                + "part h 1 beside g beside a;party a g 0 1;").round(0, 7), 4);
    }

    // ---- shared guides --------------------------------------------------------------------------------------

    private static void sharesAre(MoorGuides x, int night, int sum, String guides) {
        due("sum", x.share(night, -1), sum);
        for (int party = 0; party < guides.length(); party++) {
            int guide = guides.charAt(party) == '-' ? -2 : guides.charAt(party) - 'p';
            due("guide of " + party, x.share(night, party), guide);
        }
    }

    private static void shares() {
        of("SHARE: PARTIES of this NIGHT each led by one GUIDE throughout (0 HANDS)");
        String pair = "part a 1;part b 1 beside a;";
        sharesAre(told(pair + "party a b 5 9;person p knows a;person q knows b;"), 5, 0, "-");
        sharesAre(told(pair + "party a b 5 9;person p knows a;person q knows b knows a;"), 5, 9, "q");
        sharesAre(told(pair + "party a b 5 9;person p knows a knows b;"), 4, 0, "-");
        sharesAre(told(pair + "party a b 5 9;person p knows a knows b;"), 6, 0, "-");
        sharesAre(told(pair + "party a b 0 9;party a b 998 8;party a b 999 7;person p knows a knows b;"), 0, 9, "p--");
        sharesAre(told(pair + "party a b 0 9;party a b 998 8;party a b 999 7;person p knows a knows b;"), 998, 8, "-p-");
        sharesAre(told(pair + "party a b 0 9;party a b 998 8;party a b 999 7;person p knows a knows b;"), 999, 0, "---");
        of("who leads no other: the most price in sum");
        sharesAre(told(pair + "party a a 0 9;party a a 0 10;person p knows a;"), 0, 10, "-p");
        sharesAre(told(pair + "party a a 0 9;party b b 0 9;party a b 0 17;person p knows a knows b;person q knows a;"), 0, 26, "q-p");
        sharesAre(told(pair + "party a a 0 9;party b b 0 9;party a b 0 8;person p knows a knows b;person q knows a;"), 0, 18, "qp-");
        of("of several by PARTIES the first: led by the least GUIDE, not led behind all");
        sharesAre(told(pair + "party a a 0 9;party a a 0 9;person p knows a;"), 0, 9, "p-");
        sharesAre(told(pair + "party a a 0 9;party a a 0 9;person p knows a;person q knows a;person r knows a;"), 0, 18, "pq");
        sharesAre(told(pair + "party a a 0 9;party b b 0 9;person p knows a knows b;person q knows a knows b;"), 0, 18, "pq");
        sharesAre(told(pair + "party a a 0 9;party b b 0 9;person p knows a knows b;person q knows a;"), 0, 18, "qp");
        sharesAre(told(pair + "party a a 0 0;party a a 0 0;person p;person q knows a;"), 0, 0, "q-");
        sharesAre(told(pair + "party a a 0 0;party a a 0 1;person p knows a;"), 0, 1, "-p");
        sharesAre(told(pair + "party a a 0 1;party a a 0 0;person p knows a;"), 0, 1, "p-");
        StringBuilder all = new StringBuilder("part a 1;" + many("party a a 0 99;", 8));
        for (char who = 'p'; who <= 'u'; who++) {
            all.append("person ").append(who).append(" knows a;");
        }
        sharesAre(told(all.toString()), 0, 594, "pqrstu--");
    }

    private static void worths() {
        of("WORTH of one: how much less that is without");
        String moor = "part a 1;part b 1;party a a 0 9;party b b 0 4;party a a 1 2;";
        MoorGuides x = told(moor + "person p knows a;person q knows a knows b;person r;");
        due("p", x.worth(0, 0), 4);
        due("q", x.worth(1, 0), 4);
        due("r", x.worth(2, 0), 0);
        due("p on 1", x.worth(0, 1), 0);
        x = told(moor + "person p knows a till 1;person q knows b from 1;");
        due("alone", x.worth(0, 0), 9);
        due("not there yet", x.worth(1, 0), 0);
        due("no more there", x.worth(0, 1), 0);
        of("17 share, 18 worth: a NIGHT (0 .. 999); NONE: no such ones");
        for (int night : new int[] {-1, 0, 999, 1000}) {
            boolean none = night < 0 || night > 999;
            due("sum on " + night, x.share(night, -1), none ? -1 : night == 0 ? 9 : 0);
            due("party 0 on " + night, x.share(night, 0), none ? -1 : night == 0 ? 0 : -2);
            due("party 2 on " + night, x.share(night, 2), none ? -1 : -2);
            due("party 3 on " + night, x.share(night, 3), -1);
            due("party -2 on " + night, x.share(night, -2), -1);
            due("p on " + night, x.worth(0, night), none ? -1 : night == 0 ? 9 : 0);
            due("person 2 on " + night, x.worth(2, night), -1);
            due("person -1 on " + night, x.worth(-1, night), -1);
        }
        due("nothing at first", new MoorGuides().share(999, -1), 0);
        due("nobody at first", new MoorGuides().worth(0, 0), -1);
    }

    private static void strangersAndFewest() {
        of("STRANGER who KNOWS some PARTS: how much more price (each alone)");
        String parties = "party a d 0 9;party a d 0 8;party b b 0 4;party a d 1 2;";
        MoorGuides x = told(SQUARE + parties + "person p knows a knows d;");
        int[] more = {0, 0, 21, 21, 17, 17, 21, 21, 0, 0, 21, 21, 17, 17, 21, 21};
        for (int parts = 0; parts < 16; parts++) {
            due("stranger " + parts, x.stranger(parts, 0), more[parts]);
            due("stranger on 1, " + parts, x.stranger(parts, 1), (parts & 6) != 0 ? 2 : 0);
            due("stranger on 999, " + parts, x.stranger(parts, 999), 0);
        }
        due("led already", told(SQUARE + parties + "person p knows a knows d knows b;").stranger(15, 0), 0);
        of("19 stranger: PARTS (bits) on a NIGHT; NONE: no such ones");
        due("a fifth part", x.stranger(16, 0), -1);
        due("one of them none", x.stranger(17, 0), -1);
        due("below 0", x.stranger(-1, 0), -1);
        due("the topmost bit", x.stranger(Integer.MIN_VALUE, 0), -1);
        due("night -1", x.stranger(0, -1), -1);
        due("night 1000", x.stranger(0, 1000), -1);
        due("all of eight", told(parts(8)).stranger(255, 0), 0);
        due("a ninth", told(parts(8)).stranger(256, 0), -1);
        of("FEWEST PARTS: the fewest, then the least bits");
        due("the least bits of one", x.fewest(1, 1), 2);
        due("how many", x.fewest(1, 0), 1);
        due("none needed, none asked for", x.fewest(0, 0), 0);
        due("which", x.fewest(0, 1), 0);
        due("of all", x.fewest(15, 1), 2);
        String longWay = "part a 1;part b 1 beside a;part c 1 beside b;part d 1 beside a;part e 1 beside c beside d;party a e 0 1;";
        x = told(longWay + "person p knows a knows e;");
        due("fewer by greater bits", x.fewest(1, 1), 8);
        x = told(longWay + "person p knows a knows e knows c;");
        due("as few: the least bits", x.fewest(1, 1), 2);
        x = told(longWay + "person p knows a knows e knows c knows b;");
        due("led already", x.fewest(1, 1), 0);
        x = told(longWay + "party a c 4 1;person p knows a knows e forget 3;");
        due("each on its NIGHT: known then", x.fewest(3, 1), 7);
        due("the earlier one alone", x.fewest(1, 1), 8);
        due("the later one alone", x.fewest(2, 1), 7);
        due("how many of both", x.fewest(3, 0), 3);
        of("20 fewest: PARTIES (bits); -2: not by all; NONE: no such ones");
        x = told("part a 1;part b 1;party a b 0 1;party a a 0 1;");
        due("not by all", x.fewest(1, 0), -2);
        due("not both", x.fewest(3, 1), -2);
        due("the other", x.fewest(2, 1), 1);
        due("a third party", x.fewest(4, 0), -1);
        due("a third and others", x.fewest(7, 0), -1);
        due("below 0", x.fewest(-1, 0), -1);
        due("what 2", x.fewest(2, 2), -1);
        due("what -1", x.fewest(2, -1), -1);
        x = told(longRow() + "party a h 0 1;party b h 0 1;party h h 0 1;");
        due("eight parts", x.fewest(1, 0), 8);
        due("all bits", x.fewest(1, 1), 255);
        due("seven parts", x.fewest(2, 0), 7);
        due("the last bit", x.fewest(4, 1), 128);
        x = told("part a 1;" + many("party a a 0 1;", 8));
        due("all eight", x.fewest(255, 1), 1);
        due("a ninth", x.fewest(256, 1), -1);
    }

    // ---- orders ---------------------------------------------------------------------------------------------

    private static void orders() {
        of("ORDER: the product of CHANCES by 100 each, in least terms");
        String pair = "part a 30;part b 70 beside a;";
        orderIs(told(pair + "person x;"), 1, "a", 3, 10);
        orderIs(told(pair + "person x;"), 3, "ab", 21, 100);
        orderIs(told(pair + "person x;law out 0;"), 3, "ab", 0, 1);
        orderIs(told(pair + "person x;law out 100;"), 3, "ab", 1, 1);
        orderIs(told(pair + "person x;law out 1;"), 3, "ab", 1, 10000);
        orderIs(told(pair + "person x;law out 99;"), 1, "a", 99, 100);
        orderIs(told("part a 0;part b 100;person x;"), 3, "ab", 0, 1);
        orderIs(told(parts(8) + "person x;law out 1;"), 255, "abcdefgh", 1, 10000000000000000L);
        orderIs(told(parts(8) + "person x;"), 255, "abcdefgh", 1, 256);
        orderIs(told(parts(8) + "person x;law out 97;"), 128, "h", 97, 100);
        of("of several the first by PARTS");
        orderIs(told(pair + "person x;law out 50 + around * 0;"), 3, "ab", 1, 4);
        orderIs(told(pair + "person x;law out 50 + around * 10;"), 3, "ab", 3, 10);
        orderIs(told(pair + "part c 1;person x;law out 50 + times * (odds = 30);"), 7, "bca", 13, 100);
        orderIs(told(pair + "part c 1;person x;law out 50 + times * (odds = 1);"), 7, "abc", 13, 100);
        of("CHANCE by PARTS learned so far");
        orderIs(told(pair + "person x;law out odds + around * 30;"), 3, "ba", 21, 50);
        orderIs(told(pair + "person x knows b;law out odds + around * 30;"), 3, "ab", 3, 5);
        of("a PART that they KNOW then is lost in all the same");
        orderIs(told(pair + "person x knows a knows b;"), 3, "ab", 21, 100);
        orderIs(told(pair + "person x knows a forget 1;law out 10 + around * 20;"), 3, "ba", 9, 100);
        of("all weather as it comes");
        orderIs(told(pair + "person x;weather 0 1;law out odds * weather;"), 3, "ab", 0, 1);
        orderIs(told(pair + "person x;weather 1 2;law out 50 - (odds = 70) * weather * 10;"), 3, "ba", 1, 5);
        MoorGuides x = told(pair + "person x;weather 1 2;law out 50 - (odds = 70) * weather * 10;");
        x.nights(1);
        orderIs(x, 3, "ab", 1, 5);
        of("SLIDES and forgetting as they come");
        String law = "law out 10 + around * 40;";
        orderIs(told(pair + "person x;slide a 0;" + law), 3, "ab", 1, 20);
        orderIs(told(pair + "person x;slide a 1;" + law), 3, "ba", 1, 20);
        orderIs(told(pair + "person x;slide b 1;" + law), 3, "ab", 1, 20);
        orderIs(told(pair + "person x;slide a 1;slide b 1;" + law), 3, "ab", 1, 100);
        orderIs(told(pair + "person x;slide a 2;slide b 2;" + law), 3, "ab", 1, 20);
        String row = "part a 1;part b 1 beside a;part c 1;";
        orderIs(told(row + "person x forget 1;law out 50 + around * 10 * (odds = 1);"), 7, "abc", 3, 20);
        orderIs(told(row + "person x forget 2;law out 50 + around * (night = 2) * 10;"), 7, "acb", 3, 20);
        orderIs(told(row + "person x forget 1;law out 50 + around * (night = 2) * 10;"), 7, "cab", 3, 20);
        orderIs(told(row + "person x forget 1;slide a 2;law out 50 + around * (night = 2) * 10;"), 7, "cba", 3, 20);
        orderIs(told(row + "person x forget 1;slide a 2;slide b 2;law out 50 + around * (night = 2) * 10;"), 7, "abc", 1, 8);
        of("all PARTS around may be known");
        StringBuilder star = new StringBuilder("part a 1;");
        for (char c = 'b'; c <= 'h'; c++) {
            star.append("part ").append(c).append(" 2 beside a;");
        }
        star.append("person x");
        for (char c = 'b'; c <= 'h'; c++) {
            star.append(" knows ").append(c);
        }
        star.append(";law out (odds = 1) * (around * 10 + 20) + (odds = 2) * (30 + around);");
        orderIs(told(star.toString()), 3, "ab", 279, 1000);
        orderIs(told(star.toString()), 1, "a", 9, 10);
        orderIs(told(star.toString()), 2, "b", 3, 10);
        of("nobody else lost");
        x = told(pair + "person x;person y;near 8;law out odds + around * 30;");
        x.lose(1, 0);
        x.lose(0, 0);
        orderIs(x, 3, "ba", 21, 50);
    }

    /** As at the beginning, so many nights later: nights are told in the text so much later, too. */
    private static void laterOrders(int now) {
        of("ORDER from now on: NIGHT " + now);
        String row = "part a 1;part b 1 beside a;part c 1;person x forget ";
        String last = ";law out 50 + around * (night = " + (now + 2) + ") * 10;";
        String slideA = ";slide a " + (now + 2);
        String slideB = ";slide b " + (now + 2);
        String[] told = {"2", "1", "1" + slideA, "1" + slideA + slideB, "9" + slideA, "9" + slideB,
            "9;slide a " + (now + 1), "9;slide a " + now, "9;slide a " + (now + 3)};
        String[] orders = {"acb", "cab", "cba", "abc", "bca", "acb", "bca", "acb", "acb"};
        for (int i = 0; i < told.length; i++) {
            MoorGuides x = told(row + told[i] + last);
            goBy(x, now);
            boolean likely = !orders[i].equals("abc");
            orderIs(x, 7, orders[i], likely ? 3 : 1, likely ? 20 : 8);
        }
    }

    private static void refusedOrders() {
        of("21 order, 22 ordered: PARTS (bits, 1 and up); NONE: no such ones, not THERE all those NIGHTS");
        MoorGuides x = told(parts(3) + "person x from 1 till 3;person y;");
        int[][] wants = {{-1, -1, -1}, {1, 1, -1}, {1, -1, -1}, {-1, -1, -1}};
        int[] sets = {2, 5, 7};
        for (int night = 0; night < 4; night++) {
            for (int i = 0; i < 3; i++) {
                due("order on " + night, x.order(0, sets[i], 0), wants[night][i]);
                due("ordered on " + night, x.ordered(0, sets[i], 0), wants[night][i] < 0 ? -1 : i == 0 ? 1 : 0);
            }
            x.nights(1);
        }
        for (int parts : new int[] {0, 8, 15, -1, Integer.MIN_VALUE}) {
            due("no such parts: " + parts, x.order(1, parts, 0), -1);
            due("no such parts: " + parts, x.ordered(1, parts, 0), -1);
        }
        due("all", x.order(1, 7, 1), 8);
        for (int what : new int[] {-1, 2}) {
            due("what " + what, x.order(1, 7, what), -1);
        }
        for (int person : new int[] {-1, 2}) {
            due("person " + person, x.order(person, 7, 0), -1);
            due("person " + person, x.ordered(person, 7, 0), -1);
        }
        due("the last", x.ordered(1, 7, 2), 2);
        due("one beyond", x.ordered(1, 7, 3), -2);
        due("far beyond", x.ordered(1, 7, Integer.MAX_VALUE), -2);
        due("below 0", x.ordered(1, 7, -1), -1);
        goBy(x, 992);
        due("three nights to the last one", x.order(1, 7, 1), 8);
        x.nights(1);
        due("one too few", x.order(1, 7, 1), -1);
        due("two", x.order(1, 6, 1), 4);
        x.nights(1);
        due("one", x.order(1, 4, 1), 2);
        due("two are too many", x.order(1, 6, 1), -1);
        x.nights(1);
        due("nobody is there on 999", x.order(1, 4, 1), -1);
        x = told(parts(3) + "person x;law out 0;");
        x.lose(0, 0);
        x.nights(1);
        due("gone", x.order(0, 1, 0), -1);
    }

    /** The answer of one set, asked for again when something else has changed. */
    private static void ordersAgain() {
        of("ORDER as it is now");
        MoorGuides x = told("part a 30;part b 70 beside a;person x;law out odds + around * 30;");
        due("ordered asked first", x.ordered(0, 3, 1), 0);
        due("of others then", x.ordered(0, 2, 0), 1);
        due("and again", x.ordered(0, 3, 0), 1);
        x = told("part a 100;part b 10 beside a;person x;person y knows a;law out odds + around * 20 + times;");
        due("x", x.order(0, 2, 0), 1);
        due("y", x.order(1, 2, 0), 3);
        due("x again", x.order(0, 2, 0), 1);
        due("other parts", x.order(0, 3, 0), 31);
        due("and back", x.order(0, 2, 0), 1);
        x.lose(0, 0);
        due("lost changes nothing", x.order(0, 2, 0), 1);
        x.keep();
        x.nights(1);
        due("a night does", x.order(0, 2, 0), 31);
        x.slide(0);
        due("a slide does", x.order(0, 2, 0), 11);
        x.undo();
        due("an undone one does", x.order(0, 2, 0), 31);
        x.back();
        due("an image does", x.order(0, 2, 0), 1);
        tell(x, "part a 100;part b 40 beside a;person x;");
        due("a text does", x.order(0, 2, 0), 2);
    }

    // ---- masters --------------------------------------------------------------------------------------------

    private static void picked(String text, int master, int person, int part) {
        MoorGuides x = told(text);
        due("person by " + master + " in " + text, x.pick(master, 0), person);
        due("part by " + master + " in " + text, x.pick(master, 1), part);
    }

    private static void picks() {
        String row = "part a 10;part b 20 beside a;part c 30 beside b;part d 40 beside c;";
        of("a PERSON who is THERE and a PART that they don't KNOW");
        for (int master = 0; master < 4; master++) {
            picked(row + "person x from 1;person y till 0;person z knows a knows b knows c;", master, 2, 3);
            picked("part a 10;person x from 1;person y till 0;person z knows a;", master, -2, -2);
            picked("part a 10;person x;", master, 0, 0);
            picked("part a 10;", master, -2, -2);
            picked("person x;", master, -2, -2);
        }
        of("0 near: of those beside one that they KNOW the first by PERSON, then PART; if there is none, of all likewise");
        picked(row + "person x;person y knows d;", 0, 1, 2);
        picked(row + "person x;person y knows b;person z knows a;", 0, 1, 0);
        picked(row + "person x;person y;", 0, 0, 0);
        picked(row + "person x knows a knows b knows c knows d;person y;", 0, 1, 0);
        picked("part a 1;part b 1;person x knows a;", 0, 0, 1);
        of("1 way: the PART with the most wanted, then by PERSON, PART");
        picked(row + "person x;person y;party b c 0 1;", 1, 0, 1);
        picked(row + "person x knows b;person y;party b c 0 1;", 1, 0, 2);
        picked(row + "person x knows b knows c;person y;party b c 0 1;", 1, 1, 1);
        picked(row + "person x;person y;party b c 0 1;party d d 0 1;party d a 9 1;", 1, 0, 3);
        picked(row + "person x;", 1, 0, 0);
        of("2 safe: the greatest CHANCE, then by PERSON, PART");
        picked(row + "person x;person y;", 2, 0, 3);
        picked(row + "person x knows d;person y knows d;", 2, 0, 2);
        picked(row + "person x;person y;law out 200 - odds;", 2, 0, 0);
        picked(row + "person x;person y;law out 0 - odds;", 2, 0, 0);
        picked(row + "person x cost 1;person y cost 2;law out cost;", 2, 1, 0);
        picked(row + "person x;law out odds / (odds - 20);", 2, 0, 1);
        of("3 told: the greatest pick's E (0 without such a law, with an ERROR), then likewise");
        picked(row + "person x;person y;", 3, 0, 0);
        picked(row + "person x knows a;person y;law out odds;", 3, 0, 1);
        picked(row + "person x;law pick odds;", 3, 0, 3);
        picked(row + "person x;law pick 0 - odds;", 3, 0, 0);
        picked(row + "person x;law pick (odds - 30) / (odds - 20);", 3, 0, 0);
        picked(row + "person x;law pick (odds - 31) / (odds <> 20);", 3, 0, 3);
        picked(row + "person x;law pick 0 - 1 / (odds <> 20);", 3, 0, 1);
        picked(row + "person x;law pick 1 / (odds <> 10);", 3, 0, 1);
        picked(row + "person x;law pick 0 / (odds <> 10);", 3, 0, 0);
        picked(row + "person x;law pick 0 / (odds <> 20);", 3, 0, 0);
        picked(row + "person x;law pick 0 - 9999 * 9999 * 9999 * 9999;", 3, 0, 0);
        picked(row + "person x;law pick (odds = 40) + (odds = 30) * 1000 * 1000 * 1000 * 1000;", 3, 0, 2);
        picked(row + "person x cost 1;person y cost 2;law pick cost - (odds = 10) * 5;", 3, 1, 1);
        of("23 pick: a MASTER (0 .. 3); -2: nobody; NONE: no such ones");
        MoorGuides x = told(row + "person x;");
        for (int master = -1; master <= 4; master++) {
            for (int what = -1; what <= 2; what++) {
                boolean none = master < 0 || master > 3 || what < 0 || what > 1;
                due("pick " + master + " " + what, x.pick(master, what), none ? -1 : what == 0 ? 0 : master == 2 ? 3 : 0);
            }
        }
        x.lose(0, 2);
        due("somebody lost tonight is picked all the same", x.pick(0, 0), 0);
        x = new MoorGuides();
        due("nobody at first", x.pick(3, 1), -2);
    }

    private static void seasons() {
        of("SEASON: each NIGHT PARTIES of this one that can be LED bring their price ahead of those lost; cost is paid");
        String moor = "part a 100;part b 100 beside a;person x cost 3;party a a 0 50;party a a 1 10;party a b 1 20;party a b 2 40;"
            + "party a b 49 60;party a b 50 90;";
        MoorGuides x = told(moor);
        int[] money = {-3, 4, 44, 44};
        int[] led = {0, 1, 2, 2};
        for (int n = 1; n <= 4; n++) {
            due("money of " + n, x.season(0, 9, n, 0), money[n - 1]);
            due("led of " + n, x.season(0, 9, n, 2), led[n - 1]);
            due("gone of " + n, x.season(0, 9, n, 1), 0);
        }
        due("49 nights", x.season(0, 9, 49, 0), 44);
        due("50 nights", x.season(0, 9, 50, 0), 104);
        due("nothing has changed", x.count(5) + x.look(0, 2) + x.look(0, 3), 0);
        x.nights(1);
        due("from now on", x.season(0, 9, 50, 2), 2);
        x.nights(49);
        due("night 50 at last", x.season(1, 9, 1, 0), -3);
        due("led on none", x.season(1, 9, 50, 2), 0);
        of("each alone: a GUIDE may lead several");
        x = told("part a 1;person p knows a cost 0;party a a 0 5;party a a 0 6;party a a 0 0;");
        due("all three", x.season(0, 0, 1, 2), 3);
        due("money", x.season(0, 0, 1, 0), 11);
        of("whoever is told to be lost tonight isn't");
        x = told("part a 0;part b 100;person p cost 5;person q cost 7;");
        x.lose(0, 0);
        x.lose(1, 0);
        due("nobody gone by safe", x.season(2, 1, 1, 1), 0);
        due("one is paid", x.season(2, 1, 1, 0), -5);
        due("still lost", x.look(0, 5) + x.look(1, 5), 0);
        due("one gone by near, each night", x.season(0, 1, 1, 1), 1);
        due("two gone", x.season(0, 1, 2, 1), 2);
        due("no more", x.season(0, 1, 3, 1), 2);
        due("no more paid", x.season(0, 1, 50, 0), -12);
        x.nights(1);
        due("gone ahead of it aren't counted", x.count(7) * 10 + x.season(0, 1, 5, 1), 20);
        of("a season goes by SLIDES and forgetting, too");
        String market = "part a 100;part b 100;person x cost 0 knows b;party b b 0 1;party b b 1 2;party b b 2 4;party b b 3 8;";
        due("known all along", told(market).season(0, 0, 4, 0), 15);
        due("a slide, then lost in it the second night", told(market + "slide b 1;").season(0, 0, 4, 0), 13);
        due("a slide of the other part", told(market + "slide a 1;").season(0, 0, 4, 0), 15);
        x = told(market);
        x.slide(1);
        due("a slide by call", x.season(0, 0, 4, 0), 12);
        x.undo();
        due("undone", x.season(0, 0, 4, 0), 15);
        seasonsRefused();
    }

    private static void seasonsRefused() {
        of("24 season: seed 0 .. 2147483647, n 1 .. 50; Integer.MIN_VALUE: no such ones");
        MoorGuides x = told("part a 100;person x cost 0;");
        due("seed 0", x.season(0, 0, 1, 0), 0);
        due("the greatest seed", x.season(0, 2147483647, 1, 0), 0);
        due("seed -1", x.season(0, -1, 1, 0), NO_SEASON);
        due("the least seed", x.season(0, Integer.MIN_VALUE, 1, 0), NO_SEASON);
        due("n 0", x.season(0, 0, 0, 0), NO_SEASON);
        due("n -1", x.season(0, 0, -1, 0), NO_SEASON);
        due("n 50", x.season(0, 0, 50, 0), 0);
        due("n 51", x.season(0, 0, 51, 0), NO_SEASON);
        due("master 3", x.season(3, 0, 1, 0), 0);
        due("master 4", x.season(4, 0, 1, 0), NO_SEASON);
        due("master -1", x.season(-1, 0, 1, 0), NO_SEASON);
        due("what 2", x.season(0, 0, 1, 2), 0);
        due("what 3", x.season(0, 0, 1, 3), NO_SEASON);
        due("what -1", x.season(0, 0, 1, -1), NO_SEASON);
        due("nobody at first", new MoorGuides().season(0, 0, 50, 0), 0);
        of("by a seed: the numbers go on from night to night");
        for (int seed = 0; seed < 40; seed++) {
            long number = seed * 53687091L;
            int gone = 0;
            for (int night = 0; night < 6; night++) {
                number = after(number);
                gone += drawn(number) < 60 ? 0 : 1;
                if (gone == 1) {
                    break;
                }
            }
            MoorGuides y = told("part a 60;part b 60;part c 60;part d 60;part e 60;part f 60;person x;seed 9;");
            due("six nights by " + seed, y.season(0, (int) (seed * 53687091L), 6, 1), gone);
        }
        of("a season beyond night 1000");
        x = told("part a 100;person x cost 4;party a a 999 9;");
        goBy(x, 998);
        due("the last one there is lost", x.season(0, 0, 50, 0), -4);
        x.nights(2);
        due("nobody is there", x.season(0, 0, 50, 0), 0);
    }

    // ---- claims ---------------------------------------------------------------------------------------------

    private static void claims() {
        of("two can't be, if one was in two PARTS on one NIGHT");
        MoorGuides x = told(longRow() + "person p;person q;person r;near 2;");
        due("0", x.claim(0, 5, 0), 0);
        due("1: another part", x.claim(0, 5, 7), 1);
        due("2: another night", x.claim(0, 6, 7), 2);
        due("3: the same as 0", x.claim(0, 5, 0), 3);
        due("against 0", x.against(0), 1);
        due("against 1", x.against(1), 2);
        due("against 2", x.against(2), 0);
        due("against 3", x.against(3), 1);
        due("without 1 the others can be", x.wrongly(), 2);
        of("two can't be, if two were SPOILT by one another");
        for (int near = 0; near <= 8; near++) {
            for (int steps = 0; steps < 8; steps++) {
                x = told(longRow() + "person p;person q;near " + near + ";");
                x.claim(0, 999, 0);
                x.claim(1, 999, steps);
                due("near " + near + ", steps " + steps, x.against(0), steps <= near ? 1 : 0);
                due("the least bits", x.wrongly(), steps <= near ? 1 : 0);
            }
        }
        x = told(parts(2) + "person p;person q;near 8;");
        x.claim(0, 0, 0);
        x.claim(1, 0, 1);
        due("no way to one another", x.against(1), 0);
        of("FALSE: the fewest (then the least bits) without which the others can be");
        x = told(longRow() + "person p;person q;person r;near 1;");
        due("none", x.wrongly(), 0);
        x.claim(0, 1, 1);
        due("one alone", x.wrongly(), 0);
        x.claim(1, 1, 0);
        due("either: the first", x.wrongly(), 1);
        x.claim(2, 1, 2);
        due("the one between: still the first", x.wrongly(), 1);
        x = told(longRow() + "person p;person q;person r;near 1;");
        x.claim(0, 1, 0);
        x.claim(1, 1, 1);
        x.claim(2, 1, 2);
        due("one, not the two of least bits", x.wrongly(), 2);
    }

    private static void claimsRefused() {
        of("25 claim: (NIGHT 0 .. 999): its number; NONE: no such ones, or there are 12");
        MoorGuides x = told(parts(2) + "person p;person q from 9;");
        due("night -1", x.claim(0, -1, 0), -1);
        due("night 1000", x.claim(0, 1000, 0), -1);
        due("person -1", x.claim(-1, 0, 0), -1);
        due("person 2", x.claim(2, 0, 0), -1);
        due("part -1", x.claim(0, 0, -1), -1);
        due("part 2", x.claim(0, 0, 2), -1);
        due("none told", x.count(6), 0);
        due("against none", x.against(0), -1);
        due("night 0", x.claim(0, 0, 0), 0);
        due("night 999", x.claim(1, 999, 1), 1);
        for (int i = 2; i < 12; i++) {
            due("number " + i, x.claim(i % 2, i, 0), i);
        }
        due("12", x.count(6), 12);
        due("a 13th", x.claim(0, 0, 0), -1);
        due("a 13th that clashes", x.claim(0, 0, 1), -1);
        due("12 still", x.count(6), 12);
        due("all can be", x.wrongly(), 0);
        of("27 against: NONE: no such one");
        due("11", x.against(11), 0);
        due("12", x.against(12), -1);
        due("-1", x.against(-1), -1);
        of("26 wrongly: 12 of them");
        x = told(parts(2) + "person p;person q;");
        for (int i = 0; i < 12; i++) {
            x.claim(0, i / 2, i % 2);
        }
        due("each second one", x.wrongly(), 0x555);
        x = told(parts(1) + "person p;person q;person r;person s;person t;person u;");
        for (int i = 0; i < 6; i++) {
            x.claim(i, 0, 0);
        }
        due("all but the last one", x.wrongly(), 31);
        x = told("part a 1;part b 1 beside a;person p;person q;person r;person s;person t;person u;near 1;");
        for (int i = 0; i < 12; i++) {
            x.claim(i / 2, 999, i % 2);
        }
        due("eleven of twelve", x.wrongly(), 2047);
        due("each against eleven", x.against(11), 11);
        tell(x, parts(2) + "person p;");
        due("a text has none", x.wrongly(), 0);
        due("0 again", x.claim(0, 0, 1), 0);
        due("against nothing of old", x.against(0), 0);
    }

    public static void main(String[] args) {
        ledParties();
        refusedWays();
        rounds();
        shares();
        worths();
        strangersAndFewest();
        orders();
        laterOrders(0);
        laterOrders(1);
        laterOrders(500);
        refusedOrders();
        ordersAgain();
        picks();
        seasons();
        claims();
        claimsRefused();
        end();
    }
}
