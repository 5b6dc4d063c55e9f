import java.util.List;

/** The text and its faults, sentence by sentence of the Terms: just inside each boundary and just outside. */
public final class MoorGuidesTextEdges extends Dues {
    private static final String[] LANGUAGE = {"part", "beside", "person", "knows", "cost", "from", "till", "forget", "party",
        "weather", "slide", "near", "seed", "law", "out", "pick", "or", "and", "not", "odds", "around", "times", "wanted",
        "night"};
    private static final String PEOPLE = "person a;person b;person c;person d;person e;person f;";

    // ---- the form of a text ---------------------------------------------------------------------------------

    private static void lines() {
        of("A TEXT: { LINE ';' }");
        fine("", 0);
        fine(" ", 0);
        fine("near 1;", 1);
        fine("near 1;seed 1;", 2);
        faulty("near 1", 1, 6);
        faulty(";", 1, 0);
        faulty("near 1;;", 1, 7);
        faulty("near 1 seed 1;", 1, 7);
        faulty("near 1;seed", 1, 11);
        faulty("a;", 1, 0);
        faulty("1;", 1, 0);
        faulty("beside a;", 1, 0);
        faulty("out 1;", 1, 0);
        of("part W N { beside W }");
        fine("part a 1;", 1);
        faulty("part 1;", 1, 5);
        faulty("part a;", 1, 6);
        faulty("part a 1 1;", 1, 9);
        faulty("part a 1;part b 1 beside;", 1, 24);
        faulty("part a 1;part b 1 a;", 1, 18);
        faulty("part a 1;part b 1 beside 1;", 1, 25);
        String seven = parts(7) + "part h 1 beside a beside b beside c beside d beside e beside f beside g";
        fine(seven + ";", 8);
        due("seven beside", told(seven + ";").part(7, 1), 127);
        due("either way", told(seven + ";").part(6, 1), 128);
        of("person W { knows W | cost N | from N | till N | forget N }");
        fine("person x;", 1);
        faulty("person;", 1, 6);
        faulty("person x a;", 1, 9);
        faulty("person x 1;", 1, 9);
        faulty("person x knows;", 1, 14);
        faulty("person x cost;", 1, 13);
        faulty("person x from;", 1, 13);
        faulty("person x till;", 1, 13);
        faulty("person x forget;", 1, 15);
        faulty("person x odds 1;", 1, 9);
        fine("part a 1;person x forget 1 till 1 knows a from 1 cost 1;", 2);
        fine(parts(8) + "person x knows h knows g knows f knows e knows d knows c knows b knows a;", 9);
    }

    private static void otherLines() {
        of("party W W N N");
        fine("part a 1;party a a 1 1;", 2);
        faulty("part a 1;party 1;", 1, 15);
        faulty("part a 1;party a 1;", 1, 17);
        faulty("part a 1;party a a a;", 1, 19);
        faulty("part a 1;party a a 1;", 1, 20);
        faulty("part a 1;party a a 1 1 1;", 1, 23);
        of("weather N { N }");
        faulty("weather;", 1, 7);
        faulty("weather a;", 1, 8);
        fine("weather 1;", 1);
        faulty("weather 1 a;", 1, 10);
        of("slide W N | near N | seed N");
        fine("part a 1;slide a 1;", 2);
        faulty("part a 1;slide 1;", 1, 15);
        faulty("part a 1;slide a;", 1, 16);
        faulty("part a 1;slide a a;", 1, 17);
        faulty("part a 1;slide a 1 1;", 1, 19);
        faulty("near;", 1, 4);
        faulty("near 1 1;", 1, 7);
        faulty("seed;", 1, 4);
        faulty("seed 1 1;", 1, 7);
        of("law KIND E. KIND: out | pick");
        fine("law out 1;law pick 1;", 2);
        faulty("law;", 1, 3);
        faulty("law 1;", 1, 4);
        faulty("law part 1;", 1, 4);
        faulty("law out;", 1, 7);
        faulty("law pick;", 1, 8);
        faulty("law out pick 1;", 1, 8);
    }

    private static void words() {
        of("W: one of 1 .. 6 letters");
        fine("part a 1;", 1);
        fine("part abcdef 1;person abcdef;", 2);
        faulty("part abcdefg 1;", 1, 5);
        faulty("person abcdefg;", 1, 7);
        faulty("part abcdef 1;person x knows abcdefg;", 1, 29);
        faulty("part a 1;slide " + many("a", 30) + " 1;", 1, 15);
        faulty("weathers 1;", 1, 0);
        faulty("weathe 1;", 1, 0);
        of("W: none of those of the language");
        for (String word : LANGUAGE) {
            faulty("part " + word + " 1;", 1, 5);
            faulty("person " + word + ";", 1, 7);
            faulty("part a 1;person x knows " + word + ";", 1, 24);
            String less = word.substring(0, word.length() - 1);
            if (!word.equals("party")) {
                fine("part " + less + " 1;", 1);
            }
            if (word.length() < 6) {
                fine("part " + word + "s 1;person " + word + "z;", 2);
            }
        }
        fine("part lost 1;part steps 1;part lawout 1;person led;", 4);
        of("Words: small letters in a row");
        faulty("part A 1;", 1, 5);
        faulty("part aB 1;", 1, 6);
        fine("part z 1;", 1);
        faulty("part ` 1;", 1, 5);
        faulty("part { 1;", 1, 5);
        faulty("part a_b 1;", 1, 6);
        of("each word of the language where it can't stand");
        List<String> beginnings = List.of("part", "person", "party", "weather", "slide", "near", "seed", "law");
        List<String> options = List.of("knows", "cost", "from", "till", "forget");
        for (String word : LANGUAGE) {
            if (!beginnings.contains(word)) {
                faulty(word + " 1;", 1, 0);
            }
            if (!options.contains(word)) {
                faulty("person x " + word + " 1;", 1, 9);
            }
            if (!word.equals("beside")) {
                faulty("part a 1 " + word + " 1;", 1, 9);
            }
            if (!word.equals("out") && !word.equals("pick")) {
                faulty("law " + word + " 1;", 1, 4);
            }
            faulty("near " + word + ";", 1, 5);
            faulty("near 1 " + word + ";", 1, 7);
        }
        of("N: digits");
        fine("near 0;", 1);
        fine("near 8;", 1);
        fine("near 0000000000000000000000008;", 1);
        faulty("near 0000000000000000000000009;", 2, 5);
        faulty("near 4294967296;", 2, 5);
        faulty("near 18446744073709551616;", 2, 5);
        faulty("near 10000000000000000000000000000000000000000000;", 2, 5);
        faulty("near -1;", 1, 5);
        faulty("near +1;", 1, 5);
        faulty("near 1.0;", 1, 6);
        faulty("near /;", 1, 5);
        faulty("near :;", 1, 5);
        faulty("near 1a;", 1, 6);
    }

    private static void blanks() {
        of("Blanks 10, 32");
        fine("near\n1\n;\n", 1);
        fine("  near   1  ;  ", 1);
        fine("part a 1;part b 1beside a;", 2);
        fine("near1;seed12;part a1;", 3);
        faulty("ne ar 1;", 1, 0);
        faulty("near 1 1;", 1, 7);
        for (int sign : new int[] {0, 1, 9, 11, 12, 13, 31, 33, 34, 39, 44, 46, 58, 63, 91, 127, 128, 160, 255}) {
            faulty("near " + (char) sign + "1;", 1, 5);
            faulty((char) sign + "near 1;", 1, 0);
            faulty("near 1;" + (char) sign, 1, 7);
        }
        of("A = (or > behind <) right behind < or > belongs to it");
        fine("law out 1<=1;", 1);
        fine("law out 1<>1;", 1);
        fine("law out 1>=1;", 1);
        faulty("law out 1< =1;", 1, 11);
        faulty("law out 1< >1;", 1, 11);
        faulty("law out 1> =1;", 1, 11);
        faulty("law out 1><1;", 1, 10);
        faulty("law out 1>>1;", 1, 10);
        faulty("law out 1<<1;", 1, 10);
        faulty("law out 1==1;", 1, 10);
        faulty("law out 1=>1;", 1, 10);
        faulty("law out 1=<1;", 1, 10);
        faulty("law out 1<=>1;", 1, 11);
        faulty("law out 1<>=1;", 1, 11);
        faulty("law out 1>=<1;", 1, 11);
        faulty("law out 1<", 1, 10);
        faulty("law out 1>", 1, 10);
        MoorGuides x = new MoorGuides();
        feed(x, "law out 1<=1;");
        due("the sign behind the text isn't its", x.text(10), -1);
        due("the length", x.fault(1), 10);
    }

    private static void expressions() {
        of("E: A { or A }. A: B { and B }. B: not B | C");
        fine("law out 1 or 1 and not not 1 or 1;", 1);
        faulty("law out or 1;", 1, 8);
        faulty("law out and 1;", 1, 8);
        faulty("law out 1 or;", 1, 12);
        faulty("law out 1 and;", 1, 13);
        faulty("law out not;", 1, 11);
        faulty("law out 1 not 1;", 1, 10);
        faulty("law out 1 or or 1;", 1, 13);
        faulty("law out 1 or and 1;", 1, 13);
        fine("law out 1 and not 1 < 1;", 1);
        of("C: S [ ( < | <= | = | <> | >= | > ) S ]");
        String[] signs = {"<", "<=", "=", "<>", ">=", ">"};
        for (String sign : signs) {
            fine("law out 1" + sign + "1;", 1);
            faulty("law out 1 " + sign + " not 1;", 1, 11 + sign.length());
            for (String second : signs) {
                faulty("law out 1 " + sign + " 1 " + second + " 1;", 1, 13 + sign.length());
                fine("law out 1" + sign + "1 and 1" + second + "1;", 1);
                fine("law out not 1" + sign + "1 or not 1" + second + "1;", 1);
                fine("law out(1" + sign + "1)" + second + "1;", 1);
                fine("law out 1" + sign + "(1" + second + "1);", 1);
            }
        }
        faulty("law out 1 < 1 + 1 < 1;", 1, 18);
        faulty("law out 1 < 1 * 1 = 1;", 1, 18);
        faulty("law out (1 < 1 < 1);", 1, 15);
        faulty("law out < 1;", 1, 8);
        faulty("law out 1 <;", 1, 11);
        of("S: T { ( + | - ) T }. T: P { ( * | / ) P }");
        fine("law out 1 + 1 - 1 * 1 / 1 + 1;", 1);
        for (String sign : new String[] {"+", "-", "*", "/"}) {
            faulty("law out " + sign + "1;", 1, 8);
            faulty("law out 1" + sign + ";", 1, 10);
            faulty("law out 1" + sign + sign + "1;", 1, 10);
            faulty("law out 1" + sign + "not 1;", 1, 10);
            fine("law out 1" + sign + "(not 1);", 1);
        }
        of("P: N | NAME | '(' E ')'");
        for (String name : new String[] {"odds", "around", "weather", "times", "wanted", "cost", "night"}) {
            fine("law out " + name + ";", 1);
            faulty("law out 1 " + name + ";", 1, 10);
            faulty("law out " + name + "(1);", 1, 8 + name.length());
        }
        for (String word : new String[] {"part", "beside", "person", "knows", "from", "till", "forget", "party", "slide", "near",
            "seed", "law", "out", "pick", "a", "abcdefg"}) {
            faulty("law out " + word + ";", 1, 8);
        }
        faulty("law out ();", 1, 9);
        faulty("law out (1;", 1, 10);
        faulty("law out 1);", 1, 9);
        faulty("law out (1));", 1, 11);
        faulty("law out (1)(1);", 1, 11);
        faulty("law out 1 (1);", 1, 10);
        faulty("law out (1", 1, 10);
        of("N of E 0 .. 9999");
        fine("law out 0;", 1);
        fine("law out 9999;", 1);
        fine("law out 0009999;", 1);
        faulty("law out 10000;", 2, 8);
        faulty("law pick 1 + 4294967295;", 2, 13);
    }

    // ---- what may be told -----------------------------------------------------------------------------------

    private static void partsTold() {
        of("PARTS, at most 8");
        fine(parts(8), 8);
        faulty(parts(8) + "part i 50;", 2, 80);
        faulty(parts(8) + "part", 2, 80);
        due("none", told("").count(0), 0);
        due("eight", told(parts(8)).count(0), 8);
        due("the ninth bit is no part", told(parts(8)).part(8, 0), -1);
        of("ODDS 0 .. 100");
        due("0", told("part a 0;").part(0, 0), 0);
        due("100", told("part a 100;").part(0, 0), 100);
        faulty("part a 101;", 2, 7);
        of("beside: PARTS told ahead (each once), either way");
        faulty("part a 1 beside b;part b 1;", 4, 16);
        faulty("part a 1;part b 1 beside b;", 4, 25);
        faulty("part a 1;part b 1 beside a beside a;", 3, 34);
        faulty("part a 1;part b 1;part c 1 beside a beside b beside a;", 3, 52);
        MoorGuides x = told("part a 1;part b 1 beside a;part c 1 beside b;");
        due("one ahead", x.part(2, 1), 2);
        due("one behind", x.part(0, 1), 2);
        due("both", x.part(1, 1), 5);
    }

    private static void peopleTold() {
        of("PEOPLE, at most 6");
        fine(PEOPLE, 6);
        faulty(PEOPLE + "person g;", 2, 54);
        faulty(PEOPLE + "person", 2, 54);
        due("six", told(PEOPLE).count(1), 6);
        of("PARTS that they know at first (each once)");
        faulty("part a 1;person x knows a knows a;", 3, 32);
        fine("part a 1;person x knows a;person y knows a;", 3);
        due("none at first", told("part a 1;person x;").look(0, 2), 0);
        due("all at first", told(parts(8) + "person x knows h knows g knows f knows e knows d knows c knows b knows a;")
            .look(0, 2), 255);
        of("cost 0 .. 99 (1 without)");
        due("without", told("person x;").look(0, 4), 1);
        due("0", told("person x cost 0;").look(0, 4), 0);
        due("99", told("person x cost 99;").look(0, 4), 99);
        faulty("person x cost 100;", 2, 14);
        of("the NIGHT from which on they are there 0 .. 999 (0)");
        due("without", told("person x;").look(0, 0), 1);
        due("0", told("person x from 0;").look(0, 0), 1);
        due("1", told("person x from 1;").look(0, 0), 0);
        fine("person x from 999;", 1);
        faulty("person x from 1000;", 2, 14);
        of("the one on which they are no more 0 .. 999 (999)");
        due("0", told("person x till 0;").look(0, 0), 0);
        due("1", told("person x till 1;").look(0, 0), 1);
        due("998, without", told("part a 1;person x knows a;").knows(0, 0, 998), 1);
        due("999, without", told("part a 1;person x knows a;").knows(0, 0, 999), 0);
        due("998, till 999", told("part a 1;person x knows a till 999;").knows(0, 0, 998), 1);
        due("998, till 998", told("part a 1;person x knows a till 998;").knows(0, 0, 998), 0);
        due("997, till 998", told("part a 1;person x knows a till 998;").knows(0, 0, 997), 1);
        faulty("person x till 1000;", 2, 14);
        of("till not below from");
        fine("person x from 999 till 999;", 1);
        fine("person x from 5 till 5;", 1);
        fine("person x till 5 from 5;", 1);
        fine("person x till 0 from 0;", 1);
        faulty("person x from 5 till 4;", 2, 21);
        faulty("person x till 4 from 5;", 2, 21);
        faulty("person x from 1 cost 3 till 0;", 2, 28);
        fine("person y from 9;person x till 4;", 2);
        of("forget: so many NIGHTS 1 .. 999 (999)");
        faulty("person x forget 0;", 2, 16);
        fine("person x forget 1;", 1);
        fine("person x forget 999;", 1);
        faulty("person x forget 1000;", 2, 16);
        due("without: the last night on which one can be there",
            told("part a 1;person x knows a;").knows(0, 0, 998), 1);
        due("997 at most", told("part a 1;person x knows a forget 997;").knows(0, 0, 998), 0);
    }

    private static void partiesTold() {
        of("PARTIES, at most 8");
        String eight = "part a 1;" + many("party a a 0 0;", 8);
        fine(eight, 9);
        due("eight", told(eight).count(2), 8);
        faulty(eight + "party a a 0 0;", 2, eight.length());
        faulty(eight + "party", 2, eight.length());
        of("from a PART to a PART (the same, too)");
        MoorGuides x = told("part a 1;part b 1;party a a 0 1;party b a 0 1;person p knows a;");
        due("the same", x.led(0, 1), 1);
        due("another one", x.led(1, 1), -2);
        of("the NIGHT 0 .. 999, the price 0 .. 99");
        fine("part a 1;party a a 0 0;", 2);
        fine("part a 1;party a a 999 99;", 2);
        faulty("part a 1;party a a 1000 0;", 2, 19);
        faulty("part a 1;party a a 0 100;", 2, 21);
        x = told("part a 1;person p knows a;party a a 0 0;party a a 998 99;");
        due("on 0 for 0", x.share(0, 0), 0);
        due("on 998 for 99", x.share(998, -1), 99);
        x = told("part a 1;person p knows a;party a a 999 99;");
        due("nobody is there on 999", x.led(0, 0), -2);
        due("a stranger is", x.stranger(1, 999), 99);
    }

    private static void weatherTold() {
        of("weather: 1 .. 14 numbers 0 .. 9");
        faulty("weather;", 1, 7);
        fine("weather 0;", 1);
        fine("weather 9;", 1);
        faulty("weather 10;", 2, 8);
        faulty("weather 1 2 10;", 2, 12);
        fine("weather" + many(" 1", 14) + ";", 1);
        faulty("weather" + many(" 1", 15) + ";", 2, 36);
        faulty("weather" + many(" 1", 14) + " a;", 1, 36);
        of("weather by NIGHTS, then from the first again (0 without)");
        weatherIs("", 0, 0);
        weatherIs("", 999, 0);
        weatherIs("weather 7;", 0, 7);
        weatherIs("weather 7;", 998, 7);
        weatherIs("weather 3 4;", 1, 4);
        weatherIs("weather 3 4;", 2, 3);
        weatherIs("weather 3 4;", 3, 4);
        String fourteen = "weather 1 2 3 4 5 6 7 8 9 0 1 2 3 8;";
        weatherIs(fourteen, 12, 3);
        weatherIs(fourteen, 13, 8);
        weatherIs(fourteen, 14, 1);
        weatherIs(fourteen, 27, 8);
        weatherIs(fourteen, 28, 1);
    }

    private static void weatherIs(String weather, int night, int want) {
        MoorGuides x = told("part a 1;person x;law pick weather;" + weather);
        goBy(x, night);
        due(weather + " on " + night, x.law(1, 0, 0), night == 999 ? Long.MIN_VALUE : want);
    }

    private static void slidesTold() {
        of("SLIDES, at most 4: a PART, the NIGHT 0 .. 999");
        String four = "part a 1;" + many("slide a 5;", 4);
        fine(four, 5);
        due("four", told(four).count(3), 4);
        faulty(four + "slide a 5;", 2, four.length());
        faulty(four + "slide", 2, four.length());
        fine("part a 1;slide a 0;slide a 999;", 3);
        faulty("part a 1;slide a 1000;", 2, 17);
        of("near: 0 .. 8 (0 without)");
        due("without", told("").count(9), 0);
        due("0", told("near 0;").count(9), 0);
        due("8", told("near 8;").count(9), 8);
        faulty("near 9;", 2, 5);
        of("seed: 0 .. 99999 (0)");
        fine("seed 0;", 1);
        fine("seed 99999;", 1);
        faulty("seed 100000;", 2, 5);
        for (int seed : new int[] {-1, 0, 1, 99998, 99999}) {
            int number = drawn(after(Math.max(0, seed)));
            String told = seed < 0 ? "" : "seed " + seed + ";";
            due("just above the number, " + told, goneAt(told, number + 1), 0);
            due("at the number, " + told, goneAt(told, number), 1);
        }
        of("All numbered as they come; PARTS, PEOPLE have names of their kind");
        MoorGuides x = told("part b 1;person b;part a 2;person a cost 7;");
        due("part b", x.named(0, letters("b")), 0);
        due("part a", x.named(0, letters("a")), 1);
        due("person a", x.named(1, letters("a")), 1);
        due("odds of a", x.part(1, 0), 2);
        due("cost of a", x.look(1, 4), 7);
    }

    private static int goneAt(String seed, int odds) {
        MoorGuides x = told("part a " + odds + ";person x;" + seed);
        x.lose(0, 0);
        x.nights(1);
        return x.look(0, 1);
    }

    // ---- the faults -----------------------------------------------------------------------------------------

    private static void firstFaults() {
        of("the first along the text");
        faulty("part a 101;part a;", 2, 7);
        faulty("slide x 1;;", 4, 6);
        faulty("near 1;near 9;#", 3, 7);
        faulty("near 1 # slide x", 1, 7);
        faulty("part a 1;part a 101;", 3, 14);
        faulty("person x cost 1 cost 100;", 3, 16);
        faulty("person x cost 100 cost 1;", 2, 14);
        faulty("weather 1;weather 10;", 3, 10);
        faulty("law out 1;law out 10000;", 3, 14);
        faulty("law out 1;law odds;", 1, 14);
        of("of one place the least");
        faulty("part a 1;party a a 10000 odds;", 2, 19);
        faulty(parts(8) + "part a 101 beside x;", 2, 80);
        faulty(PEOPLE + "person a;", 2, 54);
        String open = "law out ((((((((1";
        faulty(open + "(1;", 1, open.length());
        String full = "law out 1" + many("+1", 31);
        faulty(full + ";law pick 1 1;", 1, full.length() + 12);
        faulty(full + "+;", 1, full.length() + 1);
        faulty(full + "+1;", 2, full.length() + 1);
        faulty(full + "+1+;", 2, full.length() + 1);
        faulty(full + " x", 1, full.length() + 1);
        faulty(full + ";law pick 10000+1+1;", 2, full.length() + 10);
        of("1 (the length, if more must come)");
        faulty("part", 1, 4);
        faulty("part a", 1, 6);
        faulty("part a 1", 1, 8);
        faulty("part a 1 \n ", 1, 11);
        faulty("part a 1;person", 1, 15);
        faulty("part a 1;person x knows", 1, 23);
        faulty("weather 1", 1, 9);
        faulty("law out 1 +", 1, 11);
        faulty("near 1" + many(" ", 894), 1, 900);
        faulty("near 1" + many(" ", 893) + "1", 1, 899);
        fine("near 1" + many(" ", 893) + ";", 1);
        of("as many TOKENS as bytes");
        for (String token : new String[] {";", "(", "a ", "1 ", "#", "<"}) {
            faulty(many(token, 900 / token.length()), 1, 0);
        }
        faulty("law out 1" + many(")", 891), 1, 9);
        faulty("near 1;" + many("+", 893), 1, 7);
    }

    /** Each of the last ones is the 65th knot, if its text begins with 64. */
    private static void knots() {
        of("2 too much: a 65th KNOT of all E (N, NAMES, signs, not, and, or: one each)");
        String knots62 = "law pick 1" + many("+1", 30) + "+(";
        String knots63 = knots62 + "odds)";
        String knots64 = knots62 + "not odds)";
        due("63", told(knots63 + ";").count(4), 63);
        due("64", told(knots64 + ";").count(4), 64);
        for (String sign : new String[] {"+", "-", "*", "/", "<", "<=", "=", "<>", ">=", ">", " and ", " or "}) {
            faulty(knots63 + sign + "1;", 2, knots63.length() + sign.length());
            faulty(knots64 + sign + "1;", 2, knots64.length() + (sign.startsWith(" ") ? 1 : 0));
        }
        String full = "law pick 1" + many("+1", 31) + ";law out ";
        due("63 told", told(full.substring(0, full.length() - 9) + ";").count(4), 63);
        fine(full + "1;", 2);
        due("64", told(full + "1;").count(4), 64);
        due("64 by a name", told(full + "night;").count(4), 64);
        faulty(full + "not 1;", 2, full.length() + 4);
        faulty(full + "not odds;", 2, full.length() + 4);
        faulty(full + "1+1;", 2, full.length() + 1);
        faulty(full + "1 or 1;", 2, full.length() + 2);
        faulty(full + "1 and 1;", 2, full.length() + 2);
        faulty(full + "1<=1;", 2, full.length() + 1);
        fine(full + "((((((((1))))))));", 2);
        due("brackets are none", told("law out ((1));").count(4), 1);
        due("a sign of two is one", told("law out 1<=1;").count(4), 3);
        due("all of them", told("law out not odds+1-1*1/1<1 and 1 or night;").count(4), 16);
        due("of both", told("law out 1;law pick 1+1;").count(4), 4);
        due("numbers elsewhere are none", told("part a 1;near 1;weather 1 2;").count(4), 0);
        fine("law out " + many("not ", 63) + "1;", 1);
        faulty("law out " + many("not ", 64) + "1;", 2, 8 + 4 * 64);
        faulty("law out " + many("not ", 65) + "1;", 2, 8 + 4 * 64);
    }

    private static void brackets() {
        of("2 too much: a ninth '(' open");
        fine("law out " + many("(", 8) + "1" + many(")", 8) + ";", 1);
        faulty("law out " + many("(", 9) + "1" + many(")", 9) + ";", 2, 16);
        faulty("law out " + many("(", 9), 2, 16);
        faulty("law out " + many("(", 8), 1, 16);
        fine("law out " + many("(", 8) + "1)+(1" + many(")", 8) + ";", 1);
        faulty("law out " + many("(", 8) + "1)+((1;", 2, 20);
        fine("law out " + many("((((((((1))))))))+", 3) + "1;law pick ((((((((1))))))));", 2);
        fine("law out 1+(1*(1-(1<(1 and (1 or (not (1+(1))))))));", 1);
        faulty("law out 1+(1*(1-(1<(1 and (1 or (not (1+(1+(1;", 2, 43);
    }

    private static void toldAlready() {
        of("3 told already: a name of its kind (at W)");
        faulty("part a 1;part a 1;", 3, 14);
        faulty("person a;person a;", 3, 16);
        fine("part a 1;person a;", 2);
        fine("part ab 1;part a 1;part abc 1;", 3);
        faulty("part abcdef 1;part abcdeg 1;part abcdef 1;", 3, 33);
        of("3 told already: a PART beside the same, known by the same (at W)");
        faulty("part a 1;part b 1 beside a beside a;", 3, 34);
        fine("part a 1;part b 1 beside a;part c 1 beside a;", 3);
        faulty("part a 1;person x knows a cost 1 knows a;", 3, 39);
        fine("part a 1;person x knows a;person y knows a;", 3);
        of("3 told already: cost, from, till, forget of the same (at the word)");
        for (String word : new String[] {"cost", "from", "till", "forget"}) {
            String once = "person x " + word + " 1 ";
            faulty(once + word + " 1;", 3, once.length());
            faulty(once + word + ";", 3, once.length());
            fine("person x " + word + " 1;person y " + word + " 1;", 2);
        }
        faulty("person x from 0 till 1 from 0;", 3, 23);
        faulty("person x cost 1 forget 1 cost 1;", 3, 25);
        of("3 told already: weather, near, seed (at the word)");
        for (String word : new String[] {"weather", "near", "seed"}) {
            String once = word + " 0;";
            fine(once, 1);
            faulty(once + word + " 0;", 3, once.length());
            faulty(once + "part a 1;" + word, 3, once.length() + 9);
        }
        of("3 told already: a law of its KIND (at KIND)");
        faulty("law out 1;law out 1;", 3, 14);
        faulty("law pick 1;law pick;", 3, 15);
        fine("law pick 1;law out 1;", 2);
        faulty("law pick 1;law out 1;law pick 1;", 3, 25);
        of("4 a PART that isn't told ahead (at W)");
        faultyAt("part a 1 beside b;", 4, "b;");
        faultyAt("person x knows a;part a 1;", 4, "a;");
        faultyAt("part a 1;person x knows x;", 4, "x;");
        faultyAt("part a 1;party b a 0 0;", 4, "b ");
        faultyAt("part a 1;party a b 0 0;", 4, "b ");
        faultyAt("party a b 0 0;part a 1;", 4, "a b");
        faultyAt("slide a 1;part a 1;", 4, "a 1;p");
        faulty("part a 1;slide aa 1;", 4, 15);
    }

    // ---- one text behind another ----------------------------------------------------------------------------

    private static final String RICH = "part a 7;part b 7 beside a;person x knows a cost 9 from 1 till 9 forget 2;party a b 0 1;"
        + "weather 5 6;slide a 1;near 3;seed 4;law out (1+1;";

    /** What a text told, or began to tell ahead of its fault, must not be told already in the next one. */
    private static void freshTexts() {
        of("a TEXT begins anew");
        String whole = RICH.replace("(1+1", "(1+1)") + "law pick 2*2;";
        MoorGuides x = told(whole);
        due("again", tell(x, whole), 10);
        due("knots", x.count(4), 6);
        for (int i = 0; i < 3; i++) {
            due("a fault with a bracket open", tell(x, RICH), -1);
            due("the stuff of it isn't told", tell(x, "law out ((((((((1))))))));law pick 1;near 1;seed 1;weather 1;"), 5);
            due("nor its knots", x.count(4), 2);
            due("a fault with a sign behind", tell(x, "law out 1 or not 1 + 2 *"), -1);
            due("a law", tell(x, "part a 1;person x;law out 5;law pick (7);"), 4);
            due("is worked out without it", x.law(0, 0, 0), 5);
            due("and so is the next one", x.law(1, 0, 0), 7);
            due("a fault behind a sign in brackets", tell(x, "law pick (1 - ((2 *"), -1);
            due("a law", tell(x, "part a 1;person x;law out 5 < 6;"), 3);
            due("is worked out without it", x.law(0, 0, 0), 1);
        }
        tell(x, whole);
        tell(x, "part a 7;part c 7;person x;person y;");
        due("near", x.count(9), 0);
        due("slides", x.count(3), 0);
        due("knots", x.count(4), 0);
        due("parties", x.count(2), 0);
        due("beside", x.part(0, 1), 0);
        due("b", x.named(0, letters("b")), -1);
        due("knows", x.look(0, 2), 0);
        due("cost", x.look(0, 4), 1);
        due("from", x.look(0, 0), 1);
        due("law out", x.law(0, 0, 0), Long.MIN_VALUE);
        due("law pick", x.law(1, 0, 0), Long.MIN_VALUE);
        due("chance", x.chance(0, 0), 7);
        tell(x, "part a 100;person x;law out weather;");
        due("weather", x.law(0, 0, 0), 0);
        due("seed", seedBehind("seed 5;", 1), goneAt("", 1));
        due("till", tillBehind(), 1);
    }

    private static int seedBehind(String before, int odds) {
        MoorGuides x = told(before);
        tell(x, "");
        tell(x, "part a " + odds + ";person x;");
        x.lose(0, 0);
        x.nights(1);
        return x.look(0, 1);
    }

    private static int tillBehind() {
        MoorGuides x = told("person x till 3 forget 1 from 2;");
        tell(x, "");
        tell(x, "part a 1;person x knows a;");
        return x.knows(0, 0, 998);
    }

    public static void main(String[] args) {
        lines();
        otherLines();
        words();
        blanks();
        expressions();
        partsTold();
        peopleTold();
        partiesTold();
        weatherTold();
        slidesTold();
        firstFaults();
        knots();
        brackets();
        toldAlready();
        freshTexts();
        end();
    }
}
