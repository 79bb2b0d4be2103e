import java.util.List;
import java.util.Set;

/** Terms, part 1, and promises 2 to 4: on both sides of each boundary of a TEXT, its TOKENS, its rule, its FAULTS. */
public final class TextEdgesTest {
    private static final List<String> TOKENS = List.of("farm", "shepherd", "mist", "sight", "rest", "minds", "or", "and",
        "not", "seen", "far", "up", "nods", "tick", "hill", "7", "12345", ";", "(", ")", "+", "-", "*", "/", "<", "=",
        "?", "F", "_", ",", "\t", "\r", "\0", "\u007f", "\u00e9", "\u00ff", "`", "{", ":");
    private static final Set<String> LINES = Set.of("farm", "shepherd", "mist", "sight", "rest", "minds");
    private static final Set<String> NUMBER = Set.of("7");
    private static final Set<String> END = Set.of(";");
    private static final Set<String> NUMBER_OR_END = Set.of("7", ";");
    private static final Set<String> PART = Set.of("7", "(", "seen", "far", "up", "nods", "mist", "tick");
    private static final Set<String> NOT = Set.of("7", "(", "seen", "far", "up", "nods", "mist", "tick", "not");

    private TextEdgesTest() {
    }

    public static void main(String[] args) {
        numbersOfAFarm();
        placesNoTwoAlike();
        howManyFarms();
        sights();
        rests();
        mists();
        digits();
        wordsAndBlanks();
        lengths();
        fullTape();
        whatIsFedAndRead();
        whatCanStandInALine();
        whatCanStandInAnExpression();
        endsTooSoon();
        howDeep();
        howManyNots();
        secondLines();
        theFirstAlongTheText();
        ofOneTokenTheLeast();
        placeOfTheLatest();
        Check.end("TextEdgesTest");
    }

    /** The FAULT of a text, and its place; 0 and NONE without. */
    private static void fault(String text, int fault, int place) {
        NodPost post = new NodPost();
        Check.feed(post, text);
        Check.is("upland of '" + text + "'", post.upland(text.length()), fault);
        Check.is("fault of '" + text + "'", post.fault(), place);
        Check.is("STATUS 0 of '" + text + "'", post.count(13), fault == 0 ? 0 : 1);
        Check.is("other STATUS of '" + text + "'", post.count(14) + post.count(15), 0);
        Check.is("the tape of '" + text + "'", post.count(12), 0);
    }

    private static void fine(String text) {
        fault(text, 0, NodPost.NONE);
    }

    /** X, HEIGHT, HAT and SLOW: the least and the most are told, one less and one more are FAULT 2. */
    private static void numbersOfAFarm() {
        int[] least = {0, 0, 0, 1};
        int[] most = {99, 99, 20, 5};
        for (String kind : List.of("farm", "shepherd")) {
            for (int what = 0; what < 4; what++) {
                toldOfAFarm(kind, what, least[what]);
                toldOfAFarm(kind, what, most[what]);
                int place = kind.length() + 1 + 2 * what;
                fault(farmWith(kind, what, String.valueOf(most[what] + 1)), 2, place);
                fault(farmWith(kind, what, "9999"), 2, place);
                fault(farmWith(kind, what, "0000" + least[what]), 2, place);
                if (least[what] > 0) {
                    fault(farmWith(kind, what, String.valueOf(least[what] - 1)), 2, place);
                }
            }
        }
    }

    private static String farmWith(String kind, int what, String number) {
        String[] numbers = {"4", "4", "4", "4"};
        numbers[what] = number;
        return kind + " " + String.join(" ", numbers) + ";";
    }

    private static void toldOfAFarm(String kind, int what, int number) {
        NodPost post = Check.post(farmWith(kind, what, String.valueOf(number)));
        for (int i = 0; i < 4; i++) {
            Check.is(kind + " with " + what + " of " + number, post.farm(0, i), i == what ? number : 4);
        }
        Check.is(kind, post.farm(0, 8), kind.equals("shepherd") ? 1 : 0);
    }

    private static void placesNoTwoAlike() {
        fine("farm 0 0 0 1;farm 1 0 0 1;farm 98 0 0 1;farm 99 0 0 1;");
        fault("farm 0 0 0 1;farm 1 0 0 1;farm 0 0 0 1;", 4, 31);
        fault("farm 0 0 0 1;farm 99 0 0 1;shepherd 99 0 0 1;", 4, 36);
        fault("farm 7 0 0 1;farm 0007 0 0 1;", 4, 18);
        // HEIGHT, HAT and SLOW may be alike, and like an X.
        fine("farm 1 1 1 1;farm 2 1 1 1;");
        // An X of a TEXT that was refused, or of the one before, is free.
        NodPost post = new NodPost();
        Check.is("refused", upland(post, "farm 7 0 0 1;farm 8 0 0 0;"), 2);
        Check.is("7 and 8 are free", upland(post, "farm 7 0 0 1;farm 8 0 0 1;"), 0);
        Check.is("again", upland(post, "farm 7 0 0 1;farm 8 0 0 1;"), 0);
    }

    private static int upland(NodPost post, String text) {
        Check.feed(post, text);
        return post.upland(text.length());
    }

    private static String farms(int many) {
        StringBuilder text = new StringBuilder();
        for (int farm = 0; farm < many; farm++) {
            text.append(farm % 2 == 0 ? "farm " : "shepherd ").append(10 * farm).append(" 0 0 1;");
        }
        return text.toString();
    }

    private static void howManyFarms() {
        for (int many = 0; many <= 9; many++) {
            NodPost post = Check.post(farms(many));
            Check.is("FARMS", post.count(0), many);
            Check.is("PARTS", post.count(7), Math.min(many, 1));
            int none = many;
            Check.noSuch("one FARM more", () -> post.farm(none, 0));
            Check.is("the last FARM", many == 0 ? 0 : post.farm(many - 1, 0), Math.max(0, 10 * (many - 1)));
        }
        String nine = farms(9);
        for (String tenth : List.of("farm", "shepherd", "farm 95 0 0 1;", "farm ?", "farm 100", "shepherd 80 0 0 1;")) {
            fault(nine + tenth, 2, nine.length());
        }
        fine(nine + "rest 1;");
        fault(nine + "hill", 1, nine.length());
        NodPost post = new NodPost();
        Check.is("nine", upland(post, nine), 0);
        Check.is("nine anew", upland(post, nine), 0);
        Check.is("FARMS", post.count(0), 9);
    }

    private static void sights() {
        fault("sight 0;", 2, 6);
        fault("sight 100;", 2, 6);
        fault("sight 00099;", 2, 6);
        for (int sight : new int[] {1, 2, 59, 60, 61, 98, 99}) {
            Check.is("SIGHT", Check.post("sight " + sight + ";").count(3), sight);
            Check.is("as far as SIGHT", apart(sight, "sight " + sight + ";"), 2);
            if (sight < 99) {
                Check.is("farther than SIGHT", apart(sight + 1, "sight " + sight + ";"), 0);
            }
        }
        Check.is("SIGHT without", Check.post("rest 1;").count(3), 60);
        Check.is("as far as SIGHT without", apart(60, ""), 2);
        Check.is("farther than SIGHT without", apart(61, ""), 0);
    }

    /** SEES of the first of two, so far apart. */
    private static int apart(int x, String lines) {
        return Check.post("farm 0 0 0 1;farm " + x + " 0 0 1;" + lines).farm(0, 9);
    }

    private static void rests() {
        fault("rest 10;", 2, 5);
        fault("rest 00000;", 2, 5);
        for (int rest = 0; rest <= 9; rest++) {
            Check.is("RESTS as told", restsBehindANod("rest " + rest + ";"), rest);
        }
        Check.is("RESTS without", restsBehindANod(""), 3);
    }

    private static int restsBehindANod(String lines) {
        NodPost post = Check.post("farm 0 0 0 1;" + lines);
        post.begin(0);
        post.ticks(1);
        Check.is("REST", post.count(4), post.farm(0, 5));
        return post.farm(0, 5);
    }

    private static void mists() {
        Check.is("MIST without", Check.post("rest 1;").count(2), 0);
        for (int mist = 0; mist <= 9; mist++) {
            Check.is("MIST", Check.post("mist " + mist + ";").count(2), mist);
        }
        fault("mist 10;", 2, 5);
        fault("mist 9 9 9 9 9 9 9 10;", 2, 19);
        fault("mist 00000;", 2, 5);
        fault("mist;", 1, 4);
        StringBuilder text = new StringBuilder("mist");
        for (int many = 1; many <= 8; many++) {
            text.append(' ').append(many);
            goesRound(Check.post(text + ";"), many);
        }
        fault(text + " 9;", 2, 21);
        fault(text + " 10;", 2, 21);
        fault(text + " 12345;", 2, 21);
        fault(text + " ?", 1, 21);
    }

    /** MIST is 1 to many: that of TICK t is the (t MOD many)-th. */
    private static void goesRound(NodPost post, int many) {
        for (int tick = 0; tick < 18; tick++) {
            Check.is("MIST of TICK " + tick + " of " + many, post.count(2), tick % many + 1);
            post.ticks(1);
        }
        for (int i = 0; i < 49; i++) {
            post.ticks(20);
        }
        Check.is("MIST of TICK 998", post.count(2), 998 % many + 1);
        post.ticks(1);
        Check.is("MIST of TICK 999", post.count(2), 999 % many + 1);
    }

    private static void digits() {
        fine("farm 0 00 000 0001;");
        fine("minds 0;");
        fine("minds 9999;");
        fine("minds 0000;");
        fault("minds 00000;", 2, 6);
        fault("minds 10000;", 2, 6);
        fault("minds 4294967296;", 2, 6);
        fault("minds 18446744073709551617;", 2, 6);
        fault("farm 1 2 3 40000;", 2, 11);
        fault("farm 1 4294967296 0 1;", 2, 7);
        fine("minds 9999 = 9999;");
        fault("minds 9999 = 99990;", 2, 13);
        // The longest row of digits is one NUMBER; a blank, or anything else, ends it.
        fault("minds 1234 5;", 1, 11);
        fine("farm12 34 5 1;");
        fault("farm 12 34 51;", 2, 11);
    }

    private static void wordsAndBlanks() {
        fine("\n \n farm\n1\n\n2 3\n4\n;\n \n");
        fine("farm 1 2 3 4;rest 2;mist 1 2;sight 7;minds 1;");
        fine("minds not(seen)or(far)and(up);");
        fault("farm1 2 3 4x;", 1, 11);
        fault("fa rm 1 2 3 4;", 1, 0);
        fault("far", 1, 0);
        fault("farmm 1 2 3 4;", 1, 0);
        fault("farmrest 1;", 1, 0);
        fault("minds notseen;", 3, 6);
        fault("minds see n;", 3, 6);
        fault("minds seenn;", 3, 6);
        fault("minds seen orfar;", 1, 11);
        for (char sign : new char[] {0, 9, 11, 12, 13, 31, 33, 127, 128, 160, 255}) {
            fault(sign + "rest 1;", 1, 0);
            fault("rest" + sign + "1;", 1, 4);
            fault("rest 1;" + sign, 1, 7);
        }
        // Just beside a and z, 0 and 9.
        fault("minds seen`;", 1, 10);
        fault("minds seen{;", 1, 10);
        fault("minds 1/2:;", 1, 9);
        fine("minds 1/2;");
        fault("minds a;", 3, 6);
        fault("minds z;", 3, 6);
        fault("minds `;", 1, 6);
        fault("minds {;", 1, 6);
        fault("minds :;", 1, 6);
    }

    private static void lengths() {
        NodPost post = new NodPost();
        Check.is("an empty text", post.upland(0), 0);
        post.feed(0x72657374, 0x20353b20, 0x3f3f3f3f, 0x3f3f3f3f, 0x3f3f3f3f);
        Check.illegal("one below none", () -> post.upland(-1));
        Check.illegal("one more than there are", () -> post.upland(21));
        Check.illegal("many more", () -> post.upland(Integer.MAX_VALUE));
        Check.illegal("many less", () -> post.upland(Integer.MIN_VALUE));
        Check.is("the tape stays", post.count(12), 20);
        Check.is("the place stays", post.fault(), -1);
        Check.is("STATUS stays", post.count(13), 0);
        Check.is("just 7 of them", post.upland(7), 0);
        Check.is("REST", post.count(4), 5);
        Check.is("it is empty then", post.count(12), 0);
        Check.illegal("none are left", () -> post.upland(1));
        Check.is("none", post.upland(0), 0);
        Check.is("all anew", post.count(4), 3);
        post.feed(0x72657374, 0x20353b20, 0x3f3f3f3f, 0x3f3f3f3f, 0x3f3f3f3f);
        Check.is("all 20 of them", post.upland(20), 1);
        Check.is("the place", post.fault(), 8);
        Check.is("it is empty then, too", post.count(12), 0);
        Check.illegal("nothing is left", () -> post.upland(1));
        Check.is("the place stays", post.fault(), 8);
        Check.is("STATUS 0", post.count(13), 1);
        for (int n = 0; n < 6; n++) {
            fault("rest 5;".substring(0, n), n == 0 ? 0 : 1, n == 0 ? -1 : n < 4 ? 0 : n);
        }
    }

    private static void fullTape() {
        NodPost post = new NodPost();
        String text = " ".repeat(693) + "rest 7;";
        for (int at = 0; at < 700; at += 20) {
            int[] numbers = Check.numbers(text, at);
            Check.is("feed", post.feed(numbers[0], numbers[1], numbers[2], numbers[3], numbers[4]), at + 20);
        }
        for (int i = 0; i < 3; i++) {
            Check.is("more than 700", post.feed(-1, -1, -1, -1, -1), -1);
            Check.is("none come", post.count(12), 700);
        }
        Check.is("nothing of it is STATUS", post.count(13) + post.count(14) + post.count(15), 0);
        Check.illegal("more than 700", () -> post.upland(701));
        Check.is("all 700", post.upland(700), 0);
        Check.is("REST", post.count(4), 7);
        Check.is("it can be fed again", post.feed(0, 0, 0, 0, 0), 20);
        fault(" ".repeat(692) + "rest 7;", 0, -1);
        fault(" ".repeat(693) + "rest 77", 2, 698);
        fault(" ".repeat(694) + "rest 7", 1, 700);
        fault(" ".repeat(695) + "rest ", 1, 700);
        fault(" ".repeat(696) + "rest", 1, 700);
        fault(" ".repeat(697) + "res", 1, 697);
        fault(" ".repeat(699) + "?", 1, 699);
        fault("minds" + "(".repeat(695), 2, 11);
        fault("minds" + " not".repeat(173), 2, 30);
        fine("minds " + "1 or ".repeat(138) + "1  ;");
        fine("minds 1*1+1-1/1<" + "1*".repeat(341) + "1;");
    }

    /** Bytes of each number, the highest first; what was fed earlier stands ahead; bytes beyond n count for nothing. */
    private static void whatIsFedAndRead() {
        NodPost post = new NodPost();
        Check.is("feed", post.feed(0x73696768, 0x74203132, 0x3b6d6973, 0x74203120, 0x3220330a), 20);
        Check.is("feed", post.feed(0x20343b72, 0x65737420, 0x363b6661, 0x726d2031, 0x20322033), 40);
        Check.is("feed", post.feed(0x20343b20, -1, Integer.MIN_VALUE, Integer.MAX_VALUE, 0), 60);
        Check.is("44 bytes", post.upland(44), 0);
        Check.is("SIGHT", post.count(3), 12);
        Check.is("MIST", post.count(2), 1);
        Check.is("REST", post.count(4), 6);
        Check.is("FARMS", post.count(0), 1);
        Check.is("SLOW", post.farm(0, 3), 4);
        // What stood on the tape isn't there any more: behind a short text lies nothing.
        post.feed(0x72657374, 0x20323b20, 0x20202020, 0x20202020, 0x20202020);
        Check.illegal("60 bytes were there", () -> post.upland(60));
        Check.is("20 are", post.upland(20), 0);
        Check.is("FARMS", post.count(0), 0);
        Check.is("REST", post.count(4), 2);
        Check.is("SIGHT without", post.count(3), 60);
    }

    /** Behind the text, each TOKEN is a FAULT at its first byte, if it can't stand there; else the FAULT is elsewhere. */
    private static void stands(String text, Set<String> can, boolean partMustStand) {
        for (String token : TOKENS) {
            int place = text.length() + 1;
            NodPost post = new NodPost();
            int fault = upland(post, text + " " + token);
            String what = "'" + text + "' and '" + token + "'";
            if (can.contains(token)) {
                Check.is(what, fault == 0 || post.fault() == place + token.length(), true);
                continue;
            }
            boolean isWord = token.charAt(0) >= 'a' && token.charAt(0) <= 'z';
            boolean isTooMuch = token.equals("12345") && can.contains("7");
            Check.is(what, fault, isTooMuch ? 2 : isWord && partMustStand ? 3 : 1);
            Check.is("place of " + what, post.fault(), place);
        }
    }

    private static void whatCanStandInALine() {
        stands("", LINES, false);
        stands("farm 1 2 3 4;", LINES, false);
        stands("minds 1;rest", NUMBER, false);
        for (String kind : List.of("farm", "shepherd")) {
            stands(kind, NUMBER, false);
            stands(kind + " 1", NUMBER, false);
            stands(kind + " 1 2", NUMBER, false);
            stands(kind + " 1 2 3 4", END, false);
        }
        stands("mist", NUMBER, false);
        stands("mist 1", NUMBER_OR_END, false);
        stands("mist 1 2 3 4 5 6 7", NUMBER_OR_END, false);
        stands("sight", NUMBER, false);
        stands("sight 7", END, false);
        stands("rest", NUMBER, false);
        stands("rest 7", END, false);
        fault("farm 1 2 3 6", 2, 11);
    }

    private static void whatCanStandInAnExpression() {
        for (String before : List.of("minds", "minds 1 or", "minds 1 and", "minds not", "minds (", "minds 1+(1<2 and",
                "minds (((((1 or", "minds not not not not not", "minds (((((not not not not not")) {
            stands(before, NOT, true);
        }
        for (String before : List.of("minds 1+", "minds 1-", "minds 1*", "minds 1/", "minds 1<", "minds 1=",
                "minds not 1=", "minds (((((1+", "minds 1<2+", "minds 1=2/")) {
            stands(before, PART, true);
        }
        Set<String> untested = Set.of(";", "or", "and", "+", "-", "*", "/", "<", "=");
        Set<String> tested = Set.of(";", "or", "and", "+", "-", "*", "/");
        for (String before : List.of("minds 7", "minds seen", "minds (1)", "minds (1<2)", "minds not 1", "minds 1*2",
                "minds 1<2 and 3", "minds 1<2 or not 3", "minds (1<2)+3")) {
            stands(before, untested, false);
        }
        for (String before : List.of("minds 1<2", "minds 1=2+3", "minds 1 or not 1=seen", "minds not not 1<(1<2)")) {
            stands(before, tested, false);
        }
        stands("minds (7", Set.of(")", "or", "and", "+", "-", "*", "/", "<", "="), false);
        stands("minds ((7<1", Set.of(")", "or", "and", "+", "-", "*", "/"), false);
    }

    /** The text's length is the place, blanks that end it included. */
    private static void endsTooSoon() {
        for (String text : List.of("farm", "farm 1", "farm 1 2", "farm 1 2 3", "farm 1 2 3 4", "shepherd", "mist",
                "mist 1", "mist 1 2 3 4 5 6 7 8", "sight", "sight 1", "rest", "rest 1", "minds", "minds 1", "minds 1+",
                "minds not", "minds (", "minds (1", "minds 1<", "minds 1 or", "minds 1 and", "minds ((((((")) {
            fault(text, 1, text.length());
            fault(text + " ", 1, text.length() + 1);
            fault(text + "\n \n", 1, text.length() + 3);
        }
        fine("farm 1 2 3 4; ");
        fine("mist 1 2 3 4 5 6 7 8;");
    }

    private static void howDeep() {
        for (int deep = 0; deep <= 5; deep++) {
            fine("minds " + "(".repeat(deep) + "1" + ")".repeat(deep) + ";");
            fine("minds 1+" + "(not ".repeat(deep) + "seen" + ")".repeat(deep) + "*2;");
        }
        for (String first : List.of("1", "9999", "12345", "seen", "tick", "not 1", "hill", "farm", "or", "(", "((1")) {
            fault("minds ((((((" + first, 2, 12);
        }
        for (String first : List.of("", ")", "+1", "-", "*", "/", "<", "=", ";", "?", "A")) {
            fault("minds ((((((" + first, 1, 12);
        }
        // Those that are closed aren't around it any more.
        fine("minds (((((1)))))+(((((1)))))*(((((1)))));");
        fault("minds (((((1)))))+((((((1))))));", 2, 24);
        fault("minds (((((1)+((1))))));", 2, 16);
        fine("minds (((((1)+(1))+(1))+(1))+(1));");
        // Neither 'not' nor operators are around anything.
        fine("minds not not not not not not (((((not not not not not not 1)))));");
    }

    private static void howManyNots() {
        for (int nots = 0; nots <= 6; nots++) {
            fine("minds " + "not ".repeat(nots) + "1;");
            fine("minds " + "not ".repeat(nots) + "1 and " + "not ".repeat(nots) + "1 or " + "not ".repeat(nots) + "1;");
            fine("minds 1 + (" + "not ".repeat(nots) + "(" + "not ".repeat(nots) + "1));");
            boolean holds = nots % 2 == 0;
            NodPost post = Check.post("farm 0 0 0 1;farm 1 0 0 1;minds " + "not ".repeat(nots) + "5;");
            Check.is(nots + " nots", post.reaches(0, 1), holds ? 2 : -1);
        }
        for (String behind : List.of("1;", "not 1;", "(1);", "hill", "", "?")) {
            fault("minds " + "not ".repeat(7) + behind, 2, 30);
            fault("minds 1 or " + "not ".repeat(7) + behind, 2, 35);
            fault("minds 1<2 and " + "not ".repeat(7) + behind, 2, 38);
            fault("minds (" + "not ".repeat(7) + behind, 2, 31);
        }
    }

    private static void secondLines() {
        for (String line : List.of("mist 1;", "sight 2;", "rest 3;", "minds 4;")) {
            String word = line.substring(0, line.indexOf(' '));
            fine(line);
            fault(line + line, 5, line.length());
            fault(line + word, 5, line.length());
            fault(line + word + " ?", 5, line.length());
            fault(line + "farm 1 2 3 4; " + word, 5, line.length() + 14);
            fine("farm 1 2 3 4;" + line + "shepherd 2 3 4 5;");
            // A TEXT that was refused, or the one before, doesn't count.
            NodPost post = new NodPost();
            Check.is("refused", upland(post, line + "?"), 1);
            Check.is("once", upland(post, line), 0);
            Check.is("once again", upland(post, line), 0);
            Check.is("twice", upland(post, line + line), 5);
            Check.is("once again", upland(post, line), 0);
        }
        fine("mist 0;sight 60;rest 3;minds mist;");
        fault("mist 0;mist 0;", 5, 7);
        fault("sight 60;sight 60;", 5, 9);
        fault("rest 3;rest 3;", 5, 7);
        fault("minds 0;minds 0;", 5, 8);
        fault("mist 1;sight 2;rest 3;minds 4;mist 1;sight 2;", 5, 30);
        fault("mist 1 mist 2;", 1, 7);
    }

    private static void theFirstAlongTheText() {
        fault("farm 100 100 21 0;", 2, 5);
        fault("farm 1 100 21 0;", 2, 7);
        fault("farm 1 2 21 0;", 2, 9);
        fault("farm 1 2 3 0?", 2, 11);
        fault("farm 1 2 3 ?;farm 1", 1, 11);
        fault("farm 1 2 3 4;farm 1 ? 3 4;", 4, 18);
        fault("rest 1;rest 10?", 5, 7);
        fault("rest 10;rest 1;", 2, 5);
        fault("minds hill+12345?", 3, 6);
        fault("minds 12345+hill?", 2, 6);
        fault("minds ?+hill+12345", 1, 6);
        fault("rest 1;minds 1?;rest 1;", 1, 14);
    }

    private static void ofOneTokenTheLeast() {
        // It can't stand there, however much it is.
        fault("12345", 1, 0);
        fault("rest 1 12345", 1, 7);
        fault("farm 1 2 3 4 12345", 1, 13);
        fault("minds 1 12345", 1, 8);
        fault("minds 1 hill", 1, 8);
        fault("minds 1 not 1", 1, 8);
        fault("farm farm", 1, 5);
        fault(farms(9) + "rest farm", 1, farms(9).length() + 5);
        fault("mist 1;rest mist", 1, 12);
        // Too much, and at a place that is taken, too; too much, and no VALUE, too.
        fault("farm 1 2 3 4;farm 00001 2 3 4;", 2, 18);
        fault("minds ((((((hill", 2, 12);
        fault("minds ((((((rest", 2, 12);
        fault(farms(9) + "farm 0 0 0 1;", 2, farms(9).length());
        // A second one where none can stand; one where a PART must stand.
        fault("rest 1;minds rest", 3, 13);
        fault("rest 1;minds 1 rest", 1, 15);
        fault("minds minds", 3, 6);
    }

    private static void placeOfTheLatest() {
        NodPost post = new NodPost();
        Check.is("none yet", post.fault(), -1);
        Check.is("a FAULT", upland(post, "rest 10;"), 2);
        Check.is("its place", post.fault(), 5);
        Check.is("another FAULT", upland(post, "  ?"), 1);
        Check.is("its place", post.fault(), 2);
        Check.is("a FAULT at 0", upland(post, "?"), 1);
        Check.is("its place", post.fault(), 0);
        Check.is("STATUS 0", post.count(13), 3);
        Check.is("none", upland(post, "rest 9;"), 0);
        Check.is("no place", post.fault(), -1);
        Check.is("STATUS 0 stays", post.count(13), 3);
    }
}
