/** The boundary cases that the document names in promises 1 to 5, sentence by sentence. */
public final class TextEdgesTest {
    private static final int NONE = -10;
    private static final Check check = new Check();

    public static void main(String[] args) {
        newObject();
        typeLetters();
        typeLength();
        clearText();
        faultOfLetters();
        faultOfPlaces();
        faultOfRouters();
        faultOfEnds();
        faultOfBlanks();
        buildRefused();
        buildNumbers();
        buildClosesTunnels();
        check.end();
    }

    private static void run(String sentence, String script) {
        Script.run(check, sentence, script);
    }

    private static void newObject() {
        run("promise 1: a fabric that consists of the host", """
            count(0) = 1
            router(0,0) = HOST; router(0,1) = 3; router(0,4) = 0; router(0,5) = 0
            router(1,0) ! BAD; router(7,0) ! BAD
            plugged(0,0) = NONE; plugged(0,1) = NONE; plugged(0,2) ! BAD
            """);
        run("promise 1: without tunnels", """
            count(1) = 0; count(8) = 0; tunnel(0,0) ! BAD; tunnel(9,0) ! BAD
            """);
        run("promise 1: with an empty text", """
            count(7) = 0; fault() = NONE; clearText() = 0; build() = 1; type(0) = 1
            """);
        run("promise 1: no ticks, no cells, no links, and the patience is at first 3", """
            count(2) = 0; count(3) = 0; count(4) = 0; count(5) = 0; count(6) = 3; setPatience(4) = 3
            """);
        run("promise 1: nothing is saved", """
            restore(0) ! STATE; restore(1) ! STATE
            """);
    }

    private static void typeLetters() {
        run("promise 2: the byte, from 0", """
            type(-1) ! BAD; type(MIN) ! BAD; count(7) = 0; type(0) = 1; type(1) = 2
            """);
        run("promise 2: the byte, to 127", """
            type(128) ! BAD; type(MAX) ! BAD; count(7) = 0; type(127) = 1; type(126) = 2
            """);
        run("promise 2: a number beyond the bytes is not taken for the byte it would wrap to", """
            type(360) ! BAD; type(-152) ! BAD; type(104) = 1; type(307) ! BAD; type(51) = 2; build() = 2
            """);
        run("promise 2: the bytes 0 and 127 are kept as they are", """
            text 'h3'
            type(0) = 3; fault() = 2; clearText() = 3
            text 'h3'
            type(127) = 3; fault() = 2
            """);
    }

    private static void typeLength() {
        run("promise 2: returns the length of the text, up to 60", """
            type(32) = 1; type(32) = 2; 56 * type(32)
            type(32) = 59; type(32) = 60; type(32) ! FULL; count(7) = 60
            """);
        run("promise 2: FULL if the text has 60 bytes, which stay as they are", """
            58 * type(32)
            text 'h3'
            fault() = NONE; type(120) ! FULL; type(49) ! FULL; fault() = NONE; build() = 2; router(1,1) = 3
            """);
        run("promise 2: BAD comes before FULL", """
            60 * type(32)
            type(-1) ! BAD; type(128) ! BAD; type(0) ! FULL; type(127) ! FULL
            """);
        run("promise 2: an emptied text takes 60 bytes again", """
            60 * type(32)
            clearText() = 60; 59 * type(32)
            type(32) = 60; type(32) ! FULL; build() = 1; 59 * type(32)
            type(32) = 60; type(32) ! FULL
            """);
    }

    private static void clearText() {
        run("promise 3: returns the length that it had, 0 if it was empty", """
            clearText() = 0; clearText() = 0; type(104) = 1; clearText() = 1; clearText() = 0
            """);
        run("promise 3: returns the length that it had, at most 60", """
            59 * type(120)
            clearText() = 59; 60 * type(120)
            type(120) ! FULL; clearText() = 60; count(7) = 0
            """);
        run("promise 3: empties the text, and nothing else", """
            text 'h3(d3)'
            build() = 3; open(1,2,1) = 0; offer(0,0,5) = 5; save(0) = 1
            text 'h3('
            fault() = 3; clearText() = 3; fault() = NONE; count(7) = 0
            count(0) = 3; cellCount(0,0,0) = 5; restore(0) = 1; type(104) = 1; fault() = 1
            """);
    }

    /** A text with this fault, which build() refuses; or with none, which it takes. */
    private static void faultIs(String sentence, int fault, String text) {
        String found = fault == NONE ? "fault() = NONE" : "fault() = " + fault + "; build() ! STATE";
        run("promise 4: " + sentence, "text '" + text + "'\n" + found + "; count(7) = " + text.length()
            + (fault == NONE ? "; build() = " + (1 + text.replaceAll("[^hsdn]", "").length()) : ""));
    }

    private static void faultOfLetters() {
        for (char letter : "hsdn".toCharArray()) {
            faultIs("the letters h, s, d and n", NONE, letter + "3");
            faultIs("the letter before it is none", 0, (char) (letter - 1) + "3");
            faultIs("the letter after it is none", 0, (char) (letter + 1) + "3");
            faultIs("the capital letter is none", 0, (char) (letter - 32) + "3");
        }
        faultIs("the generation a digit from 1", NONE, "h1");
        faultIs("the generation a digit from 1, not 0", 1, "h0");
        faultIs("the generation a digit to 3", NONE, "h3");
        faultIs("the generation a digit to 3, not 4", 1, "h4");
        faultIs("no sign", 1, "h-1");
        faultIs("one digit", 2, "h11");
        run("promise 4: byte 39 before the parentheses cannot stand", """
            text 'h3'
            type(39); fault() = 2; build() ! STATE
            """);
        faultIs("byte 42 after the parentheses cannot stand", 2, "h3*");
    }

    private static void faultOfPlaces() {
        faultIs("the first byte cannot stand: a digit", 0, "1");
        faultIs("the first byte cannot stand: (", 0, "(s3)");
        faultIs("the first byte cannot stand: )", 0, ")");
        faultIs("a letter in place of the generation", 1, "hs3");
        faultIs("( in place of the generation", 1, "h(s3)");
        faultIs("( in place of the generation of a second router", 3, "h3s(d3)");
        faultIs(") in place of the generation", 4, "h3(s)");
        faultIs("a digit after the generation", 2, "h32");
        faultIs("a digit after (", 3, "h3(3)");
        faultIs("( after (", 3, "h3((s3))");
        faultIs("a digit after )", 4, "h3()3");
        faultIs("brackets mean at most once", 4, "h3()()");
        faultIs("brackets mean at most once, also around routers", 6, "h3(s3)(s3)");
        faultIs("brackets mean at most once, also after a blank", 7, "h3(s3) (s3)");
        faultIs("a ) too many", 2, "h3)");
        faultIs("a ) too many, after one that stands", 6, "h3(s3))");
        faultIs("the first of several bytes that cannot stand", 2, "h3xyz");
        faultIs("braces mean zero times or more: no router in parentheses", NONE, "h3()");
        faultIs("braces mean zero times or more: no router at all", NONE, "");
        faultIs("parentheses with nothing in them may follow a router without ports", NONE, "n3()");
        faultIs("the first byte, index 0, of a full text", 0, "x" + " ".repeat(59));
        faultIs("the last byte, index 59, of a full text", 59, "h3" + " ".repeat(57) + "x");
    }

    private static void faultOfRouters() {
        faultIs("the host has 2 ports", NONE, "s3s3");
        faultIs("the letter of a router for which there is no port left: at the host", 4, "s3s3s3");
        faultIs("a hub has 3 ports", NONE, "h3(s3s3s3)");
        faultIs("no port left: at a hub", 9, "h3(s3s3s3s3)");
        faultIs("a screen has 1 port", NONE, "s3(s3)");
        faultIs("no port left: at a screen", 5, "s3(s3s3)");
        faultIs("a disk has 1 port", NONE, "d3(s3)");
        faultIs("no port left: at a disk", 5, "d3(s3n3)");
        faultIs("no port left: at a network, which has none", 3, "n3(s3)");
        faultIs("no port left, at the router before the parentheses, though the host has one", 5, "s3(s3s3)s3");
        faultIs("the ports of a router above are counted on after its parentheses", 13, "h3(d3(n3)n3n3n3)");
        faultIs("seven routers besides the host", NONE, "h3(h3(s3s3s3)s3)s3");
        faultIs("an eighth router besides the host", 18, "h3(h3(s3s3s3)s3s3)s3");
        faultIs("an eighth router besides the host, its letter alone", 18, "h3(h3(s3s3s3)s3s3)s");
        faultIs("depth 4", NONE, "d3(d3(d3(d3)))");
        faultIs("depth 4 with nothing in its parentheses", NONE, "d3(d3(d3(d3())))");
        faultIs("a router that would have the depth 5", 12, "d3(d3(d3(d3(d3))))");
        faultIs("a router that would have the depth 5, below a hub", 12, "h3(h3(h3(h3(n1))))");
        faultIs("the place is at fault before the missing port", 3, "n3((s3)");
    }

    private static void faultOfEnds() {
        faultIs("the length of the text if it ends too early: after a letter", 1, "h");
        faultIs("too early: after a letter in parentheses", 4, "h3(s");
        faultIs("too early: after (", 3, "h3(");
        faultIs("too early: after a router in parentheses", 5, "h3(s3");
        faultIs("too early: one ) is missing", 9, "h3(h3(s3)");
        faultIs("too early: after a letter and blanks", 3, "h  ");
        faultIs("too early: after a parenthesis and blanks", 5, "h3(  ");
        faultIs("too early: below depth 4", 12, "d3(d3(d3(d3(");
        faultIs("too early: with 59 bytes", 59, "h" + " ".repeat(58));
        faultIs("too early: with 60 bytes", 60, "h" + " ".repeat(59));
        faultIs("a fault in a text that also ends too early is where the byte stands", 3, "h3(x");
        run("promise 4: the fault of a text does not hang on the one before", """
            text 'h3'
            fault() = NONE; clearText() = 2; type(40) = 1; fault() = 0; clearText() = 1
            text 'h3('
            fault() = 3; clearText() = 3; type(41) = 1; fault() = 0; clearText() = 1
            text 'h'
            fault() = 1; clearText() = 1; type(51) = 1; fault() = 0; clearText() = 1
            text 's3s3'
            fault() = NONE; clearText() = 4
            text 's3s3'
            fault() = NONE
            """);
        run("promise 4: the fault moves on as bytes are typed", """
            fault() = NONE; type(104); fault() = 1; type(51); fault() = NONE; type(40); fault() = 3
            type(115); fault() = 4; type(50); fault() = 5; type(41); fault() = NONE
            """);
    }

    private static void faultOfBlanks() {
        faultIs("blanks before and after each letter, digit and parenthesis", NONE, "  h  3  (  s  2  (  )  n  1  )  ");
        faultIs("blanks up to 60 bytes", NONE, " ".repeat(58) + "h3");
        faultIs("blanks alone", NONE, " ");
        run("promise 4: byte 31 is no blank", """
            text 'h3'
            type(31); fault() = 2; build() ! STATE
            """);
        run("promise 4: byte 33 is no blank", """
            text 'h3!'
            fault() = 2; build() ! STATE
            """);
        run("promise 4: byte 9 is no blank", """
            type(9); fault() = 0; build() ! STATE
            """);
    }

    private static void buildRefused() {
        run("promise 5: STATE if the text has a fault", """
            text 's3 d3'
            build() = 3; open(0,1,3) = 0; open(1,2,1) = 1; offer(0,0,9) = 9; offer(1,1,9) = 9; tick(1)
            text 'h3('
            build() ! STATE; count(7) = 3; count(1) = 2; count(0) = 3; count(4) = 0
            clearText() = 3
            text 's3s3s'
            build() ! STATE; count(7) = 5
            """);
        run("promise 5: STATE on a new object, which then still has the host alone", """
            type(120) = 1; build() ! STATE; count(0) = 1; count(7) = 1
            """);
    }

    private static void buildNumbers() {
        run("promise 5: returns the number of routers, the host included: 1 for an empty text", """
            text 'h3(s3)'
            build() = 3; count(7) = 0; build() = 1; count(0) = 1; router(1,0) ! BAD; build() = 1
            """);
        run("promise 5: 8 for the most routers, from a text of 60 bytes", """
            text 'h3(h3(s1 d2 n3) s3) d2              (                      )'
            count(7) = 60; build() = 8; count(0) = 8; count(7) = 0; router(7,0) = DISK; router(7,1) = 2
            """);
        run("promise 5: numbers in the order of the letters, ports from 0 on", """
            text 'd3(n1)h3(s1 h2(d3) n3)'
            build() = 8
            router(1,0) = DISK; router(2,0) = NETWORK; router(3,0) = HUB; router(4,0) = SCREEN
            router(5,0) = HUB; router(6,0) = DISK; router(7,0) = NETWORK
            router(1,2) = 0; router(2,2) = 1; router(3,2) = 0; router(4,2) = 3; router(6,2) = 5; router(7,2) = 3
            router(1,3) = 0; router(2,3) = 0; router(3,3) = 1; router(4,3) = 0; router(5,3) = 1; router(7,3) = 2
            router(6,4) = 3; router(0,4) = 0
            """);
        run("promise 5: a new link is awake with the idle time 0, not wide, with the load 0", """
            text 'd3'
            build() = 2; widen(1,true) = 0; open(1,1,1) = 0; offer(0,0,6) = 6; tick(6); link(1,4) = 2
            text 'd3'
            build() = 2; link(1,1) = 0; link(1,4) = 0; link(1,5) = 0; link(1,6) = 0; load(1,0) = 0; count(5) = 0
            """);
        run("promise 5: a waking link is replaced by one that is awake", """
            text 's3'
            build() = 2; tick(4); open(0,1,1) = 0; link(1,6) = 2
            text 's3'
            build() = 2; link(1,4) = 0; link(1,6) = 0
            """);
    }

    private static void buildClosesTunnels() {
        run("promise 5: all tunnels are closed first, as by close()", """
            text 'h3(d3 d3)h3(s3 n3 n3)'
            build() = 8
            open(0,5,1) = 0; open(0,5,1) = 1; open(1,2,1) = 2; open(1,2,1) = 3; open(1,3,1) = 4; open(1,3,1) = 5
            open(2,6,1) = 6; open(2,6,1) = 7; open(2,7,1) = 8; open(2,7,1) = 9
            offer(0,0,99) = 99; offer(9,1,99) = 99; tick(1) = 0
            build() = 1; count(1) = 0; count(4) = 198; count(8) = 10; count(2) = 1; tunnel(0,0) ! BAD
            tunnel(9,0) ! BAD
            """);
        run("promise 5: build leaves patience, counts and slots", """
            text 'd3'
            build() = 2; open(1,1,1) = 0; offer(0,0,20) = 20; tick(1) = 6; setPatience(9) = 3; save(1) = 1
            build() = 1; count(3) = 6; count(4) = 14; count(6) = 9; count(2) = 1; restore(0) ! STATE
            restore(1) = 1; count(4) = 0; cellCount(0,0,0) = 14
            """);
    }
}
