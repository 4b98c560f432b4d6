/**
 * The sentences of the promises 1 to 16 themselves that name a boundary case, in the document's order.
 * Each has a test of its own, which begins with the promise and the sentence.
 */
public final class RootedFerryCallsTest {
    public static void main(String[] args) {
        newObject();
        accountUpToZero();
        accountOfNoName();
        accountOfAUserThereIs();
        accountWhenFull();
        accountWhenOpen();
        openWhenOpen();
        openLeavesTheLine();
        typeOfCodes();
        typeWhenFull();
        wordUpToZero();
        wordUpToRefused();
        wordWhenFull();
        enterEmpties();
        enterClosed();
        replyLatest();
        textBehindAndBelow();
        textOfOtherReplies();
        textOfLatest();
        joinUnlessWaiting();
        listenAtPorts();
        listenFromNowOn();
        takeOfNone();
        giveLowestBits();
        giveUpTo80();
        giveWithoutTaking();
        endWithoutTaking();
        endWhatever();
        transferKinds();
        nodesCounted();
        bytesCounted();
        Checks.finish();
    }

    private static Client sentence(String words) {
        Checks.topic(words);
        return Checks.loggedIn();
    }

    private static Client newFerry(String words) {
        Checks.topic(words);
        return new Client();
    }

    private static void dueLine(Client ferry, String line, int want) {
        Checks.dueLine(ferry, line, want);
    }

    private static void due(String what, long got, long want) {
        Checks.due(what, got, want);
    }

    private static void due(String what, boolean got, boolean want) {
        Checks.due(what, got, want);
    }

    private static void newObject() {
        Client ferry = newFerry("1: No accounts; the control connection is not open, the client listens nowhere.");
        due("nodes()", ferry.nodes(), 0);
        due("bytes()", ferry.bytes(), 0);
        due("transfer()", ferry.transfer(), 0);
        due("reply()", ferry.reply(), 0);
        due("enter()", ferry.enter(), -1);
        due("join()", ferry.join(), false);
        due("take()", ferry.take(), -1);
        due("give()", ferry.give(0), false);
        due("end()", ferry.end(), -1);
        due("reply()", ferry.reply(), 0);
        for (int i = 0; i < 4; i++) {
            due("account()", Checks.account(ferry, "u" + i, "p"), true);
        }
        due("open()", ferry.open(), true);
        Checks.logIn(ferry, "u0", "p");
        for (String port : new String[] {"0,0", "0,1", "0,20", "0,21", "255,255"}) {
            dueLine(ferry, "PORT 0,0,0,0," + port, 200);
            dueLine(ferry, "NLST", 425);
        }
    }

    private static void accountUpToZero() {
        Client ferry = newFerry("2: the lowest byte first, up to the first byte that is 0");
        due("bytes behind the 0", ferry.account(0xffffff2f41006261L, 0x8000000000000070L), true);
        due("the same user", Checks.account(ferry, "ab", "x"), false);
        due("7 bytes, the last one 0", ferry.account(0x00666564636261L, 0x2f00666564636261L), true);
        due("0 at first", ferry.account(0x6261706f6e6d00L, 'p'), false);
        due("0 at first", ferry.account('q', 0x7000L), false);
        due("0", ferry.account(0L, 0L), false);
        due("all bits", ferry.account(-1L, 'p'), false);
        due("the highest bit", ferry.account(0x80L, 'p'), false);
        due("nodes()", ferry.nodes(), 2);
        ferry.open();
        Checks.logIn(ferry, "ab", "p");
        Checks.logIn(ferry, "abcdef", "abcdef");
        dueLine(ferry, "USER ba", 331);
        dueLine(ferry, "PASS p", 530);
    }

    private static void accountOfNoName() {
        Client ferry = newFerry("2: false when one of both is no name");
        String[] wrong = {
            "", ".", "..", "abcdefg", "abcdefgh", "A", "aB", "a b", " a", "a ", "a/", "/", "a,", "\u0001", "\u00e1",
        };
        for (String name : wrong) {
            due("user '" + name + "'", Checks.account(ferry, name, "p"), false);
            due("password '" + name + "'", Checks.account(ferry, "u", name), false);
            due("both '" + name + "'", Checks.account(ferry, name, name), false);
        }
        due("nodes()", ferry.nodes(), 0);
        due("account(u, p)", Checks.account(ferry, "u", "p"), true);
        due("nodes()", ferry.nodes(), 1);
    }

    private static void accountOfAUserThereIs() {
        Client ferry = newFerry("2: false when there is an account of this user");
        due("account(u, p)", Checks.account(ferry, "u", "p"), true);
        due("account(u, p)", Checks.account(ferry, "u", "p"), false);
        due("account(u, q)", Checks.account(ferry, "u", "q"), false);
        due("account(uu, p)", Checks.account(ferry, "uu", "p"), true);
        due("account(p, u)", Checks.account(ferry, "p", "u"), true);
        due("account(p, p)", Checks.account(ferry, "p", "p"), false);
        due("nodes()", ferry.nodes(), 3);
        ferry.open();
        dueLine(ferry, "USER u", 331);
        dueLine(ferry, "PASS q", 530);
        Checks.logIn(ferry, "u", "p");
    }

    private static void accountWhenFull() {
        Client ferry = newFerry("2: false when there are 4; when there are 24 nodes (the root is one, too)");
        for (int i = 0; i < 4; i++) {
            due("account " + i, Checks.account(ferry, "u" + i, "p"), true);
        }
        due("account 4", Checks.account(ferry, "u4", "p"), false);
        due("nodes()", ferry.nodes(), 4);
        ferry.open();
        dueLine(ferry, "QUIT", 221);
        due("account 4", Checks.account(ferry, "u4", "p"), false);

        ferry = sentence("2: false when there are 24 nodes (the root is one, too)");
        for (int i = 0; i < 22; i++) {
            dueLine(ferry, "MKD d" + i, 257);
        }
        dueLine(ferry, "QUIT", 221);
        due("an account at 23", Checks.account(ferry, "v", "p"), true);
        due("nodes()", ferry.nodes(), 24);
        due("an account at 24", Checks.account(ferry, "w", "p"), false);
        due("nodes()", ferry.nodes(), 24);
        ferry.open();
        Checks.logIn(ferry, "v", "p");
        dueLine(ferry, "MKD a", 550);
        Checks.fetch(ferry, "NLST", "");
        dueLine(ferry, "USER w", 331);
        dueLine(ferry, "PASS p", 530);
    }

    private static void accountWhenOpen() {
        Client ferry = newFerry("2: false when the control connection is open");
        due("open()", ferry.open(), true);
        due("account()", Checks.account(ferry, "u", "p"), false);
        due("nodes()", ferry.nodes(), 0);
        dueLine(ferry, "USER u", 331);
        dueLine(ferry, "PASS p", 530);
        dueLine(ferry, "QUIT", 221);
        due("account()", Checks.account(ferry, "u", "p"), true);
        due("reply()", ferry.reply(), 221);
        ferry.open();
        Checks.logIn(ferry, "u", "p");
        due("account()", Checks.account(ferry, "v", "p"), false);
        due("nodes()", ferry.nodes(), 1);
    }

    private static void openWhenOpen() {
        Client ferry = newFerry("3: the reply is 220. Answers true; false when it is open.");
        due("open()", ferry.open(), true);
        due("reply()", ferry.reply(), 220);
        dueLine(ferry, "NOOP", 200);
        due("open()", ferry.open(), false);
        due("reply()", ferry.reply(), 200);
        ferry = sentence("3: false when it is open");
        dueLine(ferry, "TYPE I", 200);
        dueLine(ferry, "MKD a", 257);
        dueLine(ferry, "CWD a", 250);
        Checks.joined(ferry);
        dueLine(ferry, "REST 0", 350);
        due("open()", ferry.open(), false);
        due("reply()", ferry.reply(), 350);
        Checks.dueText(ferry, "PWD", 257, "/a");
        dueLine(ferry, "REST 0", 350);
        dueLine(ferry, "NLST", 150);
        due("open() in a transfer", ferry.open(), false);
        due("transfer()", ferry.transfer(), 1);
    }

    private static void openLeavesTheLine() {
        Client ferry = newFerry("3: (the line stays as it is)");
        ferry.word(Checks.word("NO"));
        due("open()", ferry.open(), true);
        due("open()", ferry.open(), false);
        ferry.word(Checks.word("OP"));
        due("enter()", ferry.enter(), 200);
        dueLine(ferry, "QUIT", 221);
        for (int i = 0; i < 32; i++) {
            due("type() " + i, ferry.type('x'), true);
        }
        due("open()", ferry.open(), true);
        due("type() at 32", ferry.type('x'), false);
        due("enter()", ferry.enter(), 500);
        dueLine(ferry, "NOOP", 200);
    }

    private static void typeOfCodes() {
        Client ferry = null;
        for (int code = 0; code < 400; code++) {
            if (code % 200 == 0) {
                ferry = newFerry("4: false when its code is not 32 .. 126");
            }
            due("type(" + code + ")", ferry.type((char) code), code >= 32 && code <= 126);
            ferry.enter();
        }
        ferry = sentence("4: false when its code is not 32 .. 126");
        due("type()", ferry.type((char) (65536 - 1)), false);
        due("type()", ferry.type((char) (32768 + 'A')), false);
        due("type()", ferry.type((char) (256 + 'P')), false);
        due("type()", ferry.type('P'), true);
        due("type()", ferry.type('\n'), false);
        due("type()", ferry.type('W'), true);
        due("type()", ferry.type((char) 127), false);
        due("type()", ferry.type('D'), true);
        due("enter()", ferry.enter(), 257);
    }

    private static void typeWhenFull() {
        Client ferry = sentence("4: false when the line has 32");
        dueLine(ferry, "MKD a", 257);
        String line = "CWD " + "./".repeat(13) + "a/";
        due("the length", line.length(), 32);
        for (int i = 0; i < 32; i++) {
            due("type() " + i, ferry.type(line.charAt(i)), true);
        }
        due("type() of the 33rd", ferry.type('.'), false);
        due("type() of the 33rd", ferry.type('/'), false);
        due("enter()", ferry.enter(), 250);
        Checks.dueText(ferry, "PWD", 257, "/a");
        due("type() behind enter()", ferry.type('x'), true);
    }

    private static void wordUpToZero() {
        Client ferry = sentence("5: the lowest byte of s first, up to the first byte that is 0");
        due("word(0)", ferry.word(0L), 0);
        due("word()", ferry.word(0x4457500000000000L), 0);
        due("word()", ferry.word(0x4141414141005750L), 2);
        due("word()", ferry.word(0x44L), 1);
        due("enter()", ferry.enter(), 257);
        due("word() of 7", ferry.word(0x003a3a3a3a3a3a3aL), 7);
        due("word() of 8", ferry.word(0x3a3a3a3a3a3a3a3aL), 8);
        due("enter()", ferry.enter(), 500);
        due("word() of 8", ferry.word(Checks.word("MKD abcd")), 8);
        due("word() of 2", ferry.word(Checks.word("ef")), 2);
        due("enter()", ferry.enter(), 257);
        due("text(6)", ferry.text(6), 'f');
    }

    private static void wordUpToRefused() {
        Client ferry = sentence("5: it ends at the first one that type() would refuse");
        for (int code : new int[] {1, 9, 10, 13, 31, 127, 128, 160, 255}) {
            for (int at = 0; at < 8; at++) {
                long word = Checks.word("XXXXXXXX") & ~(255L << 8 * at) | (long) code << 8 * at;
                due("word() with " + code + " at " + at, ferry.word(word), at);
                ferry.enter();
            }
        }
        due("word()", ferry.word(Checks.word("NO\nOP")), 2);
        due("word()", ferry.word(Checks.word("OP\u007fX")), 2);
        due("enter()", ferry.enter(), 200);
        due("word(-1)", ferry.word(-1L), 0);
        due("word(least)", ferry.word(Long.MIN_VALUE), 0);
        due("word(most)", ferry.word(Long.MAX_VALUE), 0);
    }

    private static void wordWhenFull() {
        for (int before = 24; before <= 32; before++) {
            Client ferry = sentence("5: Answers how many were put there");
            for (int i = 0; i < before; i++) {
                ferry.type('x');
            }
            due("word() of 8 behind " + before, ferry.word(Checks.word("12345678")), 32 - before);
            due("type() of the 33rd", ferry.type('x'), false);
            due("word() of the 33rd", ferry.word('x'), 0);
            due("enter()", ferry.enter(), 500);
            dueLine(ferry, "NOOP", 200);
        }
    }

    private static void enterEmpties() {
        Client ferry = sentence("6: Enters the line, which is empty then.");
        for (String line : new String[] {"NOOP", "XXX", "CWD", "CWD no", "PWD", "REST 1", "PASS p", ""}) {
            Checks.say(ferry, line);
            due("enter() of nothing", ferry.enter(), 500);
        }
        Checks.joined(ferry);
        dueLine(ferry, "NLST", 150);
        dueLine(ferry, "PWD", 503);
        dueLine(ferry, "", 500);
        dueLine(ferry, "NOOP", 200);
        dueLine(ferry, "QUIT", 221);
        ferry.open();
        dueLine(ferry, "", 500);
    }

    private static void enterClosed() {
        Client ferry = newFerry("6: NONE when the control connection is not open (the line is empty then, too)");
        due("QUIT", Checks.say(ferry, "QUIT"), -1);
        due("reply()", ferry.reply(), 0);
        due("open()", ferry.open(), true);
        due("enter()", ferry.enter(), 500);
        dueLine(ferry, "QUIT", 221);
        due("XXX", Checks.say(ferry, "XXX"), -1);
        due("nothing", ferry.enter(), -1);
        due("reply()", ferry.reply(), 221);
        ferry.open();
        due("reply()", ferry.reply(), 220);
        dueLine(ferry, "NOOP", 200);
    }

    private static void replyLatest() {
        Client ferry = newFerry("7: The latest reply; 0 when there was none.");
        due("reply()", ferry.reply(), 0);
        ferry.enter();
        Checks.account(ferry, "u", "p");
        due("reply()", ferry.reply(), 0);
        ferry.open();
        due("reply()", ferry.reply(), 220);
        Checks.logIn(ferry, "u", "p");
        Checks.joined(ferry);
        due("reply()", ferry.reply(), 227);
        dueLine(ferry, "STOR f", 150);
        ferry.give('x');
        due("reply()", ferry.reply(), 150);
        dueLine(ferry, "NOOP", 200);
        ferry.end();
        due("reply() of end()", ferry.reply(), 226);
        dueLine(ferry, "NOOP", 200);
        due("end()", ferry.end(), -1);
        due("take()", ferry.take(), -1);
        due("open()", ferry.open(), false);
        ferry.type('x');
        ferry.listen(5);
        due("reply()", ferry.reply(), 200);
        ferry.enter();
        Checks.joined(ferry);
        dueLine(ferry, "RETR f", 150);
        ferry.take();
        due("reply()", ferry.reply(), 150);
        ferry.take();
        due("reply() of take()", ferry.reply(), 226);
        dueLine(ferry, "QUIT", 221);
        Checks.say(ferry, "NOOP");
        due("reply() is no NONE", ferry.reply(), 221);
    }

    private static void textBehindAndBelow() {
        Client ferry = sentence("8: 0 behind it, for i below 0");
        int[] outside = {-1, -2, -168, Integer.MIN_VALUE, 2, 3, 161, 168, 169, 1000, Integer.MAX_VALUE};
        dueLine(ferry, "MKD a", 257);
        for (int i : outside) {
            due("text(" + i + ") of MKD", ferry.text(i), 0);
        }
        due("text(0)", ferry.text(0), '/');
        due("text(1)", ferry.text(1), 'a');
        Checks.send(ferry, "STOR f", "0123456789", 226);
        dueLine(ferry, "SIZE f", 213);
        for (int i : outside) {
            due("text(" + i + ") of SIZE", ferry.text(i), 0);
        }
        due("text(0)", ferry.text(0), '1');
        due("text(1)", ferry.text(1), '0');
        Checks.dueText(ferry, "MKD a/abcdef", 257, "/a/abcdef");
        dueLine(ferry, "PWD", 257);
        due("text(0) of PWD", ferry.text(0), '/');
        for (int i = 1; i < 12; i++) {
            due("text() behind, where a longer one had something", ferry.text(i), 0);
            due("text() below, where a longer one had something", ferry.text(-i), 0);
        }
    }

    private static void textOfOtherReplies() {
        Client ferry = newFerry("8: or when the latest reply is another one");
        due("text(0)", ferry.text(0), 0);
        Checks.account(ferry, "u", "p");
        ferry.open();
        due("text(0)", ferry.text(0), 0);
        Checks.logIn(ferry, "u", "p");
        Checks.send(ferry, "STOR f", "1", 226);
        String[] others = {
            "", "XXX", "CWD", "CWD /", "CWD no", "CDUP", "MKD f", "RMD f", "DELE no", "SIZE no", "RNFR f", "RNTO f",
            "RNTO g", "TYPE A", "TYPE x", "REST 1", "PASV", "PORT 1,1,1,1,1,1", "ABOR", "RETR f", "RETR no", "STOR /",
            "NOOP",
        };
        for (String line : others) {
            dueLine(ferry, "PWD", 257);
            due("text(0)", ferry.text(0), '/');
            Checks.say(ferry, line);
            due("text(0) behind '" + line + "'", ferry.text(0), 0);
        }
        Checks.joined(ferry);
        dueLine(ferry, "STOR g", 150);
        due("text(0) of 150", ferry.text(0), 0);
        ferry.end();
        due("text(0) of end()", ferry.text(0), 0);
        dueLine(ferry, "SIZE f", 213);
        due("text(0)", ferry.text(0), '1');
        dueLine(ferry, "QUIT", 221);
        due("text(0) of 221", ferry.text(0), 0);
        ferry.open();
        due("text(0) of 220", ferry.text(0), 0);
    }

    private static void textOfLatest() {
        Client ferry = sentence("8: the text of the latest 257 or 213");
        dueLine(ferry, "MKD abcdef", 257);
        Checks.dueText(ferry, "MKD b", 257, "/b");
        dueLine(ferry, "MKD abcdef", 550);
        Checks.dueText(ferry, "PWD", 257, "/");
        dueLine(ferry, "CWD abcdef", 250);
        Checks.dueText(ferry, "PWD", 257, "/abcdef");
        Checks.send(ferry, "STOR f", "12345678901", 226);
        Checks.dueText(ferry, "SIZE f", 213, "11");
        Checks.send(ferry, "STOR f", "", 226);
        Checks.dueText(ferry, "SIZE f", 213, "0");
        dueLine(ferry, "PWD", 257);
        ferry.word(Checks.word("NOOP"));
        ferry.open();
        ferry.join();
        ferry.listen(1);
        ferry.take();
        ferry.end();
        Checks.due("the text stays", Checks.text(ferry), "/abcdef");
    }

    private static void joinUnlessWaiting() {
        Client ferry = newFerry("9: false when the way is not WAITING");
        due("join() of a new one", ferry.join(), false);
        ferry = sentence("9: false when the way is not WAITING");
        due("join() of NONE", ferry.join(), false);
        dueLine(ferry, "PASV", 227);
        due("join() of WAITING", ferry.join(), true);
        due("join() of JOINED", ferry.join(), false);
        dueLine(ferry, "NLST", 150);
        due("join() in a transfer", ferry.join(), false);
        due("take()", ferry.take(), -1);
        due("join() behind a transfer", ferry.join(), false);
        dueLine(ferry, "PASV", 227);
        dueLine(ferry, "PORT 1,1,1,1,1,1", 200);
        due("join() of CALLING", ferry.join(), false);
        dueLine(ferry, "PASV", 227);
        dueLine(ferry, "NLST", 425);
        due("join() behind 425", ferry.join(), false);
        dueLine(ferry, "PASV", 227);
        dueLine(ferry, "USER u", 331);
        due("join() with nobody logged in", ferry.join(), true);
        dueLine(ferry, "QUIT", 221);
        due("join() when closed", ferry.join(), false);
    }

    private static void listenAtPorts() {
        Client ferry = sentence("10: false when port is not -1 .. 65535");
        for (int port : new int[] {-1, 0, 1, 65534, 65535}) {
            due("listen(" + port + ")", ferry.listen(port), true);
        }
        due("listen(9)", ferry.listen(9), true);
        for (int port : new int[] {-2, -3, -65536, 65536, 65537, 65536 + 10, Integer.MIN_VALUE, Integer.MAX_VALUE}) {
            due("listen(" + port + ")", ferry.listen(port), false);
        }
        dueLine(ferry, "PORT 1,1,1,1,0,9", 200);
        dueLine(ferry, "NLST", 150);
        due("listen(70000)", ferry.listen(70000), false);
        due("transfer()", ferry.transfer(), 1);
        due("reply()", ferry.reply(), 150);
    }

    private static void listenFromNowOn() {
        Client ferry = newFerry("10: The client listens at a port from now on (nowhere for NONE).");
        due("listen() when closed", ferry.listen(7), true);
        Checks.account(ferry, "u", "p");
        ferry.open();
        Checks.logIn(ferry, "u", "p");
        String[] lines = {"PORT 1,1,1,1,0,7", "PORT 1,1,1,1,0,0", "PORT 1,1,1,1,255,255"};
        int[] ports = {7, 0, 65535};
        for (int i = 0; i < 3; i++) {
            for (int j = 0; j < 3; j++) {
                due("listen()", ferry.listen(ports[j]), true);
                dueLine(ferry, lines[i], 200);
                dueLine(ferry, "NLST", i == j ? 150 : 425);
                ferry.take();
            }
            due("listen(-1)", ferry.listen(-1), true);
            dueLine(ferry, lines[i], 200);
            dueLine(ferry, "NLST", 425);
        }
        dueLine(ferry, "PORT 1,1,1,1,0,7", 200);
        due("listen() behind PORT", ferry.listen(7), true);
        dueLine(ferry, "NLST", 150);
        due("listen() in a transfer", ferry.listen(-1), true);
        due("transfer()", ferry.transfer(), 1);
        due("take()", ferry.take(), -1);
        due("reply()", ferry.reply(), 226);
    }

    private static void takeOfNone() {
        Client ferry = sentence("11: NONE when none is left, or there is no transfer that gives");
        due("take() without a transfer", ferry.take(), -1);
        due("reply()", ferry.reply(), 230);
        Checks.joined(ferry);
        dueLine(ferry, "STOR f", 150);
        due("give()", ferry.give(255), true);
        due("take() when taking", ferry.take(), -1);
        due("transfer()", ferry.transfer(), 2);
        due("reply()", ferry.reply(), 150);
        due("end()", ferry.end(), 226);
        Checks.joined(ferry);
        dueLine(ferry, "RETR f", 150);
        due("take()", ferry.take(), 255);
        due("transfer()", ferry.transfer(), 1);
        due("take()", ferry.take(), -1);
        due("transfer()", ferry.transfer(), 0);
        dueLine(ferry, "PASV", 227);
        due("take() behind the end", ferry.take(), -1);
        due("reply()", ferry.reply(), 227);
        due("the way is still WAITING", ferry.join(), true);
    }

    private static void giveLowestBits() {
        Client ferry = sentence("12: A byte (the lowest 8 bits) comes behind those that were taken.");
        dueLine(ferry, "TYPE I", 200);
        int[] given = {0, 255, 256, -1, -256, 257, 0x12345641, Integer.MIN_VALUE, Integer.MAX_VALUE, 128, -128};
        Checks.joined(ferry);
        dueLine(ferry, "STOR f", 150);
        for (int b : given) {
            due("give(" + b + ")", ferry.give(b), true);
        }
        due("end()", ferry.end(), 226);
        Checks.fetch(ferry, "RETR f", "\u0000\u00ff\u0000\u00ff\u0000\u0001A\u0000\u00ff\u0080\u0080");
        dueLine(ferry, "TYPE A", 200);
        Checks.joined(ferry);
        dueLine(ferry, "STOR f", 150);
        due("give(256 + 13)", ferry.give(256 + 13), true);
        due("give(-256 + 10)", ferry.give(-256 + 10), true);
        due("end()", ferry.end(), 226);
        Checks.dueText(ferry, "SIZE f", 213, "1");
    }

    private static void giveUpTo80() {
        Client ferry = sentence("12: false when it has 80");
        for (String line : new String[] {"STOR f", "APPE g"}) {
            Checks.joined(ferry);
            dueLine(ferry, line, 150);
            for (int i = 0; i < 80; i++) {
                due("give() of " + i, ferry.give(10), true);
            }
            due("give() of 80", ferry.give(10), false);
            due("give() of 80", ferry.give(10), false);
            due("transfer()", ferry.transfer(), 2);
            due("end()", ferry.end(), 452);
            due("nodes()", ferry.nodes(), 1);
        }
        Checks.joined(ferry);
        dueLine(ferry, "STOR f", 150);
        due("give() to the next", ferry.give(10), true);
        due("end()", ferry.end(), 226);
        Checks.fetch(ferry, "RETR f", "\r\n");
    }

    private static void giveWithoutTaking() {
        Client ferry = sentence("12: false when there is no transfer that takes");
        due("give()", ferry.give(1), false);
        Checks.send(ferry, "STOR f", "a", 226);
        due("give()", ferry.give(1), false);
        Checks.joined(ferry);
        due("give() when joined", ferry.give(1), false);
        dueLine(ferry, "RETR f", 150);
        due("give() when giving", ferry.give(1), false);
        due("take()", ferry.take(), 'a');
        due("take()", ferry.take(), -1);
        due("give()", ferry.give(1), false);
        Checks.send(ferry, "APPE f", "", 226);
        Checks.dueText(ferry, "SIZE f", 213, "1");
    }

    private static void endWithoutTaking() {
        Client ferry = newFerry("13: NONE when there is no transfer that takes.");
        due("end() of a new one", ferry.end(), -1);
        ferry = sentence("13: NONE when there is no transfer that takes.");
        due("end()", ferry.end(), -1);
        Checks.send(ferry, "STOR f", "a", 226);
        due("end()", ferry.end(), -1);
        Checks.joined(ferry);
        due("end() when joined", ferry.end(), -1);
        dueLine(ferry, "RETR f", 150);
        due("end() when giving", ferry.end(), -1);
        due("transfer()", ferry.transfer(), 1);
        due("reply()", ferry.reply(), 150);
        due("take()", ferry.take(), 'a');
        dueLine(ferry, "ABOR", 426);
        due("end() behind ABOR", ferry.end(), -1);
        due("reply()", ferry.reply(), 426);
    }

    private static void endWhatever() {
        Client ferry = sentence("13: The client ends what it gives (the transfer is over then, whatever the reply is).");
        Checks.joined(ferry);
        dueLine(ferry, "STOR f", 150);
        due("end() of nothing given", ferry.end(), 226);
        due("transfer()", ferry.transfer(), 0);
        due("nodes()", ferry.nodes(), 2);
        Checks.joined(ferry);
        dueLine(ferry, "STOR f", 150);
        for (int i = 0; i < 33; i++) {
            ferry.give('x');
        }
        due("end() of 33", ferry.end(), 452);
        due("reply()", ferry.reply(), 452);
        due("transfer()", ferry.transfer(), 0);
        due("give()", ferry.give('x'), false);
        due("end() once more", ferry.end(), -1);
        due("join()", ferry.join(), false);
        dueLine(ferry, "STOR f", 425);
        Checks.dueText(ferry, "SIZE f", 213, "0");
    }

    private static void transferKinds() {
        Client ferry = sentence("14: Whether there is a transfer: 0 none, 1 giving, 2 taking.");
        String[] lines = {"NLST", "STOR f", "APPE f", "RETR f"};
        int[] kinds = {1, 2, 2, 1};
        due("transfer()", ferry.transfer(), 0);
        for (int i = 0; i < lines.length; i++) {
            dueLine(ferry, "PASV", 227);
            due("transfer() when waiting", ferry.transfer(), 0);
            ferry.join();
            due("transfer() when joined", ferry.transfer(), 0);
            dueLine(ferry, lines[i], 150);
            due("transfer() of " + lines[i], ferry.transfer(), kinds[i]);
            dueLine(ferry, "NOOP", 200);
            due("transfer() of " + lines[i], ferry.transfer(), kinds[i]);
            due("the end", kinds[i] == 1 ? ferry.take() : ferry.end(), kinds[i] == 1 ? -1 : 226);
            due("transfer() behind " + lines[i], ferry.transfer(), 0);
            dueLine(ferry, lines[i], 425);
            due("transfer() behind 425", ferry.transfer(), 0);
        }
    }

    private static void nodesCounted() {
        Client ferry = newFerry("15: How many nodes there are (roots, too).");
        due("nodes()", ferry.nodes(), 0);
        Checks.account(ferry, "u", "p");
        due("nodes()", ferry.nodes(), 1);
        Checks.account(ferry, "v", "p");
        due("nodes()", ferry.nodes(), 2);
        ferry.open();
        Checks.logIn(ferry, "u", "p");
        dueLine(ferry, "MKD a", 257);
        due("nodes()", ferry.nodes(), 3);
        Checks.joined(ferry);
        dueLine(ferry, "STOR f", 150);
        due("nodes() before the end", ferry.nodes(), 3);
        ferry.end();
        due("nodes() behind the end", ferry.nodes(), 4);
        Checks.send(ferry, "STOR f", "1", 226);
        due("nodes() of the same file", ferry.nodes(), 4);
        dueLine(ferry, "RNFR f", 350);
        dueLine(ferry, "RNTO a/f", 250);
        due("nodes() behind RNTO", ferry.nodes(), 4);
        Checks.logIn(ferry, "v", "p");
        due("nodes() for another", ferry.nodes(), 4);
        Checks.logIn(ferry, "u", "p");
        dueLine(ferry, "DELE a/f", 250);
        due("nodes() behind DELE", ferry.nodes(), 3);
        dueLine(ferry, "RMD a", 250);
        due("nodes() behind RMD", ferry.nodes(), 2);
        dueLine(ferry, "QUIT", 221);
        due("nodes() when closed", ferry.nodes(), 2);
    }

    private static void bytesCounted() {
        Client ferry = sentence("16: How many bytes all files have together.");
        due("bytes()", ferry.bytes(), 0);
        Checks.send(ferry, "STOR f", "", 226);
        due("bytes() of an empty file", ferry.bytes(), 0);
        Checks.send(ferry, "STOR f", "a\r\nb", 226);
        due("bytes()", ferry.bytes(), 3);
        Checks.joined(ferry);
        dueLine(ferry, "APPE g", 150);
        ferry.give('x');
        due("bytes() before the end", ferry.bytes(), 3);
        ferry.end();
        due("bytes() behind the end", ferry.bytes(), 4);
        Checks.send(ferry, "APPE g", "yz", 226);
        due("bytes() behind APPE", ferry.bytes(), 6);
        Checks.send(ferry, "STOR f", "c", 226);
        due("bytes() behind STOR", ferry.bytes(), 4);
        dueLine(ferry, "DELE g", 250);
        due("bytes() behind DELE", ferry.bytes(), 1);
        dueLine(ferry, "MKD d", 257);
        due("bytes() behind MKD", ferry.bytes(), 1);
        dueLine(ferry, "QUIT", 221);
        due("bytes() when closed", ferry.bytes(), 1);
    }
}
