import java.nio.charset.StandardCharsets;

/** What the tests share: counting wrong answers, and talking to a ferry in texts. */
final class Checks {
    private static int wrong = 0;
    private static String topic = "";

    private Checks() {
    }

    static void topic(String name) {
        topic = name;
    }

    static void fail(String message) {
        wrong++;
        System.out.println(topic + ": " + message);
    }

    static void due(String what, long got, long want) {
        if (got != want) {
            fail(what + " answered " + got + ", due is " + want);
        }
    }

    static void due(String what, boolean got, boolean want) {
        due(what, got ? 1L : 0L, want ? 1L : 0L);
    }

    static void due(String what, String got, String want) {
        if (!got.equals(want)) {
            fail(what + " answered '" + got + "', due is '" + want + "'");
        }
    }

    static void finish() {
        System.out.println(wrong == 0 ? "all answers are as due" : wrong + " answers are not as due");
        if (wrong != 0) {
            System.exit(1);
        }
    }

    /** The characters of a text as a word, the first one lowest. */
    static long word(String text) {
        long word = 0L;
        for (int i = 0; i < text.length(); i++) {
            word |= (long) text.charAt(i) << 8 * i;
        }
        return word;
    }

    static int say(Client ferry, String line) {
        for (int i = 0; i < line.length(); i += 8) {
            ferry.word(word(line.substring(i, Math.min(i + 8, line.length()))));
        }
        return ferry.enter();
    }

    /** Says a line and looks at its reply, from enter() and from reply(). */
    static void dueLine(Client ferry, String line, int want) {
        due(line, say(ferry, line), want);
        due("reply() behind " + line, ferry.reply(), want);
    }

    static void dueText(Client ferry, String line, int reply, String want) {
        dueLine(ferry, line, reply);
        due("the text behind " + line, text(ferry), want);
    }

    static String text(Client ferry) {
        StringBuilder text = new StringBuilder();
        for (int i = 0; i < 500; i++) {
            char c = ferry.text(i);
            if (c == 0) {
                break;
            }
            text.append(c);
        }
        return text.toString();
    }

    static boolean account(Client ferry, String user, String password) {
        return ferry.account(word(user), word(password));
    }

    /** A ferry with the account u, p, which is logged in. */
    static Client loggedIn() {
        Client ferry = new Client();
        due("account(u, p)", account(ferry, "u", "p"), true);
        due("open()", ferry.open(), true);
        logIn(ferry, "u", "p");
        return ferry;
    }

    static void logIn(Client ferry, String user, String password) {
        dueLine(ferry, "USER " + user, 331);
        dueLine(ferry, "PASS " + password, 230);
    }

    static void joined(Client ferry) {
        dueLine(ferry, "PASV", 227);
        due("join()", ferry.join(), true);
    }

    static void giveAll(Client ferry, String data) {
        for (byte b : data.getBytes(StandardCharsets.ISO_8859_1)) {
            due("give(" + b + ")", ferry.give(b), true);
        }
    }

    /** Sends data by STOR or APPE over a way that is made for it. */
    static void send(Client ferry, String line, String data, int want) {
        joined(ferry);
        dueLine(ferry, line, 150);
        giveAll(ferry, data);
        due("end() of " + line, ferry.end(), want);
        due("reply() behind end() of " + line, ferry.reply(), want);
        due("transfer() behind " + line, ferry.transfer(), 0);
    }

    /** Takes what RETR or NLST gives over a way that is made for it. */
    static void fetch(Client ferry, String line, String want) {
        joined(ferry);
        dueLine(ferry, line, 150);
        dueGiven(ferry, line, want);
    }

    static void dueGiven(Client ferry, String line, String want) {
        due("transfer() in " + line, ferry.transfer(), 1);
        StringBuilder came = new StringBuilder();
        for (int i = 0; i < 500; i++) {
            int b = ferry.take();
            if (b == RootedFerry.NONE) {
                break;
            }
            came.append((char) b);
        }
        due("what " + line + " gives", came.toString(), want);
        due("reply() behind " + line, ferry.reply(), 226);
        due("transfer() behind " + line, ferry.transfer(), 0);
    }
}
