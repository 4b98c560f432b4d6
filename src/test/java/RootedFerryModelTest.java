/** Long runs of calls, each answer held against the model's. The runs are the same each time. */
public final class RootedFerryModelTest {
    private static final int RUNS = 20000;
    private static final int REPLIES = 600;
    private static final String[] NAMES = {"a", "a", "b", "b", "c", "ab", "x-9.", "abcdef"};
    private static final String[] FILES = {"f", "f", "g", "h.1"};
    private static final String[] PLAIN = {"PWD", "CDUP", "PASV", "NOOP", "ABOR", "NLST"};
    private static final String[] PATHS = {
        "CWD ", "MKD ", "RMD ", "DELE ", "SIZE ", "RNFR ", "RNTO ", "RETR ", "STOR ", "APPE ", "NLST ", "MKD ",
        "STOR ", "APPE ", "MKD ",
    };
    private static final String FOR_FILES = "DELE SIZE RETR STOR APPE RNFR ";
    private static final String[] WRONG = {
        "", " ", "NOOP ", "NOOP x", "CWD", "CWD ", "CWD //", "CWD a//b", "MKD A", "MKD abcdefg", "TYPE B", "REST 1000",
        "PORT 1,2,3,4,5", "PORT 1,2,3,4,5,256", "XYZ", "PASS p", "USER", "USER ..", "REST x", "TYPE", "STOR", "QUIT q",
        "RETR a b", " PWD", "PWD1",
    };
    private static final int[] ODD_BYTES = {10, 13, 13, 10, 65, 0, 255, 256, -1, 10};
    private static final int[] PORTS = {-1, 0, 1, 257, 258, 65535, -2, 65536};

    private final Client ferry = new Client();
    private final Model model = new Model();
    private final int[] seen;
    private final int[] seenAtEnd;
    private final int run;
    private long seed;

    private RootedFerryModelTest(int run, int[] seen, int[] seenAtEnd) {
        this.run = run;
        this.seen = seen;
        this.seenAtEnd = seenAtEnd;
        this.seed = 0x9E3779B97F4A7C15L * (run + 1);
    }

    public static void main(String[] args) {
        int[] seen = new int[REPLIES];
        int[] seenAtEnd = new int[REPLIES];
        for (int run = 0; run < RUNS; run++) {
            new RootedFerryModelTest(run, seen, seenAtEnd).go();
        }
        Checks.topic("what the runs come to");
        dueOften(seen, 150, 200, 213, 221, 226, 227, 230, 250, 257, 331, 350, 425, 426, 452);
        dueOften(seen, 500, 501, 503, 504, 530, 550, 553);
        dueOften(seenAtEnd, 226, 452);
        Checks.finish();
    }

    /** Runs that never come to a reply would hold nothing against it. */
    private static void dueOften(int[] seen, int... replies) {
        for (int reply : replies) {
            Checks.due("at least a thousand times " + reply, seen[reply] >= 1000, true);
        }
    }

    private void go() {
        Checks.topic("run " + run);
        account("u", "p");
        account("v", "q");
        due("open()", ferry.open(), model.open());
        if (run % 3 == 0) {
            fill();
        }
        while (ferry.callsLeft() >= 120) {
            if ((model.reply() == 220 || model.reply() == 530) && below(8) > 0) {
                logIn();
            } else {
                step();
            }
        }
        while (ferry.callsLeft() > 0) {
            look();
        }
    }

    private int below(int bound) {
        seed = seed * 6364136223846793005L + 1442695040888963407L;
        return (int) ((seed >>> 33) % bound);
    }

    private String one(String[] of) {
        return of[below(of.length)];
    }

    private void due(String what, long got, long want) {
        Checks.due(what, got, want);
    }

    private void due(String what, boolean got, boolean want) {
        Checks.due(what, got, want);
    }

    private void account(String user, String password) {
        long u = Checks.word(user);
        long p = Checks.word(password);
        due("account(" + user + ")", ferry.account(u, p), model.account(u, p));
    }

    private void say(String line) {
        for (int i = 0; i < line.length(); i += 8) {
            long word = Checks.word(line.substring(i, Math.min(i + 8, line.length())));
            due("word of " + line, ferry.word(word), model.word(word));
        }
        due(line, ferry.enter(), model.enter());
        seen[model.reply()]++;
    }

    private void logIn() {
        boolean first = below(3) > 0;
        say(first ? "USER u" : "USER v");
        say(first ? "PASS p" : "PASS q");
    }

    /** Makes so many directories that the limit of nodes is soon come to. */
    private void fill() {
        logIn();
        for (int i = 0; i < 19; i++) {
            say("MKD n" + i);
        }
    }

    private String path() {
        StringBuilder path = new StringBuilder(below(4) == 0 ? "/" : "");
        int parts = below(10) == 0 ? 0 : below(3) > 0 ? 1 : 2 + below(2);
        if (path.length() == 0 && parts == 0) {
            parts = 1;
        }
        for (int i = 0; i < parts; i++) {
            int kind = below(10);
            path.append(i > 0 ? "/" : "");
            path.append(kind == 0 ? "." : kind < 3 ? ".." : run % 3 == 0 ? "n" + below(30) : one(NAMES));
        }
        return path.append(parts > 0 && below(10) == 0 ? "/" : "").toString();
    }

    private String filePath() {
        String path = path();
        return below(5) == 0 ? path : path.substring(0, path.lastIndexOf('/') + 1) + one(FILES);
    }

    private void step() {
        int kind = below(26);
        if (model.transfer() != 0 && kind < 2) {
            say("ABOR");
        } else if (model.transfer() == 1 && kind < 20) {
            takeSome();
        } else if (model.transfer() == 2 && kind < 20) {
            giveSome();
        } else if (kind < 12) {
            String command = one(PATHS);
            say(anyCase(command + (FOR_FILES.contains(command) ? filePath() : path())));
        } else if (kind < 14) {
            say(anyCase(one(PLAIN)));
        } else if (kind < 15) {
            say(one(WRONG));
        } else if (kind < 16) {
            other();
        } else if (kind < 17) {
            say("RNFR " + filePath());
            say("RNTO " + path());
        } else if (kind < 18) {
            say("TYPE " + (below(2) == 0 ? "A" : "i"));
        } else if (kind < 19) {
            makeWay();
            say("TYPE I");
            say("REST " + below(8));
            say("RETR " + filePath());
            takeSome();
        } else if (kind < 22) {
            makeWay();
            say((below(3) == 0 ? "APPE " : "STOR ") + filePath());
            giveSome();
        } else if (kind < 24) {
            makeWay();
            say(below(2) == 0 ? "RETR " + filePath() : "NLST " + path());
            takeSome();
        } else if (below(4) == 0) {
            reopen();
        } else {
            look();
        }
    }

    private String anyCase(String line) {
        int space = line.indexOf(' ');
        if (below(6) > 0) {
            return line;
        }
        return space < 0 ? line.toLowerCase() : line.substring(0, space).toLowerCase() + line.substring(space);
    }

    private void makeWay() {
        if (below(3) > 0) {
            say("PASV");
            if (below(8) > 0) {
                due("join()", ferry.join(), model.join());
            }
        } else {
            int port = PORTS[below(PORTS.length)];
            due("listen(" + port + ")", ferry.listen(port), model.listen(port));
            int called = below(6) == 0 || port < 0 ? below(65536) : port & 65535;
            say("PORT 1,2,3,4," + called / 256 + "," + called % 256);
        }
    }

    private void giveSome() {
        int count = run % 4 == 0 ? 20 + below(14) : below(12);
        if (below(40) == 0) {
            count = 82;
        }
        for (int i = 0; i < count && ferry.callsLeft() > 60; i++) {
            int b = below(4) == 0 ? ODD_BYTES[below(ODD_BYTES.length)] : below(256);
            due("give(" + b + ")", ferry.give(b), model.give(b));
        }
        if (below(8) > 0) {
            due("end()", ferry.end(), model.end());
            due("reply()", ferry.reply(), model.reply());
            seenAtEnd[model.reply()]++;
        }
    }

    private void takeSome() {
        int count = below(6) == 0 ? below(5) : 70;
        for (int i = 0; i < count && ferry.callsLeft() > 40; i++) {
            int want = model.take();
            due("take()", ferry.take(), want);
            if (want < 0) {
                break;
            }
        }
    }

    private void reopen() {
        say("QUIT");
        if (below(2) == 0) {
            account(one(NAMES), one(NAMES));
        }
        if (below(3) == 0) {
            say("NOOP");
        }
        due("open()", ferry.open(), model.open());
    }

    private void other() {
        switch (below(7)) {
            case 0:
                due("join()", ferry.join(), model.join());
                break;
            case 1:
                due("take()", ferry.take(), model.take());
                break;
            case 2:
                due("give(10)", ferry.give(10), model.give(10));
                break;
            case 3:
                due("end()", ferry.end(), model.end());
                break;
            case 4:
                due("open()", ferry.open(), model.open());
                break;
            case 5:
                long word = Checks.word("a") << 8 * below(8) | (long) below(256) << 8 * below(8) | below(128);
                due("word(" + word + ")", ferry.word(word), model.word(word));
                break;
            default:
                char c = (char) below(300);
                due("type(" + (int) c + ")", ferry.type(c), model.type(c));
                break;
        }
    }

    private void look() {
        switch (below(6)) {
            case 0:
                due("reply()", ferry.reply(), model.reply());
                break;
            case 1:
                due("transfer()", ferry.transfer(), model.transfer());
                break;
            case 2:
                due("nodes()", ferry.nodes(), model.nodes());
                break;
            case 3:
                due("bytes()", ferry.bytes(), model.bytes());
                break;
            default:
                int i = below(14) - 1;
                due("text(" + i + ")", ferry.text(i), model.text(i));
                break;
        }
    }
}
