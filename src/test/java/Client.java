/**
 * A ferry as the tests use it. It counts the calls, because the document promises nothing
 * behind the 512th: a test that goes on would test what is free.
 */
final class Client {
    private static final int MOST_CALLS = 512;

    private final RootedFerry ferry = new RootedFerry();
    private int calls = 0;

    private RootedFerry counted() {
        calls++;
        if (calls == MOST_CALLS + 1) {
            Checks.fail("the test makes more than " + MOST_CALLS + " calls");
        }
        return ferry;
    }

    int callsLeft() {
        return MOST_CALLS - calls;
    }

    boolean account(long user, long password) {
        return counted().account(user, password);
    }

    boolean open() {
        return counted().open();
    }

    boolean type(char c) {
        return counted().type(c);
    }

    int word(long s) {
        return counted().word(s);
    }

    int enter() {
        return counted().enter();
    }

    int reply() {
        return counted().reply();
    }

    char text(int i) {
        return counted().text(i);
    }

    boolean join() {
        return counted().join();
    }

    boolean listen(int port) {
        return counted().listen(port);
    }

    int take() {
        return counted().take();
    }

    boolean give(int b) {
        return counted().give(b);
    }

    int end() {
        return counted().end();
    }

    int transfer() {
        return counted().transfer();
    }

    int nodes() {
        return counted().nodes();
    }

    int bytes() {
        return counted().bytes();
    }
}
