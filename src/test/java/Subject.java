/** Hands out the object under test, a new one in time, since nothing is promised after 512 calls. */
final class Subject {
    private static final int PROMISED_CALLS = 512;

    private final int a;
    private KoblitzTauNaf object;
    private int calls;

    Subject(int a) {
        this.a = a;
        object = new KoblitzTauNaf(a);
    }

    /** The object for one call. */
    KoblitzTauNaf get() {
        if (calls == PROMISED_CALLS) {
            object = new KoblitzTauNaf(a);
            calls = 0;
        }
        calls++;
        return object;
    }
}
