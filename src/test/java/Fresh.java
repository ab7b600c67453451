/** Objects of one size: an object answers 512 calls, so a new one comes when they are used up. */
final class Fresh {
    static final int CALLS = 512;

    private final int files;
    private final int ranks;
    private EndTables x;
    private int calls;

    Fresh(int files, int ranks) {
        this.files = files;
        this.ranks = ranks;
        calls = CALLS;
    }

    /** An object that still has so many calls. */
    EndTables use(int more) {
        if (calls + more > CALLS) {
            x = new EndTables(files, ranks);
            calls = 0;
        }
        calls += more;
        return x;
    }
}
