/** What an object answers to the calls that only ask: two rows that are alike mean that nothing was changed. */
final class View {
    private View() {
    }

    /** Some 100 calls: an object has 512. */
    static long[] of(LoafStreet x) {
        long[] row = new long[110];
        int n = 0;
        for (int what = 0; what < 8; what++) {
            row[n++] = x.told(what);
        }
        for (int baker = 0; baker < 4; baker++) {
            row[n++] = x.told(100 + baker);
            row[n++] = x.ask(baker);
            row[n++] = x.sold(baker);
            row[n++] = x.earns(baker);
            row[n++] = x.best(baker);
            for (int step = 0; step < 8; step++) {
                row[n++] = x.part(baker, step);
            }
        }
        for (int what = 200; what < 220; what++) {
            row[n++] = x.told(what);
        }
        for (int what = 0; what < 9; what++) {
            row[n++] = x.count(what);
        }
        for (int sort = 0; sort < 5; sort++) {
            row[n++] = x.pays(sort, 0);
            row[n++] = x.would(sort);
        }
        row[n++] = x.fault();
        row[n++] = x.judge();
        row[n++] = x.gap();
        row[n++] = x.rests(-1);
        row[n++] = x.rests(0);
        return row;
    }

    static void alike(String name, long[] before, long[] after) {
        for (int i = 0; i < before.length; i++) {
            Due.is(name + ": row " + i, after[i], before[i]);
        }
    }
}
