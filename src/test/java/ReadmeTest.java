/** What README.md tells of how to use the class. */
public final class ReadmeTest {
    private static final Check CHECK = new Check();

    public static void main(String[] args) {
        example();
        refusals();
        CHECK.end("ReadmeTest");
    }

    private static void example() {
        SearchCluster x = new SearchCluster();
        CHECK.due("copies", x.make(3, 1, 3), 3);
        CHECK.due("octets of cat", x.draft(3, 0x746163L), 3);
        int put = x.put(0, 7);
        CHECK.due("put", put, 0);
        CHECK.due("messages on the way of a put", x.run(4), 11);
        CHECK.due("the put is done", x.request(put, 0), 1);
        CHECK.due("refresh", x.refresh(1, 0), 1);
        x.run(5);
        CHECK.due("the refresh is done", x.request(1, 0), 1);
        CHECK.due("octets of ca*", x.draft(3, 0x2A6163L), 3);
        int find = x.find(2, 10);
        CHECK.due("find", find, 2);
        x.run(6);
        CHECK.due("the find is done", x.request(find, 0), 1);
        CHECK.due("documents found", x.request(find, 5), 1);
        CHECK.due("the document found", x.hit(find, 0, 0), 7);
        CHECK.due("its score", x.hit(find, 0, 1), 64);
    }

    private static void refusals() {
        SearchCluster x = new SearchCluster();
        CHECK.outside("a node that there is not", () -> x.drop(3, 0));
        CHECK.refused("more copies than nodes", () -> x.make(2, 1, 3));
        CHECK.notNow("start of a node that is up", () -> x.start(0) ? 1 : 0);
        x.down(0);
        CHECK.notNow("a request to a node that is down", () -> x.drop(0, 0));
        CHECK.due("a copy on a node that is down", x.copy(0, 0, 0), SearchCluster.NONE);
        CHECK.due("requests", x.told(1), 0);
    }
}
