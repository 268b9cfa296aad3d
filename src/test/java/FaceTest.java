public final class FaceTest {
    public static void main(String[] args) {
        if (new SphereSheets().status() != 0) {
            System.exit(1);
        }
    }
}
